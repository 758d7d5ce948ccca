set_option maxHeartbeats 4000000 in
theorem vc_Mo_across2_18_0 (x2 : Int) (x3 : Int) (x5 : Int) (x12 : Int) (x16 : Int) (x17 : Int) (x18 : Int) (x19 : Int) (x20 : Int) (x21 : Int) (x22 : Int) (x23 : Int) (x24 : Int) (x25 : Int) (layerSize_0 : Int → Int) (layerItem_0 : Int → Int) (layerMany_0 : Int) (all_0 : Int → Int) (turned_0 : Int → Int) (itemLayer_0 : Int → Int) (firstJoint_0 : Int → Int) (lineA_0 : Int → Int) (lineB_0 : Int → Int) (r_0 : Int) (items_0 : Int) (lines_0 : Int) (pointMany_0 : Int) (costA_0 : Int → Int) (costB_0 : Int → Int) (costW_0 : Int → Int) (costPlain_0 : Int → Int) (costMany_0 : Int) (apartMany_0 : Int) (apartA_0 : Int → Int) (apartB_0 : Int → Int) (apart_0 : Int → Int) (k2 : 0 ≤ x2 ∧ x2 ≤ 75) (k3 : 1 ≤ x3 ∧ x3 ≤ 75) (k5 : 2 ≤ x5 ∧ x5 ≤ 76) (k12 : 0 ≤ x12 ∧ x12 ≤ 75) (k16 : 0 ≤ x16 ∧ x16 ≤ 23) (k17 : 0 ≤ x17 ∧ x17 ≤ 0) (k18 : 1 ≤ x18 ∧ x18 ≤ 9) (k19 : 1 ≤ x19 ∧ x19 ≤ 9) (k20 : 2 ≤ x20 ∧ x20 ≤ 2) (k21 : 3 ≤ x21 ∧ x21 ≤ 11) (k22 : 0 ≤ x22 ∧ x22 ≤ 199) (k23 : 0 ≤ x23 ∧ x23 ≤ 75) (k24 : 1 ≤ x24 ∧ x24 ≤ 75) (k25 : 2 ≤ x25 ∧ x25 ≤ 76) (d0 : x3 + 1 ≤ x25 ∧ x25 ≤ x3 + 1) (d1 : x5 + (-4294967296) ≤ x25 ∧ x25 ≤ x5 + 0) (d2 : x19 + 2 ≤ x21 ∧ x21 ≤ x19 + 2) (d3 : x18 + 2 ≤ x21 ∧ x21 ≤ x18 + 2) (d4 : x18 + 0 ≤ x19 ∧ x19 ≤ x18 + 0) (d5 : x5 + (-4294967296) ≤ x3 ∧ x3 ≤ x5 + (-1)) (f0 : x25 = x3 + 1) (f1 : 1 * x23 + ((-1) * x2 + 0) ≤ 0) (f2 : (-1) * x23 + (1 * x2 + 0) ≤ 0) (f3 : 1 * x24 + ((-1) * x3 + 0) ≤ 0) (f4 : (-1) * x24 + (1 * x3 + 0) ≤ 0) (f5 : PAN (layerMany_0) (layerSize_0) (layerItem_0) (x23) (x24) (x12) (x16)) (f6 : (2 ≤ x21) ∧ (x21 ≤ 202)) (f7 : (0 ≤ x18) ∧ (x18 ≤ 100)) (f8 : (0 ≤ x17) ∧ (x17 ≤ 100)) (f9 : LSA (r_0) (items_0) (layerMany_0) (lines_0) (all_0) (turned_0) (itemLayer_0) (firstJoint_0) (lineA_0) (lineB_0)) (f10 : LSB (items_0) (layerMany_0) (itemLayer_0) (layerSize_0) (layerItem_0)) (f11 : SGR (r_0) (all_0)) (f12 : pointMany_0 = items_0) (f13 : PCQ (pointMany_0) (costMany_0) (costA_0) (costB_0) (costW_0) (costPlain_0)) (f14 : costMany_0 ≤ 130) (f15 : (x2 + 1) ≤ layerMany_0) (f16 : 1 ≤ x3) (f18 : apartMany_0 = (x22 + 1)) (f19 : PAP (apartMany_0) (layerMany_0) (layerSize_0) (layerItem_0) (apartA_0) (apartB_0) (apart_0) (x23) (x24)) (f21 : 1 * x23 + ((-1) * x2 + 0) ≤ 0) (f22 : (-1) * x23 + (1 * x2 + 0) ≤ 0) (f23 : 1 * x24 + ((-1) * x3 + 0) ≤ 0) (f24 : (-1) * x24 + (1 * x3 + 0) ≤ 0) (f25 : x21 = x19 + x20) (f26 : x19 = x17 + x18) (f27 : x3 < x5) (hK_0_83 : ∀ j : Int, 0 ≤ j → j < 200 → 0 ≤ costA_0 j ∧ costA_0 j ≤ 75) (hK_0_84 : ∀ j : Int, 0 ≤ j → j < 200 → 0 ≤ costB_0 j ∧ costB_0 j ≤ 75) (hK_0_85 : ∀ j : Int, 0 ≤ j → j < 200 → 0 ≤ costW_0 j ∧ costW_0 j ≤ 72) (hK_0_86 : ∀ j : Int, 0 ≤ j → j < 200 → 0 ≤ costPlain_0 j ∧ costPlain_0 j ≤ 1) (hK_0_87 : ∀ j : Int, 0 ≤ j → j < 200 → 0 ≤ apartA_0 j ∧ apartA_0 j ≤ 75) (hK_0_88 : ∀ j : Int, 0 ≤ j → j < 200 → 0 ≤ apartB_0 j ∧ apartB_0 j ≤ 75) (hK_0_89 : ∀ j : Int, 0 ≤ j → j < 200 → 0 ≤ apart_0 j ∧ apart_0 j ≤ 202) (hK_0_95 : ∀ j : Int, 0 ≤ j → j < 48 → 0 ≤ turned_0 j ∧ turned_0 j ≤ 1) (hK_0_102 : ∀ j : Int, 0 ≤ j → j < 76 → 0 ≤ itemLayer_0 j ∧ itemLayer_0 j ≤ 75) (hK_0_104 : ∀ j : Int, 0 ≤ j → j < 48 → 0 ≤ firstJoint_0 j ∧ firstJoint_0 j ≤ 76) (hK_0_105 : ∀ j : Int, 0 ≤ j → j < 76 → 0 ≤ layerSize_0 j ∧ layerSize_0 j ≤ 76) (hK_0_106 : ∀ j : Int, 0 ≤ j → j < 5776 → 0 ≤ layerItem_0 j ∧ layerItem_0 j ≤ 75) (hK_0_108 : ∀ j : Int, 0 ≤ j → j < 130 → 0 ≤ lineA_0 j ∧ lineA_0 j ≤ 75) (hK_0_109 : ∀ j : Int, 0 ≤ j → j < 130 → 0 ≤ lineB_0 j ∧ lineB_0 j ≤ 75) (kz_0_79 : 0 ≤ pointMany_0 ∧ pointMany_0 ≤ 76) (kz_0_80 : 0 ≤ costMany_0 ∧ costMany_0 ≤ 200) (kz_0_81 : 0 ≤ apartMany_0 ∧ apartMany_0 ≤ 200) (kz_0_100 : 0 ≤ items_0 ∧ items_0 ≤ 76) (kz_0_101 : 0 ≤ layerMany_0 ∧ layerMany_0 ≤ 76) (kz_0_107 : 0 ≤ lines_0 ∧ lines_0 ≤ 130) : PAL2 (apartMany_0) (layerMany_0) (layerSize_0) (layerItem_0) (apartA_0) (apartB_0) (apart_0) (x2) (x25) := by
  first
    | exact paq_less ‹PAL1 _ _ _ _ _ _ _ _› (by omega)
    | (have h := ‹PAP _ _ _ _ _ _ _ _ _›
       exact paq_less h (by omega))
set_option maxHeartbeats 4000000 in
theorem vc_Mo_across2_18_1 (x2 : Int) (x3 : Int) (x5 : Int) (x12 : Int) (x16 : Int) (x17 : Int) (x18 : Int) (x19 : Int) (x20 : Int) (x21 : Int) (x22 : Int) (x23 : Int) (x24 : Int) (x25 : Int) (layerSize_0 : Int → Int) (layerItem_0 : Int → Int) (layerMany_0 : Int) (all_0 : Int → Int) (turned_0 : Int → Int) (itemLayer_0 : Int → Int) (firstJoint_0 : Int → Int) (lineA_0 : Int → Int) (lineB_0 : Int → Int) (r_0 : Int) (items_0 : Int) (lines_0 : Int) (pointMany_0 : Int) (costA_0 : Int → Int) (costB_0 : Int → Int) (costW_0 : Int → Int) (costPlain_0 : Int → Int) (costMany_0 : Int) (apartMany_0 : Int) (apartA_0 : Int → Int) (apartB_0 : Int → Int) (apart_0 : Int → Int) (k2 : 0 ≤ x2 ∧ x2 ≤ 75) (k3 : 1 ≤ x3 ∧ x3 ≤ 75) (k5 : 2 ≤ x5 ∧ x5 ≤ 76) (k12 : 0 ≤ x12 ∧ x12 ≤ 75) (k16 : 0 ≤ x16 ∧ x16 ≤ 23) (k17 : 0 ≤ x17 ∧ x17 ≤ 0) (k18 : 1 ≤ x18 ∧ x18 ≤ 9) (k19 : 1 ≤ x19 ∧ x19 ≤ 9) (k20 : 2 ≤ x20 ∧ x20 ≤ 2) (k21 : 3 ≤ x21 ∧ x21 ≤ 11) (k22 : 0 ≤ x22 ∧ x22 ≤ 199) (k23 : 0 ≤ x23 ∧ x23 ≤ 75) (k24 : 1 ≤ x24 ∧ x24 ≤ 75) (k25 : 2 ≤ x25 ∧ x25 ≤ 76) (d0 : x3 + 1 ≤ x25 ∧ x25 ≤ x3 + 1) (d1 : x5 + (-4294967296) ≤ x25 ∧ x25 ≤ x5 + 0) (d2 : x19 + 2 ≤ x21 ∧ x21 ≤ x19 + 2) (d3 : x18 + 2 ≤ x21 ∧ x21 ≤ x18 + 2) (d4 : x18 + 0 ≤ x19 ∧ x19 ≤ x18 + 0) (d5 : x5 + (-4294967296) ≤ x3 ∧ x3 ≤ x5 + (-1)) (f0 : x25 = x3 + 1) (f1 : 1 * x23 + ((-1) * x2 + 0) ≤ 0) (f2 : (-1) * x23 + (1 * x2 + 0) ≤ 0) (f3 : 1 * x24 + ((-1) * x3 + 0) ≤ 0) (f4 : (-1) * x24 + (1 * x3 + 0) ≤ 0) (f5 : PAN (layerMany_0) (layerSize_0) (layerItem_0) (x23) (x24) (x12) (x16)) (f6 : (2 ≤ x21) ∧ (x21 ≤ 202)) (f7 : (0 ≤ x18) ∧ (x18 ≤ 100)) (f8 : (0 ≤ x17) ∧ (x17 ≤ 100)) (f9 : LSA (r_0) (items_0) (layerMany_0) (lines_0) (all_0) (turned_0) (itemLayer_0) (firstJoint_0) (lineA_0) (lineB_0)) (f10 : LSB (items_0) (layerMany_0) (itemLayer_0) (layerSize_0) (layerItem_0)) (f11 : SGR (r_0) (all_0)) (f12 : pointMany_0 = items_0) (f13 : PCQ (pointMany_0) (costMany_0) (costA_0) (costB_0) (costW_0) (costPlain_0)) (f14 : costMany_0 ≤ 130) (f15 : (x2 + 1) ≤ layerMany_0) (f16 : 1 ≤ x3) (f18 : apartMany_0 = (x22 + 1)) (f19 : PAP (apartMany_0) (layerMany_0) (layerSize_0) (layerItem_0) (apartA_0) (apartB_0) (apart_0) (x23) (x24)) (f21 : 1 * x23 + ((-1) * x2 + 0) ≤ 0) (f22 : (-1) * x23 + (1 * x2 + 0) ≤ 0) (f23 : 1 * x24 + ((-1) * x3 + 0) ≤ 0) (f24 : (-1) * x24 + (1 * x3 + 0) ≤ 0) (f25 : x21 = x19 + x20) (f26 : x19 = x17 + x18) (f27 : x3 < x5) (hK_0_83 : ∀ j : Int, 0 ≤ j → j < 200 → 0 ≤ costA_0 j ∧ costA_0 j ≤ 75) (hK_0_84 : ∀ j : Int, 0 ≤ j → j < 200 → 0 ≤ costB_0 j ∧ costB_0 j ≤ 75) (hK_0_85 : ∀ j : Int, 0 ≤ j → j < 200 → 0 ≤ costW_0 j ∧ costW_0 j ≤ 72) (hK_0_86 : ∀ j : Int, 0 ≤ j → j < 200 → 0 ≤ costPlain_0 j ∧ costPlain_0 j ≤ 1) (hK_0_87 : ∀ j : Int, 0 ≤ j → j < 200 → 0 ≤ apartA_0 j ∧ apartA_0 j ≤ 75) (hK_0_88 : ∀ j : Int, 0 ≤ j → j < 200 → 0 ≤ apartB_0 j ∧ apartB_0 j ≤ 75) (hK_0_89 : ∀ j : Int, 0 ≤ j → j < 200 → 0 ≤ apart_0 j ∧ apart_0 j ≤ 202) (hK_0_95 : ∀ j : Int, 0 ≤ j → j < 48 → 0 ≤ turned_0 j ∧ turned_0 j ≤ 1) (hK_0_102 : ∀ j : Int, 0 ≤ j → j < 76 → 0 ≤ itemLayer_0 j ∧ itemLayer_0 j ≤ 75) (hK_0_104 : ∀ j : Int, 0 ≤ j → j < 48 → 0 ≤ firstJoint_0 j ∧ firstJoint_0 j ≤ 76) (hK_0_105 : ∀ j : Int, 0 ≤ j → j < 76 → 0 ≤ layerSize_0 j ∧ layerSize_0 j ≤ 76) (hK_0_106 : ∀ j : Int, 0 ≤ j → j < 5776 → 0 ≤ layerItem_0 j ∧ layerItem_0 j ≤ 75) (hK_0_108 : ∀ j : Int, 0 ≤ j → j < 130 → 0 ≤ lineA_0 j ∧ lineA_0 j ≤ 75) (hK_0_109 : ∀ j : Int, 0 ≤ j → j < 130 → 0 ≤ lineB_0 j ∧ lineB_0 j ≤ 75) (kz_0_79 : 0 ≤ pointMany_0 ∧ pointMany_0 ≤ 76) (kz_0_80 : 0 ≤ costMany_0 ∧ costMany_0 ≤ 200) (kz_0_81 : 0 ≤ apartMany_0 ∧ apartMany_0 ≤ 200) (kz_0_100 : 0 ≤ items_0 ∧ items_0 ≤ 76) (kz_0_101 : 0 ≤ layerMany_0 ∧ layerMany_0 ≤ 76) (kz_0_107 : 0 ≤ lines_0 ∧ lines_0 ≤ 130) : apartMany_0 ≤ 76 := by
  try simp only [Int.add_zero] at *
  first
    | omega
    | (have h := paq_am ‹LSB _ _ _ _ _› ‹PAP _ _ _ _ _ _ _ _ _› (by have h := ‹LSA _ _ _ _ _ _ _ _ _ _›.2.1; have n := ‹LSA _ _ _ _ _ _ _ _ _ _›.1.1.1.1; omega); have h2 := ‹LSB _ _ _ _ _›.1; omega)
set_option maxHeartbeats 4000000 in
theorem vc_Mo_across2_18_2 (x2 : Int) (x3 : Int) (x5 : Int) (x12 : Int) (x16 : Int) (x17 : Int) (x18 : Int) (x19 : Int) (x20 : Int) (x21 : Int) (x22 : Int) (x23 : Int) (x24 : Int) (x25 : Int) (layerSize_0 : Int → Int) (layerItem_0 : Int → Int) (layerMany_0 : Int) (all_0 : Int → Int) (turned_0 : Int → Int) (itemLayer_0 : Int → Int) (firstJoint_0 : Int → Int) (lineA_0 : Int → Int) (lineB_0 : Int → Int) (r_0 : Int) (items_0 : Int) (lines_0 : Int) (pointMany_0 : Int) (costA_0 : Int → Int) (costB_0 : Int → Int) (costW_0 : Int → Int) (costPlain_0 : Int → Int) (costMany_0 : Int) (apartMany_0 : Int) (apartA_0 : Int → Int) (apartB_0 : Int → Int) (apart_0 : Int → Int) (k2 : 0 ≤ x2 ∧ x2 ≤ 75) (k3 : 1 ≤ x3 ∧ x3 ≤ 75) (k5 : 2 ≤ x5 ∧ x5 ≤ 76) (k12 : 0 ≤ x12 ∧ x12 ≤ 75) (k16 : 0 ≤ x16 ∧ x16 ≤ 23) (k17 : 0 ≤ x17 ∧ x17 ≤ 0) (k18 : 1 ≤ x18 ∧ x18 ≤ 9) (k19 : 1 ≤ x19 ∧ x19 ≤ 9) (k20 : 2 ≤ x20 ∧ x20 ≤ 2) (k21 : 3 ≤ x21 ∧ x21 ≤ 11) (k22 : 0 ≤ x22 ∧ x22 ≤ 199) (k23 : 0 ≤ x23 ∧ x23 ≤ 75) (k24 : 1 ≤ x24 ∧ x24 ≤ 75) (k25 : 2 ≤ x25 ∧ x25 ≤ 76) (d0 : x3 + 1 ≤ x25 ∧ x25 ≤ x3 + 1) (d1 : x5 + (-4294967296) ≤ x25 ∧ x25 ≤ x5 + 0) (d2 : x19 + 2 ≤ x21 ∧ x21 ≤ x19 + 2) (d3 : x18 + 2 ≤ x21 ∧ x21 ≤ x18 + 2) (d4 : x18 + 0 ≤ x19 ∧ x19 ≤ x18 + 0) (d5 : x5 + (-4294967296) ≤ x3 ∧ x3 ≤ x5 + (-1)) (f0 : x25 = x3 + 1) (f1 : 1 * x23 + ((-1) * x2 + 0) ≤ 0) (f2 : (-1) * x23 + (1 * x2 + 0) ≤ 0) (f3 : 1 * x24 + ((-1) * x3 + 0) ≤ 0) (f4 : (-1) * x24 + (1 * x3 + 0) ≤ 0) (f5 : PAN (layerMany_0) (layerSize_0) (layerItem_0) (x23) (x24) (x12) (x16)) (f6 : (2 ≤ x21) ∧ (x21 ≤ 202)) (f7 : (0 ≤ x18) ∧ (x18 ≤ 100)) (f8 : (0 ≤ x17) ∧ (x17 ≤ 100)) (f9 : LSA (r_0) (items_0) (layerMany_0) (lines_0) (all_0) (turned_0) (itemLayer_0) (firstJoint_0) (lineA_0) (lineB_0)) (f10 : LSB (items_0) (layerMany_0) (itemLayer_0) (layerSize_0) (layerItem_0)) (f11 : SGR (r_0) (all_0)) (f12 : pointMany_0 = items_0) (f13 : PCQ (pointMany_0) (costMany_0) (costA_0) (costB_0) (costW_0) (costPlain_0)) (f14 : costMany_0 ≤ 130) (f15 : (x2 + 1) ≤ layerMany_0) (f16 : 1 ≤ x3) (f18 : apartMany_0 = (x22 + 1)) (f19 : PAP (apartMany_0) (layerMany_0) (layerSize_0) (layerItem_0) (apartA_0) (apartB_0) (apart_0) (x23) (x24)) (f21 : 1 * x23 + ((-1) * x2 + 0) ≤ 0) (f22 : (-1) * x23 + (1 * x2 + 0) ≤ 0) (f23 : 1 * x24 + ((-1) * x3 + 0) ≤ 0) (f24 : (-1) * x24 + (1 * x3 + 0) ≤ 0) (f25 : x21 = x19 + x20) (f26 : x19 = x17 + x18) (f27 : x3 < x5) (hK_0_83 : ∀ j : Int, 0 ≤ j → j < 200 → 0 ≤ costA_0 j ∧ costA_0 j ≤ 75) (hK_0_84 : ∀ j : Int, 0 ≤ j → j < 200 → 0 ≤ costB_0 j ∧ costB_0 j ≤ 75) (hK_0_85 : ∀ j : Int, 0 ≤ j → j < 200 → 0 ≤ costW_0 j ∧ costW_0 j ≤ 72) (hK_0_86 : ∀ j : Int, 0 ≤ j → j < 200 → 0 ≤ costPlain_0 j ∧ costPlain_0 j ≤ 1) (hK_0_87 : ∀ j : Int, 0 ≤ j → j < 200 → 0 ≤ apartA_0 j ∧ apartA_0 j ≤ 75) (hK_0_88 : ∀ j : Int, 0 ≤ j → j < 200 → 0 ≤ apartB_0 j ∧ apartB_0 j ≤ 75) (hK_0_89 : ∀ j : Int, 0 ≤ j → j < 200 → 0 ≤ apart_0 j ∧ apart_0 j ≤ 202) (hK_0_95 : ∀ j : Int, 0 ≤ j → j < 48 → 0 ≤ turned_0 j ∧ turned_0 j ≤ 1) (hK_0_102 : ∀ j : Int, 0 ≤ j → j < 76 → 0 ≤ itemLayer_0 j ∧ itemLayer_0 j ≤ 75) (hK_0_104 : ∀ j : Int, 0 ≤ j → j < 48 → 0 ≤ firstJoint_0 j ∧ firstJoint_0 j ≤ 76) (hK_0_105 : ∀ j : Int, 0 ≤ j → j < 76 → 0 ≤ layerSize_0 j ∧ layerSize_0 j ≤ 76) (hK_0_106 : ∀ j : Int, 0 ≤ j → j < 5776 → 0 ≤ layerItem_0 j ∧ layerItem_0 j ≤ 75) (hK_0_108 : ∀ j : Int, 0 ≤ j → j < 130 → 0 ≤ lineA_0 j ∧ lineA_0 j ≤ 75) (hK_0_109 : ∀ j : Int, 0 ≤ j → j < 130 → 0 ≤ lineB_0 j ∧ lineB_0 j ≤ 75) (kz_0_79 : 0 ≤ pointMany_0 ∧ pointMany_0 ≤ 76) (kz_0_80 : 0 ≤ costMany_0 ∧ costMany_0 ≤ 200) (kz_0_81 : 0 ≤ apartMany_0 ∧ apartMany_0 ≤ 200) (kz_0_100 : 0 ≤ items_0 ∧ items_0 ≤ 76) (kz_0_101 : 0 ≤ layerMany_0 ∧ layerMany_0 ≤ 76) (kz_0_107 : 0 ≤ lines_0 ∧ lines_0 ≤ 130) : 1 ≤ x25 := by
  try simp only [Int.add_zero] at *
  first
    | omega
    | (have h := paq_am ‹LSB _ _ _ _ _› ‹PAP _ _ _ _ _ _ _ _ _› (by have h := ‹LSA _ _ _ _ _ _ _ _ _ _›.2.1; have n := ‹LSA _ _ _ _ _ _ _ _ _ _›.1.1.1.1; omega); have h2 := ‹LSB _ _ _ _ _›.1; omega)
def o_Mo_across2_18 : or_T := (188, 26, [(0, (2, 0, 0, [150])), (1, (2, 0, 0, [150])), (2, (0, 0, 75, [])), (3, (0, 1, 75, [])), (5, (0, 2, 76, [])), (12, (0, 0, 75, [])), (16, (0, 0, 23, [])), (17, (0, 0, 0, [])), (18, (0, 1, 9, [])), (19, (0, 1, 9, [])), (20, (0, 2, 2, [])), (21, (0, 3, 11, [])), (22, (0, 0, 199, [])), (23, (0, 0, 75, [])), (24, (0, 1, 75, [])), (25, (0, 2, 76, []))], [(6, [25, 3], [1]), (23, [23, 2], [0, 1, -1]), (23, [23, 2], [0, -1, 1]), (23, [24, 3], [0, 1, -1]), (23, [24, 3], [0, -1, 1]), (20, [1, 23, 24, 12, 16], [60, 1, 2, 390, 101, 105, 106]), (20, [21], [50, 0, 0, 2, 6, 0, 2, 0, 2, 1, 0, 0, 2, 1, 0, 0, 202]), (20, [18], [50, 0, 0, 2, 6, 0, 2, 0, 0, 1, 0, 0, 2, 1, 0, 0, 100]), (20, [17], [50, 0, 0, 2, 6, 0, 2, 0, 0, 1, 0, 0, 2, 1, 0, 0, 100]), (20, [1], [60, 4, 6, 369, 5, 100, 101, 107, 2, 95, 102, 104, 108, 109]), (20, [1], [60, 2, 3, 372, 100, 101, 102, 105, 106]), (20, [1], [60, 1, 1, 122, 5, 2]), (20, [1], [50, 2, 0, 79, 100, 1, 3, 2, 0, 79, 2, 0, 100]), (20, [1], [60, 2, 4, 380, 79, 80, 83, 84, 85, 86]), (20, [1], [50, 1, 0, 80, 0, 3, 2, 0, 80, 0, 130]), (20, [2, 1], [50, 1, 0, 1101, 0, 6, 4, 2, 1, 0, 0, 1, 2, 1, 101]), (20, [3], [50, 0, 0, 0, 2, 0, 1, 1, 0]), (24, [0, 1], []), (20, [1, 22], [50, 1, 0, 81, 1, 3, 2, 0, 81, 4, 2, 1, 1, 0, 1]), (20, [1, 23, 24], [60, 2, 5, 391, 81, 101, 105, 106, 87, 88, 89]), (102, [24], [5759265950624221147542392138950726767439575529717529521720131584, 13081]), (23, [23, 2], [0, 1, -1]), (23, [23, 2], [0, -1, 1]), (23, [24, 3], [0, 1, -1]), (23, [24, 3], [0, -1, 1]), (1, [21, 19, 20], []), (1, [19, 17, 18], []), (7, [3, 5], [2])], [], [], [(20, [1, 2, 25], [60, 2, 5, 393, 81, 101, 105, 106, 87, 88, 89]), (20, [1], [50, 1, 0, 81, 0, 3, 2, 0, 81, 0, 76]), (20, [25], [50, 0, 0, 0, 2, 0, 1, 1, 0])], [], [(25, 3, 1, 1), (25, 5, -4294967296, 0), (21, 19, 2, 2), (21, 18, 2, 2), (19, 18, 0, 0), (3, 5, -4294967296, -1)])
theorem oo_Mo_across2_18 {kA : Nat → ClassId} : or_ok PRD kA GG o_Mo_across2_18 := by
  intro A ta ws vs hD hth hl hk hds hf
  have hl : vs.length = 26 := hl
  have hk : ∀ q ∈ ([(0, (2, 0, 0, [150])), (1, (2, 0, 0, [150])), (2, (0, 0, 75, [])), (3, (0, 1, 75, [])), (5, (0, 2, 76, [])), (12, (0, 0, 75, [])), (16, (0, 0, 23, [])), (17, (0, 0, 0, [])), (18, (0, 1, 9, [])), (19, (0, 1, 9, [])), (20, (0, 2, 2, [])), (21, (0, 3, 11, [])), (22, (0, 0, 199, [])), (23, (0, 0, 75, [])), (24, (0, 1, 75, [])), (25, (0, 2, 76, []))] : List (Nat × tv_T)), tv_ok ta q.2 (n_v vs q.1) := hk
  obtain ⟨t0, hk⟩ := List.forall_mem_cons.mp hk
  have t0 : tv_ok ta (2, 0, 0, [150]) (n_v vs 0) := t0
  have r0 : ta (v_ad (n_v vs 0)) = some 150 := tv_rg t0
  obtain ⟨t1, hk⟩ := List.forall_mem_cons.mp hk
  have t1 : tv_ok ta (2, 0, 0, [150]) (n_v vs 1) := t1
  have r1 : ta (v_ad (n_v vs 1)) = some 150 := tv_rg t1
  obtain ⟨t2, hk⟩ := List.forall_mem_cons.mp hk
  have t2 : tv_ok ta (0, 0, 75, []) (n_v vs 2) := t2
  have k2 : 0 ≤ v_iv (n_v vs 2) ∧ v_iv (n_v vs 2) ≤ 75 := tv_rng t2
  obtain ⟨t3, hk⟩ := List.forall_mem_cons.mp hk
  have t3 : tv_ok ta (0, 1, 75, []) (n_v vs 3) := t3
  have k3 : 1 ≤ v_iv (n_v vs 3) ∧ v_iv (n_v vs 3) ≤ 75 := tv_rng t3
  obtain ⟨t5, hk⟩ := List.forall_mem_cons.mp hk
  have t5 : tv_ok ta (0, 2, 76, []) (n_v vs 5) := t5
  have k5 : 2 ≤ v_iv (n_v vs 5) ∧ v_iv (n_v vs 5) ≤ 76 := tv_rng t5
  obtain ⟨t12, hk⟩ := List.forall_mem_cons.mp hk
  have t12 : tv_ok ta (0, 0, 75, []) (n_v vs 12) := t12
  have k12 : 0 ≤ v_iv (n_v vs 12) ∧ v_iv (n_v vs 12) ≤ 75 := tv_rng t12
  obtain ⟨t16, hk⟩ := List.forall_mem_cons.mp hk
  have t16 : tv_ok ta (0, 0, 23, []) (n_v vs 16) := t16
  have k16 : 0 ≤ v_iv (n_v vs 16) ∧ v_iv (n_v vs 16) ≤ 23 := tv_rng t16
  obtain ⟨t17, hk⟩ := List.forall_mem_cons.mp hk
  have t17 : tv_ok ta (0, 0, 0, []) (n_v vs 17) := t17
  have k17 : 0 ≤ v_iv (n_v vs 17) ∧ v_iv (n_v vs 17) ≤ 0 := tv_rng t17
  obtain ⟨t18, hk⟩ := List.forall_mem_cons.mp hk
  have t18 : tv_ok ta (0, 1, 9, []) (n_v vs 18) := t18
  have k18 : 1 ≤ v_iv (n_v vs 18) ∧ v_iv (n_v vs 18) ≤ 9 := tv_rng t18
  obtain ⟨t19, hk⟩ := List.forall_mem_cons.mp hk
  have t19 : tv_ok ta (0, 1, 9, []) (n_v vs 19) := t19
  have k19 : 1 ≤ v_iv (n_v vs 19) ∧ v_iv (n_v vs 19) ≤ 9 := tv_rng t19
  obtain ⟨t20, hk⟩ := List.forall_mem_cons.mp hk
  have t20 : tv_ok ta (0, 2, 2, []) (n_v vs 20) := t20
  have k20 : 2 ≤ v_iv (n_v vs 20) ∧ v_iv (n_v vs 20) ≤ 2 := tv_rng t20
  obtain ⟨t21, hk⟩ := List.forall_mem_cons.mp hk
  have t21 : tv_ok ta (0, 3, 11, []) (n_v vs 21) := t21
  have k21 : 3 ≤ v_iv (n_v vs 21) ∧ v_iv (n_v vs 21) ≤ 11 := tv_rng t21
  obtain ⟨t22, hk⟩ := List.forall_mem_cons.mp hk
  have t22 : tv_ok ta (0, 0, 199, []) (n_v vs 22) := t22
  have k22 : 0 ≤ v_iv (n_v vs 22) ∧ v_iv (n_v vs 22) ≤ 199 := tv_rng t22
  obtain ⟨t23, hk⟩ := List.forall_mem_cons.mp hk
  have t23 : tv_ok ta (0, 0, 75, []) (n_v vs 23) := t23
  have k23 : 0 ≤ v_iv (n_v vs 23) ∧ v_iv (n_v vs 23) ≤ 75 := tv_rng t23
  obtain ⟨t24, hk⟩ := List.forall_mem_cons.mp hk
  have t24 : tv_ok ta (0, 1, 75, []) (n_v vs 24) := t24
  have k24 : 1 ≤ v_iv (n_v vs 24) ∧ v_iv (n_v vs 24) ≤ 75 := tv_rng t24
  obtain ⟨t25, hk⟩ := List.forall_mem_cons.mp hk
  have t25 : tv_ok ta (0, 2, 76, []) (n_v vs 25) := t25
  have k25 : 2 ≤ v_iv (n_v vs 25) ∧ v_iv (n_v vs 25) ≤ 76 := tv_rng t25
  have hds : ∀ q ∈ ([(25, 3, 1, 1), (25, 5, -4294967296, 0), (21, 19, 2, 2), (21, 18, 2, 2), (19, 18, 0, 0), (3, 5, -4294967296, -1)] : List of_T), n_iv vs q.2.1 + q.2.2.1 ≤ n_iv vs q.1 ∧ n_iv vs q.1 ≤ n_iv vs q.2.1 + q.2.2.2 := hds
  obtain ⟨d0, hds⟩ := List.forall_mem_cons.mp hds
  have d0 : v_iv (n_v vs 3) + 1 ≤ v_iv (n_v vs 25) ∧ v_iv (n_v vs 25) ≤ v_iv (n_v vs 3) + 1 := d0
  obtain ⟨d1, hds⟩ := List.forall_mem_cons.mp hds
  have d1 : v_iv (n_v vs 5) + (-4294967296) ≤ v_iv (n_v vs 25) ∧ v_iv (n_v vs 25) ≤ v_iv (n_v vs 5) + 0 := d1
  obtain ⟨d2, hds⟩ := List.forall_mem_cons.mp hds
  have d2 : v_iv (n_v vs 19) + 2 ≤ v_iv (n_v vs 21) ∧ v_iv (n_v vs 21) ≤ v_iv (n_v vs 19) + 2 := d2
  obtain ⟨d3, hds⟩ := List.forall_mem_cons.mp hds
  have d3 : v_iv (n_v vs 18) + 2 ≤ v_iv (n_v vs 21) ∧ v_iv (n_v vs 21) ≤ v_iv (n_v vs 18) + 2 := d3
  obtain ⟨d4, hds⟩ := List.forall_mem_cons.mp hds
  have d4 : v_iv (n_v vs 18) + 0 ≤ v_iv (n_v vs 19) ∧ v_iv (n_v vs 19) ≤ v_iv (n_v vs 18) + 0 := d4
  obtain ⟨d5, hds⟩ := List.forall_mem_cons.mp hds
  have d5 : v_iv (n_v vs 5) + (-4294967296) ≤ v_iv (n_v vs 3) ∧ v_iv (n_v vs 3) ≤ v_iv (n_v vs 5) + (-1) := d5
  have hf : fc_ok PRD [(6, [25, 3], [1]), (23, [23, 2], [0, 1, -1]), (23, [23, 2], [0, -1, 1]), (23, [24, 3], [0, 1, -1]), (23, [24, 3], [0, -1, 1]), (20, [1, 23, 24, 12, 16], [60, 1, 2, 390, 101, 105, 106]), (20, [21], [50, 0, 0, 2, 6, 0, 2, 0, 2, 1, 0, 0, 2, 1, 0, 0, 202]), (20, [18], [50, 0, 0, 2, 6, 0, 2, 0, 0, 1, 0, 0, 2, 1, 0, 0, 100]), (20, [17], [50, 0, 0, 2, 6, 0, 2, 0, 0, 1, 0, 0, 2, 1, 0, 0, 100]), (20, [1], [60, 4, 6, 369, 5, 100, 101, 107, 2, 95, 102, 104, 108, 109]), (20, [1], [60, 2, 3, 372, 100, 101, 102, 105, 106]), (20, [1], [60, 1, 1, 122, 5, 2]), (20, [1], [50, 2, 0, 79, 100, 1, 3, 2, 0, 79, 2, 0, 100]), (20, [1], [60, 2, 4, 380, 79, 80, 83, 84, 85, 86]), (20, [1], [50, 1, 0, 80, 0, 3, 2, 0, 80, 0, 130]), (20, [2, 1], [50, 1, 0, 1101, 0, 6, 4, 2, 1, 0, 0, 1, 2, 1, 101]), (20, [3], [50, 0, 0, 0, 2, 0, 1, 1, 0]), (24, [0, 1], []), (20, [1, 22], [50, 1, 0, 81, 1, 3, 2, 0, 81, 4, 2, 1, 1, 0, 1]), (20, [1, 23, 24], [60, 2, 5, 391, 81, 101, 105, 106, 87, 88, 89]), (102, [24], [5759265950624221147542392138950726767439575529717529521720131584, 13081]), (23, [23, 2], [0, 1, -1]), (23, [23, 2], [0, -1, 1]), (23, [24, 3], [0, 1, -1]), (23, [24, 3], [0, -1, 1]), (1, [21, 19, 20], []), (1, [19, 17, 18], []), (7, [3, 5], [2])] ta ws vs := hf
  obtain ⟨f0, hf⟩ := fc_un (show (6 : Nat) < 100 from by decide) hf
  have f0 : v_iv (n_v vs 25) = v_iv (n_v vs 3) + 1 := f0
  obtain ⟨f1, hf⟩ := fc_un (show (23 : Nat) < 100 from by decide) hf
  have f1 : 1 * v_iv (n_v vs 23) + ((-1) * v_iv (n_v vs 2) + 0) ≤ 0 := f1
  obtain ⟨f2, hf⟩ := fc_un (show (23 : Nat) < 100 from by decide) hf
  have f2 : (-1) * v_iv (n_v vs 23) + (1 * v_iv (n_v vs 2) + 0) ≤ 0 := f2
  obtain ⟨f3, hf⟩ := fc_un (show (23 : Nat) < 100 from by decide) hf
  have f3 : 1 * v_iv (n_v vs 24) + ((-1) * v_iv (n_v vs 3) + 0) ≤ 0 := f3
  obtain ⟨f4, hf⟩ := fc_un (show (23 : Nat) < 100 from by decide) hf
  have f4 : (-1) * v_iv (n_v vs 24) + (1 * v_iv (n_v vs 3) + 0) ≤ 0 := f4
  obtain ⟨f5, hf⟩ := fc_un (show (20 : Nat) < 100 from by decide) hf
  have f5 : PAN (w_fi ws (n_v vs 1) 101) (w_ei ws (w_ar ws (n_v vs 1) 105)) (w_ei ws (w_ar ws (n_v vs 1) 106)) (v_iv (n_v vs 23)) (v_iv (n_v vs 24)) (v_iv (n_v vs 12)) (v_iv (n_v vs 16)) := f5
  obtain ⟨f6, hf⟩ := fc_un (show (20 : Nat) < 100 from by decide) hf
  have f6 : (2 ≤ v_iv (n_v vs 21)) ∧ (v_iv (n_v vs 21) ≤ 202) := f6
  obtain ⟨f7, hf⟩ := fc_un (show (20 : Nat) < 100 from by decide) hf
  have f7 : (0 ≤ v_iv (n_v vs 18)) ∧ (v_iv (n_v vs 18) ≤ 100) := f7
  obtain ⟨f8, hf⟩ := fc_un (show (20 : Nat) < 100 from by decide) hf
  have f8 : (0 ≤ v_iv (n_v vs 17)) ∧ (v_iv (n_v vs 17) ≤ 100) := f8
  obtain ⟨f9, hf⟩ := fc_un (show (20 : Nat) < 100 from by decide) hf
  have f9 : LSA (w_fi ws (n_v vs 1) 5) (w_fi ws (n_v vs 1) 100) (w_fi ws (n_v vs 1) 101) (w_fi ws (n_v vs 1) 107) (w_ei ws (w_ar ws (n_v vs 1) 2)) (w_ei ws (w_ar ws (n_v vs 1) 95)) (w_ei ws (w_ar ws (n_v vs 1) 102)) (w_ei ws (w_ar ws (n_v vs 1) 104)) (w_ei ws (w_ar ws (n_v vs 1) 108)) (w_ei ws (w_ar ws (n_v vs 1) 109)) := f9
  obtain ⟨f10, hf⟩ := fc_un (show (20 : Nat) < 100 from by decide) hf
  have f10 : LSB (w_fi ws (n_v vs 1) 100) (w_fi ws (n_v vs 1) 101) (w_ei ws (w_ar ws (n_v vs 1) 102)) (w_ei ws (w_ar ws (n_v vs 1) 105)) (w_ei ws (w_ar ws (n_v vs 1) 106)) := f10
  obtain ⟨f11, hf⟩ := fc_un (show (20 : Nat) < 100 from by decide) hf
  have f11 : SGR (w_fi ws (n_v vs 1) 5) (w_ei ws (w_ar ws (n_v vs 1) 2)) := f11
  obtain ⟨f12, hf⟩ := fc_un (show (20 : Nat) < 100 from by decide) hf
  have f12 : w_fi ws (n_v vs 1) 79 = w_fi ws (n_v vs 1) 100 := f12
  obtain ⟨f13, hf⟩ := fc_un (show (20 : Nat) < 100 from by decide) hf
  have f13 : PCQ (w_fi ws (n_v vs 1) 79) (w_fi ws (n_v vs 1) 80) (w_ei ws (w_ar ws (n_v vs 1) 83)) (w_ei ws (w_ar ws (n_v vs 1) 84)) (w_ei ws (w_ar ws (n_v vs 1) 85)) (w_ei ws (w_ar ws (n_v vs 1) 86)) := f13
  obtain ⟨f14, hf⟩ := fc_un (show (20 : Nat) < 100 from by decide) hf
  have f14 : w_fi ws (n_v vs 1) 80 ≤ 130 := f14
  obtain ⟨f15, hf⟩ := fc_un (show (20 : Nat) < 100 from by decide) hf
  have f15 : (v_iv (n_v vs 2) + 1) ≤ w_fi ws (n_v vs 1) 101 := f15
  obtain ⟨f16, hf⟩ := fc_un (show (20 : Nat) < 100 from by decide) hf
  have f16 : 1 ≤ v_iv (n_v vs 3) := f16
  obtain ⟨f17, hf⟩ := fc_un (show (24 : Nat) < 100 from by decide) hf
  have f17 : n_v vs 0 = n_v vs 1 := f17
  obtain ⟨f18, hf⟩ := fc_un (show (20 : Nat) < 100 from by decide) hf
  have f18 : w_fi ws (n_v vs 1) 81 = (v_iv (n_v vs 22) + 1) := f18
  obtain ⟨f19, hf⟩ := fc_un (show (20 : Nat) < 100 from by decide) hf
  have f19 : PAP (w_fi ws (n_v vs 1) 81) (w_fi ws (n_v vs 1) 101) (w_ei ws (w_ar ws (n_v vs 1) 105)) (w_ei ws (w_ar ws (n_v vs 1) 106)) (w_ei ws (w_ar ws (n_v vs 1) 87)) (w_ei ws (w_ar ws (n_v vs 1) 88)) (w_ei ws (w_ar ws (n_v vs 1) 89)) (v_iv (n_v vs 23)) (v_iv (n_v vs 24)) := f19
  obtain ⟨ta1, w1, le1, ⟨_, s1⟩, hf⟩ := fc_us (show ¬ (102 : Nat) < 100 from by decide) hf
  obtain ⟨f21, hf⟩ := fc_un (show (23 : Nat) < 100 from by decide) hf
  have f21 : 1 * v_iv (n_v vs 23) + ((-1) * v_iv (n_v vs 2) + 0) ≤ 0 := f21
  obtain ⟨f22, hf⟩ := fc_un (show (23 : Nat) < 100 from by decide) hf
  have f22 : (-1) * v_iv (n_v vs 23) + (1 * v_iv (n_v vs 2) + 0) ≤ 0 := f22
  obtain ⟨f23, hf⟩ := fc_un (show (23 : Nat) < 100 from by decide) hf
  have f23 : 1 * v_iv (n_v vs 24) + ((-1) * v_iv (n_v vs 3) + 0) ≤ 0 := f23
  obtain ⟨f24, hf⟩ := fc_un (show (23 : Nat) < 100 from by decide) hf
  have f24 : (-1) * v_iv (n_v vs 24) + (1 * v_iv (n_v vs 3) + 0) ≤ 0 := f24
  obtain ⟨f25, hf⟩ := fc_un (show (1 : Nat) < 100 from by decide) hf
  have f25 : v_iv (n_v vs 21) = v_iv (n_v vs 19) + v_iv (n_v vs 20) := f25
  obtain ⟨f26, hf⟩ := fc_un (show (1 : Nat) < 100 from by decide) hf
  have f26 : v_iv (n_v vs 19) = v_iv (n_v vs 17) + v_iv (n_v vs 18) := f26
  obtain ⟨f27, hf⟩ := fc_un (show (7 : Nat) < 100 from by decide) hf
  have f27 : v_iv (n_v vs 3) < v_iv (n_v vs 5) := f27
  have q1 : n_v vs 1 = n_v vs 0 := f17.symm
  rw [q1] at f5
  rw [q1] at f9
  rw [q1] at f10
  rw [q1] at f11
  rw [q1] at f12
  rw [q1] at f13
  rw [q1] at f14
  rw [q1] at f15
  rw [q1] at f18
  rw [q1] at f19
  have cr_0_2 : ta (w_ar ws (n_v vs 0) 2) = some 152 := tv_rg (th_fd hD hth r0 (g := GG_150) rfl (k := 2) (t := (2, 0, 0, [152])) rfl rfl)
  have cr_0_83 : ta (w_ar ws (n_v vs 0) 83) = some 205 := tv_rg (th_fd hD hth r0 (g := GG_150) rfl (k := 83) (t := (2, 0, 0, [205])) rfl rfl)
  have cr_0_84 : ta (w_ar ws (n_v vs 0) 84) = some 206 := tv_rg (th_fd hD hth r0 (g := GG_150) rfl (k := 84) (t := (2, 0, 0, [206])) rfl rfl)
  have cr_0_85 : ta (w_ar ws (n_v vs 0) 85) = some 207 := tv_rg (th_fd hD hth r0 (g := GG_150) rfl (k := 85) (t := (2, 0, 0, [207])) rfl rfl)
  have cr_0_86 : ta (w_ar ws (n_v vs 0) 86) = some 208 := tv_rg (th_fd hD hth r0 (g := GG_150) rfl (k := 86) (t := (2, 0, 0, [208])) rfl rfl)
  have cr_0_87 : ta (w_ar ws (n_v vs 0) 87) = some 209 := tv_rg (th_fd hD hth r0 (g := GG_150) rfl (k := 87) (t := (2, 0, 0, [209])) rfl rfl)
  have cr_0_88 : ta (w_ar ws (n_v vs 0) 88) = some 210 := tv_rg (th_fd hD hth r0 (g := GG_150) rfl (k := 88) (t := (2, 0, 0, [210])) rfl rfl)
  have cr_0_89 : ta (w_ar ws (n_v vs 0) 89) = some 211 := tv_rg (th_fd hD hth r0 (g := GG_150) rfl (k := 89) (t := (2, 0, 0, [211])) rfl rfl)
  have cr_0_95 : ta (w_ar ws (n_v vs 0) 95) = some 216 := tv_rg (th_fd hD hth r0 (g := GG_150) rfl (k := 95) (t := (2, 0, 0, [216])) rfl rfl)
  have cr_0_102 : ta (w_ar ws (n_v vs 0) 102) = some 220 := tv_rg (th_fd hD hth r0 (g := GG_150) rfl (k := 102) (t := (2, 0, 0, [220])) rfl rfl)
  have cr_0_104 : ta (w_ar ws (n_v vs 0) 104) = some 222 := tv_rg (th_fd hD hth r0 (g := GG_150) rfl (k := 104) (t := (2, 0, 0, [222])) rfl rfl)
  have cr_0_105 : ta (w_ar ws (n_v vs 0) 105) = some 223 := tv_rg (th_fd hD hth r0 (g := GG_150) rfl (k := 105) (t := (2, 0, 0, [223])) rfl rfl)
  have cr_0_106 : ta (w_ar ws (n_v vs 0) 106) = some 224 := tv_rg (th_fd hD hth r0 (g := GG_150) rfl (k := 106) (t := (2, 0, 0, [224])) rfl rfl)
  have cr_0_108 : ta (w_ar ws (n_v vs 0) 108) = some 225 := tv_rg (th_fd hD hth r0 (g := GG_150) rfl (k := 108) (t := (2, 0, 0, [225])) rfl rfl)
  have cr_0_109 : ta (w_ar ws (n_v vs 0) 109) = some 226 := tv_rg (th_fd hD hth r0 (g := GG_150) rfl (k := 109) (t := (2, 0, 0, [226])) rfl rfl)
  have hK_0_83 : ∀ j : Int, 0 ≤ j → j < 200 → 0 ≤ w_ei ws (w_ar ws (n_v vs 0) 83) j ∧ w_ei ws (w_ar ws (n_v vs 0) 83) j ≤ 75 := fun j h0 h1 => th_el hD hth cr_0_83 (kd := 0) (n := 200) (m := 200) (lo := 0) (hi := 75) (rs := []) (L := []) rfl (by decide) (j := j.toNat) (by omega)
  have hK_0_84 : ∀ j : Int, 0 ≤ j → j < 200 → 0 ≤ w_ei ws (w_ar ws (n_v vs 0) 84) j ∧ w_ei ws (w_ar ws (n_v vs 0) 84) j ≤ 75 := fun j h0 h1 => th_el hD hth cr_0_84 (kd := 0) (n := 200) (m := 200) (lo := 0) (hi := 75) (rs := []) (L := []) rfl (by decide) (j := j.toNat) (by omega)
  have hK_0_85 : ∀ j : Int, 0 ≤ j → j < 200 → 0 ≤ w_ei ws (w_ar ws (n_v vs 0) 85) j ∧ w_ei ws (w_ar ws (n_v vs 0) 85) j ≤ 72 := fun j h0 h1 => th_el hD hth cr_0_85 (kd := 0) (n := 200) (m := 200) (lo := 0) (hi := 72) (rs := []) (L := []) rfl (by decide) (j := j.toNat) (by omega)
  have hK_0_86 : ∀ j : Int, 0 ≤ j → j < 200 → 0 ≤ w_ei ws (w_ar ws (n_v vs 0) 86) j ∧ w_ei ws (w_ar ws (n_v vs 0) 86) j ≤ 1 := fun j h0 h1 => th_el hD hth cr_0_86 (kd := 2) (n := 200) (m := 200) (lo := 0) (hi := 1) (rs := []) (L := []) rfl (by decide) (j := j.toNat) (by omega)
  have hK_0_87 : ∀ j : Int, 0 ≤ j → j < 200 → 0 ≤ w_ei ws (w_ar ws (n_v vs 0) 87) j ∧ w_ei ws (w_ar ws (n_v vs 0) 87) j ≤ 75 := fun j h0 h1 => th_el hD hth cr_0_87 (kd := 0) (n := 200) (m := 200) (lo := 0) (hi := 75) (rs := []) (L := []) rfl (by decide) (j := j.toNat) (by omega)
  have hK_0_88 : ∀ j : Int, 0 ≤ j → j < 200 → 0 ≤ w_ei ws (w_ar ws (n_v vs 0) 88) j ∧ w_ei ws (w_ar ws (n_v vs 0) 88) j ≤ 75 := fun j h0 h1 => th_el hD hth cr_0_88 (kd := 0) (n := 200) (m := 200) (lo := 0) (hi := 75) (rs := []) (L := []) rfl (by decide) (j := j.toNat) (by omega)
  have hK_0_89 : ∀ j : Int, 0 ≤ j → j < 200 → 0 ≤ w_ei ws (w_ar ws (n_v vs 0) 89) j ∧ w_ei ws (w_ar ws (n_v vs 0) 89) j ≤ 202 := fun j h0 h1 => th_el hD hth cr_0_89 (kd := 0) (n := 200) (m := 200) (lo := 0) (hi := 202) (rs := []) (L := []) rfl (by decide) (j := j.toNat) (by omega)
  have hK_0_95 : ∀ j : Int, 0 ≤ j → j < 48 → 0 ≤ w_ei ws (w_ar ws (n_v vs 0) 95) j ∧ w_ei ws (w_ar ws (n_v vs 0) 95) j ≤ 1 := fun j h0 h1 => th_el hD hth cr_0_95 (kd := 2) (n := 48) (m := 48) (lo := 0) (hi := 1) (rs := []) (L := []) rfl (by decide) (j := j.toNat) (by omega)
  have hK_0_102 : ∀ j : Int, 0 ≤ j → j < 76 → 0 ≤ w_ei ws (w_ar ws (n_v vs 0) 102) j ∧ w_ei ws (w_ar ws (n_v vs 0) 102) j ≤ 75 := fun j h0 h1 => th_el hD hth cr_0_102 (kd := 0) (n := 76) (m := 76) (lo := 0) (hi := 75) (rs := []) (L := []) rfl (by decide) (j := j.toNat) (by omega)
  have hK_0_104 : ∀ j : Int, 0 ≤ j → j < 48 → 0 ≤ w_ei ws (w_ar ws (n_v vs 0) 104) j ∧ w_ei ws (w_ar ws (n_v vs 0) 104) j ≤ 76 := fun j h0 h1 => th_el hD hth cr_0_104 (kd := 0) (n := 48) (m := 48) (lo := 0) (hi := 76) (rs := []) (L := []) rfl (by decide) (j := j.toNat) (by omega)
  have hK_0_105 : ∀ j : Int, 0 ≤ j → j < 76 → 0 ≤ w_ei ws (w_ar ws (n_v vs 0) 105) j ∧ w_ei ws (w_ar ws (n_v vs 0) 105) j ≤ 76 := fun j h0 h1 => th_el hD hth cr_0_105 (kd := 0) (n := 76) (m := 76) (lo := 0) (hi := 76) (rs := []) (L := []) rfl (by decide) (j := j.toNat) (by omega)
  have hK_0_106 : ∀ j : Int, 0 ≤ j → j < 5776 → 0 ≤ w_ei ws (w_ar ws (n_v vs 0) 106) j ∧ w_ei ws (w_ar ws (n_v vs 0) 106) j ≤ 75 := fun j h0 h1 => th_el hD hth cr_0_106 (kd := 0) (n := 5776) (m := 5776) (lo := 0) (hi := 75) (rs := []) (L := []) rfl (by decide) (j := j.toNat) (by omega)
  have hK_0_108 : ∀ j : Int, 0 ≤ j → j < 130 → 0 ≤ w_ei ws (w_ar ws (n_v vs 0) 108) j ∧ w_ei ws (w_ar ws (n_v vs 0) 108) j ≤ 75 := fun j h0 h1 => th_el hD hth cr_0_108 (kd := 0) (n := 130) (m := 130) (lo := 0) (hi := 75) (rs := []) (L := []) rfl (by decide) (j := j.toNat) (by omega)
  have hK_0_109 : ∀ j : Int, 0 ≤ j → j < 130 → 0 ≤ w_ei ws (w_ar ws (n_v vs 0) 109) j ∧ w_ei ws (w_ar ws (n_v vs 0) 109) j ≤ 75 := fun j h0 h1 => th_el hD hth cr_0_109 (kd := 0) (n := 130) (m := 130) (lo := 0) (hi := 75) (rs := []) (L := []) rfl (by decide) (j := j.toNat) (by omega)
  have kz_0_79 : 0 ≤ w_fi ws (n_v vs 0) 79 ∧ w_fi ws (n_v vs 0) 79 ≤ 76 := tv_rng (th_fd hD hth r0 (g := GG_150) rfl (k := 79) (t := (0, 0, 76, [])) rfl rfl)
  have kz_0_80 : 0 ≤ w_fi ws (n_v vs 0) 80 ∧ w_fi ws (n_v vs 0) 80 ≤ 200 := tv_rng (th_fd hD hth r0 (g := GG_150) rfl (k := 80) (t := (0, 0, 200, [])) rfl rfl)
  have kz_0_81 : 0 ≤ w_fi ws (n_v vs 0) 81 ∧ w_fi ws (n_v vs 0) 81 ≤ 200 := tv_rng (th_fd hD hth r0 (g := GG_150) rfl (k := 81) (t := (0, 0, 200, [])) rfl rfl)
  have kz_0_100 : 0 ≤ w_fi ws (n_v vs 0) 100 ∧ w_fi ws (n_v vs 0) 100 ≤ 76 := tv_rng (th_fd hD hth r0 (g := GG_150) rfl (k := 100) (t := (0, 0, 76, [])) rfl rfl)
  have kz_0_101 : 0 ≤ w_fi ws (n_v vs 0) 101 ∧ w_fi ws (n_v vs 0) 101 ≤ 76 := tv_rng (th_fd hD hth r0 (g := GG_150) rfl (k := 101) (t := (0, 0, 76, [])) rfl rfl)
  have kz_0_107 : 0 ≤ w_fi ws (n_v vs 0) 107 ∧ w_fi ws (n_v vs 0) 107 ≤ 130 := tv_rng (th_fd hD hth r0 (g := GG_150) rfl (k := 107) (t := (0, 0, 130, [])) rfl rfl)
  have nf0 : fc_1 PRD (20, [1, 2, 25], [60, 2, 5, 393, 81, 101, 105, 106, 87, 88, 89]) ws (vs) := by
    refine ⟨fun n hn => ?_, ?_⟩
    · have hn : n ∈ [1, 2, 25] := hn
      rw [hl]
      simp only [List.mem_cons, List.not_mem_nil, or_false] at hn
      show n < 26; omega
    · show PAL2 (w_fi ws (n_v vs 1) 81) (w_fi ws (n_v vs 1) 101) (w_ei ws (w_ar ws (n_v vs 1) 105)) (w_ei ws (w_ar ws (n_v vs 1) 106)) (w_ei ws (w_ar ws (n_v vs 1) 87)) (w_ei ws (w_ar ws (n_v vs 1) 88)) (w_ei ws (w_ar ws (n_v vs 1) 89)) (v_iv (n_v vs 2)) (v_iv (n_v vs 25))
      rw [q1]
      exact vc_Mo_across2_18_0 (v_iv (n_v vs 2)) (v_iv (n_v vs 3)) (v_iv (n_v vs 5)) (v_iv (n_v vs 12)) (v_iv (n_v vs 16)) (v_iv (n_v vs 17)) (v_iv (n_v vs 18)) (v_iv (n_v vs 19)) (v_iv (n_v vs 20)) (v_iv (n_v vs 21)) (v_iv (n_v vs 22)) (v_iv (n_v vs 23)) (v_iv (n_v vs 24)) (v_iv (n_v vs 25)) (w_ei ws (w_ar ws (n_v vs 0) 105)) (w_ei ws (w_ar ws (n_v vs 0) 106)) (w_fi ws (n_v vs 0) 101) (w_ei ws (w_ar ws (n_v vs 0) 2)) (w_ei ws (w_ar ws (n_v vs 0) 95)) (w_ei ws (w_ar ws (n_v vs 0) 102)) (w_ei ws (w_ar ws (n_v vs 0) 104)) (w_ei ws (w_ar ws (n_v vs 0) 108)) (w_ei ws (w_ar ws (n_v vs 0) 109)) (w_fi ws (n_v vs 0) 5) (w_fi ws (n_v vs 0) 100) (w_fi ws (n_v vs 0) 107) (w_fi ws (n_v vs 0) 79) (w_ei ws (w_ar ws (n_v vs 0) 83)) (w_ei ws (w_ar ws (n_v vs 0) 84)) (w_ei ws (w_ar ws (n_v vs 0) 85)) (w_ei ws (w_ar ws (n_v vs 0) 86)) (w_fi ws (n_v vs 0) 80) (w_fi ws (n_v vs 0) 81) (w_ei ws (w_ar ws (n_v vs 0) 87)) (w_ei ws (w_ar ws (n_v vs 0) 88)) (w_ei ws (w_ar ws (n_v vs 0) 89)) k2 k3 k5 k12 k16 k17 k18 k19 k20 k21 k22 k23 k24 k25 d0 d1 d2 d3 d4 d5 f0 f1 f2 f3 f4 f5 f6 f7 f8 f9 f10 f11 f12 f13 f14 f15 f16 f18 f19 f21 f22 f23 f24 f25 f26 f27 hK_0_83 hK_0_84 hK_0_85 hK_0_86 hK_0_87 hK_0_88 hK_0_89 hK_0_95 hK_0_102 hK_0_104 hK_0_105 hK_0_106 hK_0_108 hK_0_109 kz_0_79 kz_0_80 kz_0_81 kz_0_100 kz_0_101 kz_0_107
  have nf1 : fc_1 PRD (20, [1], [50, 1, 0, 81, 0, 3, 2, 0, 81, 0, 76]) ws (vs) := by
    refine ⟨fun n hn => ?_, ?_⟩
    · have hn : n ∈ [1] := hn
      rw [hl]
      simp only [List.mem_cons, List.not_mem_nil, or_false] at hn
      show n < 26; omega
    · show w_fi ws (n_v vs 1) 81 ≤ 76
      rw [q1]
      exact vc_Mo_across2_18_1 (v_iv (n_v vs 2)) (v_iv (n_v vs 3)) (v_iv (n_v vs 5)) (v_iv (n_v vs 12)) (v_iv (n_v vs 16)) (v_iv (n_v vs 17)) (v_iv (n_v vs 18)) (v_iv (n_v vs 19)) (v_iv (n_v vs 20)) (v_iv (n_v vs 21)) (v_iv (n_v vs 22)) (v_iv (n_v vs 23)) (v_iv (n_v vs 24)) (v_iv (n_v vs 25)) (w_ei ws (w_ar ws (n_v vs 0) 105)) (w_ei ws (w_ar ws (n_v vs 0) 106)) (w_fi ws (n_v vs 0) 101) (w_ei ws (w_ar ws (n_v vs 0) 2)) (w_ei ws (w_ar ws (n_v vs 0) 95)) (w_ei ws (w_ar ws (n_v vs 0) 102)) (w_ei ws (w_ar ws (n_v vs 0) 104)) (w_ei ws (w_ar ws (n_v vs 0) 108)) (w_ei ws (w_ar ws (n_v vs 0) 109)) (w_fi ws (n_v vs 0) 5) (w_fi ws (n_v vs 0) 100) (w_fi ws (n_v vs 0) 107) (w_fi ws (n_v vs 0) 79) (w_ei ws (w_ar ws (n_v vs 0) 83)) (w_ei ws (w_ar ws (n_v vs 0) 84)) (w_ei ws (w_ar ws (n_v vs 0) 85)) (w_ei ws (w_ar ws (n_v vs 0) 86)) (w_fi ws (n_v vs 0) 80) (w_fi ws (n_v vs 0) 81) (w_ei ws (w_ar ws (n_v vs 0) 87)) (w_ei ws (w_ar ws (n_v vs 0) 88)) (w_ei ws (w_ar ws (n_v vs 0) 89)) k2 k3 k5 k12 k16 k17 k18 k19 k20 k21 k22 k23 k24 k25 d0 d1 d2 d3 d4 d5 f0 f1 f2 f3 f4 f5 f6 f7 f8 f9 f10 f11 f12 f13 f14 f15 f16 f18 f19 f21 f22 f23 f24 f25 f26 f27 hK_0_83 hK_0_84 hK_0_85 hK_0_86 hK_0_87 hK_0_88 hK_0_89 hK_0_95 hK_0_102 hK_0_104 hK_0_105 hK_0_106 hK_0_108 hK_0_109 kz_0_79 kz_0_80 kz_0_81 kz_0_100 kz_0_101 kz_0_107
  have nf2 : fc_1 PRD (20, [25], [50, 0, 0, 0, 2, 0, 1, 1, 0]) ws (vs) := by
    refine ⟨fun n hn => ?_, ?_⟩
    · have hn : n ∈ [25] := hn
      rw [hl]
      simp only [List.mem_cons, List.not_mem_nil, or_false] at hn
      show n < 26; omega
    · show 1 ≤ v_iv (n_v vs 25)
      exact vc_Mo_across2_18_2 (v_iv (n_v vs 2)) (v_iv (n_v vs 3)) (v_iv (n_v vs 5)) (v_iv (n_v vs 12)) (v_iv (n_v vs 16)) (v_iv (n_v vs 17)) (v_iv (n_v vs 18)) (v_iv (n_v vs 19)) (v_iv (n_v vs 20)) (v_iv (n_v vs 21)) (v_iv (n_v vs 22)) (v_iv (n_v vs 23)) (v_iv (n_v vs 24)) (v_iv (n_v vs 25)) (w_ei ws (w_ar ws (n_v vs 0) 105)) (w_ei ws (w_ar ws (n_v vs 0) 106)) (w_fi ws (n_v vs 0) 101) (w_ei ws (w_ar ws (n_v vs 0) 2)) (w_ei ws (w_ar ws (n_v vs 0) 95)) (w_ei ws (w_ar ws (n_v vs 0) 102)) (w_ei ws (w_ar ws (n_v vs 0) 104)) (w_ei ws (w_ar ws (n_v vs 0) 108)) (w_ei ws (w_ar ws (n_v vs 0) 109)) (w_fi ws (n_v vs 0) 5) (w_fi ws (n_v vs 0) 100) (w_fi ws (n_v vs 0) 107) (w_fi ws (n_v vs 0) 79) (w_ei ws (w_ar ws (n_v vs 0) 83)) (w_ei ws (w_ar ws (n_v vs 0) 84)) (w_ei ws (w_ar ws (n_v vs 0) 85)) (w_ei ws (w_ar ws (n_v vs 0) 86)) (w_fi ws (n_v vs 0) 80) (w_fi ws (n_v vs 0) 81) (w_ei ws (w_ar ws (n_v vs 0) 87)) (w_ei ws (w_ar ws (n_v vs 0) 88)) (w_ei ws (w_ar ws (n_v vs 0) 89)) k2 k3 k5 k12 k16 k17 k18 k19 k20 k21 k22 k23 k24 k25 d0 d1 d2 d3 d4 d5 f0 f1 f2 f3 f4 f5 f6 f7 f8 f9 f10 f11 f12 f13 f14 f15 f16 f18 f19 f21 f22 f23 f24 f25 f26 f27 hK_0_83 hK_0_84 hK_0_85 hK_0_86 hK_0_87 hK_0_88 hK_0_89 hK_0_95 hK_0_102 hK_0_104 hK_0_105 hK_0_106 hK_0_108 hK_0_109 kz_0_79 kz_0_80 kz_0_81 kz_0_100 kz_0_101 kz_0_107
  refine ⟨(fun _ h => (by cases h)), [], trivial, ?_, (fun _ h => (by cases h))⟩
  rw [List.append_nil]
  exact List.forall_mem_cons.mpr ⟨⟨show (20 : Nat) < 100 from by decide, nf0⟩, List.forall_mem_cons.mpr ⟨⟨show (20 : Nat) < 100 from by decide, nf1⟩, List.forall_mem_cons.mpr ⟨⟨show (20 : Nat) < 100 from by decide, nf2⟩, (fun _ h => (by cases h))⟩⟩⟩
set_option maxHeartbeats 4000000 in
theorem vc_Mo_across2_19_0 (x2 : Int) (x3 : Int) (x5 : Int) (x7 : Int) (x8 : Int) (x9 : Int) (x10 : Int) (x11 : Int) (x12 : Int) (x13 : Int) (x14 : Int) (x15 : Int) (x16 : Int) (x17 : Int) (x18 : Int) (x19 : Int) (x20 : Int) (x21 : Int) (layerItem_0 : Int → Int) (layerSize_0 : Int → Int) (all_0 : Int → Int) (turned_0 : Int → Int) (itemLayer_0 : Int → Int) (firstJoint_0 : Int → Int) (lineA_0 : Int → Int) (lineB_0 : Int → Int) (r_0 : Int) (items_0 : Int) (layerMany_0 : Int) (lines_0 : Int) (pointMany_0 : Int) (costA_0 : Int → Int) (costB_0 : Int → Int) (costW_0 : Int → Int) (costPlain_0 : Int → Int) (costMany_0 : Int) (apartA_0 : Int → Int) (apartB_0 : Int → Int) (apart_0 : Int → Int) (apartMany_0 : Int) (gx : Int) (gy : Int) (gu : Int) (k2 : 0 ≤ x2 ∧ x2 ≤ 75) (k3 : 1 ≤ x3 ∧ x3 ≤ 75) (k5 : 2 ≤ x5 ∧ x5 ≤ 76) (k7 : 76 ≤ x7 ∧ x7 ≤ 76) (k8 : 0 ≤ x8 ∧ x8 ≤ 5700) (k9 : 1 ≤ x9 ∧ x9 ≤ 5775) (k10 : 1 ≤ x10 ∧ x10 ≤ 1) (k11 : 0 ≤ x11 ∧ x11 ≤ 5774) (k12 : 0 ≤ x12 ∧ x12 ≤ 23) (k13 : 76 ≤ x13 ∧ x13 ≤ 76) (k14 : 0 ≤ x14 ∧ x14 ≤ 5700) (k15 : 1 ≤ x15 ∧ x15 ≤ 5775) (k16 : 0 ≤ x16 ∧ x16 ≤ 75) (k17 : 1 ≤ x17 ∧ x17 ≤ 9) (k18 : 0 ≤ x18 ∧ x18 ≤ 0) (k19 : 1 ≤ x19 ∧ x19 ≤ 9) (k20 : 2 ≤ x20 ∧ x20 ≤ 2) (k21 : 3 ≤ x21 ∧ x21 ≤ 11) (d0 : x19 + 2 ≤ x21 ∧ x21 ≤ x19 + 2) (d1 : x17 + 2 ≤ x21 ∧ x21 ≤ x17 + 2) (d2 : x17 + 0 ≤ x19 ∧ x19 ≤ x17 + 0) (d3 : x3 + 0 ≤ x15 ∧ x15 ≤ x3 + 5700) (d4 : x5 + (-4294967296) ≤ x15 ∧ x15 ≤ x5 + 5699) (d5 : x14 + 1 ≤ x15 ∧ x15 ≤ x14 + 75) (d6 : x9 + (-1) ≤ x11 ∧ x11 ≤ x9 + (-1)) (d7 : x3 + (-1) ≤ x11 ∧ x11 ≤ x3 + 5699) (d8 : x5 + (-4294967296) ≤ x11 ∧ x11 ≤ x5 + 5698) (d9 : x8 + 0 ≤ x11 ∧ x11 ≤ x8 + 74) (d10 : x3 + 0 ≤ x9 ∧ x9 ≤ x3 + 5700) (d11 : x5 + (-4294967296) ≤ x9 ∧ x9 ≤ x5 + 5699) (d12 : x8 + 1 ≤ x9 ∧ x9 ≤ x8 + 75) (d13 : x5 + (-4294967296) ≤ x3 ∧ x3 ≤ x5 + (-1)) (f0 : x21 = x19 + x20) (f1 : x19 = x17 + x18) (f2 : (0 ≤ x18) ∧ (x18 ≤ 100)) (f3 : (0 ≤ x17) ∧ (x17 ≤ 100)) (h4 : x16 = layerItem_0 (x15)) (f5 : x15 = x14 + x3) (f6 : x14 = 76 * x2) (h8 : x12 = layerItem_0 (x11)) (f9 : x11 = x9 - x10) (f10 : x9 = x8 + x3) (f11 : x8 = 76 * x2) (f12 : x3 < x5) (h13 : x5 = layerSize_0 (x2)) (f15 : LSA (r_0) (items_0) (layerMany_0) (lines_0) (all_0) (turned_0) (itemLayer_0) (firstJoint_0) (lineA_0) (lineB_0)) (f16 : LSB (items_0) (layerMany_0) (itemLayer_0) (layerSize_0) (layerItem_0)) (f17 : SGR (r_0) (all_0)) (f18 : pointMany_0 = items_0) (f19 : PCQ (pointMany_0) (costMany_0) (costA_0) (costB_0) (costW_0) (costPlain_0)) (f20 : costMany_0 ≤ 130) (f21 : PAL2 (apartMany_0) (layerMany_0) (layerSize_0) (layerItem_0) (apartA_0) (apartB_0) (apart_0) (x2) (x3)) (f22 : apartMany_0 ≤ 76) (f23 : (x2 + 1) ≤ layerMany_0) (f24 : 1 ≤ x3) (hK_0_83 : ∀ j : Int, 0 ≤ j → j < 200 → 0 ≤ costA_0 j ∧ costA_0 j ≤ 75) (hK_0_84 : ∀ j : Int, 0 ≤ j → j < 200 → 0 ≤ costB_0 j ∧ costB_0 j ≤ 75) (hK_0_85 : ∀ j : Int, 0 ≤ j → j < 200 → 0 ≤ costW_0 j ∧ costW_0 j ≤ 72) (hK_0_86 : ∀ j : Int, 0 ≤ j → j < 200 → 0 ≤ costPlain_0 j ∧ costPlain_0 j ≤ 1) (hK_0_87 : ∀ j : Int, 0 ≤ j → j < 200 → 0 ≤ apartA_0 j ∧ apartA_0 j ≤ 75) (hK_0_88 : ∀ j : Int, 0 ≤ j → j < 200 → 0 ≤ apartB_0 j ∧ apartB_0 j ≤ 75) (hK_0_89 : ∀ j : Int, 0 ≤ j → j < 200 → 0 ≤ apart_0 j ∧ apart_0 j ≤ 202) (hK_0_95 : ∀ j : Int, 0 ≤ j → j < 48 → 0 ≤ turned_0 j ∧ turned_0 j ≤ 1) (hK_0_102 : ∀ j : Int, 0 ≤ j → j < 76 → 0 ≤ itemLayer_0 j ∧ itemLayer_0 j ≤ 75) (hK_0_104 : ∀ j : Int, 0 ≤ j → j < 48 → 0 ≤ firstJoint_0 j ∧ firstJoint_0 j ≤ 76) (hK_0_105 : ∀ j : Int, 0 ≤ j → j < 76 → 0 ≤ layerSize_0 j ∧ layerSize_0 j ≤ 76) (hK_0_106 : ∀ j : Int, 0 ≤ j → j < 5776 → 0 ≤ layerItem_0 j ∧ layerItem_0 j ≤ 75) (hK_0_108 : ∀ j : Int, 0 ≤ j → j < 130 → 0 ≤ lineA_0 j ∧ lineA_0 j ≤ 75) (hK_0_109 : ∀ j : Int, 0 ≤ j → j < 130 → 0 ≤ lineB_0 j ∧ lineB_0 j ≤ 75) (kz_0_79 : 0 ≤ pointMany_0 ∧ pointMany_0 ≤ 76) (kz_0_80 : 0 ≤ costMany_0 ∧ costMany_0 ≤ 200) (kz_0_81 : 0 ≤ apartMany_0 ∧ apartMany_0 ≤ 200) (kz_0_100 : 0 ≤ items_0 ∧ items_0 ≤ 76) (kz_0_101 : 0 ≤ layerMany_0 ∧ layerMany_0 ≤ 76) (kz_0_107 : 0 ≤ lines_0 ∧ lines_0 ≤ 130) (ex2 : gx = apartMany_0) (ex3 : 0 ≤ gx ∧ gx ≤ 199) (ey2 : gy = x2) (ey3 : 0 ≤ gy ∧ gy ≤ 75) (eu2 : gu = x3) (eu3 : 1 ≤ gu ∧ gu ≤ 75) : 1 * gy + ((-1) * x2 + 0) ≤ 0 := by
  try simp only [Int.add_zero] at *
  first
    | omega
    | (have h := ‹LSA _ _ _ _ _ _ _ _ _ _›.2.1; omega)
    | (have h := lsa_la (p := x2) (x := x15) ‹LSA _ _ _ _ _ _ _ _ _ _› (by omega) (by omega) (by assumption); omega)
    | (have h := lsa_lb (p := x2) (x := x16) ‹LSA _ _ _ _ _ _ _ _ _ _› (by omega) (by omega) (by assumption); omega)
set_option maxHeartbeats 4000000 in
theorem vc_Mo_across2_19_1 (x2 : Int) (x3 : Int) (x5 : Int) (x7 : Int) (x8 : Int) (x9 : Int) (x10 : Int) (x11 : Int) (x12 : Int) (x13 : Int) (x14 : Int) (x15 : Int) (x16 : Int) (x17 : Int) (x18 : Int) (x19 : Int) (x20 : Int) (x21 : Int) (layerItem_0 : Int → Int) (layerSize_0 : Int → Int) (all_0 : Int → Int) (turned_0 : Int → Int) (itemLayer_0 : Int → Int) (firstJoint_0 : Int → Int) (lineA_0 : Int → Int) (lineB_0 : Int → Int) (r_0 : Int) (items_0 : Int) (layerMany_0 : Int) (lines_0 : Int) (pointMany_0 : Int) (costA_0 : Int → Int) (costB_0 : Int → Int) (costW_0 : Int → Int) (costPlain_0 : Int → Int) (costMany_0 : Int) (apartA_0 : Int → Int) (apartB_0 : Int → Int) (apart_0 : Int → Int) (apartMany_0 : Int) (gx : Int) (gy : Int) (gu : Int) (k2 : 0 ≤ x2 ∧ x2 ≤ 75) (k3 : 1 ≤ x3 ∧ x3 ≤ 75) (k5 : 2 ≤ x5 ∧ x5 ≤ 76) (k7 : 76 ≤ x7 ∧ x7 ≤ 76) (k8 : 0 ≤ x8 ∧ x8 ≤ 5700) (k9 : 1 ≤ x9 ∧ x9 ≤ 5775) (k10 : 1 ≤ x10 ∧ x10 ≤ 1) (k11 : 0 ≤ x11 ∧ x11 ≤ 5774) (k12 : 0 ≤ x12 ∧ x12 ≤ 23) (k13 : 76 ≤ x13 ∧ x13 ≤ 76) (k14 : 0 ≤ x14 ∧ x14 ≤ 5700) (k15 : 1 ≤ x15 ∧ x15 ≤ 5775) (k16 : 0 ≤ x16 ∧ x16 ≤ 75) (k17 : 1 ≤ x17 ∧ x17 ≤ 9) (k18 : 0 ≤ x18 ∧ x18 ≤ 0) (k19 : 1 ≤ x19 ∧ x19 ≤ 9) (k20 : 2 ≤ x20 ∧ x20 ≤ 2) (k21 : 3 ≤ x21 ∧ x21 ≤ 11) (d0 : x19 + 2 ≤ x21 ∧ x21 ≤ x19 + 2) (d1 : x17 + 2 ≤ x21 ∧ x21 ≤ x17 + 2) (d2 : x17 + 0 ≤ x19 ∧ x19 ≤ x17 + 0) (d3 : x3 + 0 ≤ x15 ∧ x15 ≤ x3 + 5700) (d4 : x5 + (-4294967296) ≤ x15 ∧ x15 ≤ x5 + 5699) (d5 : x14 + 1 ≤ x15 ∧ x15 ≤ x14 + 75) (d6 : x9 + (-1) ≤ x11 ∧ x11 ≤ x9 + (-1)) (d7 : x3 + (-1) ≤ x11 ∧ x11 ≤ x3 + 5699) (d8 : x5 + (-4294967296) ≤ x11 ∧ x11 ≤ x5 + 5698) (d9 : x8 + 0 ≤ x11 ∧ x11 ≤ x8 + 74) (d10 : x3 + 0 ≤ x9 ∧ x9 ≤ x3 + 5700) (d11 : x5 + (-4294967296) ≤ x9 ∧ x9 ≤ x5 + 5699) (d12 : x8 + 1 ≤ x9 ∧ x9 ≤ x8 + 75) (d13 : x5 + (-4294967296) ≤ x3 ∧ x3 ≤ x5 + (-1)) (f0 : x21 = x19 + x20) (f1 : x19 = x17 + x18) (f2 : (0 ≤ x18) ∧ (x18 ≤ 100)) (f3 : (0 ≤ x17) ∧ (x17 ≤ 100)) (h4 : x16 = layerItem_0 (x15)) (f5 : x15 = x14 + x3) (f6 : x14 = 76 * x2) (h8 : x12 = layerItem_0 (x11)) (f9 : x11 = x9 - x10) (f10 : x9 = x8 + x3) (f11 : x8 = 76 * x2) (f12 : x3 < x5) (h13 : x5 = layerSize_0 (x2)) (f15 : LSA (r_0) (items_0) (layerMany_0) (lines_0) (all_0) (turned_0) (itemLayer_0) (firstJoint_0) (lineA_0) (lineB_0)) (f16 : LSB (items_0) (layerMany_0) (itemLayer_0) (layerSize_0) (layerItem_0)) (f17 : SGR (r_0) (all_0)) (f18 : pointMany_0 = items_0) (f19 : PCQ (pointMany_0) (costMany_0) (costA_0) (costB_0) (costW_0) (costPlain_0)) (f20 : costMany_0 ≤ 130) (f21 : PAL2 (apartMany_0) (layerMany_0) (layerSize_0) (layerItem_0) (apartA_0) (apartB_0) (apart_0) (x2) (x3)) (f22 : apartMany_0 ≤ 76) (f23 : (x2 + 1) ≤ layerMany_0) (f24 : 1 ≤ x3) (hK_0_83 : ∀ j : Int, 0 ≤ j → j < 200 → 0 ≤ costA_0 j ∧ costA_0 j ≤ 75) (hK_0_84 : ∀ j : Int, 0 ≤ j → j < 200 → 0 ≤ costB_0 j ∧ costB_0 j ≤ 75) (hK_0_85 : ∀ j : Int, 0 ≤ j → j < 200 → 0 ≤ costW_0 j ∧ costW_0 j ≤ 72) (hK_0_86 : ∀ j : Int, 0 ≤ j → j < 200 → 0 ≤ costPlain_0 j ∧ costPlain_0 j ≤ 1) (hK_0_87 : ∀ j : Int, 0 ≤ j → j < 200 → 0 ≤ apartA_0 j ∧ apartA_0 j ≤ 75) (hK_0_88 : ∀ j : Int, 0 ≤ j → j < 200 → 0 ≤ apartB_0 j ∧ apartB_0 j ≤ 75) (hK_0_89 : ∀ j : Int, 0 ≤ j → j < 200 → 0 ≤ apart_0 j ∧ apart_0 j ≤ 202) (hK_0_95 : ∀ j : Int, 0 ≤ j → j < 48 → 0 ≤ turned_0 j ∧ turned_0 j ≤ 1) (hK_0_102 : ∀ j : Int, 0 ≤ j → j < 76 → 0 ≤ itemLayer_0 j ∧ itemLayer_0 j ≤ 75) (hK_0_104 : ∀ j : Int, 0 ≤ j → j < 48 → 0 ≤ firstJoint_0 j ∧ firstJoint_0 j ≤ 76) (hK_0_105 : ∀ j : Int, 0 ≤ j → j < 76 → 0 ≤ layerSize_0 j ∧ layerSize_0 j ≤ 76) (hK_0_106 : ∀ j : Int, 0 ≤ j → j < 5776 → 0 ≤ layerItem_0 j ∧ layerItem_0 j ≤ 75) (hK_0_108 : ∀ j : Int, 0 ≤ j → j < 130 → 0 ≤ lineA_0 j ∧ lineA_0 j ≤ 75) (hK_0_109 : ∀ j : Int, 0 ≤ j → j < 130 → 0 ≤ lineB_0 j ∧ lineB_0 j ≤ 75) (kz_0_79 : 0 ≤ pointMany_0 ∧ pointMany_0 ≤ 76) (kz_0_80 : 0 ≤ costMany_0 ∧ costMany_0 ≤ 200) (kz_0_81 : 0 ≤ apartMany_0 ∧ apartMany_0 ≤ 200) (kz_0_100 : 0 ≤ items_0 ∧ items_0 ≤ 76) (kz_0_101 : 0 ≤ layerMany_0 ∧ layerMany_0 ≤ 76) (kz_0_107 : 0 ≤ lines_0 ∧ lines_0 ≤ 130) (ex2 : gx = apartMany_0) (ex3 : 0 ≤ gx ∧ gx ≤ 199) (ey2 : gy = x2) (ey3 : 0 ≤ gy ∧ gy ≤ 75) (eu2 : gu = x3) (eu3 : 1 ≤ gu ∧ gu ≤ 75) : (-1) * gy + (1 * x2 + 0) ≤ 0 := by
  try simp only [Int.add_zero] at *
  first
    | omega
    | (have h := ‹LSA _ _ _ _ _ _ _ _ _ _›.2.1; omega)
    | (have h := lsa_la (p := x2) (x := x15) ‹LSA _ _ _ _ _ _ _ _ _ _› (by omega) (by omega) (by assumption); omega)
    | (have h := lsa_lb (p := x2) (x := x16) ‹LSA _ _ _ _ _ _ _ _ _ _› (by omega) (by omega) (by assumption); omega)
set_option maxHeartbeats 4000000 in
theorem vc_Mo_across2_19_2 (x2 : Int) (x3 : Int) (x5 : Int) (x7 : Int) (x8 : Int) (x9 : Int) (x10 : Int) (x11 : Int) (x12 : Int) (x13 : Int) (x14 : Int) (x15 : Int) (x16 : Int) (x17 : Int) (x18 : Int) (x19 : Int) (x20 : Int) (x21 : Int) (layerItem_0 : Int → Int) (layerSize_0 : Int → Int) (all_0 : Int → Int) (turned_0 : Int → Int) (itemLayer_0 : Int → Int) (firstJoint_0 : Int → Int) (lineA_0 : Int → Int) (lineB_0 : Int → Int) (r_0 : Int) (items_0 : Int) (layerMany_0 : Int) (lines_0 : Int) (pointMany_0 : Int) (costA_0 : Int → Int) (costB_0 : Int → Int) (costW_0 : Int → Int) (costPlain_0 : Int → Int) (costMany_0 : Int) (apartA_0 : Int → Int) (apartB_0 : Int → Int) (apart_0 : Int → Int) (apartMany_0 : Int) (gx : Int) (gy : Int) (gu : Int) (k2 : 0 ≤ x2 ∧ x2 ≤ 75) (k3 : 1 ≤ x3 ∧ x3 ≤ 75) (k5 : 2 ≤ x5 ∧ x5 ≤ 76) (k7 : 76 ≤ x7 ∧ x7 ≤ 76) (k8 : 0 ≤ x8 ∧ x8 ≤ 5700) (k9 : 1 ≤ x9 ∧ x9 ≤ 5775) (k10 : 1 ≤ x10 ∧ x10 ≤ 1) (k11 : 0 ≤ x11 ∧ x11 ≤ 5774) (k12 : 0 ≤ x12 ∧ x12 ≤ 23) (k13 : 76 ≤ x13 ∧ x13 ≤ 76) (k14 : 0 ≤ x14 ∧ x14 ≤ 5700) (k15 : 1 ≤ x15 ∧ x15 ≤ 5775) (k16 : 0 ≤ x16 ∧ x16 ≤ 75) (k17 : 1 ≤ x17 ∧ x17 ≤ 9) (k18 : 0 ≤ x18 ∧ x18 ≤ 0) (k19 : 1 ≤ x19 ∧ x19 ≤ 9) (k20 : 2 ≤ x20 ∧ x20 ≤ 2) (k21 : 3 ≤ x21 ∧ x21 ≤ 11) (d0 : x19 + 2 ≤ x21 ∧ x21 ≤ x19 + 2) (d1 : x17 + 2 ≤ x21 ∧ x21 ≤ x17 + 2) (d2 : x17 + 0 ≤ x19 ∧ x19 ≤ x17 + 0) (d3 : x3 + 0 ≤ x15 ∧ x15 ≤ x3 + 5700) (d4 : x5 + (-4294967296) ≤ x15 ∧ x15 ≤ x5 + 5699) (d5 : x14 + 1 ≤ x15 ∧ x15 ≤ x14 + 75) (d6 : x9 + (-1) ≤ x11 ∧ x11 ≤ x9 + (-1)) (d7 : x3 + (-1) ≤ x11 ∧ x11 ≤ x3 + 5699) (d8 : x5 + (-4294967296) ≤ x11 ∧ x11 ≤ x5 + 5698) (d9 : x8 + 0 ≤ x11 ∧ x11 ≤ x8 + 74) (d10 : x3 + 0 ≤ x9 ∧ x9 ≤ x3 + 5700) (d11 : x5 + (-4294967296) ≤ x9 ∧ x9 ≤ x5 + 5699) (d12 : x8 + 1 ≤ x9 ∧ x9 ≤ x8 + 75) (d13 : x5 + (-4294967296) ≤ x3 ∧ x3 ≤ x5 + (-1)) (f0 : x21 = x19 + x20) (f1 : x19 = x17 + x18) (f2 : (0 ≤ x18) ∧ (x18 ≤ 100)) (f3 : (0 ≤ x17) ∧ (x17 ≤ 100)) (h4 : x16 = layerItem_0 (x15)) (f5 : x15 = x14 + x3) (f6 : x14 = 76 * x2) (h8 : x12 = layerItem_0 (x11)) (f9 : x11 = x9 - x10) (f10 : x9 = x8 + x3) (f11 : x8 = 76 * x2) (f12 : x3 < x5) (h13 : x5 = layerSize_0 (x2)) (f15 : LSA (r_0) (items_0) (layerMany_0) (lines_0) (all_0) (turned_0) (itemLayer_0) (firstJoint_0) (lineA_0) (lineB_0)) (f16 : LSB (items_0) (layerMany_0) (itemLayer_0) (layerSize_0) (layerItem_0)) (f17 : SGR (r_0) (all_0)) (f18 : pointMany_0 = items_0) (f19 : PCQ (pointMany_0) (costMany_0) (costA_0) (costB_0) (costW_0) (costPlain_0)) (f20 : costMany_0 ≤ 130) (f21 : PAL2 (apartMany_0) (layerMany_0) (layerSize_0) (layerItem_0) (apartA_0) (apartB_0) (apart_0) (x2) (x3)) (f22 : apartMany_0 ≤ 76) (f23 : (x2 + 1) ≤ layerMany_0) (f24 : 1 ≤ x3) (hK_0_83 : ∀ j : Int, 0 ≤ j → j < 200 → 0 ≤ costA_0 j ∧ costA_0 j ≤ 75) (hK_0_84 : ∀ j : Int, 0 ≤ j → j < 200 → 0 ≤ costB_0 j ∧ costB_0 j ≤ 75) (hK_0_85 : ∀ j : Int, 0 ≤ j → j < 200 → 0 ≤ costW_0 j ∧ costW_0 j ≤ 72) (hK_0_86 : ∀ j : Int, 0 ≤ j → j < 200 → 0 ≤ costPlain_0 j ∧ costPlain_0 j ≤ 1) (hK_0_87 : ∀ j : Int, 0 ≤ j → j < 200 → 0 ≤ apartA_0 j ∧ apartA_0 j ≤ 75) (hK_0_88 : ∀ j : Int, 0 ≤ j → j < 200 → 0 ≤ apartB_0 j ∧ apartB_0 j ≤ 75) (hK_0_89 : ∀ j : Int, 0 ≤ j → j < 200 → 0 ≤ apart_0 j ∧ apart_0 j ≤ 202) (hK_0_95 : ∀ j : Int, 0 ≤ j → j < 48 → 0 ≤ turned_0 j ∧ turned_0 j ≤ 1) (hK_0_102 : ∀ j : Int, 0 ≤ j → j < 76 → 0 ≤ itemLayer_0 j ∧ itemLayer_0 j ≤ 75) (hK_0_104 : ∀ j : Int, 0 ≤ j → j < 48 → 0 ≤ firstJoint_0 j ∧ firstJoint_0 j ≤ 76) (hK_0_105 : ∀ j : Int, 0 ≤ j → j < 76 → 0 ≤ layerSize_0 j ∧ layerSize_0 j ≤ 76) (hK_0_106 : ∀ j : Int, 0 ≤ j → j < 5776 → 0 ≤ layerItem_0 j ∧ layerItem_0 j ≤ 75) (hK_0_108 : ∀ j : Int, 0 ≤ j → j < 130 → 0 ≤ lineA_0 j ∧ lineA_0 j ≤ 75) (hK_0_109 : ∀ j : Int, 0 ≤ j → j < 130 → 0 ≤ lineB_0 j ∧ lineB_0 j ≤ 75) (kz_0_79 : 0 ≤ pointMany_0 ∧ pointMany_0 ≤ 76) (kz_0_80 : 0 ≤ costMany_0 ∧ costMany_0 ≤ 200) (kz_0_81 : 0 ≤ apartMany_0 ∧ apartMany_0 ≤ 200) (kz_0_100 : 0 ≤ items_0 ∧ items_0 ≤ 76) (kz_0_101 : 0 ≤ layerMany_0 ∧ layerMany_0 ≤ 76) (kz_0_107 : 0 ≤ lines_0 ∧ lines_0 ≤ 130) (ex2 : gx = apartMany_0) (ex3 : 0 ≤ gx ∧ gx ≤ 199) (ey2 : gy = x2) (ey3 : 0 ≤ gy ∧ gy ≤ 75) (eu2 : gu = x3) (eu3 : 1 ≤ gu ∧ gu ≤ 75) : 1 * gu + ((-1) * x3 + 0) ≤ 0 := by
  try simp only [Int.add_zero] at *
  first
    | omega
    | (have h := ‹LSA _ _ _ _ _ _ _ _ _ _›.2.1; omega)
    | (have h := lsa_la (p := x2) (x := x15) ‹LSA _ _ _ _ _ _ _ _ _ _› (by omega) (by omega) (by assumption); omega)
    | (have h := lsa_lb (p := x2) (x := x16) ‹LSA _ _ _ _ _ _ _ _ _ _› (by omega) (by omega) (by assumption); omega)
set_option maxHeartbeats 4000000 in
theorem vc_Mo_across2_19_3 (x2 : Int) (x3 : Int) (x5 : Int) (x7 : Int) (x8 : Int) (x9 : Int) (x10 : Int) (x11 : Int) (x12 : Int) (x13 : Int) (x14 : Int) (x15 : Int) (x16 : Int) (x17 : Int) (x18 : Int) (x19 : Int) (x20 : Int) (x21 : Int) (layerItem_0 : Int → Int) (layerSize_0 : Int → Int) (all_0 : Int → Int) (turned_0 : Int → Int) (itemLayer_0 : Int → Int) (firstJoint_0 : Int → Int) (lineA_0 : Int → Int) (lineB_0 : Int → Int) (r_0 : Int) (items_0 : Int) (layerMany_0 : Int) (lines_0 : Int) (pointMany_0 : Int) (costA_0 : Int → Int) (costB_0 : Int → Int) (costW_0 : Int → Int) (costPlain_0 : Int → Int) (costMany_0 : Int) (apartA_0 : Int → Int) (apartB_0 : Int → Int) (apart_0 : Int → Int) (apartMany_0 : Int) (gx : Int) (gy : Int) (gu : Int) (k2 : 0 ≤ x2 ∧ x2 ≤ 75) (k3 : 1 ≤ x3 ∧ x3 ≤ 75) (k5 : 2 ≤ x5 ∧ x5 ≤ 76) (k7 : 76 ≤ x7 ∧ x7 ≤ 76) (k8 : 0 ≤ x8 ∧ x8 ≤ 5700) (k9 : 1 ≤ x9 ∧ x9 ≤ 5775) (k10 : 1 ≤ x10 ∧ x10 ≤ 1) (k11 : 0 ≤ x11 ∧ x11 ≤ 5774) (k12 : 0 ≤ x12 ∧ x12 ≤ 23) (k13 : 76 ≤ x13 ∧ x13 ≤ 76) (k14 : 0 ≤ x14 ∧ x14 ≤ 5700) (k15 : 1 ≤ x15 ∧ x15 ≤ 5775) (k16 : 0 ≤ x16 ∧ x16 ≤ 75) (k17 : 1 ≤ x17 ∧ x17 ≤ 9) (k18 : 0 ≤ x18 ∧ x18 ≤ 0) (k19 : 1 ≤ x19 ∧ x19 ≤ 9) (k20 : 2 ≤ x20 ∧ x20 ≤ 2) (k21 : 3 ≤ x21 ∧ x21 ≤ 11) (d0 : x19 + 2 ≤ x21 ∧ x21 ≤ x19 + 2) (d1 : x17 + 2 ≤ x21 ∧ x21 ≤ x17 + 2) (d2 : x17 + 0 ≤ x19 ∧ x19 ≤ x17 + 0) (d3 : x3 + 0 ≤ x15 ∧ x15 ≤ x3 + 5700) (d4 : x5 + (-4294967296) ≤ x15 ∧ x15 ≤ x5 + 5699) (d5 : x14 + 1 ≤ x15 ∧ x15 ≤ x14 + 75) (d6 : x9 + (-1) ≤ x11 ∧ x11 ≤ x9 + (-1)) (d7 : x3 + (-1) ≤ x11 ∧ x11 ≤ x3 + 5699) (d8 : x5 + (-4294967296) ≤ x11 ∧ x11 ≤ x5 + 5698) (d9 : x8 + 0 ≤ x11 ∧ x11 ≤ x8 + 74) (d10 : x3 + 0 ≤ x9 ∧ x9 ≤ x3 + 5700) (d11 : x5 + (-4294967296) ≤ x9 ∧ x9 ≤ x5 + 5699) (d12 : x8 + 1 ≤ x9 ∧ x9 ≤ x8 + 75) (d13 : x5 + (-4294967296) ≤ x3 ∧ x3 ≤ x5 + (-1)) (f0 : x21 = x19 + x20) (f1 : x19 = x17 + x18) (f2 : (0 ≤ x18) ∧ (x18 ≤ 100)) (f3 : (0 ≤ x17) ∧ (x17 ≤ 100)) (h4 : x16 = layerItem_0 (x15)) (f5 : x15 = x14 + x3) (f6 : x14 = 76 * x2) (h8 : x12 = layerItem_0 (x11)) (f9 : x11 = x9 - x10) (f10 : x9 = x8 + x3) (f11 : x8 = 76 * x2) (f12 : x3 < x5) (h13 : x5 = layerSize_0 (x2)) (f15 : LSA (r_0) (items_0) (layerMany_0) (lines_0) (all_0) (turned_0) (itemLayer_0) (firstJoint_0) (lineA_0) (lineB_0)) (f16 : LSB (items_0) (layerMany_0) (itemLayer_0) (layerSize_0) (layerItem_0)) (f17 : SGR (r_0) (all_0)) (f18 : pointMany_0 = items_0) (f19 : PCQ (pointMany_0) (costMany_0) (costA_0) (costB_0) (costW_0) (costPlain_0)) (f20 : costMany_0 ≤ 130) (f21 : PAL2 (apartMany_0) (layerMany_0) (layerSize_0) (layerItem_0) (apartA_0) (apartB_0) (apart_0) (x2) (x3)) (f22 : apartMany_0 ≤ 76) (f23 : (x2 + 1) ≤ layerMany_0) (f24 : 1 ≤ x3) (hK_0_83 : ∀ j : Int, 0 ≤ j → j < 200 → 0 ≤ costA_0 j ∧ costA_0 j ≤ 75) (hK_0_84 : ∀ j : Int, 0 ≤ j → j < 200 → 0 ≤ costB_0 j ∧ costB_0 j ≤ 75) (hK_0_85 : ∀ j : Int, 0 ≤ j → j < 200 → 0 ≤ costW_0 j ∧ costW_0 j ≤ 72) (hK_0_86 : ∀ j : Int, 0 ≤ j → j < 200 → 0 ≤ costPlain_0 j ∧ costPlain_0 j ≤ 1) (hK_0_87 : ∀ j : Int, 0 ≤ j → j < 200 → 0 ≤ apartA_0 j ∧ apartA_0 j ≤ 75) (hK_0_88 : ∀ j : Int, 0 ≤ j → j < 200 → 0 ≤ apartB_0 j ∧ apartB_0 j ≤ 75) (hK_0_89 : ∀ j : Int, 0 ≤ j → j < 200 → 0 ≤ apart_0 j ∧ apart_0 j ≤ 202) (hK_0_95 : ∀ j : Int, 0 ≤ j → j < 48 → 0 ≤ turned_0 j ∧ turned_0 j ≤ 1) (hK_0_102 : ∀ j : Int, 0 ≤ j → j < 76 → 0 ≤ itemLayer_0 j ∧ itemLayer_0 j ≤ 75) (hK_0_104 : ∀ j : Int, 0 ≤ j → j < 48 → 0 ≤ firstJoint_0 j ∧ firstJoint_0 j ≤ 76) (hK_0_105 : ∀ j : Int, 0 ≤ j → j < 76 → 0 ≤ layerSize_0 j ∧ layerSize_0 j ≤ 76) (hK_0_106 : ∀ j : Int, 0 ≤ j → j < 5776 → 0 ≤ layerItem_0 j ∧ layerItem_0 j ≤ 75) (hK_0_108 : ∀ j : Int, 0 ≤ j → j < 130 → 0 ≤ lineA_0 j ∧ lineA_0 j ≤ 75) (hK_0_109 : ∀ j : Int, 0 ≤ j → j < 130 → 0 ≤ lineB_0 j ∧ lineB_0 j ≤ 75) (kz_0_79 : 0 ≤ pointMany_0 ∧ pointMany_0 ≤ 76) (kz_0_80 : 0 ≤ costMany_0 ∧ costMany_0 ≤ 200) (kz_0_81 : 0 ≤ apartMany_0 ∧ apartMany_0 ≤ 200) (kz_0_100 : 0 ≤ items_0 ∧ items_0 ≤ 76) (kz_0_101 : 0 ≤ layerMany_0 ∧ layerMany_0 ≤ 76) (kz_0_107 : 0 ≤ lines_0 ∧ lines_0 ≤ 130) (ex2 : gx = apartMany_0) (ex3 : 0 ≤ gx ∧ gx ≤ 199) (ey2 : gy = x2) (ey3 : 0 ≤ gy ∧ gy ≤ 75) (eu2 : gu = x3) (eu3 : 1 ≤ gu ∧ gu ≤ 75) : (-1) * gu + (1 * x3 + 0) ≤ 0 := by
  try simp only [Int.add_zero] at *
  first
    | omega
    | (have h := ‹LSA _ _ _ _ _ _ _ _ _ _›.2.1; omega)
    | (have h := lsa_la (p := x2) (x := x15) ‹LSA _ _ _ _ _ _ _ _ _ _› (by omega) (by omega) (by assumption); omega)
    | (have h := lsa_lb (p := x2) (x := x16) ‹LSA _ _ _ _ _ _ _ _ _ _› (by omega) (by omega) (by assumption); omega)
set_option maxHeartbeats 4000000 in
theorem vc_Mo_across2_19_4 (x2 : Int) (x3 : Int) (x5 : Int) (x7 : Int) (x8 : Int) (x9 : Int) (x10 : Int) (x11 : Int) (x12 : Int) (x13 : Int) (x14 : Int) (x15 : Int) (x16 : Int) (x17 : Int) (x18 : Int) (x19 : Int) (x20 : Int) (x21 : Int) (layerItem_0 : Int → Int) (layerSize_0 : Int → Int) (all_0 : Int → Int) (turned_0 : Int → Int) (itemLayer_0 : Int → Int) (firstJoint_0 : Int → Int) (lineA_0 : Int → Int) (lineB_0 : Int → Int) (r_0 : Int) (items_0 : Int) (layerMany_0 : Int) (lines_0 : Int) (pointMany_0 : Int) (costA_0 : Int → Int) (costB_0 : Int → Int) (costW_0 : Int → Int) (costPlain_0 : Int → Int) (costMany_0 : Int) (apartA_0 : Int → Int) (apartB_0 : Int → Int) (apart_0 : Int → Int) (apartMany_0 : Int) (gx : Int) (gy : Int) (gu : Int) (k2 : 0 ≤ x2 ∧ x2 ≤ 75) (k3 : 1 ≤ x3 ∧ x3 ≤ 75) (k5 : 2 ≤ x5 ∧ x5 ≤ 76) (k7 : 76 ≤ x7 ∧ x7 ≤ 76) (k8 : 0 ≤ x8 ∧ x8 ≤ 5700) (k9 : 1 ≤ x9 ∧ x9 ≤ 5775) (k10 : 1 ≤ x10 ∧ x10 ≤ 1) (k11 : 0 ≤ x11 ∧ x11 ≤ 5774) (k12 : 0 ≤ x12 ∧ x12 ≤ 23) (k13 : 76 ≤ x13 ∧ x13 ≤ 76) (k14 : 0 ≤ x14 ∧ x14 ≤ 5700) (k15 : 1 ≤ x15 ∧ x15 ≤ 5775) (k16 : 0 ≤ x16 ∧ x16 ≤ 75) (k17 : 1 ≤ x17 ∧ x17 ≤ 9) (k18 : 0 ≤ x18 ∧ x18 ≤ 0) (k19 : 1 ≤ x19 ∧ x19 ≤ 9) (k20 : 2 ≤ x20 ∧ x20 ≤ 2) (k21 : 3 ≤ x21 ∧ x21 ≤ 11) (d0 : x19 + 2 ≤ x21 ∧ x21 ≤ x19 + 2) (d1 : x17 + 2 ≤ x21 ∧ x21 ≤ x17 + 2) (d2 : x17 + 0 ≤ x19 ∧ x19 ≤ x17 + 0) (d3 : x3 + 0 ≤ x15 ∧ x15 ≤ x3 + 5700) (d4 : x5 + (-4294967296) ≤ x15 ∧ x15 ≤ x5 + 5699) (d5 : x14 + 1 ≤ x15 ∧ x15 ≤ x14 + 75) (d6 : x9 + (-1) ≤ x11 ∧ x11 ≤ x9 + (-1)) (d7 : x3 + (-1) ≤ x11 ∧ x11 ≤ x3 + 5699) (d8 : x5 + (-4294967296) ≤ x11 ∧ x11 ≤ x5 + 5698) (d9 : x8 + 0 ≤ x11 ∧ x11 ≤ x8 + 74) (d10 : x3 + 0 ≤ x9 ∧ x9 ≤ x3 + 5700) (d11 : x5 + (-4294967296) ≤ x9 ∧ x9 ≤ x5 + 5699) (d12 : x8 + 1 ≤ x9 ∧ x9 ≤ x8 + 75) (d13 : x5 + (-4294967296) ≤ x3 ∧ x3 ≤ x5 + (-1)) (f0 : x21 = x19 + x20) (f1 : x19 = x17 + x18) (f2 : (0 ≤ x18) ∧ (x18 ≤ 100)) (f3 : (0 ≤ x17) ∧ (x17 ≤ 100)) (h4 : x16 = layerItem_0 (x15)) (f5 : x15 = x14 + x3) (f6 : x14 = 76 * x2) (h8 : x12 = layerItem_0 (x11)) (f9 : x11 = x9 - x10) (f10 : x9 = x8 + x3) (f11 : x8 = 76 * x2) (f12 : x3 < x5) (h13 : x5 = layerSize_0 (x2)) (f15 : LSA (r_0) (items_0) (layerMany_0) (lines_0) (all_0) (turned_0) (itemLayer_0) (firstJoint_0) (lineA_0) (lineB_0)) (f16 : LSB (items_0) (layerMany_0) (itemLayer_0) (layerSize_0) (layerItem_0)) (f17 : SGR (r_0) (all_0)) (f18 : pointMany_0 = items_0) (f19 : PCQ (pointMany_0) (costMany_0) (costA_0) (costB_0) (costW_0) (costPlain_0)) (f20 : costMany_0 ≤ 130) (f21 : PAL2 (apartMany_0) (layerMany_0) (layerSize_0) (layerItem_0) (apartA_0) (apartB_0) (apart_0) (x2) (x3)) (f22 : apartMany_0 ≤ 76) (f23 : (x2 + 1) ≤ layerMany_0) (f24 : 1 ≤ x3) (hK_0_83 : ∀ j : Int, 0 ≤ j → j < 200 → 0 ≤ costA_0 j ∧ costA_0 j ≤ 75) (hK_0_84 : ∀ j : Int, 0 ≤ j → j < 200 → 0 ≤ costB_0 j ∧ costB_0 j ≤ 75) (hK_0_85 : ∀ j : Int, 0 ≤ j → j < 200 → 0 ≤ costW_0 j ∧ costW_0 j ≤ 72) (hK_0_86 : ∀ j : Int, 0 ≤ j → j < 200 → 0 ≤ costPlain_0 j ∧ costPlain_0 j ≤ 1) (hK_0_87 : ∀ j : Int, 0 ≤ j → j < 200 → 0 ≤ apartA_0 j ∧ apartA_0 j ≤ 75) (hK_0_88 : ∀ j : Int, 0 ≤ j → j < 200 → 0 ≤ apartB_0 j ∧ apartB_0 j ≤ 75) (hK_0_89 : ∀ j : Int, 0 ≤ j → j < 200 → 0 ≤ apart_0 j ∧ apart_0 j ≤ 202) (hK_0_95 : ∀ j : Int, 0 ≤ j → j < 48 → 0 ≤ turned_0 j ∧ turned_0 j ≤ 1) (hK_0_102 : ∀ j : Int, 0 ≤ j → j < 76 → 0 ≤ itemLayer_0 j ∧ itemLayer_0 j ≤ 75) (hK_0_104 : ∀ j : Int, 0 ≤ j → j < 48 → 0 ≤ firstJoint_0 j ∧ firstJoint_0 j ≤ 76) (hK_0_105 : ∀ j : Int, 0 ≤ j → j < 76 → 0 ≤ layerSize_0 j ∧ layerSize_0 j ≤ 76) (hK_0_106 : ∀ j : Int, 0 ≤ j → j < 5776 → 0 ≤ layerItem_0 j ∧ layerItem_0 j ≤ 75) (hK_0_108 : ∀ j : Int, 0 ≤ j → j < 130 → 0 ≤ lineA_0 j ∧ lineA_0 j ≤ 75) (hK_0_109 : ∀ j : Int, 0 ≤ j → j < 130 → 0 ≤ lineB_0 j ∧ lineB_0 j ≤ 75) (kz_0_79 : 0 ≤ pointMany_0 ∧ pointMany_0 ≤ 76) (kz_0_80 : 0 ≤ costMany_0 ∧ costMany_0 ≤ 200) (kz_0_81 : 0 ≤ apartMany_0 ∧ apartMany_0 ≤ 200) (kz_0_100 : 0 ≤ items_0 ∧ items_0 ≤ 76) (kz_0_101 : 0 ≤ layerMany_0 ∧ layerMany_0 ≤ 76) (kz_0_107 : 0 ≤ lines_0 ∧ lines_0 ≤ 130) (ex2 : gx = apartMany_0) (ex3 : 0 ≤ gx ∧ gx ≤ 199) (ey2 : gy = x2) (ey3 : 0 ≤ gy ∧ gy ≤ 75) (eu2 : gu = x3) (eu3 : 1 ≤ gu ∧ gu ≤ 75) : apartMany_0 = gx := by
  try simp only [Int.add_zero] at *
  first
    | omega
    | (have h := ‹LSA _ _ _ _ _ _ _ _ _ _›.2.1; omega)
    | (have h := lsa_la (p := x2) (x := x15) ‹LSA _ _ _ _ _ _ _ _ _ _› (by omega) (by omega) (by assumption); omega)
    | (have h := lsa_lb (p := x2) (x := x16) ‹LSA _ _ _ _ _ _ _ _ _ _› (by omega) (by omega) (by assumption); omega)
set_option maxHeartbeats 4000000 in
theorem vc_Mo_across2_19_5 (x2 : Int) (x3 : Int) (x5 : Int) (x7 : Int) (x8 : Int) (x9 : Int) (x10 : Int) (x11 : Int) (x12 : Int) (x13 : Int) (x14 : Int) (x15 : Int) (x16 : Int) (x17 : Int) (x18 : Int) (x19 : Int) (x20 : Int) (x21 : Int) (layerItem_0 : Int → Int) (layerSize_0 : Int → Int) (all_0 : Int → Int) (turned_0 : Int → Int) (itemLayer_0 : Int → Int) (firstJoint_0 : Int → Int) (lineA_0 : Int → Int) (lineB_0 : Int → Int) (r_0 : Int) (items_0 : Int) (layerMany_0 : Int) (lines_0 : Int) (pointMany_0 : Int) (costA_0 : Int → Int) (costB_0 : Int → Int) (costW_0 : Int → Int) (costPlain_0 : Int → Int) (costMany_0 : Int) (apartA_0 : Int → Int) (apartB_0 : Int → Int) (apart_0 : Int → Int) (apartMany_0 : Int) (gx : Int) (gy : Int) (gu : Int) (k2 : 0 ≤ x2 ∧ x2 ≤ 75) (k3 : 1 ≤ x3 ∧ x3 ≤ 75) (k5 : 2 ≤ x5 ∧ x5 ≤ 76) (k7 : 76 ≤ x7 ∧ x7 ≤ 76) (k8 : 0 ≤ x8 ∧ x8 ≤ 5700) (k9 : 1 ≤ x9 ∧ x9 ≤ 5775) (k10 : 1 ≤ x10 ∧ x10 ≤ 1) (k11 : 0 ≤ x11 ∧ x11 ≤ 5774) (k12 : 0 ≤ x12 ∧ x12 ≤ 23) (k13 : 76 ≤ x13 ∧ x13 ≤ 76) (k14 : 0 ≤ x14 ∧ x14 ≤ 5700) (k15 : 1 ≤ x15 ∧ x15 ≤ 5775) (k16 : 0 ≤ x16 ∧ x16 ≤ 75) (k17 : 1 ≤ x17 ∧ x17 ≤ 9) (k18 : 0 ≤ x18 ∧ x18 ≤ 0) (k19 : 1 ≤ x19 ∧ x19 ≤ 9) (k20 : 2 ≤ x20 ∧ x20 ≤ 2) (k21 : 3 ≤ x21 ∧ x21 ≤ 11) (d0 : x19 + 2 ≤ x21 ∧ x21 ≤ x19 + 2) (d1 : x17 + 2 ≤ x21 ∧ x21 ≤ x17 + 2) (d2 : x17 + 0 ≤ x19 ∧ x19 ≤ x17 + 0) (d3 : x3 + 0 ≤ x15 ∧ x15 ≤ x3 + 5700) (d4 : x5 + (-4294967296) ≤ x15 ∧ x15 ≤ x5 + 5699) (d5 : x14 + 1 ≤ x15 ∧ x15 ≤ x14 + 75) (d6 : x9 + (-1) ≤ x11 ∧ x11 ≤ x9 + (-1)) (d7 : x3 + (-1) ≤ x11 ∧ x11 ≤ x3 + 5699) (d8 : x5 + (-4294967296) ≤ x11 ∧ x11 ≤ x5 + 5698) (d9 : x8 + 0 ≤ x11 ∧ x11 ≤ x8 + 74) (d10 : x3 + 0 ≤ x9 ∧ x9 ≤ x3 + 5700) (d11 : x5 + (-4294967296) ≤ x9 ∧ x9 ≤ x5 + 5699) (d12 : x8 + 1 ≤ x9 ∧ x9 ≤ x8 + 75) (d13 : x5 + (-4294967296) ≤ x3 ∧ x3 ≤ x5 + (-1)) (f0 : x21 = x19 + x20) (f1 : x19 = x17 + x18) (f2 : (0 ≤ x18) ∧ (x18 ≤ 100)) (f3 : (0 ≤ x17) ∧ (x17 ≤ 100)) (h4 : x16 = layerItem_0 (x15)) (f5 : x15 = x14 + x3) (f6 : x14 = 76 * x2) (h8 : x12 = layerItem_0 (x11)) (f9 : x11 = x9 - x10) (f10 : x9 = x8 + x3) (f11 : x8 = 76 * x2) (f12 : x3 < x5) (h13 : x5 = layerSize_0 (x2)) (f15 : LSA (r_0) (items_0) (layerMany_0) (lines_0) (all_0) (turned_0) (itemLayer_0) (firstJoint_0) (lineA_0) (lineB_0)) (f16 : LSB (items_0) (layerMany_0) (itemLayer_0) (layerSize_0) (layerItem_0)) (f17 : SGR (r_0) (all_0)) (f18 : pointMany_0 = items_0) (f19 : PCQ (pointMany_0) (costMany_0) (costA_0) (costB_0) (costW_0) (costPlain_0)) (f20 : costMany_0 ≤ 130) (f21 : PAL2 (apartMany_0) (layerMany_0) (layerSize_0) (layerItem_0) (apartA_0) (apartB_0) (apart_0) (x2) (x3)) (f22 : apartMany_0 ≤ 76) (f23 : (x2 + 1) ≤ layerMany_0) (f24 : 1 ≤ x3) (hK_0_83 : ∀ j : Int, 0 ≤ j → j < 200 → 0 ≤ costA_0 j ∧ costA_0 j ≤ 75) (hK_0_84 : ∀ j : Int, 0 ≤ j → j < 200 → 0 ≤ costB_0 j ∧ costB_0 j ≤ 75) (hK_0_85 : ∀ j : Int, 0 ≤ j → j < 200 → 0 ≤ costW_0 j ∧ costW_0 j ≤ 72) (hK_0_86 : ∀ j : Int, 0 ≤ j → j < 200 → 0 ≤ costPlain_0 j ∧ costPlain_0 j ≤ 1) (hK_0_87 : ∀ j : Int, 0 ≤ j → j < 200 → 0 ≤ apartA_0 j ∧ apartA_0 j ≤ 75) (hK_0_88 : ∀ j : Int, 0 ≤ j → j < 200 → 0 ≤ apartB_0 j ∧ apartB_0 j ≤ 75) (hK_0_89 : ∀ j : Int, 0 ≤ j → j < 200 → 0 ≤ apart_0 j ∧ apart_0 j ≤ 202) (hK_0_95 : ∀ j : Int, 0 ≤ j → j < 48 → 0 ≤ turned_0 j ∧ turned_0 j ≤ 1) (hK_0_102 : ∀ j : Int, 0 ≤ j → j < 76 → 0 ≤ itemLayer_0 j ∧ itemLayer_0 j ≤ 75) (hK_0_104 : ∀ j : Int, 0 ≤ j → j < 48 → 0 ≤ firstJoint_0 j ∧ firstJoint_0 j ≤ 76) (hK_0_105 : ∀ j : Int, 0 ≤ j → j < 76 → 0 ≤ layerSize_0 j ∧ layerSize_0 j ≤ 76) (hK_0_106 : ∀ j : Int, 0 ≤ j → j < 5776 → 0 ≤ layerItem_0 j ∧ layerItem_0 j ≤ 75) (hK_0_108 : ∀ j : Int, 0 ≤ j → j < 130 → 0 ≤ lineA_0 j ∧ lineA_0 j ≤ 75) (hK_0_109 : ∀ j : Int, 0 ≤ j → j < 130 → 0 ≤ lineB_0 j ∧ lineB_0 j ≤ 75) (kz_0_79 : 0 ≤ pointMany_0 ∧ pointMany_0 ≤ 76) (kz_0_80 : 0 ≤ costMany_0 ∧ costMany_0 ≤ 200) (kz_0_81 : 0 ≤ apartMany_0 ∧ apartMany_0 ≤ 200) (kz_0_100 : 0 ≤ items_0 ∧ items_0 ≤ 76) (kz_0_101 : 0 ≤ layerMany_0 ∧ layerMany_0 ≤ 76) (kz_0_107 : 0 ≤ lines_0 ∧ lines_0 ≤ 130) (ex2 : gx = apartMany_0) (ex3 : 0 ≤ gx ∧ gx ≤ 199) (ey2 : gy = x2) (ey3 : 0 ≤ gy ∧ gy ≤ 75) (eu2 : gu = x3) (eu3 : 1 ≤ gu ∧ gu ≤ 75) : PAL2 (apartMany_0) (layerMany_0) (layerSize_0) (layerItem_0) (apartA_0) (apartB_0) (apart_0) (gy) (gu) := by
  rw [ey2, eu2]; assumption
set_option maxHeartbeats 4000000 in
theorem vc_Mo_across2_19_6 (x2 : Int) (x3 : Int) (x5 : Int) (x7 : Int) (x8 : Int) (x9 : Int) (x10 : Int) (x11 : Int) (x12 : Int) (x13 : Int) (x14 : Int) (x15 : Int) (x16 : Int) (x17 : Int) (x18 : Int) (x19 : Int) (x20 : Int) (x21 : Int) (layerItem_0 : Int → Int) (layerSize_0 : Int → Int) (all_0 : Int → Int) (turned_0 : Int → Int) (itemLayer_0 : Int → Int) (firstJoint_0 : Int → Int) (lineA_0 : Int → Int) (lineB_0 : Int → Int) (r_0 : Int) (items_0 : Int) (layerMany_0 : Int) (lines_0 : Int) (pointMany_0 : Int) (costA_0 : Int → Int) (costB_0 : Int → Int) (costW_0 : Int → Int) (costPlain_0 : Int → Int) (costMany_0 : Int) (apartA_0 : Int → Int) (apartB_0 : Int → Int) (apart_0 : Int → Int) (apartMany_0 : Int) (gx : Int) (gy : Int) (gu : Int) (k2 : 0 ≤ x2 ∧ x2 ≤ 75) (k3 : 1 ≤ x3 ∧ x3 ≤ 75) (k5 : 2 ≤ x5 ∧ x5 ≤ 76) (k7 : 76 ≤ x7 ∧ x7 ≤ 76) (k8 : 0 ≤ x8 ∧ x8 ≤ 5700) (k9 : 1 ≤ x9 ∧ x9 ≤ 5775) (k10 : 1 ≤ x10 ∧ x10 ≤ 1) (k11 : 0 ≤ x11 ∧ x11 ≤ 5774) (k12 : 0 ≤ x12 ∧ x12 ≤ 23) (k13 : 76 ≤ x13 ∧ x13 ≤ 76) (k14 : 0 ≤ x14 ∧ x14 ≤ 5700) (k15 : 1 ≤ x15 ∧ x15 ≤ 5775) (k16 : 0 ≤ x16 ∧ x16 ≤ 75) (k17 : 1 ≤ x17 ∧ x17 ≤ 9) (k18 : 0 ≤ x18 ∧ x18 ≤ 0) (k19 : 1 ≤ x19 ∧ x19 ≤ 9) (k20 : 2 ≤ x20 ∧ x20 ≤ 2) (k21 : 3 ≤ x21 ∧ x21 ≤ 11) (d0 : x19 + 2 ≤ x21 ∧ x21 ≤ x19 + 2) (d1 : x17 + 2 ≤ x21 ∧ x21 ≤ x17 + 2) (d2 : x17 + 0 ≤ x19 ∧ x19 ≤ x17 + 0) (d3 : x3 + 0 ≤ x15 ∧ x15 ≤ x3 + 5700) (d4 : x5 + (-4294967296) ≤ x15 ∧ x15 ≤ x5 + 5699) (d5 : x14 + 1 ≤ x15 ∧ x15 ≤ x14 + 75) (d6 : x9 + (-1) ≤ x11 ∧ x11 ≤ x9 + (-1)) (d7 : x3 + (-1) ≤ x11 ∧ x11 ≤ x3 + 5699) (d8 : x5 + (-4294967296) ≤ x11 ∧ x11 ≤ x5 + 5698) (d9 : x8 + 0 ≤ x11 ∧ x11 ≤ x8 + 74) (d10 : x3 + 0 ≤ x9 ∧ x9 ≤ x3 + 5700) (d11 : x5 + (-4294967296) ≤ x9 ∧ x9 ≤ x5 + 5699) (d12 : x8 + 1 ≤ x9 ∧ x9 ≤ x8 + 75) (d13 : x5 + (-4294967296) ≤ x3 ∧ x3 ≤ x5 + (-1)) (f0 : x21 = x19 + x20) (f1 : x19 = x17 + x18) (f2 : (0 ≤ x18) ∧ (x18 ≤ 100)) (f3 : (0 ≤ x17) ∧ (x17 ≤ 100)) (h4 : x16 = layerItem_0 (x15)) (f5 : x15 = x14 + x3) (f6 : x14 = 76 * x2) (h8 : x12 = layerItem_0 (x11)) (f9 : x11 = x9 - x10) (f10 : x9 = x8 + x3) (f11 : x8 = 76 * x2) (f12 : x3 < x5) (h13 : x5 = layerSize_0 (x2)) (f15 : LSA (r_0) (items_0) (layerMany_0) (lines_0) (all_0) (turned_0) (itemLayer_0) (firstJoint_0) (lineA_0) (lineB_0)) (f16 : LSB (items_0) (layerMany_0) (itemLayer_0) (layerSize_0) (layerItem_0)) (f17 : SGR (r_0) (all_0)) (f18 : pointMany_0 = items_0) (f19 : PCQ (pointMany_0) (costMany_0) (costA_0) (costB_0) (costW_0) (costPlain_0)) (f20 : costMany_0 ≤ 130) (f21 : PAL2 (apartMany_0) (layerMany_0) (layerSize_0) (layerItem_0) (apartA_0) (apartB_0) (apart_0) (x2) (x3)) (f22 : apartMany_0 ≤ 76) (f23 : (x2 + 1) ≤ layerMany_0) (f24 : 1 ≤ x3) (hK_0_83 : ∀ j : Int, 0 ≤ j → j < 200 → 0 ≤ costA_0 j ∧ costA_0 j ≤ 75) (hK_0_84 : ∀ j : Int, 0 ≤ j → j < 200 → 0 ≤ costB_0 j ∧ costB_0 j ≤ 75) (hK_0_85 : ∀ j : Int, 0 ≤ j → j < 200 → 0 ≤ costW_0 j ∧ costW_0 j ≤ 72) (hK_0_86 : ∀ j : Int, 0 ≤ j → j < 200 → 0 ≤ costPlain_0 j ∧ costPlain_0 j ≤ 1) (hK_0_87 : ∀ j : Int, 0 ≤ j → j < 200 → 0 ≤ apartA_0 j ∧ apartA_0 j ≤ 75) (hK_0_88 : ∀ j : Int, 0 ≤ j → j < 200 → 0 ≤ apartB_0 j ∧ apartB_0 j ≤ 75) (hK_0_89 : ∀ j : Int, 0 ≤ j → j < 200 → 0 ≤ apart_0 j ∧ apart_0 j ≤ 202) (hK_0_95 : ∀ j : Int, 0 ≤ j → j < 48 → 0 ≤ turned_0 j ∧ turned_0 j ≤ 1) (hK_0_102 : ∀ j : Int, 0 ≤ j → j < 76 → 0 ≤ itemLayer_0 j ∧ itemLayer_0 j ≤ 75) (hK_0_104 : ∀ j : Int, 0 ≤ j → j < 48 → 0 ≤ firstJoint_0 j ∧ firstJoint_0 j ≤ 76) (hK_0_105 : ∀ j : Int, 0 ≤ j → j < 76 → 0 ≤ layerSize_0 j ∧ layerSize_0 j ≤ 76) (hK_0_106 : ∀ j : Int, 0 ≤ j → j < 5776 → 0 ≤ layerItem_0 j ∧ layerItem_0 j ≤ 75) (hK_0_108 : ∀ j : Int, 0 ≤ j → j < 130 → 0 ≤ lineA_0 j ∧ lineA_0 j ≤ 75) (hK_0_109 : ∀ j : Int, 0 ≤ j → j < 130 → 0 ≤ lineB_0 j ∧ lineB_0 j ≤ 75) (kz_0_79 : 0 ≤ pointMany_0 ∧ pointMany_0 ≤ 76) (kz_0_80 : 0 ≤ costMany_0 ∧ costMany_0 ≤ 200) (kz_0_81 : 0 ≤ apartMany_0 ∧ apartMany_0 ≤ 200) (kz_0_100 : 0 ≤ items_0 ∧ items_0 ≤ 76) (kz_0_101 : 0 ≤ layerMany_0 ∧ layerMany_0 ≤ 76) (kz_0_107 : 0 ≤ lines_0 ∧ lines_0 ≤ 130) (ex2 : gx = apartMany_0) (ex3 : 0 ≤ gx ∧ gx ≤ 199) (ey2 : gy = x2) (ey3 : 0 ≤ gy ∧ gy ≤ 75) (eu2 : gu = x3) (eu3 : 1 ≤ gu ∧ gu ≤ 75) : PAN (layerMany_0) (layerSize_0) (layerItem_0) (gy) (gu) (x12) (x16) := by
  rw [ey2, eu2]
  exact ⟨by omega, by rw [← (by omega : x11 = 76 * x2 + x3 - 1)]; assumption, by rw [← (by omega : x15 = 76 * x2 + x3)]; assumption⟩
set_option maxHeartbeats 4000000 in
theorem vc_Mo_across2_19_7 (x2 : Int) (x3 : Int) (x5 : Int) (x7 : Int) (x8 : Int) (x9 : Int) (x10 : Int) (x11 : Int) (x12 : Int) (x13 : Int) (x14 : Int) (x15 : Int) (x16 : Int) (x17 : Int) (x18 : Int) (x19 : Int) (x20 : Int) (x21 : Int) (layerItem_0 : Int → Int) (layerSize_0 : Int → Int) (all_0 : Int → Int) (turned_0 : Int → Int) (itemLayer_0 : Int → Int) (firstJoint_0 : Int → Int) (lineA_0 : Int → Int) (lineB_0 : Int → Int) (r_0 : Int) (items_0 : Int) (layerMany_0 : Int) (lines_0 : Int) (pointMany_0 : Int) (costA_0 : Int → Int) (costB_0 : Int → Int) (costW_0 : Int → Int) (costPlain_0 : Int → Int) (costMany_0 : Int) (apartA_0 : Int → Int) (apartB_0 : Int → Int) (apart_0 : Int → Int) (apartMany_0 : Int) (gx : Int) (gy : Int) (gu : Int) (k2 : 0 ≤ x2 ∧ x2 ≤ 75) (k3 : 1 ≤ x3 ∧ x3 ≤ 75) (k5 : 2 ≤ x5 ∧ x5 ≤ 76) (k7 : 76 ≤ x7 ∧ x7 ≤ 76) (k8 : 0 ≤ x8 ∧ x8 ≤ 5700) (k9 : 1 ≤ x9 ∧ x9 ≤ 5775) (k10 : 1 ≤ x10 ∧ x10 ≤ 1) (k11 : 0 ≤ x11 ∧ x11 ≤ 5774) (k12 : 0 ≤ x12 ∧ x12 ≤ 23) (k13 : 76 ≤ x13 ∧ x13 ≤ 76) (k14 : 0 ≤ x14 ∧ x14 ≤ 5700) (k15 : 1 ≤ x15 ∧ x15 ≤ 5775) (k16 : 0 ≤ x16 ∧ x16 ≤ 75) (k17 : 1 ≤ x17 ∧ x17 ≤ 9) (k18 : 0 ≤ x18 ∧ x18 ≤ 0) (k19 : 1 ≤ x19 ∧ x19 ≤ 9) (k20 : 2 ≤ x20 ∧ x20 ≤ 2) (k21 : 3 ≤ x21 ∧ x21 ≤ 11) (d0 : x19 + 2 ≤ x21 ∧ x21 ≤ x19 + 2) (d1 : x17 + 2 ≤ x21 ∧ x21 ≤ x17 + 2) (d2 : x17 + 0 ≤ x19 ∧ x19 ≤ x17 + 0) (d3 : x3 + 0 ≤ x15 ∧ x15 ≤ x3 + 5700) (d4 : x5 + (-4294967296) ≤ x15 ∧ x15 ≤ x5 + 5699) (d5 : x14 + 1 ≤ x15 ∧ x15 ≤ x14 + 75) (d6 : x9 + (-1) ≤ x11 ∧ x11 ≤ x9 + (-1)) (d7 : x3 + (-1) ≤ x11 ∧ x11 ≤ x3 + 5699) (d8 : x5 + (-4294967296) ≤ x11 ∧ x11 ≤ x5 + 5698) (d9 : x8 + 0 ≤ x11 ∧ x11 ≤ x8 + 74) (d10 : x3 + 0 ≤ x9 ∧ x9 ≤ x3 + 5700) (d11 : x5 + (-4294967296) ≤ x9 ∧ x9 ≤ x5 + 5699) (d12 : x8 + 1 ≤ x9 ∧ x9 ≤ x8 + 75) (d13 : x5 + (-4294967296) ≤ x3 ∧ x3 ≤ x5 + (-1)) (f0 : x21 = x19 + x20) (f1 : x19 = x17 + x18) (f2 : (0 ≤ x18) ∧ (x18 ≤ 100)) (f3 : (0 ≤ x17) ∧ (x17 ≤ 100)) (h4 : x16 = layerItem_0 (x15)) (f5 : x15 = x14 + x3) (f6 : x14 = 76 * x2) (h8 : x12 = layerItem_0 (x11)) (f9 : x11 = x9 - x10) (f10 : x9 = x8 + x3) (f11 : x8 = 76 * x2) (f12 : x3 < x5) (h13 : x5 = layerSize_0 (x2)) (f15 : LSA (r_0) (items_0) (layerMany_0) (lines_0) (all_0) (turned_0) (itemLayer_0) (firstJoint_0) (lineA_0) (lineB_0)) (f16 : LSB (items_0) (layerMany_0) (itemLayer_0) (layerSize_0) (layerItem_0)) (f17 : SGR (r_0) (all_0)) (f18 : pointMany_0 = items_0) (f19 : PCQ (pointMany_0) (costMany_0) (costA_0) (costB_0) (costW_0) (costPlain_0)) (f20 : costMany_0 ≤ 130) (f21 : PAL2 (apartMany_0) (layerMany_0) (layerSize_0) (layerItem_0) (apartA_0) (apartB_0) (apart_0) (x2) (x3)) (f22 : apartMany_0 ≤ 76) (f23 : (x2 + 1) ≤ layerMany_0) (f24 : 1 ≤ x3) (hK_0_83 : ∀ j : Int, 0 ≤ j → j < 200 → 0 ≤ costA_0 j ∧ costA_0 j ≤ 75) (hK_0_84 : ∀ j : Int, 0 ≤ j → j < 200 → 0 ≤ costB_0 j ∧ costB_0 j ≤ 75) (hK_0_85 : ∀ j : Int, 0 ≤ j → j < 200 → 0 ≤ costW_0 j ∧ costW_0 j ≤ 72) (hK_0_86 : ∀ j : Int, 0 ≤ j → j < 200 → 0 ≤ costPlain_0 j ∧ costPlain_0 j ≤ 1) (hK_0_87 : ∀ j : Int, 0 ≤ j → j < 200 → 0 ≤ apartA_0 j ∧ apartA_0 j ≤ 75) (hK_0_88 : ∀ j : Int, 0 ≤ j → j < 200 → 0 ≤ apartB_0 j ∧ apartB_0 j ≤ 75) (hK_0_89 : ∀ j : Int, 0 ≤ j → j < 200 → 0 ≤ apart_0 j ∧ apart_0 j ≤ 202) (hK_0_95 : ∀ j : Int, 0 ≤ j → j < 48 → 0 ≤ turned_0 j ∧ turned_0 j ≤ 1) (hK_0_102 : ∀ j : Int, 0 ≤ j → j < 76 → 0 ≤ itemLayer_0 j ∧ itemLayer_0 j ≤ 75) (hK_0_104 : ∀ j : Int, 0 ≤ j → j < 48 → 0 ≤ firstJoint_0 j ∧ firstJoint_0 j ≤ 76) (hK_0_105 : ∀ j : Int, 0 ≤ j → j < 76 → 0 ≤ layerSize_0 j ∧ layerSize_0 j ≤ 76) (hK_0_106 : ∀ j : Int, 0 ≤ j → j < 5776 → 0 ≤ layerItem_0 j ∧ layerItem_0 j ≤ 75) (hK_0_108 : ∀ j : Int, 0 ≤ j → j < 130 → 0 ≤ lineA_0 j ∧ lineA_0 j ≤ 75) (hK_0_109 : ∀ j : Int, 0 ≤ j → j < 130 → 0 ≤ lineB_0 j ∧ lineB_0 j ≤ 75) (kz_0_79 : 0 ≤ pointMany_0 ∧ pointMany_0 ≤ 76) (kz_0_80 : 0 ≤ costMany_0 ∧ costMany_0 ≤ 200) (kz_0_81 : 0 ≤ apartMany_0 ∧ apartMany_0 ≤ 200) (kz_0_100 : 0 ≤ items_0 ∧ items_0 ≤ 76) (kz_0_101 : 0 ≤ layerMany_0 ∧ layerMany_0 ≤ 76) (kz_0_107 : 0 ≤ lines_0 ∧ lines_0 ≤ 130) (ex2 : gx = apartMany_0) (ex3 : 0 ≤ gx ∧ gx ≤ 199) (ey2 : gy = x2) (ey3 : 0 ≤ gy ∧ gy ≤ 75) (eu2 : gu = x3) (eu3 : 1 ≤ gu ∧ gu ≤ 75) : (2 ≤ x21) ∧ (x21 ≤ 202) := by
  try simp only [Int.add_zero] at *
  first
    | omega
    | (have h := ‹LSA _ _ _ _ _ _ _ _ _ _›.2.1; omega)
    | (have h := lsa_la (p := x2) (x := x15) ‹LSA _ _ _ _ _ _ _ _ _ _› (by omega) (by omega) (by assumption); omega)
    | (have h := lsa_lb (p := x2) (x := x16) ‹LSA _ _ _ _ _ _ _ _ _ _› (by omega) (by omega) (by assumption); omega)
def o_Mo_across2_19 : or_T := (243, 22, [(0, (2, 0, 0, [150])), (1, (2, 0, 0, [150])), (2, (0, 0, 75, [])), (3, (0, 1, 75, [])), (4, (2, 0, 0, [223])), (5, (0, 2, 76, [])), (6, (2, 0, 0, [224])), (7, (0, 76, 76, [])), (8, (0, 0, 5700, [])), (9, (0, 1, 5775, [])), (10, (0, 1, 1, [])), (11, (0, 0, 5774, [])), (12, (0, 0, 23, [])), (13, (0, 76, 76, [])), (14, (0, 0, 5700, [])), (15, (0, 1, 5775, [])), (16, (0, 0, 75, [])), (17, (0, 1, 9, [])), (18, (0, 0, 0, [])), (19, (0, 1, 9, [])), (20, (0, 2, 2, [])), (21, (0, 3, 11, []))], [(1, [21, 19, 20], []), (1, [19, 17, 18], []), (20, [18], [50, 0, 0, 2, 6, 0, 2, 0, 0, 1, 0, 0, 2, 1, 0, 0, 100]), (20, [17], [50, 0, 0, 2, 6, 0, 2, 0, 0, 1, 0, 0, 2, 1, 0, 0, 100]), (10, [16, 6, 15], []), (1, [15, 14, 3], []), (3, [14, 13, 2], []), (9, [6, 1], [106]), (10, [12, 6, 11], []), (2, [11, 9, 10], []), (1, [9, 8, 3], []), (3, [8, 7, 2], []), (7, [3, 5], [2]), (10, [5, 4, 2], []), (9, [4, 1], [105]), (20, [1], [60, 4, 6, 369, 5, 100, 101, 107, 2, 95, 102, 104, 108, 109]), (20, [1], [60, 2, 3, 372, 100, 101, 102, 105, 106]), (20, [1], [60, 1, 1, 122, 5, 2]), (20, [1], [50, 2, 0, 79, 100, 1, 3, 2, 0, 79, 2, 0, 100]), (20, [1], [60, 2, 4, 380, 79, 80, 83, 84, 85, 86]), (20, [1], [50, 1, 0, 80, 0, 3, 2, 0, 80, 0, 130]), (20, [1, 2, 3], [60, 2, 5, 393, 81, 101, 105, 106, 87, 88, 89]), (20, [1], [50, 1, 0, 81, 0, 3, 2, 0, 81, 0, 76]), (20, [2, 1], [50, 1, 0, 1101, 0, 6, 4, 2, 1, 0, 0, 1, 2, 1, 101]), (20, [3], [50, 0, 0, 0, 2, 0, 1, 1, 0]), (24, [0, 1], [])], [], [(0, 0, 199, []), (0, 0, 75, []), (0, 1, 75, [])], [(23, [23, 2], [0, 1, -1]), (23, [23, 2], [0, -1, 1]), (23, [24, 3], [0, 1, -1]), (23, [24, 3], [0, -1, 1]), (20, [1, 22], [50, 1, 0, 81, 1, 3, 2, 0, 81, 1, 1]), (20, [1, 23, 24], [60, 2, 5, 393, 81, 101, 105, 106, 87, 88, 89]), (20, [1, 23, 24, 12, 16], [60, 1, 2, 390, 101, 105, 106]), (20, [21], [50, 0, 0, 2, 6, 0, 2, 0, 2, 1, 0, 0, 2, 1, 0, 0, 202])], [], [(21, 19, 2, 2), (21, 17, 2, 2), (19, 17, 0, 0), (15, 3, 0, 5700), (15, 5, -4294967296, 5699), (15, 14, 1, 75), (11, 9, -1, -1), (11, 3, -1, 5699), (11, 5, -4294967296, 5698), (11, 8, 0, 74), (9, 3, 0, 5700), (9, 5, -4294967296, 5699), (9, 8, 1, 75), (3, 5, -4294967296, -1)])
theorem oo_Mo_across2_19 {kA : Nat → ClassId} : or_ok PRD kA GG o_Mo_across2_19 := by
  intro A ta ws vs hD hth hl hk hds hf
  have hl : vs.length = 22 := hl
  have hk : ∀ q ∈ ([(0, (2, 0, 0, [150])), (1, (2, 0, 0, [150])), (2, (0, 0, 75, [])), (3, (0, 1, 75, [])), (4, (2, 0, 0, [223])), (5, (0, 2, 76, [])), (6, (2, 0, 0, [224])), (7, (0, 76, 76, [])), (8, (0, 0, 5700, [])), (9, (0, 1, 5775, [])), (10, (0, 1, 1, [])), (11, (0, 0, 5774, [])), (12, (0, 0, 23, [])), (13, (0, 76, 76, [])), (14, (0, 0, 5700, [])), (15, (0, 1, 5775, [])), (16, (0, 0, 75, [])), (17, (0, 1, 9, [])), (18, (0, 0, 0, [])), (19, (0, 1, 9, [])), (20, (0, 2, 2, [])), (21, (0, 3, 11, []))] : List (Nat × tv_T)), tv_ok ta q.2 (n_v vs q.1) := hk
  obtain ⟨t0, hk⟩ := List.forall_mem_cons.mp hk
  have t0 : tv_ok ta (2, 0, 0, [150]) (n_v vs 0) := t0
  have r0 : ta (v_ad (n_v vs 0)) = some 150 := tv_rg t0
  obtain ⟨t1, hk⟩ := List.forall_mem_cons.mp hk
  have t1 : tv_ok ta (2, 0, 0, [150]) (n_v vs 1) := t1
  have r1 : ta (v_ad (n_v vs 1)) = some 150 := tv_rg t1
  obtain ⟨t2, hk⟩ := List.forall_mem_cons.mp hk
  have t2 : tv_ok ta (0, 0, 75, []) (n_v vs 2) := t2
  have k2 : 0 ≤ v_iv (n_v vs 2) ∧ v_iv (n_v vs 2) ≤ 75 := tv_rng t2
  obtain ⟨t3, hk⟩ := List.forall_mem_cons.mp hk
  have t3 : tv_ok ta (0, 1, 75, []) (n_v vs 3) := t3
  have k3 : 1 ≤ v_iv (n_v vs 3) ∧ v_iv (n_v vs 3) ≤ 75 := tv_rng t3
  obtain ⟨t4, hk⟩ := List.forall_mem_cons.mp hk
  have t4 : tv_ok ta (2, 0, 0, [223]) (n_v vs 4) := t4
  have r4 : ta (v_ad (n_v vs 4)) = some 223 := tv_rg t4
  obtain ⟨t5, hk⟩ := List.forall_mem_cons.mp hk
  have t5 : tv_ok ta (0, 2, 76, []) (n_v vs 5) := t5
  have k5 : 2 ≤ v_iv (n_v vs 5) ∧ v_iv (n_v vs 5) ≤ 76 := tv_rng t5
  obtain ⟨t6, hk⟩ := List.forall_mem_cons.mp hk
  have t6 : tv_ok ta (2, 0, 0, [224]) (n_v vs 6) := t6
  have r6 : ta (v_ad (n_v vs 6)) = some 224 := tv_rg t6
  obtain ⟨t7, hk⟩ := List.forall_mem_cons.mp hk
  have t7 : tv_ok ta (0, 76, 76, []) (n_v vs 7) := t7
  have k7 : 76 ≤ v_iv (n_v vs 7) ∧ v_iv (n_v vs 7) ≤ 76 := tv_rng t7
  obtain ⟨t8, hk⟩ := List.forall_mem_cons.mp hk
  have t8 : tv_ok ta (0, 0, 5700, []) (n_v vs 8) := t8
  have k8 : 0 ≤ v_iv (n_v vs 8) ∧ v_iv (n_v vs 8) ≤ 5700 := tv_rng t8
  obtain ⟨t9, hk⟩ := List.forall_mem_cons.mp hk
  have t9 : tv_ok ta (0, 1, 5775, []) (n_v vs 9) := t9
  have k9 : 1 ≤ v_iv (n_v vs 9) ∧ v_iv (n_v vs 9) ≤ 5775 := tv_rng t9
  obtain ⟨t10, hk⟩ := List.forall_mem_cons.mp hk
  have t10 : tv_ok ta (0, 1, 1, []) (n_v vs 10) := t10
  have k10 : 1 ≤ v_iv (n_v vs 10) ∧ v_iv (n_v vs 10) ≤ 1 := tv_rng t10
  obtain ⟨t11, hk⟩ := List.forall_mem_cons.mp hk
  have t11 : tv_ok ta (0, 0, 5774, []) (n_v vs 11) := t11
  have k11 : 0 ≤ v_iv (n_v vs 11) ∧ v_iv (n_v vs 11) ≤ 5774 := tv_rng t11
  obtain ⟨t12, hk⟩ := List.forall_mem_cons.mp hk
  have t12 : tv_ok ta (0, 0, 23, []) (n_v vs 12) := t12
  have k12 : 0 ≤ v_iv (n_v vs 12) ∧ v_iv (n_v vs 12) ≤ 23 := tv_rng t12
  obtain ⟨t13, hk⟩ := List.forall_mem_cons.mp hk
  have t13 : tv_ok ta (0, 76, 76, []) (n_v vs 13) := t13
  have k13 : 76 ≤ v_iv (n_v vs 13) ∧ v_iv (n_v vs 13) ≤ 76 := tv_rng t13
  obtain ⟨t14, hk⟩ := List.forall_mem_cons.mp hk
  have t14 : tv_ok ta (0, 0, 5700, []) (n_v vs 14) := t14
  have k14 : 0 ≤ v_iv (n_v vs 14) ∧ v_iv (n_v vs 14) ≤ 5700 := tv_rng t14
  obtain ⟨t15, hk⟩ := List.forall_mem_cons.mp hk
  have t15 : tv_ok ta (0, 1, 5775, []) (n_v vs 15) := t15
  have k15 : 1 ≤ v_iv (n_v vs 15) ∧ v_iv (n_v vs 15) ≤ 5775 := tv_rng t15
  obtain ⟨t16, hk⟩ := List.forall_mem_cons.mp hk
  have t16 : tv_ok ta (0, 0, 75, []) (n_v vs 16) := t16
  have k16 : 0 ≤ v_iv (n_v vs 16) ∧ v_iv (n_v vs 16) ≤ 75 := tv_rng t16
  obtain ⟨t17, hk⟩ := List.forall_mem_cons.mp hk
  have t17 : tv_ok ta (0, 1, 9, []) (n_v vs 17) := t17
  have k17 : 1 ≤ v_iv (n_v vs 17) ∧ v_iv (n_v vs 17) ≤ 9 := tv_rng t17
  obtain ⟨t18, hk⟩ := List.forall_mem_cons.mp hk
  have t18 : tv_ok ta (0, 0, 0, []) (n_v vs 18) := t18
  have k18 : 0 ≤ v_iv (n_v vs 18) ∧ v_iv (n_v vs 18) ≤ 0 := tv_rng t18
  obtain ⟨t19, hk⟩ := List.forall_mem_cons.mp hk
  have t19 : tv_ok ta (0, 1, 9, []) (n_v vs 19) := t19
  have k19 : 1 ≤ v_iv (n_v vs 19) ∧ v_iv (n_v vs 19) ≤ 9 := tv_rng t19
  obtain ⟨t20, hk⟩ := List.forall_mem_cons.mp hk
  have t20 : tv_ok ta (0, 2, 2, []) (n_v vs 20) := t20
  have k20 : 2 ≤ v_iv (n_v vs 20) ∧ v_iv (n_v vs 20) ≤ 2 := tv_rng t20
  obtain ⟨t21, hk⟩ := List.forall_mem_cons.mp hk
  have t21 : tv_ok ta (0, 3, 11, []) (n_v vs 21) := t21
  have k21 : 3 ≤ v_iv (n_v vs 21) ∧ v_iv (n_v vs 21) ≤ 11 := tv_rng t21
  have hds : ∀ q ∈ ([(21, 19, 2, 2), (21, 17, 2, 2), (19, 17, 0, 0), (15, 3, 0, 5700), (15, 5, -4294967296, 5699), (15, 14, 1, 75), (11, 9, -1, -1), (11, 3, -1, 5699), (11, 5, -4294967296, 5698), (11, 8, 0, 74), (9, 3, 0, 5700), (9, 5, -4294967296, 5699), (9, 8, 1, 75), (3, 5, -4294967296, -1)] : List of_T), n_iv vs q.2.1 + q.2.2.1 ≤ n_iv vs q.1 ∧ n_iv vs q.1 ≤ n_iv vs q.2.1 + q.2.2.2 := hds
  obtain ⟨d0, hds⟩ := List.forall_mem_cons.mp hds
  have d0 : v_iv (n_v vs 19) + 2 ≤ v_iv (n_v vs 21) ∧ v_iv (n_v vs 21) ≤ v_iv (n_v vs 19) + 2 := d0
  obtain ⟨d1, hds⟩ := List.forall_mem_cons.mp hds
  have d1 : v_iv (n_v vs 17) + 2 ≤ v_iv (n_v vs 21) ∧ v_iv (n_v vs 21) ≤ v_iv (n_v vs 17) + 2 := d1
  obtain ⟨d2, hds⟩ := List.forall_mem_cons.mp hds
  have d2 : v_iv (n_v vs 17) + 0 ≤ v_iv (n_v vs 19) ∧ v_iv (n_v vs 19) ≤ v_iv (n_v vs 17) + 0 := d2
  obtain ⟨d3, hds⟩ := List.forall_mem_cons.mp hds
  have d3 : v_iv (n_v vs 3) + 0 ≤ v_iv (n_v vs 15) ∧ v_iv (n_v vs 15) ≤ v_iv (n_v vs 3) + 5700 := d3
  obtain ⟨d4, hds⟩ := List.forall_mem_cons.mp hds
  have d4 : v_iv (n_v vs 5) + (-4294967296) ≤ v_iv (n_v vs 15) ∧ v_iv (n_v vs 15) ≤ v_iv (n_v vs 5) + 5699 := d4
  obtain ⟨d5, hds⟩ := List.forall_mem_cons.mp hds
  have d5 : v_iv (n_v vs 14) + 1 ≤ v_iv (n_v vs 15) ∧ v_iv (n_v vs 15) ≤ v_iv (n_v vs 14) + 75 := d5
  obtain ⟨d6, hds⟩ := List.forall_mem_cons.mp hds
  have d6 : v_iv (n_v vs 9) + (-1) ≤ v_iv (n_v vs 11) ∧ v_iv (n_v vs 11) ≤ v_iv (n_v vs 9) + (-1) := d6
  obtain ⟨d7, hds⟩ := List.forall_mem_cons.mp hds
  have d7 : v_iv (n_v vs 3) + (-1) ≤ v_iv (n_v vs 11) ∧ v_iv (n_v vs 11) ≤ v_iv (n_v vs 3) + 5699 := d7
  obtain ⟨d8, hds⟩ := List.forall_mem_cons.mp hds
  have d8 : v_iv (n_v vs 5) + (-4294967296) ≤ v_iv (n_v vs 11) ∧ v_iv (n_v vs 11) ≤ v_iv (n_v vs 5) + 5698 := d8
  obtain ⟨d9, hds⟩ := List.forall_mem_cons.mp hds
  have d9 : v_iv (n_v vs 8) + 0 ≤ v_iv (n_v vs 11) ∧ v_iv (n_v vs 11) ≤ v_iv (n_v vs 8) + 74 := d9
  obtain ⟨d10, hds⟩ := List.forall_mem_cons.mp hds
  have d10 : v_iv (n_v vs 3) + 0 ≤ v_iv (n_v vs 9) ∧ v_iv (n_v vs 9) ≤ v_iv (n_v vs 3) + 5700 := d10
  obtain ⟨d11, hds⟩ := List.forall_mem_cons.mp hds
  have d11 : v_iv (n_v vs 5) + (-4294967296) ≤ v_iv (n_v vs 9) ∧ v_iv (n_v vs 9) ≤ v_iv (n_v vs 5) + 5699 := d11
  obtain ⟨d12, hds⟩ := List.forall_mem_cons.mp hds
  have d12 : v_iv (n_v vs 8) + 1 ≤ v_iv (n_v vs 9) ∧ v_iv (n_v vs 9) ≤ v_iv (n_v vs 8) + 75 := d12
  obtain ⟨d13, hds⟩ := List.forall_mem_cons.mp hds
  have d13 : v_iv (n_v vs 5) + (-4294967296) ≤ v_iv (n_v vs 3) ∧ v_iv (n_v vs 3) ≤ v_iv (n_v vs 5) + (-1) := d13
  have hf : fc_ok PRD [(1, [21, 19, 20], []), (1, [19, 17, 18], []), (20, [18], [50, 0, 0, 2, 6, 0, 2, 0, 0, 1, 0, 0, 2, 1, 0, 0, 100]), (20, [17], [50, 0, 0, 2, 6, 0, 2, 0, 0, 1, 0, 0, 2, 1, 0, 0, 100]), (10, [16, 6, 15], []), (1, [15, 14, 3], []), (3, [14, 13, 2], []), (9, [6, 1], [106]), (10, [12, 6, 11], []), (2, [11, 9, 10], []), (1, [9, 8, 3], []), (3, [8, 7, 2], []), (7, [3, 5], [2]), (10, [5, 4, 2], []), (9, [4, 1], [105]), (20, [1], [60, 4, 6, 369, 5, 100, 101, 107, 2, 95, 102, 104, 108, 109]), (20, [1], [60, 2, 3, 372, 100, 101, 102, 105, 106]), (20, [1], [60, 1, 1, 122, 5, 2]), (20, [1], [50, 2, 0, 79, 100, 1, 3, 2, 0, 79, 2, 0, 100]), (20, [1], [60, 2, 4, 380, 79, 80, 83, 84, 85, 86]), (20, [1], [50, 1, 0, 80, 0, 3, 2, 0, 80, 0, 130]), (20, [1, 2, 3], [60, 2, 5, 393, 81, 101, 105, 106, 87, 88, 89]), (20, [1], [50, 1, 0, 81, 0, 3, 2, 0, 81, 0, 76]), (20, [2, 1], [50, 1, 0, 1101, 0, 6, 4, 2, 1, 0, 0, 1, 2, 1, 101]), (20, [3], [50, 0, 0, 0, 2, 0, 1, 1, 0]), (24, [0, 1], [])] ta ws vs := hf
  obtain ⟨f0, hf⟩ := fc_un (show (1 : Nat) < 100 from by decide) hf
  have f0 : v_iv (n_v vs 21) = v_iv (n_v vs 19) + v_iv (n_v vs 20) := f0
  obtain ⟨f1, hf⟩ := fc_un (show (1 : Nat) < 100 from by decide) hf
  have f1 : v_iv (n_v vs 19) = v_iv (n_v vs 17) + v_iv (n_v vs 18) := f1
  obtain ⟨f2, hf⟩ := fc_un (show (20 : Nat) < 100 from by decide) hf
  have f2 : (0 ≤ v_iv (n_v vs 18)) ∧ (v_iv (n_v vs 18) ≤ 100) := f2
  obtain ⟨f3, hf⟩ := fc_un (show (20 : Nat) < 100 from by decide) hf
  have f3 : (0 ≤ v_iv (n_v vs 17)) ∧ (v_iv (n_v vs 17) ≤ 100) := f3
  obtain ⟨f4, hf⟩ := fc_un (show (10 : Nat) < 100 from by decide) hf
  have f4 : v_iv (n_v vs 16) = w_el ws (v_ad (n_v vs 6)) (v_iv (n_v vs 15)).toNat := f4
  obtain ⟨f5, hf⟩ := fc_un (show (1 : Nat) < 100 from by decide) hf
  have f5 : v_iv (n_v vs 15) = v_iv (n_v vs 14) + v_iv (n_v vs 3) := f5
  obtain ⟨f6, hf⟩ := fc_un (show (3 : Nat) < 100 from by decide) hf
  have f6 : v_iv (n_v vs 14) = v_iv (n_v vs 13) * v_iv (n_v vs 2) := f6
  rw [show v_iv (n_v vs 13) = 76 from by omega] at f6
  obtain ⟨f7, hf⟩ := fc_un (show (9 : Nat) < 100 from by decide) hf
  have f7 : n_v vs 6 = w_fd ws (v_ad (n_v vs 1)) 106 := f7
  obtain ⟨f8, hf⟩ := fc_un (show (10 : Nat) < 100 from by decide) hf
  have f8 : v_iv (n_v vs 12) = w_el ws (v_ad (n_v vs 6)) (v_iv (n_v vs 11)).toNat := f8
  obtain ⟨f9, hf⟩ := fc_un (show (2 : Nat) < 100 from by decide) hf
  have f9 : v_iv (n_v vs 11) = v_iv (n_v vs 9) - v_iv (n_v vs 10) := f9
  obtain ⟨f10, hf⟩ := fc_un (show (1 : Nat) < 100 from by decide) hf
  have f10 : v_iv (n_v vs 9) = v_iv (n_v vs 8) + v_iv (n_v vs 3) := f10
  obtain ⟨f11, hf⟩ := fc_un (show (3 : Nat) < 100 from by decide) hf
  have f11 : v_iv (n_v vs 8) = v_iv (n_v vs 7) * v_iv (n_v vs 2) := f11
  rw [show v_iv (n_v vs 7) = 76 from by omega] at f11
  obtain ⟨f12, hf⟩ := fc_un (show (7 : Nat) < 100 from by decide) hf
  have f12 : v_iv (n_v vs 3) < v_iv (n_v vs 5) := f12
  obtain ⟨f13, hf⟩ := fc_un (show (10 : Nat) < 100 from by decide) hf
  have f13 : v_iv (n_v vs 5) = w_el ws (v_ad (n_v vs 4)) (v_iv (n_v vs 2)).toNat := f13
  obtain ⟨f14, hf⟩ := fc_un (show (9 : Nat) < 100 from by decide) hf
  have f14 : n_v vs 4 = w_fd ws (v_ad (n_v vs 1)) 105 := f14
  obtain ⟨f15, hf⟩ := fc_un (show (20 : Nat) < 100 from by decide) hf
  have f15 : LSA (w_fi ws (n_v vs 1) 5) (w_fi ws (n_v vs 1) 100) (w_fi ws (n_v vs 1) 101) (w_fi ws (n_v vs 1) 107) (w_ei ws (w_ar ws (n_v vs 1) 2)) (w_ei ws (w_ar ws (n_v vs 1) 95)) (w_ei ws (w_ar ws (n_v vs 1) 102)) (w_ei ws (w_ar ws (n_v vs 1) 104)) (w_ei ws (w_ar ws (n_v vs 1) 108)) (w_ei ws (w_ar ws (n_v vs 1) 109)) := f15
  obtain ⟨f16, hf⟩ := fc_un (show (20 : Nat) < 100 from by decide) hf
  have f16 : LSB (w_fi ws (n_v vs 1) 100) (w_fi ws (n_v vs 1) 101) (w_ei ws (w_ar ws (n_v vs 1) 102)) (w_ei ws (w_ar ws (n_v vs 1) 105)) (w_ei ws (w_ar ws (n_v vs 1) 106)) := f16
  obtain ⟨f17, hf⟩ := fc_un (show (20 : Nat) < 100 from by decide) hf
  have f17 : SGR (w_fi ws (n_v vs 1) 5) (w_ei ws (w_ar ws (n_v vs 1) 2)) := f17
  obtain ⟨f18, hf⟩ := fc_un (show (20 : Nat) < 100 from by decide) hf
  have f18 : w_fi ws (n_v vs 1) 79 = w_fi ws (n_v vs 1) 100 := f18
  obtain ⟨f19, hf⟩ := fc_un (show (20 : Nat) < 100 from by decide) hf
  have f19 : PCQ (w_fi ws (n_v vs 1) 79) (w_fi ws (n_v vs 1) 80) (w_ei ws (w_ar ws (n_v vs 1) 83)) (w_ei ws (w_ar ws (n_v vs 1) 84)) (w_ei ws (w_ar ws (n_v vs 1) 85)) (w_ei ws (w_ar ws (n_v vs 1) 86)) := f19
  obtain ⟨f20, hf⟩ := fc_un (show (20 : Nat) < 100 from by decide) hf
  have f20 : w_fi ws (n_v vs 1) 80 ≤ 130 := f20
  obtain ⟨f21, hf⟩ := fc_un (show (20 : Nat) < 100 from by decide) hf
  have f21 : PAL2 (w_fi ws (n_v vs 1) 81) (w_fi ws (n_v vs 1) 101) (w_ei ws (w_ar ws (n_v vs 1) 105)) (w_ei ws (w_ar ws (n_v vs 1) 106)) (w_ei ws (w_ar ws (n_v vs 1) 87)) (w_ei ws (w_ar ws (n_v vs 1) 88)) (w_ei ws (w_ar ws (n_v vs 1) 89)) (v_iv (n_v vs 2)) (v_iv (n_v vs 3)) := f21
  obtain ⟨f22, hf⟩ := fc_un (show (20 : Nat) < 100 from by decide) hf
  have f22 : w_fi ws (n_v vs 1) 81 ≤ 76 := f22
  obtain ⟨f23, hf⟩ := fc_un (show (20 : Nat) < 100 from by decide) hf
  have f23 : (v_iv (n_v vs 2) + 1) ≤ w_fi ws (n_v vs 1) 101 := f23
  obtain ⟨f24, hf⟩ := fc_un (show (20 : Nat) < 100 from by decide) hf
  have f24 : 1 ≤ v_iv (n_v vs 3) := f24
  obtain ⟨f25, hf⟩ := fc_un (show (24 : Nat) < 100 from by decide) hf
  have f25 : n_v vs 0 = n_v vs 1 := f25
  have q1 : n_v vs 1 = n_v vs 0 := f25.symm
  rw [q1] at f7
  rw [q1] at f14
  rw [q1] at f15
  rw [q1] at f16
  rw [q1] at f17
  rw [q1] at f18
  rw [q1] at f19
  rw [q1] at f20
  rw [q1] at f21
  rw [q1] at f22
  rw [q1] at f23
  have cr_0_2 : ta (w_ar ws (n_v vs 0) 2) = some 152 := tv_rg (th_fd hD hth r0 (g := GG_150) rfl (k := 2) (t := (2, 0, 0, [152])) rfl rfl)
  have cr_0_83 : ta (w_ar ws (n_v vs 0) 83) = some 205 := tv_rg (th_fd hD hth r0 (g := GG_150) rfl (k := 83) (t := (2, 0, 0, [205])) rfl rfl)
  have cr_0_84 : ta (w_ar ws (n_v vs 0) 84) = some 206 := tv_rg (th_fd hD hth r0 (g := GG_150) rfl (k := 84) (t := (2, 0, 0, [206])) rfl rfl)
  have cr_0_85 : ta (w_ar ws (n_v vs 0) 85) = some 207 := tv_rg (th_fd hD hth r0 (g := GG_150) rfl (k := 85) (t := (2, 0, 0, [207])) rfl rfl)
  have cr_0_86 : ta (w_ar ws (n_v vs 0) 86) = some 208 := tv_rg (th_fd hD hth r0 (g := GG_150) rfl (k := 86) (t := (2, 0, 0, [208])) rfl rfl)
  have cr_0_87 : ta (w_ar ws (n_v vs 0) 87) = some 209 := tv_rg (th_fd hD hth r0 (g := GG_150) rfl (k := 87) (t := (2, 0, 0, [209])) rfl rfl)
  have cr_0_88 : ta (w_ar ws (n_v vs 0) 88) = some 210 := tv_rg (th_fd hD hth r0 (g := GG_150) rfl (k := 88) (t := (2, 0, 0, [210])) rfl rfl)
  have cr_0_89 : ta (w_ar ws (n_v vs 0) 89) = some 211 := tv_rg (th_fd hD hth r0 (g := GG_150) rfl (k := 89) (t := (2, 0, 0, [211])) rfl rfl)
  have cr_0_95 : ta (w_ar ws (n_v vs 0) 95) = some 216 := tv_rg (th_fd hD hth r0 (g := GG_150) rfl (k := 95) (t := (2, 0, 0, [216])) rfl rfl)
  have cr_0_102 : ta (w_ar ws (n_v vs 0) 102) = some 220 := tv_rg (th_fd hD hth r0 (g := GG_150) rfl (k := 102) (t := (2, 0, 0, [220])) rfl rfl)
  have cr_0_104 : ta (w_ar ws (n_v vs 0) 104) = some 222 := tv_rg (th_fd hD hth r0 (g := GG_150) rfl (k := 104) (t := (2, 0, 0, [222])) rfl rfl)
  have cr_0_105 : ta (w_ar ws (n_v vs 0) 105) = some 223 := tv_rg (th_fd hD hth r0 (g := GG_150) rfl (k := 105) (t := (2, 0, 0, [223])) rfl rfl)
  have cr_0_106 : ta (w_ar ws (n_v vs 0) 106) = some 224 := tv_rg (th_fd hD hth r0 (g := GG_150) rfl (k := 106) (t := (2, 0, 0, [224])) rfl rfl)
  have cr_0_108 : ta (w_ar ws (n_v vs 0) 108) = some 225 := tv_rg (th_fd hD hth r0 (g := GG_150) rfl (k := 108) (t := (2, 0, 0, [225])) rfl rfl)
  have cr_0_109 : ta (w_ar ws (n_v vs 0) 109) = some 226 := tv_rg (th_fd hD hth r0 (g := GG_150) rfl (k := 109) (t := (2, 0, 0, [226])) rfl rfl)
  have ad_6 : v_ad (n_v vs 6) = w_ar ws (n_v vs 0) 106 := congrArg v_ad f7
  have ad_4 : v_ad (n_v vs 4) = w_ar ws (n_v vs 0) 105 := congrArg v_ad f14
  rw [ad_6] at f4
  have h4 : v_iv (n_v vs 16) = w_ei ws (w_ar ws (n_v vs 0) 106) (v_iv (n_v vs 15)) := f4
  rw [ad_6] at f8
  have h8 : v_iv (n_v vs 12) = w_ei ws (w_ar ws (n_v vs 0) 106) (v_iv (n_v vs 11)) := f8
  rw [ad_4] at f13
  have h13 : v_iv (n_v vs 5) = w_ei ws (w_ar ws (n_v vs 0) 105) (v_iv (n_v vs 2)) := f13
  have hK_0_83 : ∀ j : Int, 0 ≤ j → j < 200 → 0 ≤ w_ei ws (w_ar ws (n_v vs 0) 83) j ∧ w_ei ws (w_ar ws (n_v vs 0) 83) j ≤ 75 := fun j h0 h1 => th_el hD hth cr_0_83 (kd := 0) (n := 200) (m := 200) (lo := 0) (hi := 75) (rs := []) (L := []) rfl (by decide) (j := j.toNat) (by omega)
  have hK_0_84 : ∀ j : Int, 0 ≤ j → j < 200 → 0 ≤ w_ei ws (w_ar ws (n_v vs 0) 84) j ∧ w_ei ws (w_ar ws (n_v vs 0) 84) j ≤ 75 := fun j h0 h1 => th_el hD hth cr_0_84 (kd := 0) (n := 200) (m := 200) (lo := 0) (hi := 75) (rs := []) (L := []) rfl (by decide) (j := j.toNat) (by omega)
  have hK_0_85 : ∀ j : Int, 0 ≤ j → j < 200 → 0 ≤ w_ei ws (w_ar ws (n_v vs 0) 85) j ∧ w_ei ws (w_ar ws (n_v vs 0) 85) j ≤ 72 := fun j h0 h1 => th_el hD hth cr_0_85 (kd := 0) (n := 200) (m := 200) (lo := 0) (hi := 72) (rs := []) (L := []) rfl (by decide) (j := j.toNat) (by omega)
  have hK_0_86 : ∀ j : Int, 0 ≤ j → j < 200 → 0 ≤ w_ei ws (w_ar ws (n_v vs 0) 86) j ∧ w_ei ws (w_ar ws (n_v vs 0) 86) j ≤ 1 := fun j h0 h1 => th_el hD hth cr_0_86 (kd := 2) (n := 200) (m := 200) (lo := 0) (hi := 1) (rs := []) (L := []) rfl (by decide) (j := j.toNat) (by omega)
  have hK_0_87 : ∀ j : Int, 0 ≤ j → j < 200 → 0 ≤ w_ei ws (w_ar ws (n_v vs 0) 87) j ∧ w_ei ws (w_ar ws (n_v vs 0) 87) j ≤ 75 := fun j h0 h1 => th_el hD hth cr_0_87 (kd := 0) (n := 200) (m := 200) (lo := 0) (hi := 75) (rs := []) (L := []) rfl (by decide) (j := j.toNat) (by omega)
  have hK_0_88 : ∀ j : Int, 0 ≤ j → j < 200 → 0 ≤ w_ei ws (w_ar ws (n_v vs 0) 88) j ∧ w_ei ws (w_ar ws (n_v vs 0) 88) j ≤ 75 := fun j h0 h1 => th_el hD hth cr_0_88 (kd := 0) (n := 200) (m := 200) (lo := 0) (hi := 75) (rs := []) (L := []) rfl (by decide) (j := j.toNat) (by omega)
  have hK_0_89 : ∀ j : Int, 0 ≤ j → j < 200 → 0 ≤ w_ei ws (w_ar ws (n_v vs 0) 89) j ∧ w_ei ws (w_ar ws (n_v vs 0) 89) j ≤ 202 := fun j h0 h1 => th_el hD hth cr_0_89 (kd := 0) (n := 200) (m := 200) (lo := 0) (hi := 202) (rs := []) (L := []) rfl (by decide) (j := j.toNat) (by omega)
  have hK_0_95 : ∀ j : Int, 0 ≤ j → j < 48 → 0 ≤ w_ei ws (w_ar ws (n_v vs 0) 95) j ∧ w_ei ws (w_ar ws (n_v vs 0) 95) j ≤ 1 := fun j h0 h1 => th_el hD hth cr_0_95 (kd := 2) (n := 48) (m := 48) (lo := 0) (hi := 1) (rs := []) (L := []) rfl (by decide) (j := j.toNat) (by omega)
  have hK_0_102 : ∀ j : Int, 0 ≤ j → j < 76 → 0 ≤ w_ei ws (w_ar ws (n_v vs 0) 102) j ∧ w_ei ws (w_ar ws (n_v vs 0) 102) j ≤ 75 := fun j h0 h1 => th_el hD hth cr_0_102 (kd := 0) (n := 76) (m := 76) (lo := 0) (hi := 75) (rs := []) (L := []) rfl (by decide) (j := j.toNat) (by omega)
  have hK_0_104 : ∀ j : Int, 0 ≤ j → j < 48 → 0 ≤ w_ei ws (w_ar ws (n_v vs 0) 104) j ∧ w_ei ws (w_ar ws (n_v vs 0) 104) j ≤ 76 := fun j h0 h1 => th_el hD hth cr_0_104 (kd := 0) (n := 48) (m := 48) (lo := 0) (hi := 76) (rs := []) (L := []) rfl (by decide) (j := j.toNat) (by omega)
  have hK_0_105 : ∀ j : Int, 0 ≤ j → j < 76 → 0 ≤ w_ei ws (w_ar ws (n_v vs 0) 105) j ∧ w_ei ws (w_ar ws (n_v vs 0) 105) j ≤ 76 := fun j h0 h1 => th_el hD hth cr_0_105 (kd := 0) (n := 76) (m := 76) (lo := 0) (hi := 76) (rs := []) (L := []) rfl (by decide) (j := j.toNat) (by omega)
  have hK_0_106 : ∀ j : Int, 0 ≤ j → j < 5776 → 0 ≤ w_ei ws (w_ar ws (n_v vs 0) 106) j ∧ w_ei ws (w_ar ws (n_v vs 0) 106) j ≤ 75 := fun j h0 h1 => th_el hD hth cr_0_106 (kd := 0) (n := 5776) (m := 5776) (lo := 0) (hi := 75) (rs := []) (L := []) rfl (by decide) (j := j.toNat) (by omega)
  have hK_0_108 : ∀ j : Int, 0 ≤ j → j < 130 → 0 ≤ w_ei ws (w_ar ws (n_v vs 0) 108) j ∧ w_ei ws (w_ar ws (n_v vs 0) 108) j ≤ 75 := fun j h0 h1 => th_el hD hth cr_0_108 (kd := 0) (n := 130) (m := 130) (lo := 0) (hi := 75) (rs := []) (L := []) rfl (by decide) (j := j.toNat) (by omega)
  have hK_0_109 : ∀ j : Int, 0 ≤ j → j < 130 → 0 ≤ w_ei ws (w_ar ws (n_v vs 0) 109) j ∧ w_ei ws (w_ar ws (n_v vs 0) 109) j ≤ 75 := fun j h0 h1 => th_el hD hth cr_0_109 (kd := 0) (n := 130) (m := 130) (lo := 0) (hi := 75) (rs := []) (L := []) rfl (by decide) (j := j.toNat) (by omega)
  have kz_0_79 : 0 ≤ w_fi ws (n_v vs 0) 79 ∧ w_fi ws (n_v vs 0) 79 ≤ 76 := tv_rng (th_fd hD hth r0 (g := GG_150) rfl (k := 79) (t := (0, 0, 76, [])) rfl rfl)
  have kz_0_80 : 0 ≤ w_fi ws (n_v vs 0) 80 ∧ w_fi ws (n_v vs 0) 80 ≤ 200 := tv_rng (th_fd hD hth r0 (g := GG_150) rfl (k := 80) (t := (0, 0, 200, [])) rfl rfl)
  have kz_0_81 : 0 ≤ w_fi ws (n_v vs 0) 81 ∧ w_fi ws (n_v vs 0) 81 ≤ 200 := tv_rng (th_fd hD hth r0 (g := GG_150) rfl (k := 81) (t := (0, 0, 200, [])) rfl rfl)
  have kz_0_100 : 0 ≤ w_fi ws (n_v vs 0) 100 ∧ w_fi ws (n_v vs 0) 100 ≤ 76 := tv_rng (th_fd hD hth r0 (g := GG_150) rfl (k := 100) (t := (0, 0, 76, [])) rfl rfl)
  have kz_0_101 : 0 ≤ w_fi ws (n_v vs 0) 101 ∧ w_fi ws (n_v vs 0) 101 ≤ 76 := tv_rng (th_fd hD hth r0 (g := GG_150) rfl (k := 101) (t := (0, 0, 76, [])) rfl rfl)
  have kz_0_107 : 0 ≤ w_fi ws (n_v vs 0) 107 ∧ w_fi ws (n_v vs 0) 107 ≤ 130 := tv_rng (th_fd hD hth r0 (g := GG_150) rfl (k := 107) (t := (0, 0, 130, [])) rfl rfl)
  have kv0 : 0 ≤ w_fi ws (n_v vs 0) 81 ∧ w_fi ws (n_v vs 0) 81 ≤ 200 := tv_rng (th_fd hD hth r0 (g := GG_150) rfl (k := 81) (t := (0, 0, 200, [])) rfl rfl)
  obtain ⟨x, ex, hx⟩ := iv_ex (ta := ta) (lo := 0) (hi := 199) (z := w_fi ws (n_v vs 0) 81) (by omega) (by omega) (by omega) (by omega)
  have ex2 : v_iv (Value.int x) = w_fi ws (n_v vs 0) 81 := ex
  have ex3 : 0 ≤ v_iv (Value.int x) ∧ v_iv (Value.int x) ≤ 199 := tv_rng hx
  obtain ⟨y, ey, hy⟩ := iv_ex (ta := ta) (lo := 0) (hi := 75) (z := v_iv (n_v vs 2)) (by omega) (by omega) (by omega) (by omega)
  have ey2 : v_iv (Value.int y) = v_iv (n_v vs 2) := ey
  have ey3 : 0 ≤ v_iv (Value.int y) ∧ v_iv (Value.int y) ≤ 75 := tv_rng hy
  obtain ⟨u, eu, hu⟩ := iv_ex (ta := ta) (lo := 1) (hi := 75) (z := v_iv (n_v vs 3)) (by omega) (by omega) (by omega) (by omega)
  have eu2 : v_iv (Value.int u) = v_iv (n_v vs 3) := eu
  have eu3 : 1 ≤ v_iv (Value.int u) ∧ v_iv (Value.int u) ≤ 75 := tv_rng hu
  have e_1 : n_v (vs ++ [Value.int x, Value.int y, Value.int u]) 1 = n_v vs 1 := n_v_old (by rw [hl]; decide)
  have e_2 : n_v (vs ++ [Value.int x, Value.int y, Value.int u]) 2 = n_v vs 2 := n_v_old (by rw [hl]; decide)
  have e_3 : n_v (vs ++ [Value.int x, Value.int y, Value.int u]) 3 = n_v vs 3 := n_v_old (by rw [hl]; decide)
  have e_12 : n_v (vs ++ [Value.int x, Value.int y, Value.int u]) 12 = n_v vs 12 := n_v_old (by rw [hl]; decide)
  have e_16 : n_v (vs ++ [Value.int x, Value.int y, Value.int u]) 16 = n_v vs 16 := n_v_old (by rw [hl]; decide)
  have e_21 : n_v (vs ++ [Value.int x, Value.int y, Value.int u]) 21 = n_v vs 21 := n_v_old (by rw [hl]; decide)
  have e_22 : n_v (vs ++ [Value.int x, Value.int y, Value.int u]) 22 = Value.int x := n_v_newk (k := 0) hl rfl
  have e_23 : n_v (vs ++ [Value.int x, Value.int y, Value.int u]) 23 = Value.int y := n_v_newk (k := 1) hl rfl
  have e_24 : n_v (vs ++ [Value.int x, Value.int y, Value.int u]) 24 = Value.int u := n_v_newk (k := 2) hl rfl
  have nf0 : fc_1 PRD (23, [23, 2], [0, 1, -1]) ws (vs ++ [Value.int x, Value.int y, Value.int u]) := by
    refine ⟨fun n hn => ?_, ?_⟩
    · have hn : n ∈ [23, 2] := hn
      rw [List.length_append, hl]
      simp only [List.mem_cons, List.not_mem_nil, or_false] at hn
      show n < 22 + 3; omega
    · show 1 * v_iv (n_v (vs ++ [Value.int x, Value.int y, Value.int u]) 23) + ((-1) * v_iv (n_v (vs ++ [Value.int x, Value.int y, Value.int u]) 2) + 0) ≤ 0
      rw [e_2]
      rw [e_23]
      exact vc_Mo_across2_19_0 (v_iv (n_v vs 2)) (v_iv (n_v vs 3)) (v_iv (n_v vs 5)) (v_iv (n_v vs 7)) (v_iv (n_v vs 8)) (v_iv (n_v vs 9)) (v_iv (n_v vs 10)) (v_iv (n_v vs 11)) (v_iv (n_v vs 12)) (v_iv (n_v vs 13)) (v_iv (n_v vs 14)) (v_iv (n_v vs 15)) (v_iv (n_v vs 16)) (v_iv (n_v vs 17)) (v_iv (n_v vs 18)) (v_iv (n_v vs 19)) (v_iv (n_v vs 20)) (v_iv (n_v vs 21)) (w_ei ws (w_ar ws (n_v vs 0) 106)) (w_ei ws (w_ar ws (n_v vs 0) 105)) (w_ei ws (w_ar ws (n_v vs 0) 2)) (w_ei ws (w_ar ws (n_v vs 0) 95)) (w_ei ws (w_ar ws (n_v vs 0) 102)) (w_ei ws (w_ar ws (n_v vs 0) 104)) (w_ei ws (w_ar ws (n_v vs 0) 108)) (w_ei ws (w_ar ws (n_v vs 0) 109)) (w_fi ws (n_v vs 0) 5) (w_fi ws (n_v vs 0) 100) (w_fi ws (n_v vs 0) 101) (w_fi ws (n_v vs 0) 107) (w_fi ws (n_v vs 0) 79) (w_ei ws (w_ar ws (n_v vs 0) 83)) (w_ei ws (w_ar ws (n_v vs 0) 84)) (w_ei ws (w_ar ws (n_v vs 0) 85)) (w_ei ws (w_ar ws (n_v vs 0) 86)) (w_fi ws (n_v vs 0) 80) (w_ei ws (w_ar ws (n_v vs 0) 87)) (w_ei ws (w_ar ws (n_v vs 0) 88)) (w_ei ws (w_ar ws (n_v vs 0) 89)) (w_fi ws (n_v vs 0) 81) (v_iv (Value.int x)) (v_iv (Value.int y)) (v_iv (Value.int u)) k2 k3 k5 k7 k8 k9 k10 k11 k12 k13 k14 k15 k16 k17 k18 k19 k20 k21 d0 d1 d2 d3 d4 d5 d6 d7 d8 d9 d10 d11 d12 d13 f0 f1 f2 f3 h4 f5 f6 h8 f9 f10 f11 f12 h13 f15 f16 f17 f18 f19 f20 f21 f22 f23 f24 hK_0_83 hK_0_84 hK_0_85 hK_0_86 hK_0_87 hK_0_88 hK_0_89 hK_0_95 hK_0_102 hK_0_104 hK_0_105 hK_0_106 hK_0_108 hK_0_109 kz_0_79 kz_0_80 kz_0_81 kz_0_100 kz_0_101 kz_0_107 ex2 ex3 ey2 ey3 eu2 eu3
  have nf1 : fc_1 PRD (23, [23, 2], [0, -1, 1]) ws (vs ++ [Value.int x, Value.int y, Value.int u]) := by
    refine ⟨fun n hn => ?_, ?_⟩
    · have hn : n ∈ [23, 2] := hn
      rw [List.length_append, hl]
      simp only [List.mem_cons, List.not_mem_nil, or_false] at hn
      show n < 22 + 3; omega
    · show (-1) * v_iv (n_v (vs ++ [Value.int x, Value.int y, Value.int u]) 23) + (1 * v_iv (n_v (vs ++ [Value.int x, Value.int y, Value.int u]) 2) + 0) ≤ 0
      rw [e_2]
      rw [e_23]
      exact vc_Mo_across2_19_1 (v_iv (n_v vs 2)) (v_iv (n_v vs 3)) (v_iv (n_v vs 5)) (v_iv (n_v vs 7)) (v_iv (n_v vs 8)) (v_iv (n_v vs 9)) (v_iv (n_v vs 10)) (v_iv (n_v vs 11)) (v_iv (n_v vs 12)) (v_iv (n_v vs 13)) (v_iv (n_v vs 14)) (v_iv (n_v vs 15)) (v_iv (n_v vs 16)) (v_iv (n_v vs 17)) (v_iv (n_v vs 18)) (v_iv (n_v vs 19)) (v_iv (n_v vs 20)) (v_iv (n_v vs 21)) (w_ei ws (w_ar ws (n_v vs 0) 106)) (w_ei ws (w_ar ws (n_v vs 0) 105)) (w_ei ws (w_ar ws (n_v vs 0) 2)) (w_ei ws (w_ar ws (n_v vs 0) 95)) (w_ei ws (w_ar ws (n_v vs 0) 102)) (w_ei ws (w_ar ws (n_v vs 0) 104)) (w_ei ws (w_ar ws (n_v vs 0) 108)) (w_ei ws (w_ar ws (n_v vs 0) 109)) (w_fi ws (n_v vs 0) 5) (w_fi ws (n_v vs 0) 100) (w_fi ws (n_v vs 0) 101) (w_fi ws (n_v vs 0) 107) (w_fi ws (n_v vs 0) 79) (w_ei ws (w_ar ws (n_v vs 0) 83)) (w_ei ws (w_ar ws (n_v vs 0) 84)) (w_ei ws (w_ar ws (n_v vs 0) 85)) (w_ei ws (w_ar ws (n_v vs 0) 86)) (w_fi ws (n_v vs 0) 80) (w_ei ws (w_ar ws (n_v vs 0) 87)) (w_ei ws (w_ar ws (n_v vs 0) 88)) (w_ei ws (w_ar ws (n_v vs 0) 89)) (w_fi ws (n_v vs 0) 81) (v_iv (Value.int x)) (v_iv (Value.int y)) (v_iv (Value.int u)) k2 k3 k5 k7 k8 k9 k10 k11 k12 k13 k14 k15 k16 k17 k18 k19 k20 k21 d0 d1 d2 d3 d4 d5 d6 d7 d8 d9 d10 d11 d12 d13 f0 f1 f2 f3 h4 f5 f6 h8 f9 f10 f11 f12 h13 f15 f16 f17 f18 f19 f20 f21 f22 f23 f24 hK_0_83 hK_0_84 hK_0_85 hK_0_86 hK_0_87 hK_0_88 hK_0_89 hK_0_95 hK_0_102 hK_0_104 hK_0_105 hK_0_106 hK_0_108 hK_0_109 kz_0_79 kz_0_80 kz_0_81 kz_0_100 kz_0_101 kz_0_107 ex2 ex3 ey2 ey3 eu2 eu3
  have nf2 : fc_1 PRD (23, [24, 3], [0, 1, -1]) ws (vs ++ [Value.int x, Value.int y, Value.int u]) := by
    refine ⟨fun n hn => ?_, ?_⟩
    · have hn : n ∈ [24, 3] := hn
      rw [List.length_append, hl]
      simp only [List.mem_cons, List.not_mem_nil, or_false] at hn
      show n < 22 + 3; omega
    · show 1 * v_iv (n_v (vs ++ [Value.int x, Value.int y, Value.int u]) 24) + ((-1) * v_iv (n_v (vs ++ [Value.int x, Value.int y, Value.int u]) 3) + 0) ≤ 0
      rw [e_3]
      rw [e_24]
      exact vc_Mo_across2_19_2 (v_iv (n_v vs 2)) (v_iv (n_v vs 3)) (v_iv (n_v vs 5)) (v_iv (n_v vs 7)) (v_iv (n_v vs 8)) (v_iv (n_v vs 9)) (v_iv (n_v vs 10)) (v_iv (n_v vs 11)) (v_iv (n_v vs 12)) (v_iv (n_v vs 13)) (v_iv (n_v vs 14)) (v_iv (n_v vs 15)) (v_iv (n_v vs 16)) (v_iv (n_v vs 17)) (v_iv (n_v vs 18)) (v_iv (n_v vs 19)) (v_iv (n_v vs 20)) (v_iv (n_v vs 21)) (w_ei ws (w_ar ws (n_v vs 0) 106)) (w_ei ws (w_ar ws (n_v vs 0) 105)) (w_ei ws (w_ar ws (n_v vs 0) 2)) (w_ei ws (w_ar ws (n_v vs 0) 95)) (w_ei ws (w_ar ws (n_v vs 0) 102)) (w_ei ws (w_ar ws (n_v vs 0) 104)) (w_ei ws (w_ar ws (n_v vs 0) 108)) (w_ei ws (w_ar ws (n_v vs 0) 109)) (w_fi ws (n_v vs 0) 5) (w_fi ws (n_v vs 0) 100) (w_fi ws (n_v vs 0) 101) (w_fi ws (n_v vs 0) 107) (w_fi ws (n_v vs 0) 79) (w_ei ws (w_ar ws (n_v vs 0) 83)) (w_ei ws (w_ar ws (n_v vs 0) 84)) (w_ei ws (w_ar ws (n_v vs 0) 85)) (w_ei ws (w_ar ws (n_v vs 0) 86)) (w_fi ws (n_v vs 0) 80) (w_ei ws (w_ar ws (n_v vs 0) 87)) (w_ei ws (w_ar ws (n_v vs 0) 88)) (w_ei ws (w_ar ws (n_v vs 0) 89)) (w_fi ws (n_v vs 0) 81) (v_iv (Value.int x)) (v_iv (Value.int y)) (v_iv (Value.int u)) k2 k3 k5 k7 k8 k9 k10 k11 k12 k13 k14 k15 k16 k17 k18 k19 k20 k21 d0 d1 d2 d3 d4 d5 d6 d7 d8 d9 d10 d11 d12 d13 f0 f1 f2 f3 h4 f5 f6 h8 f9 f10 f11 f12 h13 f15 f16 f17 f18 f19 f20 f21 f22 f23 f24 hK_0_83 hK_0_84 hK_0_85 hK_0_86 hK_0_87 hK_0_88 hK_0_89 hK_0_95 hK_0_102 hK_0_104 hK_0_105 hK_0_106 hK_0_108 hK_0_109 kz_0_79 kz_0_80 kz_0_81 kz_0_100 kz_0_101 kz_0_107 ex2 ex3 ey2 ey3 eu2 eu3
  have nf3 : fc_1 PRD (23, [24, 3], [0, -1, 1]) ws (vs ++ [Value.int x, Value.int y, Value.int u]) := by
    refine ⟨fun n hn => ?_, ?_⟩
    · have hn : n ∈ [24, 3] := hn
      rw [List.length_append, hl]
      simp only [List.mem_cons, List.not_mem_nil, or_false] at hn
      show n < 22 + 3; omega
    · show (-1) * v_iv (n_v (vs ++ [Value.int x, Value.int y, Value.int u]) 24) + (1 * v_iv (n_v (vs ++ [Value.int x, Value.int y, Value.int u]) 3) + 0) ≤ 0
      rw [e_3]
      rw [e_24]
      exact vc_Mo_across2_19_3 (v_iv (n_v vs 2)) (v_iv (n_v vs 3)) (v_iv (n_v vs 5)) (v_iv (n_v vs 7)) (v_iv (n_v vs 8)) (v_iv (n_v vs 9)) (v_iv (n_v vs 10)) (v_iv (n_v vs 11)) (v_iv (n_v vs 12)) (v_iv (n_v vs 13)) (v_iv (n_v vs 14)) (v_iv (n_v vs 15)) (v_iv (n_v vs 16)) (v_iv (n_v vs 17)) (v_iv (n_v vs 18)) (v_iv (n_v vs 19)) (v_iv (n_v vs 20)) (v_iv (n_v vs 21)) (w_ei ws (w_ar ws (n_v vs 0) 106)) (w_ei ws (w_ar ws (n_v vs 0) 105)) (w_ei ws (w_ar ws (n_v vs 0) 2)) (w_ei ws (w_ar ws (n_v vs 0) 95)) (w_ei ws (w_ar ws (n_v vs 0) 102)) (w_ei ws (w_ar ws (n_v vs 0) 104)) (w_ei ws (w_ar ws (n_v vs 0) 108)) (w_ei ws (w_ar ws (n_v vs 0) 109)) (w_fi ws (n_v vs 0) 5) (w_fi ws (n_v vs 0) 100) (w_fi ws (n_v vs 0) 101) (w_fi ws (n_v vs 0) 107) (w_fi ws (n_v vs 0) 79) (w_ei ws (w_ar ws (n_v vs 0) 83)) (w_ei ws (w_ar ws (n_v vs 0) 84)) (w_ei ws (w_ar ws (n_v vs 0) 85)) (w_ei ws (w_ar ws (n_v vs 0) 86)) (w_fi ws (n_v vs 0) 80) (w_ei ws (w_ar ws (n_v vs 0) 87)) (w_ei ws (w_ar ws (n_v vs 0) 88)) (w_ei ws (w_ar ws (n_v vs 0) 89)) (w_fi ws (n_v vs 0) 81) (v_iv (Value.int x)) (v_iv (Value.int y)) (v_iv (Value.int u)) k2 k3 k5 k7 k8 k9 k10 k11 k12 k13 k14 k15 k16 k17 k18 k19 k20 k21 d0 d1 d2 d3 d4 d5 d6 d7 d8 d9 d10 d11 d12 d13 f0 f1 f2 f3 h4 f5 f6 h8 f9 f10 f11 f12 h13 f15 f16 f17 f18 f19 f20 f21 f22 f23 f24 hK_0_83 hK_0_84 hK_0_85 hK_0_86 hK_0_87 hK_0_88 hK_0_89 hK_0_95 hK_0_102 hK_0_104 hK_0_105 hK_0_106 hK_0_108 hK_0_109 kz_0_79 kz_0_80 kz_0_81 kz_0_100 kz_0_101 kz_0_107 ex2 ex3 ey2 ey3 eu2 eu3
  have nf4 : fc_1 PRD (20, [1, 22], [50, 1, 0, 81, 1, 3, 2, 0, 81, 1, 1]) ws (vs ++ [Value.int x, Value.int y, Value.int u]) := by
    refine ⟨fun n hn => ?_, ?_⟩
    · have hn : n ∈ [1, 22] := hn
      rw [List.length_append, hl]
      simp only [List.mem_cons, List.not_mem_nil, or_false] at hn
      show n < 22 + 3; omega
    · show w_fi ws (n_v (vs ++ [Value.int x, Value.int y, Value.int u]) 1) 81 = v_iv (n_v (vs ++ [Value.int x, Value.int y, Value.int u]) 22)
      rw [e_1]
      rw [e_22]
      rw [q1]
      exact vc_Mo_across2_19_4 (v_iv (n_v vs 2)) (v_iv (n_v vs 3)) (v_iv (n_v vs 5)) (v_iv (n_v vs 7)) (v_iv (n_v vs 8)) (v_iv (n_v vs 9)) (v_iv (n_v vs 10)) (v_iv (n_v vs 11)) (v_iv (n_v vs 12)) (v_iv (n_v vs 13)) (v_iv (n_v vs 14)) (v_iv (n_v vs 15)) (v_iv (n_v vs 16)) (v_iv (n_v vs 17)) (v_iv (n_v vs 18)) (v_iv (n_v vs 19)) (v_iv (n_v vs 20)) (v_iv (n_v vs 21)) (w_ei ws (w_ar ws (n_v vs 0) 106)) (w_ei ws (w_ar ws (n_v vs 0) 105)) (w_ei ws (w_ar ws (n_v vs 0) 2)) (w_ei ws (w_ar ws (n_v vs 0) 95)) (w_ei ws (w_ar ws (n_v vs 0) 102)) (w_ei ws (w_ar ws (n_v vs 0) 104)) (w_ei ws (w_ar ws (n_v vs 0) 108)) (w_ei ws (w_ar ws (n_v vs 0) 109)) (w_fi ws (n_v vs 0) 5) (w_fi ws (n_v vs 0) 100) (w_fi ws (n_v vs 0) 101) (w_fi ws (n_v vs 0) 107) (w_fi ws (n_v vs 0) 79) (w_ei ws (w_ar ws (n_v vs 0) 83)) (w_ei ws (w_ar ws (n_v vs 0) 84)) (w_ei ws (w_ar ws (n_v vs 0) 85)) (w_ei ws (w_ar ws (n_v vs 0) 86)) (w_fi ws (n_v vs 0) 80) (w_ei ws (w_ar ws (n_v vs 0) 87)) (w_ei ws (w_ar ws (n_v vs 0) 88)) (w_ei ws (w_ar ws (n_v vs 0) 89)) (w_fi ws (n_v vs 0) 81) (v_iv (Value.int x)) (v_iv (Value.int y)) (v_iv (Value.int u)) k2 k3 k5 k7 k8 k9 k10 k11 k12 k13 k14 k15 k16 k17 k18 k19 k20 k21 d0 d1 d2 d3 d4 d5 d6 d7 d8 d9 d10 d11 d12 d13 f0 f1 f2 f3 h4 f5 f6 h8 f9 f10 f11 f12 h13 f15 f16 f17 f18 f19 f20 f21 f22 f23 f24 hK_0_83 hK_0_84 hK_0_85 hK_0_86 hK_0_87 hK_0_88 hK_0_89 hK_0_95 hK_0_102 hK_0_104 hK_0_105 hK_0_106 hK_0_108 hK_0_109 kz_0_79 kz_0_80 kz_0_81 kz_0_100 kz_0_101 kz_0_107 ex2 ex3 ey2 ey3 eu2 eu3
  have nf5 : fc_1 PRD (20, [1, 23, 24], [60, 2, 5, 393, 81, 101, 105, 106, 87, 88, 89]) ws (vs ++ [Value.int x, Value.int y, Value.int u]) := by
    refine ⟨fun n hn => ?_, ?_⟩
    · have hn : n ∈ [1, 23, 24] := hn
      rw [List.length_append, hl]
      simp only [List.mem_cons, List.not_mem_nil, or_false] at hn
      show n < 22 + 3; omega
    · show PAL2 (w_fi ws (n_v (vs ++ [Value.int x, Value.int y, Value.int u]) 1) 81) (w_fi ws (n_v (vs ++ [Value.int x, Value.int y, Value.int u]) 1) 101) (w_ei ws (w_ar ws (n_v (vs ++ [Value.int x, Value.int y, Value.int u]) 1) 105)) (w_ei ws (w_ar ws (n_v (vs ++ [Value.int x, Value.int y, Value.int u]) 1) 106)) (w_ei ws (w_ar ws (n_v (vs ++ [Value.int x, Value.int y, Value.int u]) 1) 87)) (w_ei ws (w_ar ws (n_v (vs ++ [Value.int x, Value.int y, Value.int u]) 1) 88)) (w_ei ws (w_ar ws (n_v (vs ++ [Value.int x, Value.int y, Value.int u]) 1) 89)) (v_iv (n_v (vs ++ [Value.int x, Value.int y, Value.int u]) 23)) (v_iv (n_v (vs ++ [Value.int x, Value.int y, Value.int u]) 24))
      rw [e_1]
      rw [e_23]
      rw [e_24]
      rw [q1]
      exact vc_Mo_across2_19_5 (v_iv (n_v vs 2)) (v_iv (n_v vs 3)) (v_iv (n_v vs 5)) (v_iv (n_v vs 7)) (v_iv (n_v vs 8)) (v_iv (n_v vs 9)) (v_iv (n_v vs 10)) (v_iv (n_v vs 11)) (v_iv (n_v vs 12)) (v_iv (n_v vs 13)) (v_iv (n_v vs 14)) (v_iv (n_v vs 15)) (v_iv (n_v vs 16)) (v_iv (n_v vs 17)) (v_iv (n_v vs 18)) (v_iv (n_v vs 19)) (v_iv (n_v vs 20)) (v_iv (n_v vs 21)) (w_ei ws (w_ar ws (n_v vs 0) 106)) (w_ei ws (w_ar ws (n_v vs 0) 105)) (w_ei ws (w_ar ws (n_v vs 0) 2)) (w_ei ws (w_ar ws (n_v vs 0) 95)) (w_ei ws (w_ar ws (n_v vs 0) 102)) (w_ei ws (w_ar ws (n_v vs 0) 104)) (w_ei ws (w_ar ws (n_v vs 0) 108)) (w_ei ws (w_ar ws (n_v vs 0) 109)) (w_fi ws (n_v vs 0) 5) (w_fi ws (n_v vs 0) 100) (w_fi ws (n_v vs 0) 101) (w_fi ws (n_v vs 0) 107) (w_fi ws (n_v vs 0) 79) (w_ei ws (w_ar ws (n_v vs 0) 83)) (w_ei ws (w_ar ws (n_v vs 0) 84)) (w_ei ws (w_ar ws (n_v vs 0) 85)) (w_ei ws (w_ar ws (n_v vs 0) 86)) (w_fi ws (n_v vs 0) 80) (w_ei ws (w_ar ws (n_v vs 0) 87)) (w_ei ws (w_ar ws (n_v vs 0) 88)) (w_ei ws (w_ar ws (n_v vs 0) 89)) (w_fi ws (n_v vs 0) 81) (v_iv (Value.int x)) (v_iv (Value.int y)) (v_iv (Value.int u)) k2 k3 k5 k7 k8 k9 k10 k11 k12 k13 k14 k15 k16 k17 k18 k19 k20 k21 d0 d1 d2 d3 d4 d5 d6 d7 d8 d9 d10 d11 d12 d13 f0 f1 f2 f3 h4 f5 f6 h8 f9 f10 f11 f12 h13 f15 f16 f17 f18 f19 f20 f21 f22 f23 f24 hK_0_83 hK_0_84 hK_0_85 hK_0_86 hK_0_87 hK_0_88 hK_0_89 hK_0_95 hK_0_102 hK_0_104 hK_0_105 hK_0_106 hK_0_108 hK_0_109 kz_0_79 kz_0_80 kz_0_81 kz_0_100 kz_0_101 kz_0_107 ex2 ex3 ey2 ey3 eu2 eu3
  have nf6 : fc_1 PRD (20, [1, 23, 24, 12, 16], [60, 1, 2, 390, 101, 105, 106]) ws (vs ++ [Value.int x, Value.int y, Value.int u]) := by
    refine ⟨fun n hn => ?_, ?_⟩
    · have hn : n ∈ [1, 23, 24, 12, 16] := hn
      rw [List.length_append, hl]
      simp only [List.mem_cons, List.not_mem_nil, or_false] at hn
      show n < 22 + 3; omega
    · show PAN (w_fi ws (n_v (vs ++ [Value.int x, Value.int y, Value.int u]) 1) 101) (w_ei ws (w_ar ws (n_v (vs ++ [Value.int x, Value.int y, Value.int u]) 1) 105)) (w_ei ws (w_ar ws (n_v (vs ++ [Value.int x, Value.int y, Value.int u]) 1) 106)) (v_iv (n_v (vs ++ [Value.int x, Value.int y, Value.int u]) 23)) (v_iv (n_v (vs ++ [Value.int x, Value.int y, Value.int u]) 24)) (v_iv (n_v (vs ++ [Value.int x, Value.int y, Value.int u]) 12)) (v_iv (n_v (vs ++ [Value.int x, Value.int y, Value.int u]) 16))
      rw [e_1]
      rw [e_12]
      rw [e_16]
      rw [e_23]
      rw [e_24]
      rw [q1]
      exact vc_Mo_across2_19_6 (v_iv (n_v vs 2)) (v_iv (n_v vs 3)) (v_iv (n_v vs 5)) (v_iv (n_v vs 7)) (v_iv (n_v vs 8)) (v_iv (n_v vs 9)) (v_iv (n_v vs 10)) (v_iv (n_v vs 11)) (v_iv (n_v vs 12)) (v_iv (n_v vs 13)) (v_iv (n_v vs 14)) (v_iv (n_v vs 15)) (v_iv (n_v vs 16)) (v_iv (n_v vs 17)) (v_iv (n_v vs 18)) (v_iv (n_v vs 19)) (v_iv (n_v vs 20)) (v_iv (n_v vs 21)) (w_ei ws (w_ar ws (n_v vs 0) 106)) (w_ei ws (w_ar ws (n_v vs 0) 105)) (w_ei ws (w_ar ws (n_v vs 0) 2)) (w_ei ws (w_ar ws (n_v vs 0) 95)) (w_ei ws (w_ar ws (n_v vs 0) 102)) (w_ei ws (w_ar ws (n_v vs 0) 104)) (w_ei ws (w_ar ws (n_v vs 0) 108)) (w_ei ws (w_ar ws (n_v vs 0) 109)) (w_fi ws (n_v vs 0) 5) (w_fi ws (n_v vs 0) 100) (w_fi ws (n_v vs 0) 101) (w_fi ws (n_v vs 0) 107) (w_fi ws (n_v vs 0) 79) (w_ei ws (w_ar ws (n_v vs 0) 83)) (w_ei ws (w_ar ws (n_v vs 0) 84)) (w_ei ws (w_ar ws (n_v vs 0) 85)) (w_ei ws (w_ar ws (n_v vs 0) 86)) (w_fi ws (n_v vs 0) 80) (w_ei ws (w_ar ws (n_v vs 0) 87)) (w_ei ws (w_ar ws (n_v vs 0) 88)) (w_ei ws (w_ar ws (n_v vs 0) 89)) (w_fi ws (n_v vs 0) 81) (v_iv (Value.int x)) (v_iv (Value.int y)) (v_iv (Value.int u)) k2 k3 k5 k7 k8 k9 k10 k11 k12 k13 k14 k15 k16 k17 k18 k19 k20 k21 d0 d1 d2 d3 d4 d5 d6 d7 d8 d9 d10 d11 d12 d13 f0 f1 f2 f3 h4 f5 f6 h8 f9 f10 f11 f12 h13 f15 f16 f17 f18 f19 f20 f21 f22 f23 f24 hK_0_83 hK_0_84 hK_0_85 hK_0_86 hK_0_87 hK_0_88 hK_0_89 hK_0_95 hK_0_102 hK_0_104 hK_0_105 hK_0_106 hK_0_108 hK_0_109 kz_0_79 kz_0_80 kz_0_81 kz_0_100 kz_0_101 kz_0_107 ex2 ex3 ey2 ey3 eu2 eu3
  have nf7 : fc_1 PRD (20, [21], [50, 0, 0, 2, 6, 0, 2, 0, 2, 1, 0, 0, 2, 1, 0, 0, 202]) ws (vs ++ [Value.int x, Value.int y, Value.int u]) := by
    refine ⟨fun n hn => ?_, ?_⟩
    · have hn : n ∈ [21] := hn
      rw [List.length_append, hl]
      simp only [List.mem_cons, List.not_mem_nil, or_false] at hn
      show n < 22 + 3; omega
    · show (2 ≤ v_iv (n_v (vs ++ [Value.int x, Value.int y, Value.int u]) 21)) ∧ (v_iv (n_v (vs ++ [Value.int x, Value.int y, Value.int u]) 21) ≤ 202)
      rw [e_21]
      exact vc_Mo_across2_19_7 (v_iv (n_v vs 2)) (v_iv (n_v vs 3)) (v_iv (n_v vs 5)) (v_iv (n_v vs 7)) (v_iv (n_v vs 8)) (v_iv (n_v vs 9)) (v_iv (n_v vs 10)) (v_iv (n_v vs 11)) (v_iv (n_v vs 12)) (v_iv (n_v vs 13)) (v_iv (n_v vs 14)) (v_iv (n_v vs 15)) (v_iv (n_v vs 16)) (v_iv (n_v vs 17)) (v_iv (n_v vs 18)) (v_iv (n_v vs 19)) (v_iv (n_v vs 20)) (v_iv (n_v vs 21)) (w_ei ws (w_ar ws (n_v vs 0) 106)) (w_ei ws (w_ar ws (n_v vs 0) 105)) (w_ei ws (w_ar ws (n_v vs 0) 2)) (w_ei ws (w_ar ws (n_v vs 0) 95)) (w_ei ws (w_ar ws (n_v vs 0) 102)) (w_ei ws (w_ar ws (n_v vs 0) 104)) (w_ei ws (w_ar ws (n_v vs 0) 108)) (w_ei ws (w_ar ws (n_v vs 0) 109)) (w_fi ws (n_v vs 0) 5) (w_fi ws (n_v vs 0) 100) (w_fi ws (n_v vs 0) 101) (w_fi ws (n_v vs 0) 107) (w_fi ws (n_v vs 0) 79) (w_ei ws (w_ar ws (n_v vs 0) 83)) (w_ei ws (w_ar ws (n_v vs 0) 84)) (w_ei ws (w_ar ws (n_v vs 0) 85)) (w_ei ws (w_ar ws (n_v vs 0) 86)) (w_fi ws (n_v vs 0) 80) (w_ei ws (w_ar ws (n_v vs 0) 87)) (w_ei ws (w_ar ws (n_v vs 0) 88)) (w_ei ws (w_ar ws (n_v vs 0) 89)) (w_fi ws (n_v vs 0) 81) (v_iv (Value.int x)) (v_iv (Value.int y)) (v_iv (Value.int u)) k2 k3 k5 k7 k8 k9 k10 k11 k12 k13 k14 k15 k16 k17 k18 k19 k20 k21 d0 d1 d2 d3 d4 d5 d6 d7 d8 d9 d10 d11 d12 d13 f0 f1 f2 f3 h4 f5 f6 h8 f9 f10 f11 f12 h13 f15 f16 f17 f18 f19 f20 f21 f22 f23 f24 hK_0_83 hK_0_84 hK_0_85 hK_0_86 hK_0_87 hK_0_88 hK_0_89 hK_0_95 hK_0_102 hK_0_104 hK_0_105 hK_0_106 hK_0_108 hK_0_109 kz_0_79 kz_0_80 kz_0_81 kz_0_100 kz_0_101 kz_0_107 ex2 ex3 ey2 ey3 eu2 eu3
  exact ⟨(fun _ h => (by cases h)), [Value.int x, Value.int y, Value.int u], ag_three hx hy hu, List.forall_mem_cons.mpr ⟨⟨show (23 : Nat) < 100 from by decide, nf0⟩, List.forall_mem_cons.mpr ⟨⟨show (23 : Nat) < 100 from by decide, nf1⟩, List.forall_mem_cons.mpr ⟨⟨show (23 : Nat) < 100 from by decide, nf2⟩, List.forall_mem_cons.mpr ⟨⟨show (23 : Nat) < 100 from by decide, nf3⟩, List.forall_mem_cons.mpr ⟨⟨show (20 : Nat) < 100 from by decide, nf4⟩, List.forall_mem_cons.mpr ⟨⟨show (20 : Nat) < 100 from by decide, nf5⟩, List.forall_mem_cons.mpr ⟨⟨show (20 : Nat) < 100 from by decide, nf6⟩, List.forall_mem_cons.mpr ⟨⟨show (20 : Nat) < 100 from by decide, nf7⟩, (fun _ h => (by cases h))⟩⟩⟩⟩⟩⟩⟩⟩, (fun _ h => (by cases h))⟩
set_option maxHeartbeats 4000000 in
theorem vc_Mo_across2_20_0 (x2 : Int) (x3 : Int) (x5 : Int) (x12 : Int) (x16 : Int) (x17 : Int) (x18 : Int) (x19 : Int) (x20 : Int) (x21 : Int) (x22 : Int) (x23 : Int) (x24 : Int) (x25 : Int) (layerSize_0 : Int → Int) (layerItem_0 : Int → Int) (layerMany_0 : Int) (all_0 : Int → Int) (turned_0 : Int → Int) (itemLayer_0 : Int → Int) (firstJoint_0 : Int → Int) (lineA_0 : Int → Int) (lineB_0 : Int → Int) (r_0 : Int) (items_0 : Int) (lines_0 : Int) (pointMany_0 : Int) (costA_0 : Int → Int) (costB_0 : Int → Int) (costW_0 : Int → Int) (costPlain_0 : Int → Int) (costMany_0 : Int) (apartMany_0 : Int) (apartA_0 : Int → Int) (apartB_0 : Int → Int) (apart_0 : Int → Int) (k2 : 0 ≤ x2 ∧ x2 ≤ 75) (k3 : 1 ≤ x3 ∧ x3 ≤ 75) (k5 : 2 ≤ x5 ∧ x5 ≤ 76) (k12 : 0 ≤ x12 ∧ x12 ≤ 23) (k16 : 0 ≤ x16 ∧ x16 ≤ 75) (k17 : 1 ≤ x17 ∧ x17 ≤ 9) (k18 : 0 ≤ x18 ∧ x18 ≤ 0) (k19 : 1 ≤ x19 ∧ x19 ≤ 9) (k20 : 2 ≤ x20 ∧ x20 ≤ 2) (k21 : 3 ≤ x21 ∧ x21 ≤ 11) (k22 : 0 ≤ x22 ∧ x22 ≤ 199) (k23 : 0 ≤ x23 ∧ x23 ≤ 75) (k24 : 1 ≤ x24 ∧ x24 ≤ 75) (k25 : 2 ≤ x25 ∧ x25 ≤ 76) (d0 : x3 + 1 ≤ x25 ∧ x25 ≤ x3 + 1) (d1 : x5 + (-4294967296) ≤ x25 ∧ x25 ≤ x5 + 0) (d2 : x19 + 2 ≤ x21 ∧ x21 ≤ x19 + 2) (d3 : x17 + 2 ≤ x21 ∧ x21 ≤ x17 + 2) (d4 : x17 + 0 ≤ x19 ∧ x19 ≤ x17 + 0) (d5 : x5 + (-4294967296) ≤ x3 ∧ x3 ≤ x5 + (-1)) (f0 : x25 = x3 + 1) (f1 : 1 * x23 + ((-1) * x2 + 0) ≤ 0) (f2 : (-1) * x23 + (1 * x2 + 0) ≤ 0) (f3 : 1 * x24 + ((-1) * x3 + 0) ≤ 0) (f4 : (-1) * x24 + (1 * x3 + 0) ≤ 0) (f5 : PAN (layerMany_0) (layerSize_0) (layerItem_0) (x23) (x24) (x12) (x16)) (f6 : (2 ≤ x21) ∧ (x21 ≤ 202)) (f7 : (0 ≤ x18) ∧ (x18 ≤ 100)) (f8 : (0 ≤ x17) ∧ (x17 ≤ 100)) (f9 : LSA (r_0) (items_0) (layerMany_0) (lines_0) (all_0) (turned_0) (itemLayer_0) (firstJoint_0) (lineA_0) (lineB_0)) (f10 : LSB (items_0) (layerMany_0) (itemLayer_0) (layerSize_0) (layerItem_0)) (f11 : SGR (r_0) (all_0)) (f12 : pointMany_0 = items_0) (f13 : PCQ (pointMany_0) (costMany_0) (costA_0) (costB_0) (costW_0) (costPlain_0)) (f14 : costMany_0 ≤ 130) (f15 : (x2 + 1) ≤ layerMany_0) (f16 : 1 ≤ x3) (f18 : apartMany_0 = (x22 + 1)) (f19 : PAP (apartMany_0) (layerMany_0) (layerSize_0) (layerItem_0) (apartA_0) (apartB_0) (apart_0) (x23) (x24)) (f21 : 1 * x23 + ((-1) * x2 + 0) ≤ 0) (f22 : (-1) * x23 + (1 * x2 + 0) ≤ 0) (f23 : 1 * x24 + ((-1) * x3 + 0) ≤ 0) (f24 : (-1) * x24 + (1 * x3 + 0) ≤ 0) (f25 : x21 = x19 + x20) (f26 : x19 = x17 + x18) (f27 : x3 < x5) (hK_0_83 : ∀ j : Int, 0 ≤ j → j < 200 → 0 ≤ costA_0 j ∧ costA_0 j ≤ 75) (hK_0_84 : ∀ j : Int, 0 ≤ j → j < 200 → 0 ≤ costB_0 j ∧ costB_0 j ≤ 75) (hK_0_85 : ∀ j : Int, 0 ≤ j → j < 200 → 0 ≤ costW_0 j ∧ costW_0 j ≤ 72) (hK_0_86 : ∀ j : Int, 0 ≤ j → j < 200 → 0 ≤ costPlain_0 j ∧ costPlain_0 j ≤ 1) (hK_0_87 : ∀ j : Int, 0 ≤ j → j < 200 → 0 ≤ apartA_0 j ∧ apartA_0 j ≤ 75) (hK_0_88 : ∀ j : Int, 0 ≤ j → j < 200 → 0 ≤ apartB_0 j ∧ apartB_0 j ≤ 75) (hK_0_89 : ∀ j : Int, 0 ≤ j → j < 200 → 0 ≤ apart_0 j ∧ apart_0 j ≤ 202) (hK_0_95 : ∀ j : Int, 0 ≤ j → j < 48 → 0 ≤ turned_0 j ∧ turned_0 j ≤ 1) (hK_0_102 : ∀ j : Int, 0 ≤ j → j < 76 → 0 ≤ itemLayer_0 j ∧ itemLayer_0 j ≤ 75) (hK_0_104 : ∀ j : Int, 0 ≤ j → j < 48 → 0 ≤ firstJoint_0 j ∧ firstJoint_0 j ≤ 76) (hK_0_105 : ∀ j : Int, 0 ≤ j → j < 76 → 0 ≤ layerSize_0 j ∧ layerSize_0 j ≤ 76) (hK_0_106 : ∀ j : Int, 0 ≤ j → j < 5776 → 0 ≤ layerItem_0 j ∧ layerItem_0 j ≤ 75) (hK_0_108 : ∀ j : Int, 0 ≤ j → j < 130 → 0 ≤ lineA_0 j ∧ lineA_0 j ≤ 75) (hK_0_109 : ∀ j : Int, 0 ≤ j → j < 130 → 0 ≤ lineB_0 j ∧ lineB_0 j ≤ 75) (kz_0_79 : 0 ≤ pointMany_0 ∧ pointMany_0 ≤ 76) (kz_0_80 : 0 ≤ costMany_0 ∧ costMany_0 ≤ 200) (kz_0_81 : 0 ≤ apartMany_0 ∧ apartMany_0 ≤ 200) (kz_0_100 : 0 ≤ items_0 ∧ items_0 ≤ 76) (kz_0_101 : 0 ≤ layerMany_0 ∧ layerMany_0 ≤ 76) (kz_0_107 : 0 ≤ lines_0 ∧ lines_0 ≤ 130) : PAL2 (apartMany_0) (layerMany_0) (layerSize_0) (layerItem_0) (apartA_0) (apartB_0) (apart_0) (x2) (x25) := by
  first
    | exact paq_less ‹PAL1 _ _ _ _ _ _ _ _› (by omega)
    | (have h := ‹PAP _ _ _ _ _ _ _ _ _›
       exact paq_less h (by omega))
set_option maxHeartbeats 4000000 in
theorem vc_Mo_across2_20_1 (x2 : Int) (x3 : Int) (x5 : Int) (x12 : Int) (x16 : Int) (x17 : Int) (x18 : Int) (x19 : Int) (x20 : Int) (x21 : Int) (x22 : Int) (x23 : Int) (x24 : Int) (x25 : Int) (layerSize_0 : Int → Int) (layerItem_0 : Int → Int) (layerMany_0 : Int) (all_0 : Int → Int) (turned_0 : Int → Int) (itemLayer_0 : Int → Int) (firstJoint_0 : Int → Int) (lineA_0 : Int → Int) (lineB_0 : Int → Int) (r_0 : Int) (items_0 : Int) (lines_0 : Int) (pointMany_0 : Int) (costA_0 : Int → Int) (costB_0 : Int → Int) (costW_0 : Int → Int) (costPlain_0 : Int → Int) (costMany_0 : Int) (apartMany_0 : Int) (apartA_0 : Int → Int) (apartB_0 : Int → Int) (apart_0 : Int → Int) (k2 : 0 ≤ x2 ∧ x2 ≤ 75) (k3 : 1 ≤ x3 ∧ x3 ≤ 75) (k5 : 2 ≤ x5 ∧ x5 ≤ 76) (k12 : 0 ≤ x12 ∧ x12 ≤ 23) (k16 : 0 ≤ x16 ∧ x16 ≤ 75) (k17 : 1 ≤ x17 ∧ x17 ≤ 9) (k18 : 0 ≤ x18 ∧ x18 ≤ 0) (k19 : 1 ≤ x19 ∧ x19 ≤ 9) (k20 : 2 ≤ x20 ∧ x20 ≤ 2) (k21 : 3 ≤ x21 ∧ x21 ≤ 11) (k22 : 0 ≤ x22 ∧ x22 ≤ 199) (k23 : 0 ≤ x23 ∧ x23 ≤ 75) (k24 : 1 ≤ x24 ∧ x24 ≤ 75) (k25 : 2 ≤ x25 ∧ x25 ≤ 76) (d0 : x3 + 1 ≤ x25 ∧ x25 ≤ x3 + 1) (d1 : x5 + (-4294967296) ≤ x25 ∧ x25 ≤ x5 + 0) (d2 : x19 + 2 ≤ x21 ∧ x21 ≤ x19 + 2) (d3 : x17 + 2 ≤ x21 ∧ x21 ≤ x17 + 2) (d4 : x17 + 0 ≤ x19 ∧ x19 ≤ x17 + 0) (d5 : x5 + (-4294967296) ≤ x3 ∧ x3 ≤ x5 + (-1)) (f0 : x25 = x3 + 1) (f1 : 1 * x23 + ((-1) * x2 + 0) ≤ 0) (f2 : (-1) * x23 + (1 * x2 + 0) ≤ 0) (f3 : 1 * x24 + ((-1) * x3 + 0) ≤ 0) (f4 : (-1) * x24 + (1 * x3 + 0) ≤ 0) (f5 : PAN (layerMany_0) (layerSize_0) (layerItem_0) (x23) (x24) (x12) (x16)) (f6 : (2 ≤ x21) ∧ (x21 ≤ 202)) (f7 : (0 ≤ x18) ∧ (x18 ≤ 100)) (f8 : (0 ≤ x17) ∧ (x17 ≤ 100)) (f9 : LSA (r_0) (items_0) (layerMany_0) (lines_0) (all_0) (turned_0) (itemLayer_0) (firstJoint_0) (lineA_0) (lineB_0)) (f10 : LSB (items_0) (layerMany_0) (itemLayer_0) (layerSize_0) (layerItem_0)) (f11 : SGR (r_0) (all_0)) (f12 : pointMany_0 = items_0) (f13 : PCQ (pointMany_0) (costMany_0) (costA_0) (costB_0) (costW_0) (costPlain_0)) (f14 : costMany_0 ≤ 130) (f15 : (x2 + 1) ≤ layerMany_0) (f16 : 1 ≤ x3) (f18 : apartMany_0 = (x22 + 1)) (f19 : PAP (apartMany_0) (layerMany_0) (layerSize_0) (layerItem_0) (apartA_0) (apartB_0) (apart_0) (x23) (x24)) (f21 : 1 * x23 + ((-1) * x2 + 0) ≤ 0) (f22 : (-1) * x23 + (1 * x2 + 0) ≤ 0) (f23 : 1 * x24 + ((-1) * x3 + 0) ≤ 0) (f24 : (-1) * x24 + (1 * x3 + 0) ≤ 0) (f25 : x21 = x19 + x20) (f26 : x19 = x17 + x18) (f27 : x3 < x5) (hK_0_83 : ∀ j : Int, 0 ≤ j → j < 200 → 0 ≤ costA_0 j ∧ costA_0 j ≤ 75) (hK_0_84 : ∀ j : Int, 0 ≤ j → j < 200 → 0 ≤ costB_0 j ∧ costB_0 j ≤ 75) (hK_0_85 : ∀ j : Int, 0 ≤ j → j < 200 → 0 ≤ costW_0 j ∧ costW_0 j ≤ 72) (hK_0_86 : ∀ j : Int, 0 ≤ j → j < 200 → 0 ≤ costPlain_0 j ∧ costPlain_0 j ≤ 1) (hK_0_87 : ∀ j : Int, 0 ≤ j → j < 200 → 0 ≤ apartA_0 j ∧ apartA_0 j ≤ 75) (hK_0_88 : ∀ j : Int, 0 ≤ j → j < 200 → 0 ≤ apartB_0 j ∧ apartB_0 j ≤ 75) (hK_0_89 : ∀ j : Int, 0 ≤ j → j < 200 → 0 ≤ apart_0 j ∧ apart_0 j ≤ 202) (hK_0_95 : ∀ j : Int, 0 ≤ j → j < 48 → 0 ≤ turned_0 j ∧ turned_0 j ≤ 1) (hK_0_102 : ∀ j : Int, 0 ≤ j → j < 76 → 0 ≤ itemLayer_0 j ∧ itemLayer_0 j ≤ 75) (hK_0_104 : ∀ j : Int, 0 ≤ j → j < 48 → 0 ≤ firstJoint_0 j ∧ firstJoint_0 j ≤ 76) (hK_0_105 : ∀ j : Int, 0 ≤ j → j < 76 → 0 ≤ layerSize_0 j ∧ layerSize_0 j ≤ 76) (hK_0_106 : ∀ j : Int, 0 ≤ j → j < 5776 → 0 ≤ layerItem_0 j ∧ layerItem_0 j ≤ 75) (hK_0_108 : ∀ j : Int, 0 ≤ j → j < 130 → 0 ≤ lineA_0 j ∧ lineA_0 j ≤ 75) (hK_0_109 : ∀ j : Int, 0 ≤ j → j < 130 → 0 ≤ lineB_0 j ∧ lineB_0 j ≤ 75) (kz_0_79 : 0 ≤ pointMany_0 ∧ pointMany_0 ≤ 76) (kz_0_80 : 0 ≤ costMany_0 ∧ costMany_0 ≤ 200) (kz_0_81 : 0 ≤ apartMany_0 ∧ apartMany_0 ≤ 200) (kz_0_100 : 0 ≤ items_0 ∧ items_0 ≤ 76) (kz_0_101 : 0 ≤ layerMany_0 ∧ layerMany_0 ≤ 76) (kz_0_107 : 0 ≤ lines_0 ∧ lines_0 ≤ 130) : apartMany_0 ≤ 76 := by
  try simp only [Int.add_zero] at *
  first
    | omega
    | (have h := paq_am ‹LSB _ _ _ _ _› ‹PAP _ _ _ _ _ _ _ _ _› (by have h := ‹LSA _ _ _ _ _ _ _ _ _ _›.2.1; have n := ‹LSA _ _ _ _ _ _ _ _ _ _›.1.1.1.1; omega); have h2 := ‹LSB _ _ _ _ _›.1; omega)
set_option maxHeartbeats 4000000 in
theorem vc_Mo_across2_20_2 (x2 : Int) (x3 : Int) (x5 : Int) (x12 : Int) (x16 : Int) (x17 : Int) (x18 : Int) (x19 : Int) (x20 : Int) (x21 : Int) (x22 : Int) (x23 : Int) (x24 : Int) (x25 : Int) (layerSize_0 : Int → Int) (layerItem_0 : Int → Int) (layerMany_0 : Int) (all_0 : Int → Int) (turned_0 : Int → Int) (itemLayer_0 : Int → Int) (firstJoint_0 : Int → Int) (lineA_0 : Int → Int) (lineB_0 : Int → Int) (r_0 : Int) (items_0 : Int) (lines_0 : Int) (pointMany_0 : Int) (costA_0 : Int → Int) (costB_0 : Int → Int) (costW_0 : Int → Int) (costPlain_0 : Int → Int) (costMany_0 : Int) (apartMany_0 : Int) (apartA_0 : Int → Int) (apartB_0 : Int → Int) (apart_0 : Int → Int) (k2 : 0 ≤ x2 ∧ x2 ≤ 75) (k3 : 1 ≤ x3 ∧ x3 ≤ 75) (k5 : 2 ≤ x5 ∧ x5 ≤ 76) (k12 : 0 ≤ x12 ∧ x12 ≤ 23) (k16 : 0 ≤ x16 ∧ x16 ≤ 75) (k17 : 1 ≤ x17 ∧ x17 ≤ 9) (k18 : 0 ≤ x18 ∧ x18 ≤ 0) (k19 : 1 ≤ x19 ∧ x19 ≤ 9) (k20 : 2 ≤ x20 ∧ x20 ≤ 2) (k21 : 3 ≤ x21 ∧ x21 ≤ 11) (k22 : 0 ≤ x22 ∧ x22 ≤ 199) (k23 : 0 ≤ x23 ∧ x23 ≤ 75) (k24 : 1 ≤ x24 ∧ x24 ≤ 75) (k25 : 2 ≤ x25 ∧ x25 ≤ 76) (d0 : x3 + 1 ≤ x25 ∧ x25 ≤ x3 + 1) (d1 : x5 + (-4294967296) ≤ x25 ∧ x25 ≤ x5 + 0) (d2 : x19 + 2 ≤ x21 ∧ x21 ≤ x19 + 2) (d3 : x17 + 2 ≤ x21 ∧ x21 ≤ x17 + 2) (d4 : x17 + 0 ≤ x19 ∧ x19 ≤ x17 + 0) (d5 : x5 + (-4294967296) ≤ x3 ∧ x3 ≤ x5 + (-1)) (f0 : x25 = x3 + 1) (f1 : 1 * x23 + ((-1) * x2 + 0) ≤ 0) (f2 : (-1) * x23 + (1 * x2 + 0) ≤ 0) (f3 : 1 * x24 + ((-1) * x3 + 0) ≤ 0) (f4 : (-1) * x24 + (1 * x3 + 0) ≤ 0) (f5 : PAN (layerMany_0) (layerSize_0) (layerItem_0) (x23) (x24) (x12) (x16)) (f6 : (2 ≤ x21) ∧ (x21 ≤ 202)) (f7 : (0 ≤ x18) ∧ (x18 ≤ 100)) (f8 : (0 ≤ x17) ∧ (x17 ≤ 100)) (f9 : LSA (r_0) (items_0) (layerMany_0) (lines_0) (all_0) (turned_0) (itemLayer_0) (firstJoint_0) (lineA_0) (lineB_0)) (f10 : LSB (items_0) (layerMany_0) (itemLayer_0) (layerSize_0) (layerItem_0)) (f11 : SGR (r_0) (all_0)) (f12 : pointMany_0 = items_0) (f13 : PCQ (pointMany_0) (costMany_0) (costA_0) (costB_0) (costW_0) (costPlain_0)) (f14 : costMany_0 ≤ 130) (f15 : (x2 + 1) ≤ layerMany_0) (f16 : 1 ≤ x3) (f18 : apartMany_0 = (x22 + 1)) (f19 : PAP (apartMany_0) (layerMany_0) (layerSize_0) (layerItem_0) (apartA_0) (apartB_0) (apart_0) (x23) (x24)) (f21 : 1 * x23 + ((-1) * x2 + 0) ≤ 0) (f22 : (-1) * x23 + (1 * x2 + 0) ≤ 0) (f23 : 1 * x24 + ((-1) * x3 + 0) ≤ 0) (f24 : (-1) * x24 + (1 * x3 + 0) ≤ 0) (f25 : x21 = x19 + x20) (f26 : x19 = x17 + x18) (f27 : x3 < x5) (hK_0_83 : ∀ j : Int, 0 ≤ j → j < 200 → 0 ≤ costA_0 j ∧ costA_0 j ≤ 75) (hK_0_84 : ∀ j : Int, 0 ≤ j → j < 200 → 0 ≤ costB_0 j ∧ costB_0 j ≤ 75) (hK_0_85 : ∀ j : Int, 0 ≤ j → j < 200 → 0 ≤ costW_0 j ∧ costW_0 j ≤ 72) (hK_0_86 : ∀ j : Int, 0 ≤ j → j < 200 → 0 ≤ costPlain_0 j ∧ costPlain_0 j ≤ 1) (hK_0_87 : ∀ j : Int, 0 ≤ j → j < 200 → 0 ≤ apartA_0 j ∧ apartA_0 j ≤ 75) (hK_0_88 : ∀ j : Int, 0 ≤ j → j < 200 → 0 ≤ apartB_0 j ∧ apartB_0 j ≤ 75) (hK_0_89 : ∀ j : Int, 0 ≤ j → j < 200 → 0 ≤ apart_0 j ∧ apart_0 j ≤ 202) (hK_0_95 : ∀ j : Int, 0 ≤ j → j < 48 → 0 ≤ turned_0 j ∧ turned_0 j ≤ 1) (hK_0_102 : ∀ j : Int, 0 ≤ j → j < 76 → 0 ≤ itemLayer_0 j ∧ itemLayer_0 j ≤ 75) (hK_0_104 : ∀ j : Int, 0 ≤ j → j < 48 → 0 ≤ firstJoint_0 j ∧ firstJoint_0 j ≤ 76) (hK_0_105 : ∀ j : Int, 0 ≤ j → j < 76 → 0 ≤ layerSize_0 j ∧ layerSize_0 j ≤ 76) (hK_0_106 : ∀ j : Int, 0 ≤ j → j < 5776 → 0 ≤ layerItem_0 j ∧ layerItem_0 j ≤ 75) (hK_0_108 : ∀ j : Int, 0 ≤ j → j < 130 → 0 ≤ lineA_0 j ∧ lineA_0 j ≤ 75) (hK_0_109 : ∀ j : Int, 0 ≤ j → j < 130 → 0 ≤ lineB_0 j ∧ lineB_0 j ≤ 75) (kz_0_79 : 0 ≤ pointMany_0 ∧ pointMany_0 ≤ 76) (kz_0_80 : 0 ≤ costMany_0 ∧ costMany_0 ≤ 200) (kz_0_81 : 0 ≤ apartMany_0 ∧ apartMany_0 ≤ 200) (kz_0_100 : 0 ≤ items_0 ∧ items_0 ≤ 76) (kz_0_101 : 0 ≤ layerMany_0 ∧ layerMany_0 ≤ 76) (kz_0_107 : 0 ≤ lines_0 ∧ lines_0 ≤ 130) : 1 ≤ x25 := by
  try simp only [Int.add_zero] at *
  first
    | omega
    | (have h := paq_am ‹LSB _ _ _ _ _› ‹PAP _ _ _ _ _ _ _ _ _› (by have h := ‹LSA _ _ _ _ _ _ _ _ _ _›.2.1; have n := ‹LSA _ _ _ _ _ _ _ _ _ _›.1.1.1.1; omega); have h2 := ‹LSB _ _ _ _ _›.1; omega)
def o_Mo_across2_20 : or_T := (188, 26, [(0, (2, 0, 0, [150])), (1, (2, 0, 0, [150])), (2, (0, 0, 75, [])), (3, (0, 1, 75, [])), (5, (0, 2, 76, [])), (12, (0, 0, 23, [])), (16, (0, 0, 75, [])), (17, (0, 1, 9, [])), (18, (0, 0, 0, [])), (19, (0, 1, 9, [])), (20, (0, 2, 2, [])), (21, (0, 3, 11, [])), (22, (0, 0, 199, [])), (23, (0, 0, 75, [])), (24, (0, 1, 75, [])), (25, (0, 2, 76, []))], [(6, [25, 3], [1]), (23, [23, 2], [0, 1, -1]), (23, [23, 2], [0, -1, 1]), (23, [24, 3], [0, 1, -1]), (23, [24, 3], [0, -1, 1]), (20, [1, 23, 24, 12, 16], [60, 1, 2, 390, 101, 105, 106]), (20, [21], [50, 0, 0, 2, 6, 0, 2, 0, 2, 1, 0, 0, 2, 1, 0, 0, 202]), (20, [18], [50, 0, 0, 2, 6, 0, 2, 0, 0, 1, 0, 0, 2, 1, 0, 0, 100]), (20, [17], [50, 0, 0, 2, 6, 0, 2, 0, 0, 1, 0, 0, 2, 1, 0, 0, 100]), (20, [1], [60, 4, 6, 369, 5, 100, 101, 107, 2, 95, 102, 104, 108, 109]), (20, [1], [60, 2, 3, 372, 100, 101, 102, 105, 106]), (20, [1], [60, 1, 1, 122, 5, 2]), (20, [1], [50, 2, 0, 79, 100, 1, 3, 2, 0, 79, 2, 0, 100]), (20, [1], [60, 2, 4, 380, 79, 80, 83, 84, 85, 86]), (20, [1], [50, 1, 0, 80, 0, 3, 2, 0, 80, 0, 130]), (20, [2, 1], [50, 1, 0, 1101, 0, 6, 4, 2, 1, 0, 0, 1, 2, 1, 101]), (20, [3], [50, 0, 0, 0, 2, 0, 1, 1, 0]), (24, [0, 1], []), (20, [1, 22], [50, 1, 0, 81, 1, 3, 2, 0, 81, 4, 2, 1, 1, 0, 1]), (20, [1, 23, 24], [60, 2, 5, 391, 81, 101, 105, 106, 87, 88, 89]), (102, [24], [5759265950624221147542392138950726767439575529717529521720131584, 13081]), (23, [23, 2], [0, 1, -1]), (23, [23, 2], [0, -1, 1]), (23, [24, 3], [0, 1, -1]), (23, [24, 3], [0, -1, 1]), (1, [21, 19, 20], []), (1, [19, 17, 18], []), (7, [3, 5], [2])], [], [], [(20, [1, 2, 25], [60, 2, 5, 393, 81, 101, 105, 106, 87, 88, 89]), (20, [1], [50, 1, 0, 81, 0, 3, 2, 0, 81, 0, 76]), (20, [25], [50, 0, 0, 0, 2, 0, 1, 1, 0])], [], [(25, 3, 1, 1), (25, 5, -4294967296, 0), (21, 19, 2, 2), (21, 17, 2, 2), (19, 17, 0, 0), (3, 5, -4294967296, -1)])
theorem oo_Mo_across2_20 {kA : Nat → ClassId} : or_ok PRD kA GG o_Mo_across2_20 := by
  intro A ta ws vs hD hth hl hk hds hf
  have hl : vs.length = 26 := hl
  have hk : ∀ q ∈ ([(0, (2, 0, 0, [150])), (1, (2, 0, 0, [150])), (2, (0, 0, 75, [])), (3, (0, 1, 75, [])), (5, (0, 2, 76, [])), (12, (0, 0, 23, [])), (16, (0, 0, 75, [])), (17, (0, 1, 9, [])), (18, (0, 0, 0, [])), (19, (0, 1, 9, [])), (20, (0, 2, 2, [])), (21, (0, 3, 11, [])), (22, (0, 0, 199, [])), (23, (0, 0, 75, [])), (24, (0, 1, 75, [])), (25, (0, 2, 76, []))] : List (Nat × tv_T)), tv_ok ta q.2 (n_v vs q.1) := hk
  obtain ⟨t0, hk⟩ := List.forall_mem_cons.mp hk
  have t0 : tv_ok ta (2, 0, 0, [150]) (n_v vs 0) := t0
  have r0 : ta (v_ad (n_v vs 0)) = some 150 := tv_rg t0
  obtain ⟨t1, hk⟩ := List.forall_mem_cons.mp hk
  have t1 : tv_ok ta (2, 0, 0, [150]) (n_v vs 1) := t1
  have r1 : ta (v_ad (n_v vs 1)) = some 150 := tv_rg t1
  obtain ⟨t2, hk⟩ := List.forall_mem_cons.mp hk
  have t2 : tv_ok ta (0, 0, 75, []) (n_v vs 2) := t2
  have k2 : 0 ≤ v_iv (n_v vs 2) ∧ v_iv (n_v vs 2) ≤ 75 := tv_rng t2
  obtain ⟨t3, hk⟩ := List.forall_mem_cons.mp hk
  have t3 : tv_ok ta (0, 1, 75, []) (n_v vs 3) := t3
  have k3 : 1 ≤ v_iv (n_v vs 3) ∧ v_iv (n_v vs 3) ≤ 75 := tv_rng t3
  obtain ⟨t5, hk⟩ := List.forall_mem_cons.mp hk
  have t5 : tv_ok ta (0, 2, 76, []) (n_v vs 5) := t5
  have k5 : 2 ≤ v_iv (n_v vs 5) ∧ v_iv (n_v vs 5) ≤ 76 := tv_rng t5
  obtain ⟨t12, hk⟩ := List.forall_mem_cons.mp hk
  have t12 : tv_ok ta (0, 0, 23, []) (n_v vs 12) := t12
  have k12 : 0 ≤ v_iv (n_v vs 12) ∧ v_iv (n_v vs 12) ≤ 23 := tv_rng t12
  obtain ⟨t16, hk⟩ := List.forall_mem_cons.mp hk
  have t16 : tv_ok ta (0, 0, 75, []) (n_v vs 16) := t16
  have k16 : 0 ≤ v_iv (n_v vs 16) ∧ v_iv (n_v vs 16) ≤ 75 := tv_rng t16
  obtain ⟨t17, hk⟩ := List.forall_mem_cons.mp hk
  have t17 : tv_ok ta (0, 1, 9, []) (n_v vs 17) := t17
  have k17 : 1 ≤ v_iv (n_v vs 17) ∧ v_iv (n_v vs 17) ≤ 9 := tv_rng t17
  obtain ⟨t18, hk⟩ := List.forall_mem_cons.mp hk
  have t18 : tv_ok ta (0, 0, 0, []) (n_v vs 18) := t18
  have k18 : 0 ≤ v_iv (n_v vs 18) ∧ v_iv (n_v vs 18) ≤ 0 := tv_rng t18
  obtain ⟨t19, hk⟩ := List.forall_mem_cons.mp hk
  have t19 : tv_ok ta (0, 1, 9, []) (n_v vs 19) := t19
  have k19 : 1 ≤ v_iv (n_v vs 19) ∧ v_iv (n_v vs 19) ≤ 9 := tv_rng t19
  obtain ⟨t20, hk⟩ := List.forall_mem_cons.mp hk
  have t20 : tv_ok ta (0, 2, 2, []) (n_v vs 20) := t20
  have k20 : 2 ≤ v_iv (n_v vs 20) ∧ v_iv (n_v vs 20) ≤ 2 := tv_rng t20
  obtain ⟨t21, hk⟩ := List.forall_mem_cons.mp hk
  have t21 : tv_ok ta (0, 3, 11, []) (n_v vs 21) := t21
  have k21 : 3 ≤ v_iv (n_v vs 21) ∧ v_iv (n_v vs 21) ≤ 11 := tv_rng t21
  obtain ⟨t22, hk⟩ := List.forall_mem_cons.mp hk
  have t22 : tv_ok ta (0, 0, 199, []) (n_v vs 22) := t22
  have k22 : 0 ≤ v_iv (n_v vs 22) ∧ v_iv (n_v vs 22) ≤ 199 := tv_rng t22
  obtain ⟨t23, hk⟩ := List.forall_mem_cons.mp hk
  have t23 : tv_ok ta (0, 0, 75, []) (n_v vs 23) := t23
  have k23 : 0 ≤ v_iv (n_v vs 23) ∧ v_iv (n_v vs 23) ≤ 75 := tv_rng t23
  obtain ⟨t24, hk⟩ := List.forall_mem_cons.mp hk
  have t24 : tv_ok ta (0, 1, 75, []) (n_v vs 24) := t24
  have k24 : 1 ≤ v_iv (n_v vs 24) ∧ v_iv (n_v vs 24) ≤ 75 := tv_rng t24
  obtain ⟨t25, hk⟩ := List.forall_mem_cons.mp hk
  have t25 : tv_ok ta (0, 2, 76, []) (n_v vs 25) := t25
  have k25 : 2 ≤ v_iv (n_v vs 25) ∧ v_iv (n_v vs 25) ≤ 76 := tv_rng t25
  have hds : ∀ q ∈ ([(25, 3, 1, 1), (25, 5, -4294967296, 0), (21, 19, 2, 2), (21, 17, 2, 2), (19, 17, 0, 0), (3, 5, -4294967296, -1)] : List of_T), n_iv vs q.2.1 + q.2.2.1 ≤ n_iv vs q.1 ∧ n_iv vs q.1 ≤ n_iv vs q.2.1 + q.2.2.2 := hds
  obtain ⟨d0, hds⟩ := List.forall_mem_cons.mp hds
  have d0 : v_iv (n_v vs 3) + 1 ≤ v_iv (n_v vs 25) ∧ v_iv (n_v vs 25) ≤ v_iv (n_v vs 3) + 1 := d0
  obtain ⟨d1, hds⟩ := List.forall_mem_cons.mp hds
  have d1 : v_iv (n_v vs 5) + (-4294967296) ≤ v_iv (n_v vs 25) ∧ v_iv (n_v vs 25) ≤ v_iv (n_v vs 5) + 0 := d1
  obtain ⟨d2, hds⟩ := List.forall_mem_cons.mp hds
  have d2 : v_iv (n_v vs 19) + 2 ≤ v_iv (n_v vs 21) ∧ v_iv (n_v vs 21) ≤ v_iv (n_v vs 19) + 2 := d2
  obtain ⟨d3, hds⟩ := List.forall_mem_cons.mp hds
  have d3 : v_iv (n_v vs 17) + 2 ≤ v_iv (n_v vs 21) ∧ v_iv (n_v vs 21) ≤ v_iv (n_v vs 17) + 2 := d3
  obtain ⟨d4, hds⟩ := List.forall_mem_cons.mp hds
  have d4 : v_iv (n_v vs 17) + 0 ≤ v_iv (n_v vs 19) ∧ v_iv (n_v vs 19) ≤ v_iv (n_v vs 17) + 0 := d4
  obtain ⟨d5, hds⟩ := List.forall_mem_cons.mp hds
  have d5 : v_iv (n_v vs 5) + (-4294967296) ≤ v_iv (n_v vs 3) ∧ v_iv (n_v vs 3) ≤ v_iv (n_v vs 5) + (-1) := d5
  have hf : fc_ok PRD [(6, [25, 3], [1]), (23, [23, 2], [0, 1, -1]), (23, [23, 2], [0, -1, 1]), (23, [24, 3], [0, 1, -1]), (23, [24, 3], [0, -1, 1]), (20, [1, 23, 24, 12, 16], [60, 1, 2, 390, 101, 105, 106]), (20, [21], [50, 0, 0, 2, 6, 0, 2, 0, 2, 1, 0, 0, 2, 1, 0, 0, 202]), (20, [18], [50, 0, 0, 2, 6, 0, 2, 0, 0, 1, 0, 0, 2, 1, 0, 0, 100]), (20, [17], [50, 0, 0, 2, 6, 0, 2, 0, 0, 1, 0, 0, 2, 1, 0, 0, 100]), (20, [1], [60, 4, 6, 369, 5, 100, 101, 107, 2, 95, 102, 104, 108, 109]), (20, [1], [60, 2, 3, 372, 100, 101, 102, 105, 106]), (20, [1], [60, 1, 1, 122, 5, 2]), (20, [1], [50, 2, 0, 79, 100, 1, 3, 2, 0, 79, 2, 0, 100]), (20, [1], [60, 2, 4, 380, 79, 80, 83, 84, 85, 86]), (20, [1], [50, 1, 0, 80, 0, 3, 2, 0, 80, 0, 130]), (20, [2, 1], [50, 1, 0, 1101, 0, 6, 4, 2, 1, 0, 0, 1, 2, 1, 101]), (20, [3], [50, 0, 0, 0, 2, 0, 1, 1, 0]), (24, [0, 1], []), (20, [1, 22], [50, 1, 0, 81, 1, 3, 2, 0, 81, 4, 2, 1, 1, 0, 1]), (20, [1, 23, 24], [60, 2, 5, 391, 81, 101, 105, 106, 87, 88, 89]), (102, [24], [5759265950624221147542392138950726767439575529717529521720131584, 13081]), (23, [23, 2], [0, 1, -1]), (23, [23, 2], [0, -1, 1]), (23, [24, 3], [0, 1, -1]), (23, [24, 3], [0, -1, 1]), (1, [21, 19, 20], []), (1, [19, 17, 18], []), (7, [3, 5], [2])] ta ws vs := hf
  obtain ⟨f0, hf⟩ := fc_un (show (6 : Nat) < 100 from by decide) hf
  have f0 : v_iv (n_v vs 25) = v_iv (n_v vs 3) + 1 := f0
  obtain ⟨f1, hf⟩ := fc_un (show (23 : Nat) < 100 from by decide) hf
  have f1 : 1 * v_iv (n_v vs 23) + ((-1) * v_iv (n_v vs 2) + 0) ≤ 0 := f1
  obtain ⟨f2, hf⟩ := fc_un (show (23 : Nat) < 100 from by decide) hf
  have f2 : (-1) * v_iv (n_v vs 23) + (1 * v_iv (n_v vs 2) + 0) ≤ 0 := f2
  obtain ⟨f3, hf⟩ := fc_un (show (23 : Nat) < 100 from by decide) hf
  have f3 : 1 * v_iv (n_v vs 24) + ((-1) * v_iv (n_v vs 3) + 0) ≤ 0 := f3
  obtain ⟨f4, hf⟩ := fc_un (show (23 : Nat) < 100 from by decide) hf
  have f4 : (-1) * v_iv (n_v vs 24) + (1 * v_iv (n_v vs 3) + 0) ≤ 0 := f4
  obtain ⟨f5, hf⟩ := fc_un (show (20 : Nat) < 100 from by decide) hf
  have f5 : PAN (w_fi ws (n_v vs 1) 101) (w_ei ws (w_ar ws (n_v vs 1) 105)) (w_ei ws (w_ar ws (n_v vs 1) 106)) (v_iv (n_v vs 23)) (v_iv (n_v vs 24)) (v_iv (n_v vs 12)) (v_iv (n_v vs 16)) := f5
  obtain ⟨f6, hf⟩ := fc_un (show (20 : Nat) < 100 from by decide) hf
  have f6 : (2 ≤ v_iv (n_v vs 21)) ∧ (v_iv (n_v vs 21) ≤ 202) := f6
  obtain ⟨f7, hf⟩ := fc_un (show (20 : Nat) < 100 from by decide) hf
  have f7 : (0 ≤ v_iv (n_v vs 18)) ∧ (v_iv (n_v vs 18) ≤ 100) := f7
  obtain ⟨f8, hf⟩ := fc_un (show (20 : Nat) < 100 from by decide) hf
  have f8 : (0 ≤ v_iv (n_v vs 17)) ∧ (v_iv (n_v vs 17) ≤ 100) := f8
  obtain ⟨f9, hf⟩ := fc_un (show (20 : Nat) < 100 from by decide) hf
  have f9 : LSA (w_fi ws (n_v vs 1) 5) (w_fi ws (n_v vs 1) 100) (w_fi ws (n_v vs 1) 101) (w_fi ws (n_v vs 1) 107) (w_ei ws (w_ar ws (n_v vs 1) 2)) (w_ei ws (w_ar ws (n_v vs 1) 95)) (w_ei ws (w_ar ws (n_v vs 1) 102)) (w_ei ws (w_ar ws (n_v vs 1) 104)) (w_ei ws (w_ar ws (n_v vs 1) 108)) (w_ei ws (w_ar ws (n_v vs 1) 109)) := f9
  obtain ⟨f10, hf⟩ := fc_un (show (20 : Nat) < 100 from by decide) hf
  have f10 : LSB (w_fi ws (n_v vs 1) 100) (w_fi ws (n_v vs 1) 101) (w_ei ws (w_ar ws (n_v vs 1) 102)) (w_ei ws (w_ar ws (n_v vs 1) 105)) (w_ei ws (w_ar ws (n_v vs 1) 106)) := f10
  obtain ⟨f11, hf⟩ := fc_un (show (20 : Nat) < 100 from by decide) hf
  have f11 : SGR (w_fi ws (n_v vs 1) 5) (w_ei ws (w_ar ws (n_v vs 1) 2)) := f11
  obtain ⟨f12, hf⟩ := fc_un (show (20 : Nat) < 100 from by decide) hf
  have f12 : w_fi ws (n_v vs 1) 79 = w_fi ws (n_v vs 1) 100 := f12
  obtain ⟨f13, hf⟩ := fc_un (show (20 : Nat) < 100 from by decide) hf
  have f13 : PCQ (w_fi ws (n_v vs 1) 79) (w_fi ws (n_v vs 1) 80) (w_ei ws (w_ar ws (n_v vs 1) 83)) (w_ei ws (w_ar ws (n_v vs 1) 84)) (w_ei ws (w_ar ws (n_v vs 1) 85)) (w_ei ws (w_ar ws (n_v vs 1) 86)) := f13
  obtain ⟨f14, hf⟩ := fc_un (show (20 : Nat) < 100 from by decide) hf
  have f14 : w_fi ws (n_v vs 1) 80 ≤ 130 := f14
  obtain ⟨f15, hf⟩ := fc_un (show (20 : Nat) < 100 from by decide) hf
  have f15 : (v_iv (n_v vs 2) + 1) ≤ w_fi ws (n_v vs 1) 101 := f15
  obtain ⟨f16, hf⟩ := fc_un (show (20 : Nat) < 100 from by decide) hf
  have f16 : 1 ≤ v_iv (n_v vs 3) := f16
  obtain ⟨f17, hf⟩ := fc_un (show (24 : Nat) < 100 from by decide) hf
  have f17 : n_v vs 0 = n_v vs 1 := f17
  obtain ⟨f18, hf⟩ := fc_un (show (20 : Nat) < 100 from by decide) hf
  have f18 : w_fi ws (n_v vs 1) 81 = (v_iv (n_v vs 22) + 1) := f18
  obtain ⟨f19, hf⟩ := fc_un (show (20 : Nat) < 100 from by decide) hf
  have f19 : PAP (w_fi ws (n_v vs 1) 81) (w_fi ws (n_v vs 1) 101) (w_ei ws (w_ar ws (n_v vs 1) 105)) (w_ei ws (w_ar ws (n_v vs 1) 106)) (w_ei ws (w_ar ws (n_v vs 1) 87)) (w_ei ws (w_ar ws (n_v vs 1) 88)) (w_ei ws (w_ar ws (n_v vs 1) 89)) (v_iv (n_v vs 23)) (v_iv (n_v vs 24)) := f19
  obtain ⟨ta1, w1, le1, ⟨_, s1⟩, hf⟩ := fc_us (show ¬ (102 : Nat) < 100 from by decide) hf
  obtain ⟨f21, hf⟩ := fc_un (show (23 : Nat) < 100 from by decide) hf
  have f21 : 1 * v_iv (n_v vs 23) + ((-1) * v_iv (n_v vs 2) + 0) ≤ 0 := f21
  obtain ⟨f22, hf⟩ := fc_un (show (23 : Nat) < 100 from by decide) hf
  have f22 : (-1) * v_iv (n_v vs 23) + (1 * v_iv (n_v vs 2) + 0) ≤ 0 := f22
  obtain ⟨f23, hf⟩ := fc_un (show (23 : Nat) < 100 from by decide) hf
  have f23 : 1 * v_iv (n_v vs 24) + ((-1) * v_iv (n_v vs 3) + 0) ≤ 0 := f23
  obtain ⟨f24, hf⟩ := fc_un (show (23 : Nat) < 100 from by decide) hf
  have f24 : (-1) * v_iv (n_v vs 24) + (1 * v_iv (n_v vs 3) + 0) ≤ 0 := f24
  obtain ⟨f25, hf⟩ := fc_un (show (1 : Nat) < 100 from by decide) hf
  have f25 : v_iv (n_v vs 21) = v_iv (n_v vs 19) + v_iv (n_v vs 20) := f25
  obtain ⟨f26, hf⟩ := fc_un (show (1 : Nat) < 100 from by decide) hf
  have f26 : v_iv (n_v vs 19) = v_iv (n_v vs 17) + v_iv (n_v vs 18) := f26
  obtain ⟨f27, hf⟩ := fc_un (show (7 : Nat) < 100 from by decide) hf
  have f27 : v_iv (n_v vs 3) < v_iv (n_v vs 5) := f27
  have q1 : n_v vs 1 = n_v vs 0 := f17.symm
  rw [q1] at f5
  rw [q1] at f9
  rw [q1] at f10
  rw [q1] at f11
  rw [q1] at f12
  rw [q1] at f13
  rw [q1] at f14
  rw [q1] at f15
  rw [q1] at f18
  rw [q1] at f19
  have cr_0_2 : ta (w_ar ws (n_v vs 0) 2) = some 152 := tv_rg (th_fd hD hth r0 (g := GG_150) rfl (k := 2) (t := (2, 0, 0, [152])) rfl rfl)
  have cr_0_83 : ta (w_ar ws (n_v vs 0) 83) = some 205 := tv_rg (th_fd hD hth r0 (g := GG_150) rfl (k := 83) (t := (2, 0, 0, [205])) rfl rfl)
  have cr_0_84 : ta (w_ar ws (n_v vs 0) 84) = some 206 := tv_rg (th_fd hD hth r0 (g := GG_150) rfl (k := 84) (t := (2, 0, 0, [206])) rfl rfl)
  have cr_0_85 : ta (w_ar ws (n_v vs 0) 85) = some 207 := tv_rg (th_fd hD hth r0 (g := GG_150) rfl (k := 85) (t := (2, 0, 0, [207])) rfl rfl)
  have cr_0_86 : ta (w_ar ws (n_v vs 0) 86) = some 208 := tv_rg (th_fd hD hth r0 (g := GG_150) rfl (k := 86) (t := (2, 0, 0, [208])) rfl rfl)
  have cr_0_87 : ta (w_ar ws (n_v vs 0) 87) = some 209 := tv_rg (th_fd hD hth r0 (g := GG_150) rfl (k := 87) (t := (2, 0, 0, [209])) rfl rfl)
  have cr_0_88 : ta (w_ar ws (n_v vs 0) 88) = some 210 := tv_rg (th_fd hD hth r0 (g := GG_150) rfl (k := 88) (t := (2, 0, 0, [210])) rfl rfl)
  have cr_0_89 : ta (w_ar ws (n_v vs 0) 89) = some 211 := tv_rg (th_fd hD hth r0 (g := GG_150) rfl (k := 89) (t := (2, 0, 0, [211])) rfl rfl)
  have cr_0_95 : ta (w_ar ws (n_v vs 0) 95) = some 216 := tv_rg (th_fd hD hth r0 (g := GG_150) rfl (k := 95) (t := (2, 0, 0, [216])) rfl rfl)
  have cr_0_102 : ta (w_ar ws (n_v vs 0) 102) = some 220 := tv_rg (th_fd hD hth r0 (g := GG_150) rfl (k := 102) (t := (2, 0, 0, [220])) rfl rfl)
  have cr_0_104 : ta (w_ar ws (n_v vs 0) 104) = some 222 := tv_rg (th_fd hD hth r0 (g := GG_150) rfl (k := 104) (t := (2, 0, 0, [222])) rfl rfl)
  have cr_0_105 : ta (w_ar ws (n_v vs 0) 105) = some 223 := tv_rg (th_fd hD hth r0 (g := GG_150) rfl (k := 105) (t := (2, 0, 0, [223])) rfl rfl)
  have cr_0_106 : ta (w_ar ws (n_v vs 0) 106) = some 224 := tv_rg (th_fd hD hth r0 (g := GG_150) rfl (k := 106) (t := (2, 0, 0, [224])) rfl rfl)
  have cr_0_108 : ta (w_ar ws (n_v vs 0) 108) = some 225 := tv_rg (th_fd hD hth r0 (g := GG_150) rfl (k := 108) (t := (2, 0, 0, [225])) rfl rfl)
  have cr_0_109 : ta (w_ar ws (n_v vs 0) 109) = some 226 := tv_rg (th_fd hD hth r0 (g := GG_150) rfl (k := 109) (t := (2, 0, 0, [226])) rfl rfl)
  have hK_0_83 : ∀ j : Int, 0 ≤ j → j < 200 → 0 ≤ w_ei ws (w_ar ws (n_v vs 0) 83) j ∧ w_ei ws (w_ar ws (n_v vs 0) 83) j ≤ 75 := fun j h0 h1 => th_el hD hth cr_0_83 (kd := 0) (n := 200) (m := 200) (lo := 0) (hi := 75) (rs := []) (L := []) rfl (by decide) (j := j.toNat) (by omega)
  have hK_0_84 : ∀ j : Int, 0 ≤ j → j < 200 → 0 ≤ w_ei ws (w_ar ws (n_v vs 0) 84) j ∧ w_ei ws (w_ar ws (n_v vs 0) 84) j ≤ 75 := fun j h0 h1 => th_el hD hth cr_0_84 (kd := 0) (n := 200) (m := 200) (lo := 0) (hi := 75) (rs := []) (L := []) rfl (by decide) (j := j.toNat) (by omega)
  have hK_0_85 : ∀ j : Int, 0 ≤ j → j < 200 → 0 ≤ w_ei ws (w_ar ws (n_v vs 0) 85) j ∧ w_ei ws (w_ar ws (n_v vs 0) 85) j ≤ 72 := fun j h0 h1 => th_el hD hth cr_0_85 (kd := 0) (n := 200) (m := 200) (lo := 0) (hi := 72) (rs := []) (L := []) rfl (by decide) (j := j.toNat) (by omega)
  have hK_0_86 : ∀ j : Int, 0 ≤ j → j < 200 → 0 ≤ w_ei ws (w_ar ws (n_v vs 0) 86) j ∧ w_ei ws (w_ar ws (n_v vs 0) 86) j ≤ 1 := fun j h0 h1 => th_el hD hth cr_0_86 (kd := 2) (n := 200) (m := 200) (lo := 0) (hi := 1) (rs := []) (L := []) rfl (by decide) (j := j.toNat) (by omega)
  have hK_0_87 : ∀ j : Int, 0 ≤ j → j < 200 → 0 ≤ w_ei ws (w_ar ws (n_v vs 0) 87) j ∧ w_ei ws (w_ar ws (n_v vs 0) 87) j ≤ 75 := fun j h0 h1 => th_el hD hth cr_0_87 (kd := 0) (n := 200) (m := 200) (lo := 0) (hi := 75) (rs := []) (L := []) rfl (by decide) (j := j.toNat) (by omega)
  have hK_0_88 : ∀ j : Int, 0 ≤ j → j < 200 → 0 ≤ w_ei ws (w_ar ws (n_v vs 0) 88) j ∧ w_ei ws (w_ar ws (n_v vs 0) 88) j ≤ 75 := fun j h0 h1 => th_el hD hth cr_0_88 (kd := 0) (n := 200) (m := 200) (lo := 0) (hi := 75) (rs := []) (L := []) rfl (by decide) (j := j.toNat) (by omega)
  have hK_0_89 : ∀ j : Int, 0 ≤ j → j < 200 → 0 ≤ w_ei ws (w_ar ws (n_v vs 0) 89) j ∧ w_ei ws (w_ar ws (n_v vs 0) 89) j ≤ 202 := fun j h0 h1 => th_el hD hth cr_0_89 (kd := 0) (n := 200) (m := 200) (lo := 0) (hi := 202) (rs := []) (L := []) rfl (by decide) (j := j.toNat) (by omega)
  have hK_0_95 : ∀ j : Int, 0 ≤ j → j < 48 → 0 ≤ w_ei ws (w_ar ws (n_v vs 0) 95) j ∧ w_ei ws (w_ar ws (n_v vs 0) 95) j ≤ 1 := fun j h0 h1 => th_el hD hth cr_0_95 (kd := 2) (n := 48) (m := 48) (lo := 0) (hi := 1) (rs := []) (L := []) rfl (by decide) (j := j.toNat) (by omega)
  have hK_0_102 : ∀ j : Int, 0 ≤ j → j < 76 → 0 ≤ w_ei ws (w_ar ws (n_v vs 0) 102) j ∧ w_ei ws (w_ar ws (n_v vs 0) 102) j ≤ 75 := fun j h0 h1 => th_el hD hth cr_0_102 (kd := 0) (n := 76) (m := 76) (lo := 0) (hi := 75) (rs := []) (L := []) rfl (by decide) (j := j.toNat) (by omega)
  have hK_0_104 : ∀ j : Int, 0 ≤ j → j < 48 → 0 ≤ w_ei ws (w_ar ws (n_v vs 0) 104) j ∧ w_ei ws (w_ar ws (n_v vs 0) 104) j ≤ 76 := fun j h0 h1 => th_el hD hth cr_0_104 (kd := 0) (n := 48) (m := 48) (lo := 0) (hi := 76) (rs := []) (L := []) rfl (by decide) (j := j.toNat) (by omega)
  have hK_0_105 : ∀ j : Int, 0 ≤ j → j < 76 → 0 ≤ w_ei ws (w_ar ws (n_v vs 0) 105) j ∧ w_ei ws (w_ar ws (n_v vs 0) 105) j ≤ 76 := fun j h0 h1 => th_el hD hth cr_0_105 (kd := 0) (n := 76) (m := 76) (lo := 0) (hi := 76) (rs := []) (L := []) rfl (by decide) (j := j.toNat) (by omega)
  have hK_0_106 : ∀ j : Int, 0 ≤ j → j < 5776 → 0 ≤ w_ei ws (w_ar ws (n_v vs 0) 106) j ∧ w_ei ws (w_ar ws (n_v vs 0) 106) j ≤ 75 := fun j h0 h1 => th_el hD hth cr_0_106 (kd := 0) (n := 5776) (m := 5776) (lo := 0) (hi := 75) (rs := []) (L := []) rfl (by decide) (j := j.toNat) (by omega)
  have hK_0_108 : ∀ j : Int, 0 ≤ j → j < 130 → 0 ≤ w_ei ws (w_ar ws (n_v vs 0) 108) j ∧ w_ei ws (w_ar ws (n_v vs 0) 108) j ≤ 75 := fun j h0 h1 => th_el hD hth cr_0_108 (kd := 0) (n := 130) (m := 130) (lo := 0) (hi := 75) (rs := []) (L := []) rfl (by decide) (j := j.toNat) (by omega)
  have hK_0_109 : ∀ j : Int, 0 ≤ j → j < 130 → 0 ≤ w_ei ws (w_ar ws (n_v vs 0) 109) j ∧ w_ei ws (w_ar ws (n_v vs 0) 109) j ≤ 75 := fun j h0 h1 => th_el hD hth cr_0_109 (kd := 0) (n := 130) (m := 130) (lo := 0) (hi := 75) (rs := []) (L := []) rfl (by decide) (j := j.toNat) (by omega)
  have kz_0_79 : 0 ≤ w_fi ws (n_v vs 0) 79 ∧ w_fi ws (n_v vs 0) 79 ≤ 76 := tv_rng (th_fd hD hth r0 (g := GG_150) rfl (k := 79) (t := (0, 0, 76, [])) rfl rfl)
  have kz_0_80 : 0 ≤ w_fi ws (n_v vs 0) 80 ∧ w_fi ws (n_v vs 0) 80 ≤ 200 := tv_rng (th_fd hD hth r0 (g := GG_150) rfl (k := 80) (t := (0, 0, 200, [])) rfl rfl)
  have kz_0_81 : 0 ≤ w_fi ws (n_v vs 0) 81 ∧ w_fi ws (n_v vs 0) 81 ≤ 200 := tv_rng (th_fd hD hth r0 (g := GG_150) rfl (k := 81) (t := (0, 0, 200, [])) rfl rfl)
  have kz_0_100 : 0 ≤ w_fi ws (n_v vs 0) 100 ∧ w_fi ws (n_v vs 0) 100 ≤ 76 := tv_rng (th_fd hD hth r0 (g := GG_150) rfl (k := 100) (t := (0, 0, 76, [])) rfl rfl)
  have kz_0_101 : 0 ≤ w_fi ws (n_v vs 0) 101 ∧ w_fi ws (n_v vs 0) 101 ≤ 76 := tv_rng (th_fd hD hth r0 (g := GG_150) rfl (k := 101) (t := (0, 0, 76, [])) rfl rfl)
  have kz_0_107 : 0 ≤ w_fi ws (n_v vs 0) 107 ∧ w_fi ws (n_v vs 0) 107 ≤ 130 := tv_rng (th_fd hD hth r0 (g := GG_150) rfl (k := 107) (t := (0, 0, 130, [])) rfl rfl)
  have nf0 : fc_1 PRD (20, [1, 2, 25], [60, 2, 5, 393, 81, 101, 105, 106, 87, 88, 89]) ws (vs) := by
    refine ⟨fun n hn => ?_, ?_⟩
    · have hn : n ∈ [1, 2, 25] := hn
      rw [hl]
      simp only [List.mem_cons, List.not_mem_nil, or_false] at hn
      show n < 26; omega
    · show PAL2 (w_fi ws (n_v vs 1) 81) (w_fi ws (n_v vs 1) 101) (w_ei ws (w_ar ws (n_v vs 1) 105)) (w_ei ws (w_ar ws (n_v vs 1) 106)) (w_ei ws (w_ar ws (n_v vs 1) 87)) (w_ei ws (w_ar ws (n_v vs 1) 88)) (w_ei ws (w_ar ws (n_v vs 1) 89)) (v_iv (n_v vs 2)) (v_iv (n_v vs 25))
      rw [q1]
      exact vc_Mo_across2_20_0 (v_iv (n_v vs 2)) (v_iv (n_v vs 3)) (v_iv (n_v vs 5)) (v_iv (n_v vs 12)) (v_iv (n_v vs 16)) (v_iv (n_v vs 17)) (v_iv (n_v vs 18)) (v_iv (n_v vs 19)) (v_iv (n_v vs 20)) (v_iv (n_v vs 21)) (v_iv (n_v vs 22)) (v_iv (n_v vs 23)) (v_iv (n_v vs 24)) (v_iv (n_v vs 25)) (w_ei ws (w_ar ws (n_v vs 0) 105)) (w_ei ws (w_ar ws (n_v vs 0) 106)) (w_fi ws (n_v vs 0) 101) (w_ei ws (w_ar ws (n_v vs 0) 2)) (w_ei ws (w_ar ws (n_v vs 0) 95)) (w_ei ws (w_ar ws (n_v vs 0) 102)) (w_ei ws (w_ar ws (n_v vs 0) 104)) (w_ei ws (w_ar ws (n_v vs 0) 108)) (w_ei ws (w_ar ws (n_v vs 0) 109)) (w_fi ws (n_v vs 0) 5) (w_fi ws (n_v vs 0) 100) (w_fi ws (n_v vs 0) 107) (w_fi ws (n_v vs 0) 79) (w_ei ws (w_ar ws (n_v vs 0) 83)) (w_ei ws (w_ar ws (n_v vs 0) 84)) (w_ei ws (w_ar ws (n_v vs 0) 85)) (w_ei ws (w_ar ws (n_v vs 0) 86)) (w_fi ws (n_v vs 0) 80) (w_fi ws (n_v vs 0) 81) (w_ei ws (w_ar ws (n_v vs 0) 87)) (w_ei ws (w_ar ws (n_v vs 0) 88)) (w_ei ws (w_ar ws (n_v vs 0) 89)) k2 k3 k5 k12 k16 k17 k18 k19 k20 k21 k22 k23 k24 k25 d0 d1 d2 d3 d4 d5 f0 f1 f2 f3 f4 f5 f6 f7 f8 f9 f10 f11 f12 f13 f14 f15 f16 f18 f19 f21 f22 f23 f24 f25 f26 f27 hK_0_83 hK_0_84 hK_0_85 hK_0_86 hK_0_87 hK_0_88 hK_0_89 hK_0_95 hK_0_102 hK_0_104 hK_0_105 hK_0_106 hK_0_108 hK_0_109 kz_0_79 kz_0_80 kz_0_81 kz_0_100 kz_0_101 kz_0_107
  have nf1 : fc_1 PRD (20, [1], [50, 1, 0, 81, 0, 3, 2, 0, 81, 0, 76]) ws (vs) := by
    refine ⟨fun n hn => ?_, ?_⟩
    · have hn : n ∈ [1] := hn
      rw [hl]
      simp only [List.mem_cons, List.not_mem_nil, or_false] at hn
      show n < 26; omega
    · show w_fi ws (n_v vs 1) 81 ≤ 76
      rw [q1]
      exact vc_Mo_across2_20_1 (v_iv (n_v vs 2)) (v_iv (n_v vs 3)) (v_iv (n_v vs 5)) (v_iv (n_v vs 12)) (v_iv (n_v vs 16)) (v_iv (n_v vs 17)) (v_iv (n_v vs 18)) (v_iv (n_v vs 19)) (v_iv (n_v vs 20)) (v_iv (n_v vs 21)) (v_iv (n_v vs 22)) (v_iv (n_v vs 23)) (v_iv (n_v vs 24)) (v_iv (n_v vs 25)) (w_ei ws (w_ar ws (n_v vs 0) 105)) (w_ei ws (w_ar ws (n_v vs 0) 106)) (w_fi ws (n_v vs 0) 101) (w_ei ws (w_ar ws (n_v vs 0) 2)) (w_ei ws (w_ar ws (n_v vs 0) 95)) (w_ei ws (w_ar ws (n_v vs 0) 102)) (w_ei ws (w_ar ws (n_v vs 0) 104)) (w_ei ws (w_ar ws (n_v vs 0) 108)) (w_ei ws (w_ar ws (n_v vs 0) 109)) (w_fi ws (n_v vs 0) 5) (w_fi ws (n_v vs 0) 100) (w_fi ws (n_v vs 0) 107) (w_fi ws (n_v vs 0) 79) (w_ei ws (w_ar ws (n_v vs 0) 83)) (w_ei ws (w_ar ws (n_v vs 0) 84)) (w_ei ws (w_ar ws (n_v vs 0) 85)) (w_ei ws (w_ar ws (n_v vs 0) 86)) (w_fi ws (n_v vs 0) 80) (w_fi ws (n_v vs 0) 81) (w_ei ws (w_ar ws (n_v vs 0) 87)) (w_ei ws (w_ar ws (n_v vs 0) 88)) (w_ei ws (w_ar ws (n_v vs 0) 89)) k2 k3 k5 k12 k16 k17 k18 k19 k20 k21 k22 k23 k24 k25 d0 d1 d2 d3 d4 d5 f0 f1 f2 f3 f4 f5 f6 f7 f8 f9 f10 f11 f12 f13 f14 f15 f16 f18 f19 f21 f22 f23 f24 f25 f26 f27 hK_0_83 hK_0_84 hK_0_85 hK_0_86 hK_0_87 hK_0_88 hK_0_89 hK_0_95 hK_0_102 hK_0_104 hK_0_105 hK_0_106 hK_0_108 hK_0_109 kz_0_79 kz_0_80 kz_0_81 kz_0_100 kz_0_101 kz_0_107
  have nf2 : fc_1 PRD (20, [25], [50, 0, 0, 0, 2, 0, 1, 1, 0]) ws (vs) := by
    refine ⟨fun n hn => ?_, ?_⟩
    · have hn : n ∈ [25] := hn
      rw [hl]
      simp only [List.mem_cons, List.not_mem_nil, or_false] at hn
      show n < 26; omega
    · show 1 ≤ v_iv (n_v vs 25)
      exact vc_Mo_across2_20_2 (v_iv (n_v vs 2)) (v_iv (n_v vs 3)) (v_iv (n_v vs 5)) (v_iv (n_v vs 12)) (v_iv (n_v vs 16)) (v_iv (n_v vs 17)) (v_iv (n_v vs 18)) (v_iv (n_v vs 19)) (v_iv (n_v vs 20)) (v_iv (n_v vs 21)) (v_iv (n_v vs 22)) (v_iv (n_v vs 23)) (v_iv (n_v vs 24)) (v_iv (n_v vs 25)) (w_ei ws (w_ar ws (n_v vs 0) 105)) (w_ei ws (w_ar ws (n_v vs 0) 106)) (w_fi ws (n_v vs 0) 101) (w_ei ws (w_ar ws (n_v vs 0) 2)) (w_ei ws (w_ar ws (n_v vs 0) 95)) (w_ei ws (w_ar ws (n_v vs 0) 102)) (w_ei ws (w_ar ws (n_v vs 0) 104)) (w_ei ws (w_ar ws (n_v vs 0) 108)) (w_ei ws (w_ar ws (n_v vs 0) 109)) (w_fi ws (n_v vs 0) 5) (w_fi ws (n_v vs 0) 100) (w_fi ws (n_v vs 0) 107) (w_fi ws (n_v vs 0) 79) (w_ei ws (w_ar ws (n_v vs 0) 83)) (w_ei ws (w_ar ws (n_v vs 0) 84)) (w_ei ws (w_ar ws (n_v vs 0) 85)) (w_ei ws (w_ar ws (n_v vs 0) 86)) (w_fi ws (n_v vs 0) 80) (w_fi ws (n_v vs 0) 81) (w_ei ws (w_ar ws (n_v vs 0) 87)) (w_ei ws (w_ar ws (n_v vs 0) 88)) (w_ei ws (w_ar ws (n_v vs 0) 89)) k2 k3 k5 k12 k16 k17 k18 k19 k20 k21 k22 k23 k24 k25 d0 d1 d2 d3 d4 d5 f0 f1 f2 f3 f4 f5 f6 f7 f8 f9 f10 f11 f12 f13 f14 f15 f16 f18 f19 f21 f22 f23 f24 f25 f26 f27 hK_0_83 hK_0_84 hK_0_85 hK_0_86 hK_0_87 hK_0_88 hK_0_89 hK_0_95 hK_0_102 hK_0_104 hK_0_105 hK_0_106 hK_0_108 hK_0_109 kz_0_79 kz_0_80 kz_0_81 kz_0_100 kz_0_101 kz_0_107
  refine ⟨(fun _ h => (by cases h)), [], trivial, ?_, (fun _ h => (by cases h))⟩
  rw [List.append_nil]
  exact List.forall_mem_cons.mpr ⟨⟨show (20 : Nat) < 100 from by decide, nf0⟩, List.forall_mem_cons.mpr ⟨⟨show (20 : Nat) < 100 from by decide, nf1⟩, List.forall_mem_cons.mpr ⟨⟨show (20 : Nat) < 100 from by decide, nf2⟩, (fun _ h => (by cases h))⟩⟩⟩
set_option maxHeartbeats 4000000 in
theorem vc_Mo_across2_21_0 (x2 : Int) (x3 : Int) (x5 : Int) (x7 : Int) (x8 : Int) (x9 : Int) (x10 : Int) (x11 : Int) (x12 : Int) (x13 : Int) (x14 : Int) (x15 : Int) (x16 : Int) (x17 : Int) (x18 : Int) (x19 : Int) (x20 : Int) (x21 : Int) (layerItem_0 : Int → Int) (layerSize_0 : Int → Int) (all_0 : Int → Int) (turned_0 : Int → Int) (itemLayer_0 : Int → Int) (firstJoint_0 : Int → Int) (lineA_0 : Int → Int) (lineB_0 : Int → Int) (r_0 : Int) (items_0 : Int) (layerMany_0 : Int) (lines_0 : Int) (pointMany_0 : Int) (costA_0 : Int → Int) (costB_0 : Int → Int) (costW_0 : Int → Int) (costPlain_0 : Int → Int) (costMany_0 : Int) (apartA_0 : Int → Int) (apartB_0 : Int → Int) (apart_0 : Int → Int) (apartMany_0 : Int) (gx : Int) (gy : Int) (gu : Int) (k2 : 0 ≤ x2 ∧ x2 ≤ 75) (k3 : 1 ≤ x3 ∧ x3 ≤ 75) (k5 : 2 ≤ x5 ∧ x5 ≤ 76) (k7 : 76 ≤ x7 ∧ x7 ≤ 76) (k8 : 0 ≤ x8 ∧ x8 ≤ 5700) (k9 : 1 ≤ x9 ∧ x9 ≤ 5775) (k10 : 1 ≤ x10 ∧ x10 ≤ 1) (k11 : 0 ≤ x11 ∧ x11 ≤ 5774) (k12 : 0 ≤ x12 ∧ x12 ≤ 23) (k13 : 76 ≤ x13 ∧ x13 ≤ 76) (k14 : 0 ≤ x14 ∧ x14 ≤ 5700) (k15 : 1 ≤ x15 ∧ x15 ≤ 5775) (k16 : 0 ≤ x16 ∧ x16 ≤ 23) (k17 : 1 ≤ x17 ∧ x17 ≤ 9) (k18 : 1 ≤ x18 ∧ x18 ≤ 9) (k19 : 2 ≤ x19 ∧ x19 ≤ 18) (k20 : 2 ≤ x20 ∧ x20 ≤ 2) (k21 : 4 ≤ x21 ∧ x21 ≤ 20) (d0 : x19 + 2 ≤ x21 ∧ x21 ≤ x19 + 2) (d1 : x18 + 3 ≤ x21 ∧ x21 ≤ x18 + 11) (d2 : x17 + 3 ≤ x21 ∧ x21 ≤ x17 + 11) (d3 : x18 + 1 ≤ x19 ∧ x19 ≤ x18 + 9) (d4 : x17 + 1 ≤ x19 ∧ x19 ≤ x17 + 9) (d5 : x3 + 0 ≤ x15 ∧ x15 ≤ x3 + 5700) (d6 : x5 + (-4294967296) ≤ x15 ∧ x15 ≤ x5 + 5699) (d7 : x14 + 1 ≤ x15 ∧ x15 ≤ x14 + 75) (d8 : x9 + (-1) ≤ x11 ∧ x11 ≤ x9 + (-1)) (d9 : x3 + (-1) ≤ x11 ∧ x11 ≤ x3 + 5699) (d10 : x5 + (-4294967296) ≤ x11 ∧ x11 ≤ x5 + 5698) (d11 : x8 + 0 ≤ x11 ∧ x11 ≤ x8 + 74) (d12 : x3 + 0 ≤ x9 ∧ x9 ≤ x3 + 5700) (d13 : x5 + (-4294967296) ≤ x9 ∧ x9 ≤ x5 + 5699) (d14 : x8 + 1 ≤ x9 ∧ x9 ≤ x8 + 75) (d15 : x5 + (-4294967296) ≤ x3 ∧ x3 ≤ x5 + (-1)) (f0 : x21 = x19 + x20) (f1 : x19 = x17 + x18) (f2 : (0 ≤ x18) ∧ (x18 ≤ 100)) (f3 : (0 ≤ x17) ∧ (x17 ≤ 100)) (h4 : x16 = layerItem_0 (x15)) (f5 : x15 = x14 + x3) (f6 : x14 = 76 * x2) (h8 : x12 = layerItem_0 (x11)) (f9 : x11 = x9 - x10) (f10 : x9 = x8 + x3) (f11 : x8 = 76 * x2) (f12 : x3 < x5) (h13 : x5 = layerSize_0 (x2)) (f15 : LSA (r_0) (items_0) (layerMany_0) (lines_0) (all_0) (turned_0) (itemLayer_0) (firstJoint_0) (lineA_0) (lineB_0)) (f16 : LSB (items_0) (layerMany_0) (itemLayer_0) (layerSize_0) (layerItem_0)) (f17 : SGR (r_0) (all_0)) (f18 : pointMany_0 = items_0) (f19 : PCQ (pointMany_0) (costMany_0) (costA_0) (costB_0) (costW_0) (costPlain_0)) (f20 : costMany_0 ≤ 130) (f21 : PAL2 (apartMany_0) (layerMany_0) (layerSize_0) (layerItem_0) (apartA_0) (apartB_0) (apart_0) (x2) (x3)) (f22 : apartMany_0 ≤ 76) (f23 : (x2 + 1) ≤ layerMany_0) (f24 : 1 ≤ x3) (hK_0_83 : ∀ j : Int, 0 ≤ j → j < 200 → 0 ≤ costA_0 j ∧ costA_0 j ≤ 75) (hK_0_84 : ∀ j : Int, 0 ≤ j → j < 200 → 0 ≤ costB_0 j ∧ costB_0 j ≤ 75) (hK_0_85 : ∀ j : Int, 0 ≤ j → j < 200 → 0 ≤ costW_0 j ∧ costW_0 j ≤ 72) (hK_0_86 : ∀ j : Int, 0 ≤ j → j < 200 → 0 ≤ costPlain_0 j ∧ costPlain_0 j ≤ 1) (hK_0_87 : ∀ j : Int, 0 ≤ j → j < 200 → 0 ≤ apartA_0 j ∧ apartA_0 j ≤ 75) (hK_0_88 : ∀ j : Int, 0 ≤ j → j < 200 → 0 ≤ apartB_0 j ∧ apartB_0 j ≤ 75) (hK_0_89 : ∀ j : Int, 0 ≤ j → j < 200 → 0 ≤ apart_0 j ∧ apart_0 j ≤ 202) (hK_0_95 : ∀ j : Int, 0 ≤ j → j < 48 → 0 ≤ turned_0 j ∧ turned_0 j ≤ 1) (hK_0_102 : ∀ j : Int, 0 ≤ j → j < 76 → 0 ≤ itemLayer_0 j ∧ itemLayer_0 j ≤ 75) (hK_0_104 : ∀ j : Int, 0 ≤ j → j < 48 → 0 ≤ firstJoint_0 j ∧ firstJoint_0 j ≤ 76) (hK_0_105 : ∀ j : Int, 0 ≤ j → j < 76 → 0 ≤ layerSize_0 j ∧ layerSize_0 j ≤ 76) (hK_0_106 : ∀ j : Int, 0 ≤ j → j < 5776 → 0 ≤ layerItem_0 j ∧ layerItem_0 j ≤ 75) (hK_0_108 : ∀ j : Int, 0 ≤ j → j < 130 → 0 ≤ lineA_0 j ∧ lineA_0 j ≤ 75) (hK_0_109 : ∀ j : Int, 0 ≤ j → j < 130 → 0 ≤ lineB_0 j ∧ lineB_0 j ≤ 75) (kz_0_79 : 0 ≤ pointMany_0 ∧ pointMany_0 ≤ 76) (kz_0_80 : 0 ≤ costMany_0 ∧ costMany_0 ≤ 200) (kz_0_81 : 0 ≤ apartMany_0 ∧ apartMany_0 ≤ 200) (kz_0_100 : 0 ≤ items_0 ∧ items_0 ≤ 76) (kz_0_101 : 0 ≤ layerMany_0 ∧ layerMany_0 ≤ 76) (kz_0_107 : 0 ≤ lines_0 ∧ lines_0 ≤ 130) (ex2 : gx = apartMany_0) (ex3 : 0 ≤ gx ∧ gx ≤ 199) (ey2 : gy = x2) (ey3 : 0 ≤ gy ∧ gy ≤ 75) (eu2 : gu = x3) (eu3 : 1 ≤ gu ∧ gu ≤ 75) : 1 * gy + ((-1) * x2 + 0) ≤ 0 := by
  try simp only [Int.add_zero] at *
  first
    | omega
    | (have h := ‹LSA _ _ _ _ _ _ _ _ _ _›.2.1; omega)
    | (have h := lsa_la (p := x2) (x := x15) ‹LSA _ _ _ _ _ _ _ _ _ _› (by omega) (by omega) (by assumption); omega)
    | (have h := lsa_lb (p := x2) (x := x16) ‹LSA _ _ _ _ _ _ _ _ _ _› (by omega) (by omega) (by assumption); omega)
set_option maxHeartbeats 4000000 in
theorem vc_Mo_across2_21_1 (x2 : Int) (x3 : Int) (x5 : Int) (x7 : Int) (x8 : Int) (x9 : Int) (x10 : Int) (x11 : Int) (x12 : Int) (x13 : Int) (x14 : Int) (x15 : Int) (x16 : Int) (x17 : Int) (x18 : Int) (x19 : Int) (x20 : Int) (x21 : Int) (layerItem_0 : Int → Int) (layerSize_0 : Int → Int) (all_0 : Int → Int) (turned_0 : Int → Int) (itemLayer_0 : Int → Int) (firstJoint_0 : Int → Int) (lineA_0 : Int → Int) (lineB_0 : Int → Int) (r_0 : Int) (items_0 : Int) (layerMany_0 : Int) (lines_0 : Int) (pointMany_0 : Int) (costA_0 : Int → Int) (costB_0 : Int → Int) (costW_0 : Int → Int) (costPlain_0 : Int → Int) (costMany_0 : Int) (apartA_0 : Int → Int) (apartB_0 : Int → Int) (apart_0 : Int → Int) (apartMany_0 : Int) (gx : Int) (gy : Int) (gu : Int) (k2 : 0 ≤ x2 ∧ x2 ≤ 75) (k3 : 1 ≤ x3 ∧ x3 ≤ 75) (k5 : 2 ≤ x5 ∧ x5 ≤ 76) (k7 : 76 ≤ x7 ∧ x7 ≤ 76) (k8 : 0 ≤ x8 ∧ x8 ≤ 5700) (k9 : 1 ≤ x9 ∧ x9 ≤ 5775) (k10 : 1 ≤ x10 ∧ x10 ≤ 1) (k11 : 0 ≤ x11 ∧ x11 ≤ 5774) (k12 : 0 ≤ x12 ∧ x12 ≤ 23) (k13 : 76 ≤ x13 ∧ x13 ≤ 76) (k14 : 0 ≤ x14 ∧ x14 ≤ 5700) (k15 : 1 ≤ x15 ∧ x15 ≤ 5775) (k16 : 0 ≤ x16 ∧ x16 ≤ 23) (k17 : 1 ≤ x17 ∧ x17 ≤ 9) (k18 : 1 ≤ x18 ∧ x18 ≤ 9) (k19 : 2 ≤ x19 ∧ x19 ≤ 18) (k20 : 2 ≤ x20 ∧ x20 ≤ 2) (k21 : 4 ≤ x21 ∧ x21 ≤ 20) (d0 : x19 + 2 ≤ x21 ∧ x21 ≤ x19 + 2) (d1 : x18 + 3 ≤ x21 ∧ x21 ≤ x18 + 11) (d2 : x17 + 3 ≤ x21 ∧ x21 ≤ x17 + 11) (d3 : x18 + 1 ≤ x19 ∧ x19 ≤ x18 + 9) (d4 : x17 + 1 ≤ x19 ∧ x19 ≤ x17 + 9) (d5 : x3 + 0 ≤ x15 ∧ x15 ≤ x3 + 5700) (d6 : x5 + (-4294967296) ≤ x15 ∧ x15 ≤ x5 + 5699) (d7 : x14 + 1 ≤ x15 ∧ x15 ≤ x14 + 75) (d8 : x9 + (-1) ≤ x11 ∧ x11 ≤ x9 + (-1)) (d9 : x3 + (-1) ≤ x11 ∧ x11 ≤ x3 + 5699) (d10 : x5 + (-4294967296) ≤ x11 ∧ x11 ≤ x5 + 5698) (d11 : x8 + 0 ≤ x11 ∧ x11 ≤ x8 + 74) (d12 : x3 + 0 ≤ x9 ∧ x9 ≤ x3 + 5700) (d13 : x5 + (-4294967296) ≤ x9 ∧ x9 ≤ x5 + 5699) (d14 : x8 + 1 ≤ x9 ∧ x9 ≤ x8 + 75) (d15 : x5 + (-4294967296) ≤ x3 ∧ x3 ≤ x5 + (-1)) (f0 : x21 = x19 + x20) (f1 : x19 = x17 + x18) (f2 : (0 ≤ x18) ∧ (x18 ≤ 100)) (f3 : (0 ≤ x17) ∧ (x17 ≤ 100)) (h4 : x16 = layerItem_0 (x15)) (f5 : x15 = x14 + x3) (f6 : x14 = 76 * x2) (h8 : x12 = layerItem_0 (x11)) (f9 : x11 = x9 - x10) (f10 : x9 = x8 + x3) (f11 : x8 = 76 * x2) (f12 : x3 < x5) (h13 : x5 = layerSize_0 (x2)) (f15 : LSA (r_0) (items_0) (layerMany_0) (lines_0) (all_0) (turned_0) (itemLayer_0) (firstJoint_0) (lineA_0) (lineB_0)) (f16 : LSB (items_0) (layerMany_0) (itemLayer_0) (layerSize_0) (layerItem_0)) (f17 : SGR (r_0) (all_0)) (f18 : pointMany_0 = items_0) (f19 : PCQ (pointMany_0) (costMany_0) (costA_0) (costB_0) (costW_0) (costPlain_0)) (f20 : costMany_0 ≤ 130) (f21 : PAL2 (apartMany_0) (layerMany_0) (layerSize_0) (layerItem_0) (apartA_0) (apartB_0) (apart_0) (x2) (x3)) (f22 : apartMany_0 ≤ 76) (f23 : (x2 + 1) ≤ layerMany_0) (f24 : 1 ≤ x3) (hK_0_83 : ∀ j : Int, 0 ≤ j → j < 200 → 0 ≤ costA_0 j ∧ costA_0 j ≤ 75) (hK_0_84 : ∀ j : Int, 0 ≤ j → j < 200 → 0 ≤ costB_0 j ∧ costB_0 j ≤ 75) (hK_0_85 : ∀ j : Int, 0 ≤ j → j < 200 → 0 ≤ costW_0 j ∧ costW_0 j ≤ 72) (hK_0_86 : ∀ j : Int, 0 ≤ j → j < 200 → 0 ≤ costPlain_0 j ∧ costPlain_0 j ≤ 1) (hK_0_87 : ∀ j : Int, 0 ≤ j → j < 200 → 0 ≤ apartA_0 j ∧ apartA_0 j ≤ 75) (hK_0_88 : ∀ j : Int, 0 ≤ j → j < 200 → 0 ≤ apartB_0 j ∧ apartB_0 j ≤ 75) (hK_0_89 : ∀ j : Int, 0 ≤ j → j < 200 → 0 ≤ apart_0 j ∧ apart_0 j ≤ 202) (hK_0_95 : ∀ j : Int, 0 ≤ j → j < 48 → 0 ≤ turned_0 j ∧ turned_0 j ≤ 1) (hK_0_102 : ∀ j : Int, 0 ≤ j → j < 76 → 0 ≤ itemLayer_0 j ∧ itemLayer_0 j ≤ 75) (hK_0_104 : ∀ j : Int, 0 ≤ j → j < 48 → 0 ≤ firstJoint_0 j ∧ firstJoint_0 j ≤ 76) (hK_0_105 : ∀ j : Int, 0 ≤ j → j < 76 → 0 ≤ layerSize_0 j ∧ layerSize_0 j ≤ 76) (hK_0_106 : ∀ j : Int, 0 ≤ j → j < 5776 → 0 ≤ layerItem_0 j ∧ layerItem_0 j ≤ 75) (hK_0_108 : ∀ j : Int, 0 ≤ j → j < 130 → 0 ≤ lineA_0 j ∧ lineA_0 j ≤ 75) (hK_0_109 : ∀ j : Int, 0 ≤ j → j < 130 → 0 ≤ lineB_0 j ∧ lineB_0 j ≤ 75) (kz_0_79 : 0 ≤ pointMany_0 ∧ pointMany_0 ≤ 76) (kz_0_80 : 0 ≤ costMany_0 ∧ costMany_0 ≤ 200) (kz_0_81 : 0 ≤ apartMany_0 ∧ apartMany_0 ≤ 200) (kz_0_100 : 0 ≤ items_0 ∧ items_0 ≤ 76) (kz_0_101 : 0 ≤ layerMany_0 ∧ layerMany_0 ≤ 76) (kz_0_107 : 0 ≤ lines_0 ∧ lines_0 ≤ 130) (ex2 : gx = apartMany_0) (ex3 : 0 ≤ gx ∧ gx ≤ 199) (ey2 : gy = x2) (ey3 : 0 ≤ gy ∧ gy ≤ 75) (eu2 : gu = x3) (eu3 : 1 ≤ gu ∧ gu ≤ 75) : (-1) * gy + (1 * x2 + 0) ≤ 0 := by
  try simp only [Int.add_zero] at *
  first
    | omega
    | (have h := ‹LSA _ _ _ _ _ _ _ _ _ _›.2.1; omega)
    | (have h := lsa_la (p := x2) (x := x15) ‹LSA _ _ _ _ _ _ _ _ _ _› (by omega) (by omega) (by assumption); omega)
    | (have h := lsa_lb (p := x2) (x := x16) ‹LSA _ _ _ _ _ _ _ _ _ _› (by omega) (by omega) (by assumption); omega)
set_option maxHeartbeats 4000000 in
theorem vc_Mo_across2_21_2 (x2 : Int) (x3 : Int) (x5 : Int) (x7 : Int) (x8 : Int) (x9 : Int) (x10 : Int) (x11 : Int) (x12 : Int) (x13 : Int) (x14 : Int) (x15 : Int) (x16 : Int) (x17 : Int) (x18 : Int) (x19 : Int) (x20 : Int) (x21 : Int) (layerItem_0 : Int → Int) (layerSize_0 : Int → Int) (all_0 : Int → Int) (turned_0 : Int → Int) (itemLayer_0 : Int → Int) (firstJoint_0 : Int → Int) (lineA_0 : Int → Int) (lineB_0 : Int → Int) (r_0 : Int) (items_0 : Int) (layerMany_0 : Int) (lines_0 : Int) (pointMany_0 : Int) (costA_0 : Int → Int) (costB_0 : Int → Int) (costW_0 : Int → Int) (costPlain_0 : Int → Int) (costMany_0 : Int) (apartA_0 : Int → Int) (apartB_0 : Int → Int) (apart_0 : Int → Int) (apartMany_0 : Int) (gx : Int) (gy : Int) (gu : Int) (k2 : 0 ≤ x2 ∧ x2 ≤ 75) (k3 : 1 ≤ x3 ∧ x3 ≤ 75) (k5 : 2 ≤ x5 ∧ x5 ≤ 76) (k7 : 76 ≤ x7 ∧ x7 ≤ 76) (k8 : 0 ≤ x8 ∧ x8 ≤ 5700) (k9 : 1 ≤ x9 ∧ x9 ≤ 5775) (k10 : 1 ≤ x10 ∧ x10 ≤ 1) (k11 : 0 ≤ x11 ∧ x11 ≤ 5774) (k12 : 0 ≤ x12 ∧ x12 ≤ 23) (k13 : 76 ≤ x13 ∧ x13 ≤ 76) (k14 : 0 ≤ x14 ∧ x14 ≤ 5700) (k15 : 1 ≤ x15 ∧ x15 ≤ 5775) (k16 : 0 ≤ x16 ∧ x16 ≤ 23) (k17 : 1 ≤ x17 ∧ x17 ≤ 9) (k18 : 1 ≤ x18 ∧ x18 ≤ 9) (k19 : 2 ≤ x19 ∧ x19 ≤ 18) (k20 : 2 ≤ x20 ∧ x20 ≤ 2) (k21 : 4 ≤ x21 ∧ x21 ≤ 20) (d0 : x19 + 2 ≤ x21 ∧ x21 ≤ x19 + 2) (d1 : x18 + 3 ≤ x21 ∧ x21 ≤ x18 + 11) (d2 : x17 + 3 ≤ x21 ∧ x21 ≤ x17 + 11) (d3 : x18 + 1 ≤ x19 ∧ x19 ≤ x18 + 9) (d4 : x17 + 1 ≤ x19 ∧ x19 ≤ x17 + 9) (d5 : x3 + 0 ≤ x15 ∧ x15 ≤ x3 + 5700) (d6 : x5 + (-4294967296) ≤ x15 ∧ x15 ≤ x5 + 5699) (d7 : x14 + 1 ≤ x15 ∧ x15 ≤ x14 + 75) (d8 : x9 + (-1) ≤ x11 ∧ x11 ≤ x9 + (-1)) (d9 : x3 + (-1) ≤ x11 ∧ x11 ≤ x3 + 5699) (d10 : x5 + (-4294967296) ≤ x11 ∧ x11 ≤ x5 + 5698) (d11 : x8 + 0 ≤ x11 ∧ x11 ≤ x8 + 74) (d12 : x3 + 0 ≤ x9 ∧ x9 ≤ x3 + 5700) (d13 : x5 + (-4294967296) ≤ x9 ∧ x9 ≤ x5 + 5699) (d14 : x8 + 1 ≤ x9 ∧ x9 ≤ x8 + 75) (d15 : x5 + (-4294967296) ≤ x3 ∧ x3 ≤ x5 + (-1)) (f0 : x21 = x19 + x20) (f1 : x19 = x17 + x18) (f2 : (0 ≤ x18) ∧ (x18 ≤ 100)) (f3 : (0 ≤ x17) ∧ (x17 ≤ 100)) (h4 : x16 = layerItem_0 (x15)) (f5 : x15 = x14 + x3) (f6 : x14 = 76 * x2) (h8 : x12 = layerItem_0 (x11)) (f9 : x11 = x9 - x10) (f10 : x9 = x8 + x3) (f11 : x8 = 76 * x2) (f12 : x3 < x5) (h13 : x5 = layerSize_0 (x2)) (f15 : LSA (r_0) (items_0) (layerMany_0) (lines_0) (all_0) (turned_0) (itemLayer_0) (firstJoint_0) (lineA_0) (lineB_0)) (f16 : LSB (items_0) (layerMany_0) (itemLayer_0) (layerSize_0) (layerItem_0)) (f17 : SGR (r_0) (all_0)) (f18 : pointMany_0 = items_0) (f19 : PCQ (pointMany_0) (costMany_0) (costA_0) (costB_0) (costW_0) (costPlain_0)) (f20 : costMany_0 ≤ 130) (f21 : PAL2 (apartMany_0) (layerMany_0) (layerSize_0) (layerItem_0) (apartA_0) (apartB_0) (apart_0) (x2) (x3)) (f22 : apartMany_0 ≤ 76) (f23 : (x2 + 1) ≤ layerMany_0) (f24 : 1 ≤ x3) (hK_0_83 : ∀ j : Int, 0 ≤ j → j < 200 → 0 ≤ costA_0 j ∧ costA_0 j ≤ 75) (hK_0_84 : ∀ j : Int, 0 ≤ j → j < 200 → 0 ≤ costB_0 j ∧ costB_0 j ≤ 75) (hK_0_85 : ∀ j : Int, 0 ≤ j → j < 200 → 0 ≤ costW_0 j ∧ costW_0 j ≤ 72) (hK_0_86 : ∀ j : Int, 0 ≤ j → j < 200 → 0 ≤ costPlain_0 j ∧ costPlain_0 j ≤ 1) (hK_0_87 : ∀ j : Int, 0 ≤ j → j < 200 → 0 ≤ apartA_0 j ∧ apartA_0 j ≤ 75) (hK_0_88 : ∀ j : Int, 0 ≤ j → j < 200 → 0 ≤ apartB_0 j ∧ apartB_0 j ≤ 75) (hK_0_89 : ∀ j : Int, 0 ≤ j → j < 200 → 0 ≤ apart_0 j ∧ apart_0 j ≤ 202) (hK_0_95 : ∀ j : Int, 0 ≤ j → j < 48 → 0 ≤ turned_0 j ∧ turned_0 j ≤ 1) (hK_0_102 : ∀ j : Int, 0 ≤ j → j < 76 → 0 ≤ itemLayer_0 j ∧ itemLayer_0 j ≤ 75) (hK_0_104 : ∀ j : Int, 0 ≤ j → j < 48 → 0 ≤ firstJoint_0 j ∧ firstJoint_0 j ≤ 76) (hK_0_105 : ∀ j : Int, 0 ≤ j → j < 76 → 0 ≤ layerSize_0 j ∧ layerSize_0 j ≤ 76) (hK_0_106 : ∀ j : Int, 0 ≤ j → j < 5776 → 0 ≤ layerItem_0 j ∧ layerItem_0 j ≤ 75) (hK_0_108 : ∀ j : Int, 0 ≤ j → j < 130 → 0 ≤ lineA_0 j ∧ lineA_0 j ≤ 75) (hK_0_109 : ∀ j : Int, 0 ≤ j → j < 130 → 0 ≤ lineB_0 j ∧ lineB_0 j ≤ 75) (kz_0_79 : 0 ≤ pointMany_0 ∧ pointMany_0 ≤ 76) (kz_0_80 : 0 ≤ costMany_0 ∧ costMany_0 ≤ 200) (kz_0_81 : 0 ≤ apartMany_0 ∧ apartMany_0 ≤ 200) (kz_0_100 : 0 ≤ items_0 ∧ items_0 ≤ 76) (kz_0_101 : 0 ≤ layerMany_0 ∧ layerMany_0 ≤ 76) (kz_0_107 : 0 ≤ lines_0 ∧ lines_0 ≤ 130) (ex2 : gx = apartMany_0) (ex3 : 0 ≤ gx ∧ gx ≤ 199) (ey2 : gy = x2) (ey3 : 0 ≤ gy ∧ gy ≤ 75) (eu2 : gu = x3) (eu3 : 1 ≤ gu ∧ gu ≤ 75) : 1 * gu + ((-1) * x3 + 0) ≤ 0 := by
  try simp only [Int.add_zero] at *
  first
    | omega
    | (have h := ‹LSA _ _ _ _ _ _ _ _ _ _›.2.1; omega)
    | (have h := lsa_la (p := x2) (x := x15) ‹LSA _ _ _ _ _ _ _ _ _ _› (by omega) (by omega) (by assumption); omega)
    | (have h := lsa_lb (p := x2) (x := x16) ‹LSA _ _ _ _ _ _ _ _ _ _› (by omega) (by omega) (by assumption); omega)
set_option maxHeartbeats 4000000 in
theorem vc_Mo_across2_21_3 (x2 : Int) (x3 : Int) (x5 : Int) (x7 : Int) (x8 : Int) (x9 : Int) (x10 : Int) (x11 : Int) (x12 : Int) (x13 : Int) (x14 : Int) (x15 : Int) (x16 : Int) (x17 : Int) (x18 : Int) (x19 : Int) (x20 : Int) (x21 : Int) (layerItem_0 : Int → Int) (layerSize_0 : Int → Int) (all_0 : Int → Int) (turned_0 : Int → Int) (itemLayer_0 : Int → Int) (firstJoint_0 : Int → Int) (lineA_0 : Int → Int) (lineB_0 : Int → Int) (r_0 : Int) (items_0 : Int) (layerMany_0 : Int) (lines_0 : Int) (pointMany_0 : Int) (costA_0 : Int → Int) (costB_0 : Int → Int) (costW_0 : Int → Int) (costPlain_0 : Int → Int) (costMany_0 : Int) (apartA_0 : Int → Int) (apartB_0 : Int → Int) (apart_0 : Int → Int) (apartMany_0 : Int) (gx : Int) (gy : Int) (gu : Int) (k2 : 0 ≤ x2 ∧ x2 ≤ 75) (k3 : 1 ≤ x3 ∧ x3 ≤ 75) (k5 : 2 ≤ x5 ∧ x5 ≤ 76) (k7 : 76 ≤ x7 ∧ x7 ≤ 76) (k8 : 0 ≤ x8 ∧ x8 ≤ 5700) (k9 : 1 ≤ x9 ∧ x9 ≤ 5775) (k10 : 1 ≤ x10 ∧ x10 ≤ 1) (k11 : 0 ≤ x11 ∧ x11 ≤ 5774) (k12 : 0 ≤ x12 ∧ x12 ≤ 23) (k13 : 76 ≤ x13 ∧ x13 ≤ 76) (k14 : 0 ≤ x14 ∧ x14 ≤ 5700) (k15 : 1 ≤ x15 ∧ x15 ≤ 5775) (k16 : 0 ≤ x16 ∧ x16 ≤ 23) (k17 : 1 ≤ x17 ∧ x17 ≤ 9) (k18 : 1 ≤ x18 ∧ x18 ≤ 9) (k19 : 2 ≤ x19 ∧ x19 ≤ 18) (k20 : 2 ≤ x20 ∧ x20 ≤ 2) (k21 : 4 ≤ x21 ∧ x21 ≤ 20) (d0 : x19 + 2 ≤ x21 ∧ x21 ≤ x19 + 2) (d1 : x18 + 3 ≤ x21 ∧ x21 ≤ x18 + 11) (d2 : x17 + 3 ≤ x21 ∧ x21 ≤ x17 + 11) (d3 : x18 + 1 ≤ x19 ∧ x19 ≤ x18 + 9) (d4 : x17 + 1 ≤ x19 ∧ x19 ≤ x17 + 9) (d5 : x3 + 0 ≤ x15 ∧ x15 ≤ x3 + 5700) (d6 : x5 + (-4294967296) ≤ x15 ∧ x15 ≤ x5 + 5699) (d7 : x14 + 1 ≤ x15 ∧ x15 ≤ x14 + 75) (d8 : x9 + (-1) ≤ x11 ∧ x11 ≤ x9 + (-1)) (d9 : x3 + (-1) ≤ x11 ∧ x11 ≤ x3 + 5699) (d10 : x5 + (-4294967296) ≤ x11 ∧ x11 ≤ x5 + 5698) (d11 : x8 + 0 ≤ x11 ∧ x11 ≤ x8 + 74) (d12 : x3 + 0 ≤ x9 ∧ x9 ≤ x3 + 5700) (d13 : x5 + (-4294967296) ≤ x9 ∧ x9 ≤ x5 + 5699) (d14 : x8 + 1 ≤ x9 ∧ x9 ≤ x8 + 75) (d15 : x5 + (-4294967296) ≤ x3 ∧ x3 ≤ x5 + (-1)) (f0 : x21 = x19 + x20) (f1 : x19 = x17 + x18) (f2 : (0 ≤ x18) ∧ (x18 ≤ 100)) (f3 : (0 ≤ x17) ∧ (x17 ≤ 100)) (h4 : x16 = layerItem_0 (x15)) (f5 : x15 = x14 + x3) (f6 : x14 = 76 * x2) (h8 : x12 = layerItem_0 (x11)) (f9 : x11 = x9 - x10) (f10 : x9 = x8 + x3) (f11 : x8 = 76 * x2) (f12 : x3 < x5) (h13 : x5 = layerSize_0 (x2)) (f15 : LSA (r_0) (items_0) (layerMany_0) (lines_0) (all_0) (turned_0) (itemLayer_0) (firstJoint_0) (lineA_0) (lineB_0)) (f16 : LSB (items_0) (layerMany_0) (itemLayer_0) (layerSize_0) (layerItem_0)) (f17 : SGR (r_0) (all_0)) (f18 : pointMany_0 = items_0) (f19 : PCQ (pointMany_0) (costMany_0) (costA_0) (costB_0) (costW_0) (costPlain_0)) (f20 : costMany_0 ≤ 130) (f21 : PAL2 (apartMany_0) (layerMany_0) (layerSize_0) (layerItem_0) (apartA_0) (apartB_0) (apart_0) (x2) (x3)) (f22 : apartMany_0 ≤ 76) (f23 : (x2 + 1) ≤ layerMany_0) (f24 : 1 ≤ x3) (hK_0_83 : ∀ j : Int, 0 ≤ j → j < 200 → 0 ≤ costA_0 j ∧ costA_0 j ≤ 75) (hK_0_84 : ∀ j : Int, 0 ≤ j → j < 200 → 0 ≤ costB_0 j ∧ costB_0 j ≤ 75) (hK_0_85 : ∀ j : Int, 0 ≤ j → j < 200 → 0 ≤ costW_0 j ∧ costW_0 j ≤ 72) (hK_0_86 : ∀ j : Int, 0 ≤ j → j < 200 → 0 ≤ costPlain_0 j ∧ costPlain_0 j ≤ 1) (hK_0_87 : ∀ j : Int, 0 ≤ j → j < 200 → 0 ≤ apartA_0 j ∧ apartA_0 j ≤ 75) (hK_0_88 : ∀ j : Int, 0 ≤ j → j < 200 → 0 ≤ apartB_0 j ∧ apartB_0 j ≤ 75) (hK_0_89 : ∀ j : Int, 0 ≤ j → j < 200 → 0 ≤ apart_0 j ∧ apart_0 j ≤ 202) (hK_0_95 : ∀ j : Int, 0 ≤ j → j < 48 → 0 ≤ turned_0 j ∧ turned_0 j ≤ 1) (hK_0_102 : ∀ j : Int, 0 ≤ j → j < 76 → 0 ≤ itemLayer_0 j ∧ itemLayer_0 j ≤ 75) (hK_0_104 : ∀ j : Int, 0 ≤ j → j < 48 → 0 ≤ firstJoint_0 j ∧ firstJoint_0 j ≤ 76) (hK_0_105 : ∀ j : Int, 0 ≤ j → j < 76 → 0 ≤ layerSize_0 j ∧ layerSize_0 j ≤ 76) (hK_0_106 : ∀ j : Int, 0 ≤ j → j < 5776 → 0 ≤ layerItem_0 j ∧ layerItem_0 j ≤ 75) (hK_0_108 : ∀ j : Int, 0 ≤ j → j < 130 → 0 ≤ lineA_0 j ∧ lineA_0 j ≤ 75) (hK_0_109 : ∀ j : Int, 0 ≤ j → j < 130 → 0 ≤ lineB_0 j ∧ lineB_0 j ≤ 75) (kz_0_79 : 0 ≤ pointMany_0 ∧ pointMany_0 ≤ 76) (kz_0_80 : 0 ≤ costMany_0 ∧ costMany_0 ≤ 200) (kz_0_81 : 0 ≤ apartMany_0 ∧ apartMany_0 ≤ 200) (kz_0_100 : 0 ≤ items_0 ∧ items_0 ≤ 76) (kz_0_101 : 0 ≤ layerMany_0 ∧ layerMany_0 ≤ 76) (kz_0_107 : 0 ≤ lines_0 ∧ lines_0 ≤ 130) (ex2 : gx = apartMany_0) (ex3 : 0 ≤ gx ∧ gx ≤ 199) (ey2 : gy = x2) (ey3 : 0 ≤ gy ∧ gy ≤ 75) (eu2 : gu = x3) (eu3 : 1 ≤ gu ∧ gu ≤ 75) : (-1) * gu + (1 * x3 + 0) ≤ 0 := by
  try simp only [Int.add_zero] at *
  first
    | omega
    | (have h := ‹LSA _ _ _ _ _ _ _ _ _ _›.2.1; omega)
    | (have h := lsa_la (p := x2) (x := x15) ‹LSA _ _ _ _ _ _ _ _ _ _› (by omega) (by omega) (by assumption); omega)
    | (have h := lsa_lb (p := x2) (x := x16) ‹LSA _ _ _ _ _ _ _ _ _ _› (by omega) (by omega) (by assumption); omega)
set_option maxHeartbeats 4000000 in
theorem vc_Mo_across2_21_4 (x2 : Int) (x3 : Int) (x5 : Int) (x7 : Int) (x8 : Int) (x9 : Int) (x10 : Int) (x11 : Int) (x12 : Int) (x13 : Int) (x14 : Int) (x15 : Int) (x16 : Int) (x17 : Int) (x18 : Int) (x19 : Int) (x20 : Int) (x21 : Int) (layerItem_0 : Int → Int) (layerSize_0 : Int → Int) (all_0 : Int → Int) (turned_0 : Int → Int) (itemLayer_0 : Int → Int) (firstJoint_0 : Int → Int) (lineA_0 : Int → Int) (lineB_0 : Int → Int) (r_0 : Int) (items_0 : Int) (layerMany_0 : Int) (lines_0 : Int) (pointMany_0 : Int) (costA_0 : Int → Int) (costB_0 : Int → Int) (costW_0 : Int → Int) (costPlain_0 : Int → Int) (costMany_0 : Int) (apartA_0 : Int → Int) (apartB_0 : Int → Int) (apart_0 : Int → Int) (apartMany_0 : Int) (gx : Int) (gy : Int) (gu : Int) (k2 : 0 ≤ x2 ∧ x2 ≤ 75) (k3 : 1 ≤ x3 ∧ x3 ≤ 75) (k5 : 2 ≤ x5 ∧ x5 ≤ 76) (k7 : 76 ≤ x7 ∧ x7 ≤ 76) (k8 : 0 ≤ x8 ∧ x8 ≤ 5700) (k9 : 1 ≤ x9 ∧ x9 ≤ 5775) (k10 : 1 ≤ x10 ∧ x10 ≤ 1) (k11 : 0 ≤ x11 ∧ x11 ≤ 5774) (k12 : 0 ≤ x12 ∧ x12 ≤ 23) (k13 : 76 ≤ x13 ∧ x13 ≤ 76) (k14 : 0 ≤ x14 ∧ x14 ≤ 5700) (k15 : 1 ≤ x15 ∧ x15 ≤ 5775) (k16 : 0 ≤ x16 ∧ x16 ≤ 23) (k17 : 1 ≤ x17 ∧ x17 ≤ 9) (k18 : 1 ≤ x18 ∧ x18 ≤ 9) (k19 : 2 ≤ x19 ∧ x19 ≤ 18) (k20 : 2 ≤ x20 ∧ x20 ≤ 2) (k21 : 4 ≤ x21 ∧ x21 ≤ 20) (d0 : x19 + 2 ≤ x21 ∧ x21 ≤ x19 + 2) (d1 : x18 + 3 ≤ x21 ∧ x21 ≤ x18 + 11) (d2 : x17 + 3 ≤ x21 ∧ x21 ≤ x17 + 11) (d3 : x18 + 1 ≤ x19 ∧ x19 ≤ x18 + 9) (d4 : x17 + 1 ≤ x19 ∧ x19 ≤ x17 + 9) (d5 : x3 + 0 ≤ x15 ∧ x15 ≤ x3 + 5700) (d6 : x5 + (-4294967296) ≤ x15 ∧ x15 ≤ x5 + 5699) (d7 : x14 + 1 ≤ x15 ∧ x15 ≤ x14 + 75) (d8 : x9 + (-1) ≤ x11 ∧ x11 ≤ x9 + (-1)) (d9 : x3 + (-1) ≤ x11 ∧ x11 ≤ x3 + 5699) (d10 : x5 + (-4294967296) ≤ x11 ∧ x11 ≤ x5 + 5698) (d11 : x8 + 0 ≤ x11 ∧ x11 ≤ x8 + 74) (d12 : x3 + 0 ≤ x9 ∧ x9 ≤ x3 + 5700) (d13 : x5 + (-4294967296) ≤ x9 ∧ x9 ≤ x5 + 5699) (d14 : x8 + 1 ≤ x9 ∧ x9 ≤ x8 + 75) (d15 : x5 + (-4294967296) ≤ x3 ∧ x3 ≤ x5 + (-1)) (f0 : x21 = x19 + x20) (f1 : x19 = x17 + x18) (f2 : (0 ≤ x18) ∧ (x18 ≤ 100)) (f3 : (0 ≤ x17) ∧ (x17 ≤ 100)) (h4 : x16 = layerItem_0 (x15)) (f5 : x15 = x14 + x3) (f6 : x14 = 76 * x2) (h8 : x12 = layerItem_0 (x11)) (f9 : x11 = x9 - x10) (f10 : x9 = x8 + x3) (f11 : x8 = 76 * x2) (f12 : x3 < x5) (h13 : x5 = layerSize_0 (x2)) (f15 : LSA (r_0) (items_0) (layerMany_0) (lines_0) (all_0) (turned_0) (itemLayer_0) (firstJoint_0) (lineA_0) (lineB_0)) (f16 : LSB (items_0) (layerMany_0) (itemLayer_0) (layerSize_0) (layerItem_0)) (f17 : SGR (r_0) (all_0)) (f18 : pointMany_0 = items_0) (f19 : PCQ (pointMany_0) (costMany_0) (costA_0) (costB_0) (costW_0) (costPlain_0)) (f20 : costMany_0 ≤ 130) (f21 : PAL2 (apartMany_0) (layerMany_0) (layerSize_0) (layerItem_0) (apartA_0) (apartB_0) (apart_0) (x2) (x3)) (f22 : apartMany_0 ≤ 76) (f23 : (x2 + 1) ≤ layerMany_0) (f24 : 1 ≤ x3) (hK_0_83 : ∀ j : Int, 0 ≤ j → j < 200 → 0 ≤ costA_0 j ∧ costA_0 j ≤ 75) (hK_0_84 : ∀ j : Int, 0 ≤ j → j < 200 → 0 ≤ costB_0 j ∧ costB_0 j ≤ 75) (hK_0_85 : ∀ j : Int, 0 ≤ j → j < 200 → 0 ≤ costW_0 j ∧ costW_0 j ≤ 72) (hK_0_86 : ∀ j : Int, 0 ≤ j → j < 200 → 0 ≤ costPlain_0 j ∧ costPlain_0 j ≤ 1) (hK_0_87 : ∀ j : Int, 0 ≤ j → j < 200 → 0 ≤ apartA_0 j ∧ apartA_0 j ≤ 75) (hK_0_88 : ∀ j : Int, 0 ≤ j → j < 200 → 0 ≤ apartB_0 j ∧ apartB_0 j ≤ 75) (hK_0_89 : ∀ j : Int, 0 ≤ j → j < 200 → 0 ≤ apart_0 j ∧ apart_0 j ≤ 202) (hK_0_95 : ∀ j : Int, 0 ≤ j → j < 48 → 0 ≤ turned_0 j ∧ turned_0 j ≤ 1) (hK_0_102 : ∀ j : Int, 0 ≤ j → j < 76 → 0 ≤ itemLayer_0 j ∧ itemLayer_0 j ≤ 75) (hK_0_104 : ∀ j : Int, 0 ≤ j → j < 48 → 0 ≤ firstJoint_0 j ∧ firstJoint_0 j ≤ 76) (hK_0_105 : ∀ j : Int, 0 ≤ j → j < 76 → 0 ≤ layerSize_0 j ∧ layerSize_0 j ≤ 76) (hK_0_106 : ∀ j : Int, 0 ≤ j → j < 5776 → 0 ≤ layerItem_0 j ∧ layerItem_0 j ≤ 75) (hK_0_108 : ∀ j : Int, 0 ≤ j → j < 130 → 0 ≤ lineA_0 j ∧ lineA_0 j ≤ 75) (hK_0_109 : ∀ j : Int, 0 ≤ j → j < 130 → 0 ≤ lineB_0 j ∧ lineB_0 j ≤ 75) (kz_0_79 : 0 ≤ pointMany_0 ∧ pointMany_0 ≤ 76) (kz_0_80 : 0 ≤ costMany_0 ∧ costMany_0 ≤ 200) (kz_0_81 : 0 ≤ apartMany_0 ∧ apartMany_0 ≤ 200) (kz_0_100 : 0 ≤ items_0 ∧ items_0 ≤ 76) (kz_0_101 : 0 ≤ layerMany_0 ∧ layerMany_0 ≤ 76) (kz_0_107 : 0 ≤ lines_0 ∧ lines_0 ≤ 130) (ex2 : gx = apartMany_0) (ex3 : 0 ≤ gx ∧ gx ≤ 199) (ey2 : gy = x2) (ey3 : 0 ≤ gy ∧ gy ≤ 75) (eu2 : gu = x3) (eu3 : 1 ≤ gu ∧ gu ≤ 75) : apartMany_0 = gx := by
  try simp only [Int.add_zero] at *
  first
    | omega
    | (have h := ‹LSA _ _ _ _ _ _ _ _ _ _›.2.1; omega)
    | (have h := lsa_la (p := x2) (x := x15) ‹LSA _ _ _ _ _ _ _ _ _ _› (by omega) (by omega) (by assumption); omega)
    | (have h := lsa_lb (p := x2) (x := x16) ‹LSA _ _ _ _ _ _ _ _ _ _› (by omega) (by omega) (by assumption); omega)
set_option maxHeartbeats 4000000 in
theorem vc_Mo_across2_21_5 (x2 : Int) (x3 : Int) (x5 : Int) (x7 : Int) (x8 : Int) (x9 : Int) (x10 : Int) (x11 : Int) (x12 : Int) (x13 : Int) (x14 : Int) (x15 : Int) (x16 : Int) (x17 : Int) (x18 : Int) (x19 : Int) (x20 : Int) (x21 : Int) (layerItem_0 : Int → Int) (layerSize_0 : Int → Int) (all_0 : Int → Int) (turned_0 : Int → Int) (itemLayer_0 : Int → Int) (firstJoint_0 : Int → Int) (lineA_0 : Int → Int) (lineB_0 : Int → Int) (r_0 : Int) (items_0 : Int) (layerMany_0 : Int) (lines_0 : Int) (pointMany_0 : Int) (costA_0 : Int → Int) (costB_0 : Int → Int) (costW_0 : Int → Int) (costPlain_0 : Int → Int) (costMany_0 : Int) (apartA_0 : Int → Int) (apartB_0 : Int → Int) (apart_0 : Int → Int) (apartMany_0 : Int) (gx : Int) (gy : Int) (gu : Int) (k2 : 0 ≤ x2 ∧ x2 ≤ 75) (k3 : 1 ≤ x3 ∧ x3 ≤ 75) (k5 : 2 ≤ x5 ∧ x5 ≤ 76) (k7 : 76 ≤ x7 ∧ x7 ≤ 76) (k8 : 0 ≤ x8 ∧ x8 ≤ 5700) (k9 : 1 ≤ x9 ∧ x9 ≤ 5775) (k10 : 1 ≤ x10 ∧ x10 ≤ 1) (k11 : 0 ≤ x11 ∧ x11 ≤ 5774) (k12 : 0 ≤ x12 ∧ x12 ≤ 23) (k13 : 76 ≤ x13 ∧ x13 ≤ 76) (k14 : 0 ≤ x14 ∧ x14 ≤ 5700) (k15 : 1 ≤ x15 ∧ x15 ≤ 5775) (k16 : 0 ≤ x16 ∧ x16 ≤ 23) (k17 : 1 ≤ x17 ∧ x17 ≤ 9) (k18 : 1 ≤ x18 ∧ x18 ≤ 9) (k19 : 2 ≤ x19 ∧ x19 ≤ 18) (k20 : 2 ≤ x20 ∧ x20 ≤ 2) (k21 : 4 ≤ x21 ∧ x21 ≤ 20) (d0 : x19 + 2 ≤ x21 ∧ x21 ≤ x19 + 2) (d1 : x18 + 3 ≤ x21 ∧ x21 ≤ x18 + 11) (d2 : x17 + 3 ≤ x21 ∧ x21 ≤ x17 + 11) (d3 : x18 + 1 ≤ x19 ∧ x19 ≤ x18 + 9) (d4 : x17 + 1 ≤ x19 ∧ x19 ≤ x17 + 9) (d5 : x3 + 0 ≤ x15 ∧ x15 ≤ x3 + 5700) (d6 : x5 + (-4294967296) ≤ x15 ∧ x15 ≤ x5 + 5699) (d7 : x14 + 1 ≤ x15 ∧ x15 ≤ x14 + 75) (d8 : x9 + (-1) ≤ x11 ∧ x11 ≤ x9 + (-1)) (d9 : x3 + (-1) ≤ x11 ∧ x11 ≤ x3 + 5699) (d10 : x5 + (-4294967296) ≤ x11 ∧ x11 ≤ x5 + 5698) (d11 : x8 + 0 ≤ x11 ∧ x11 ≤ x8 + 74) (d12 : x3 + 0 ≤ x9 ∧ x9 ≤ x3 + 5700) (d13 : x5 + (-4294967296) ≤ x9 ∧ x9 ≤ x5 + 5699) (d14 : x8 + 1 ≤ x9 ∧ x9 ≤ x8 + 75) (d15 : x5 + (-4294967296) ≤ x3 ∧ x3 ≤ x5 + (-1)) (f0 : x21 = x19 + x20) (f1 : x19 = x17 + x18) (f2 : (0 ≤ x18) ∧ (x18 ≤ 100)) (f3 : (0 ≤ x17) ∧ (x17 ≤ 100)) (h4 : x16 = layerItem_0 (x15)) (f5 : x15 = x14 + x3) (f6 : x14 = 76 * x2) (h8 : x12 = layerItem_0 (x11)) (f9 : x11 = x9 - x10) (f10 : x9 = x8 + x3) (f11 : x8 = 76 * x2) (f12 : x3 < x5) (h13 : x5 = layerSize_0 (x2)) (f15 : LSA (r_0) (items_0) (layerMany_0) (lines_0) (all_0) (turned_0) (itemLayer_0) (firstJoint_0) (lineA_0) (lineB_0)) (f16 : LSB (items_0) (layerMany_0) (itemLayer_0) (layerSize_0) (layerItem_0)) (f17 : SGR (r_0) (all_0)) (f18 : pointMany_0 = items_0) (f19 : PCQ (pointMany_0) (costMany_0) (costA_0) (costB_0) (costW_0) (costPlain_0)) (f20 : costMany_0 ≤ 130) (f21 : PAL2 (apartMany_0) (layerMany_0) (layerSize_0) (layerItem_0) (apartA_0) (apartB_0) (apart_0) (x2) (x3)) (f22 : apartMany_0 ≤ 76) (f23 : (x2 + 1) ≤ layerMany_0) (f24 : 1 ≤ x3) (hK_0_83 : ∀ j : Int, 0 ≤ j → j < 200 → 0 ≤ costA_0 j ∧ costA_0 j ≤ 75) (hK_0_84 : ∀ j : Int, 0 ≤ j → j < 200 → 0 ≤ costB_0 j ∧ costB_0 j ≤ 75) (hK_0_85 : ∀ j : Int, 0 ≤ j → j < 200 → 0 ≤ costW_0 j ∧ costW_0 j ≤ 72) (hK_0_86 : ∀ j : Int, 0 ≤ j → j < 200 → 0 ≤ costPlain_0 j ∧ costPlain_0 j ≤ 1) (hK_0_87 : ∀ j : Int, 0 ≤ j → j < 200 → 0 ≤ apartA_0 j ∧ apartA_0 j ≤ 75) (hK_0_88 : ∀ j : Int, 0 ≤ j → j < 200 → 0 ≤ apartB_0 j ∧ apartB_0 j ≤ 75) (hK_0_89 : ∀ j : Int, 0 ≤ j → j < 200 → 0 ≤ apart_0 j ∧ apart_0 j ≤ 202) (hK_0_95 : ∀ j : Int, 0 ≤ j → j < 48 → 0 ≤ turned_0 j ∧ turned_0 j ≤ 1) (hK_0_102 : ∀ j : Int, 0 ≤ j → j < 76 → 0 ≤ itemLayer_0 j ∧ itemLayer_0 j ≤ 75) (hK_0_104 : ∀ j : Int, 0 ≤ j → j < 48 → 0 ≤ firstJoint_0 j ∧ firstJoint_0 j ≤ 76) (hK_0_105 : ∀ j : Int, 0 ≤ j → j < 76 → 0 ≤ layerSize_0 j ∧ layerSize_0 j ≤ 76) (hK_0_106 : ∀ j : Int, 0 ≤ j → j < 5776 → 0 ≤ layerItem_0 j ∧ layerItem_0 j ≤ 75) (hK_0_108 : ∀ j : Int, 0 ≤ j → j < 130 → 0 ≤ lineA_0 j ∧ lineA_0 j ≤ 75) (hK_0_109 : ∀ j : Int, 0 ≤ j → j < 130 → 0 ≤ lineB_0 j ∧ lineB_0 j ≤ 75) (kz_0_79 : 0 ≤ pointMany_0 ∧ pointMany_0 ≤ 76) (kz_0_80 : 0 ≤ costMany_0 ∧ costMany_0 ≤ 200) (kz_0_81 : 0 ≤ apartMany_0 ∧ apartMany_0 ≤ 200) (kz_0_100 : 0 ≤ items_0 ∧ items_0 ≤ 76) (kz_0_101 : 0 ≤ layerMany_0 ∧ layerMany_0 ≤ 76) (kz_0_107 : 0 ≤ lines_0 ∧ lines_0 ≤ 130) (ex2 : gx = apartMany_0) (ex3 : 0 ≤ gx ∧ gx ≤ 199) (ey2 : gy = x2) (ey3 : 0 ≤ gy ∧ gy ≤ 75) (eu2 : gu = x3) (eu3 : 1 ≤ gu ∧ gu ≤ 75) : PAL2 (apartMany_0) (layerMany_0) (layerSize_0) (layerItem_0) (apartA_0) (apartB_0) (apart_0) (gy) (gu) := by
  rw [ey2, eu2]; assumption
set_option maxHeartbeats 4000000 in
theorem vc_Mo_across2_21_6 (x2 : Int) (x3 : Int) (x5 : Int) (x7 : Int) (x8 : Int) (x9 : Int) (x10 : Int) (x11 : Int) (x12 : Int) (x13 : Int) (x14 : Int) (x15 : Int) (x16 : Int) (x17 : Int) (x18 : Int) (x19 : Int) (x20 : Int) (x21 : Int) (layerItem_0 : Int → Int) (layerSize_0 : Int → Int) (all_0 : Int → Int) (turned_0 : Int → Int) (itemLayer_0 : Int → Int) (firstJoint_0 : Int → Int) (lineA_0 : Int → Int) (lineB_0 : Int → Int) (r_0 : Int) (items_0 : Int) (layerMany_0 : Int) (lines_0 : Int) (pointMany_0 : Int) (costA_0 : Int → Int) (costB_0 : Int → Int) (costW_0 : Int → Int) (costPlain_0 : Int → Int) (costMany_0 : Int) (apartA_0 : Int → Int) (apartB_0 : Int → Int) (apart_0 : Int → Int) (apartMany_0 : Int) (gx : Int) (gy : Int) (gu : Int) (k2 : 0 ≤ x2 ∧ x2 ≤ 75) (k3 : 1 ≤ x3 ∧ x3 ≤ 75) (k5 : 2 ≤ x5 ∧ x5 ≤ 76) (k7 : 76 ≤ x7 ∧ x7 ≤ 76) (k8 : 0 ≤ x8 ∧ x8 ≤ 5700) (k9 : 1 ≤ x9 ∧ x9 ≤ 5775) (k10 : 1 ≤ x10 ∧ x10 ≤ 1) (k11 : 0 ≤ x11 ∧ x11 ≤ 5774) (k12 : 0 ≤ x12 ∧ x12 ≤ 23) (k13 : 76 ≤ x13 ∧ x13 ≤ 76) (k14 : 0 ≤ x14 ∧ x14 ≤ 5700) (k15 : 1 ≤ x15 ∧ x15 ≤ 5775) (k16 : 0 ≤ x16 ∧ x16 ≤ 23) (k17 : 1 ≤ x17 ∧ x17 ≤ 9) (k18 : 1 ≤ x18 ∧ x18 ≤ 9) (k19 : 2 ≤ x19 ∧ x19 ≤ 18) (k20 : 2 ≤ x20 ∧ x20 ≤ 2) (k21 : 4 ≤ x21 ∧ x21 ≤ 20) (d0 : x19 + 2 ≤ x21 ∧ x21 ≤ x19 + 2) (d1 : x18 + 3 ≤ x21 ∧ x21 ≤ x18 + 11) (d2 : x17 + 3 ≤ x21 ∧ x21 ≤ x17 + 11) (d3 : x18 + 1 ≤ x19 ∧ x19 ≤ x18 + 9) (d4 : x17 + 1 ≤ x19 ∧ x19 ≤ x17 + 9) (d5 : x3 + 0 ≤ x15 ∧ x15 ≤ x3 + 5700) (d6 : x5 + (-4294967296) ≤ x15 ∧ x15 ≤ x5 + 5699) (d7 : x14 + 1 ≤ x15 ∧ x15 ≤ x14 + 75) (d8 : x9 + (-1) ≤ x11 ∧ x11 ≤ x9 + (-1)) (d9 : x3 + (-1) ≤ x11 ∧ x11 ≤ x3 + 5699) (d10 : x5 + (-4294967296) ≤ x11 ∧ x11 ≤ x5 + 5698) (d11 : x8 + 0 ≤ x11 ∧ x11 ≤ x8 + 74) (d12 : x3 + 0 ≤ x9 ∧ x9 ≤ x3 + 5700) (d13 : x5 + (-4294967296) ≤ x9 ∧ x9 ≤ x5 + 5699) (d14 : x8 + 1 ≤ x9 ∧ x9 ≤ x8 + 75) (d15 : x5 + (-4294967296) ≤ x3 ∧ x3 ≤ x5 + (-1)) (f0 : x21 = x19 + x20) (f1 : x19 = x17 + x18) (f2 : (0 ≤ x18) ∧ (x18 ≤ 100)) (f3 : (0 ≤ x17) ∧ (x17 ≤ 100)) (h4 : x16 = layerItem_0 (x15)) (f5 : x15 = x14 + x3) (f6 : x14 = 76 * x2) (h8 : x12 = layerItem_0 (x11)) (f9 : x11 = x9 - x10) (f10 : x9 = x8 + x3) (f11 : x8 = 76 * x2) (f12 : x3 < x5) (h13 : x5 = layerSize_0 (x2)) (f15 : LSA (r_0) (items_0) (layerMany_0) (lines_0) (all_0) (turned_0) (itemLayer_0) (firstJoint_0) (lineA_0) (lineB_0)) (f16 : LSB (items_0) (layerMany_0) (itemLayer_0) (layerSize_0) (layerItem_0)) (f17 : SGR (r_0) (all_0)) (f18 : pointMany_0 = items_0) (f19 : PCQ (pointMany_0) (costMany_0) (costA_0) (costB_0) (costW_0) (costPlain_0)) (f20 : costMany_0 ≤ 130) (f21 : PAL2 (apartMany_0) (layerMany_0) (layerSize_0) (layerItem_0) (apartA_0) (apartB_0) (apart_0) (x2) (x3)) (f22 : apartMany_0 ≤ 76) (f23 : (x2 + 1) ≤ layerMany_0) (f24 : 1 ≤ x3) (hK_0_83 : ∀ j : Int, 0 ≤ j → j < 200 → 0 ≤ costA_0 j ∧ costA_0 j ≤ 75) (hK_0_84 : ∀ j : Int, 0 ≤ j → j < 200 → 0 ≤ costB_0 j ∧ costB_0 j ≤ 75) (hK_0_85 : ∀ j : Int, 0 ≤ j → j < 200 → 0 ≤ costW_0 j ∧ costW_0 j ≤ 72) (hK_0_86 : ∀ j : Int, 0 ≤ j → j < 200 → 0 ≤ costPlain_0 j ∧ costPlain_0 j ≤ 1) (hK_0_87 : ∀ j : Int, 0 ≤ j → j < 200 → 0 ≤ apartA_0 j ∧ apartA_0 j ≤ 75) (hK_0_88 : ∀ j : Int, 0 ≤ j → j < 200 → 0 ≤ apartB_0 j ∧ apartB_0 j ≤ 75) (hK_0_89 : ∀ j : Int, 0 ≤ j → j < 200 → 0 ≤ apart_0 j ∧ apart_0 j ≤ 202) (hK_0_95 : ∀ j : Int, 0 ≤ j → j < 48 → 0 ≤ turned_0 j ∧ turned_0 j ≤ 1) (hK_0_102 : ∀ j : Int, 0 ≤ j → j < 76 → 0 ≤ itemLayer_0 j ∧ itemLayer_0 j ≤ 75) (hK_0_104 : ∀ j : Int, 0 ≤ j → j < 48 → 0 ≤ firstJoint_0 j ∧ firstJoint_0 j ≤ 76) (hK_0_105 : ∀ j : Int, 0 ≤ j → j < 76 → 0 ≤ layerSize_0 j ∧ layerSize_0 j ≤ 76) (hK_0_106 : ∀ j : Int, 0 ≤ j → j < 5776 → 0 ≤ layerItem_0 j ∧ layerItem_0 j ≤ 75) (hK_0_108 : ∀ j : Int, 0 ≤ j → j < 130 → 0 ≤ lineA_0 j ∧ lineA_0 j ≤ 75) (hK_0_109 : ∀ j : Int, 0 ≤ j → j < 130 → 0 ≤ lineB_0 j ∧ lineB_0 j ≤ 75) (kz_0_79 : 0 ≤ pointMany_0 ∧ pointMany_0 ≤ 76) (kz_0_80 : 0 ≤ costMany_0 ∧ costMany_0 ≤ 200) (kz_0_81 : 0 ≤ apartMany_0 ∧ apartMany_0 ≤ 200) (kz_0_100 : 0 ≤ items_0 ∧ items_0 ≤ 76) (kz_0_101 : 0 ≤ layerMany_0 ∧ layerMany_0 ≤ 76) (kz_0_107 : 0 ≤ lines_0 ∧ lines_0 ≤ 130) (ex2 : gx = apartMany_0) (ex3 : 0 ≤ gx ∧ gx ≤ 199) (ey2 : gy = x2) (ey3 : 0 ≤ gy ∧ gy ≤ 75) (eu2 : gu = x3) (eu3 : 1 ≤ gu ∧ gu ≤ 75) : PAN (layerMany_0) (layerSize_0) (layerItem_0) (gy) (gu) (x12) (x16) := by
  rw [ey2, eu2]
  exact ⟨by omega, by rw [← (by omega : x11 = 76 * x2 + x3 - 1)]; assumption, by rw [← (by omega : x15 = 76 * x2 + x3)]; assumption⟩
set_option maxHeartbeats 4000000 in
theorem vc_Mo_across2_21_7 (x2 : Int) (x3 : Int) (x5 : Int) (x7 : Int) (x8 : Int) (x9 : Int) (x10 : Int) (x11 : Int) (x12 : Int) (x13 : Int) (x14 : Int) (x15 : Int) (x16 : Int) (x17 : Int) (x18 : Int) (x19 : Int) (x20 : Int) (x21 : Int) (layerItem_0 : Int → Int) (layerSize_0 : Int → Int) (all_0 : Int → Int) (turned_0 : Int → Int) (itemLayer_0 : Int → Int) (firstJoint_0 : Int → Int) (lineA_0 : Int → Int) (lineB_0 : Int → Int) (r_0 : Int) (items_0 : Int) (layerMany_0 : Int) (lines_0 : Int) (pointMany_0 : Int) (costA_0 : Int → Int) (costB_0 : Int → Int) (costW_0 : Int → Int) (costPlain_0 : Int → Int) (costMany_0 : Int) (apartA_0 : Int → Int) (apartB_0 : Int → Int) (apart_0 : Int → Int) (apartMany_0 : Int) (gx : Int) (gy : Int) (gu : Int) (k2 : 0 ≤ x2 ∧ x2 ≤ 75) (k3 : 1 ≤ x3 ∧ x3 ≤ 75) (k5 : 2 ≤ x5 ∧ x5 ≤ 76) (k7 : 76 ≤ x7 ∧ x7 ≤ 76) (k8 : 0 ≤ x8 ∧ x8 ≤ 5700) (k9 : 1 ≤ x9 ∧ x9 ≤ 5775) (k10 : 1 ≤ x10 ∧ x10 ≤ 1) (k11 : 0 ≤ x11 ∧ x11 ≤ 5774) (k12 : 0 ≤ x12 ∧ x12 ≤ 23) (k13 : 76 ≤ x13 ∧ x13 ≤ 76) (k14 : 0 ≤ x14 ∧ x14 ≤ 5700) (k15 : 1 ≤ x15 ∧ x15 ≤ 5775) (k16 : 0 ≤ x16 ∧ x16 ≤ 23) (k17 : 1 ≤ x17 ∧ x17 ≤ 9) (k18 : 1 ≤ x18 ∧ x18 ≤ 9) (k19 : 2 ≤ x19 ∧ x19 ≤ 18) (k20 : 2 ≤ x20 ∧ x20 ≤ 2) (k21 : 4 ≤ x21 ∧ x21 ≤ 20) (d0 : x19 + 2 ≤ x21 ∧ x21 ≤ x19 + 2) (d1 : x18 + 3 ≤ x21 ∧ x21 ≤ x18 + 11) (d2 : x17 + 3 ≤ x21 ∧ x21 ≤ x17 + 11) (d3 : x18 + 1 ≤ x19 ∧ x19 ≤ x18 + 9) (d4 : x17 + 1 ≤ x19 ∧ x19 ≤ x17 + 9) (d5 : x3 + 0 ≤ x15 ∧ x15 ≤ x3 + 5700) (d6 : x5 + (-4294967296) ≤ x15 ∧ x15 ≤ x5 + 5699) (d7 : x14 + 1 ≤ x15 ∧ x15 ≤ x14 + 75) (d8 : x9 + (-1) ≤ x11 ∧ x11 ≤ x9 + (-1)) (d9 : x3 + (-1) ≤ x11 ∧ x11 ≤ x3 + 5699) (d10 : x5 + (-4294967296) ≤ x11 ∧ x11 ≤ x5 + 5698) (d11 : x8 + 0 ≤ x11 ∧ x11 ≤ x8 + 74) (d12 : x3 + 0 ≤ x9 ∧ x9 ≤ x3 + 5700) (d13 : x5 + (-4294967296) ≤ x9 ∧ x9 ≤ x5 + 5699) (d14 : x8 + 1 ≤ x9 ∧ x9 ≤ x8 + 75) (d15 : x5 + (-4294967296) ≤ x3 ∧ x3 ≤ x5 + (-1)) (f0 : x21 = x19 + x20) (f1 : x19 = x17 + x18) (f2 : (0 ≤ x18) ∧ (x18 ≤ 100)) (f3 : (0 ≤ x17) ∧ (x17 ≤ 100)) (h4 : x16 = layerItem_0 (x15)) (f5 : x15 = x14 + x3) (f6 : x14 = 76 * x2) (h8 : x12 = layerItem_0 (x11)) (f9 : x11 = x9 - x10) (f10 : x9 = x8 + x3) (f11 : x8 = 76 * x2) (f12 : x3 < x5) (h13 : x5 = layerSize_0 (x2)) (f15 : LSA (r_0) (items_0) (layerMany_0) (lines_0) (all_0) (turned_0) (itemLayer_0) (firstJoint_0) (lineA_0) (lineB_0)) (f16 : LSB (items_0) (layerMany_0) (itemLayer_0) (layerSize_0) (layerItem_0)) (f17 : SGR (r_0) (all_0)) (f18 : pointMany_0 = items_0) (f19 : PCQ (pointMany_0) (costMany_0) (costA_0) (costB_0) (costW_0) (costPlain_0)) (f20 : costMany_0 ≤ 130) (f21 : PAL2 (apartMany_0) (layerMany_0) (layerSize_0) (layerItem_0) (apartA_0) (apartB_0) (apart_0) (x2) (x3)) (f22 : apartMany_0 ≤ 76) (f23 : (x2 + 1) ≤ layerMany_0) (f24 : 1 ≤ x3) (hK_0_83 : ∀ j : Int, 0 ≤ j → j < 200 → 0 ≤ costA_0 j ∧ costA_0 j ≤ 75) (hK_0_84 : ∀ j : Int, 0 ≤ j → j < 200 → 0 ≤ costB_0 j ∧ costB_0 j ≤ 75) (hK_0_85 : ∀ j : Int, 0 ≤ j → j < 200 → 0 ≤ costW_0 j ∧ costW_0 j ≤ 72) (hK_0_86 : ∀ j : Int, 0 ≤ j → j < 200 → 0 ≤ costPlain_0 j ∧ costPlain_0 j ≤ 1) (hK_0_87 : ∀ j : Int, 0 ≤ j → j < 200 → 0 ≤ apartA_0 j ∧ apartA_0 j ≤ 75) (hK_0_88 : ∀ j : Int, 0 ≤ j → j < 200 → 0 ≤ apartB_0 j ∧ apartB_0 j ≤ 75) (hK_0_89 : ∀ j : Int, 0 ≤ j → j < 200 → 0 ≤ apart_0 j ∧ apart_0 j ≤ 202) (hK_0_95 : ∀ j : Int, 0 ≤ j → j < 48 → 0 ≤ turned_0 j ∧ turned_0 j ≤ 1) (hK_0_102 : ∀ j : Int, 0 ≤ j → j < 76 → 0 ≤ itemLayer_0 j ∧ itemLayer_0 j ≤ 75) (hK_0_104 : ∀ j : Int, 0 ≤ j → j < 48 → 0 ≤ firstJoint_0 j ∧ firstJoint_0 j ≤ 76) (hK_0_105 : ∀ j : Int, 0 ≤ j → j < 76 → 0 ≤ layerSize_0 j ∧ layerSize_0 j ≤ 76) (hK_0_106 : ∀ j : Int, 0 ≤ j → j < 5776 → 0 ≤ layerItem_0 j ∧ layerItem_0 j ≤ 75) (hK_0_108 : ∀ j : Int, 0 ≤ j → j < 130 → 0 ≤ lineA_0 j ∧ lineA_0 j ≤ 75) (hK_0_109 : ∀ j : Int, 0 ≤ j → j < 130 → 0 ≤ lineB_0 j ∧ lineB_0 j ≤ 75) (kz_0_79 : 0 ≤ pointMany_0 ∧ pointMany_0 ≤ 76) (kz_0_80 : 0 ≤ costMany_0 ∧ costMany_0 ≤ 200) (kz_0_81 : 0 ≤ apartMany_0 ∧ apartMany_0 ≤ 200) (kz_0_100 : 0 ≤ items_0 ∧ items_0 ≤ 76) (kz_0_101 : 0 ≤ layerMany_0 ∧ layerMany_0 ≤ 76) (kz_0_107 : 0 ≤ lines_0 ∧ lines_0 ≤ 130) (ex2 : gx = apartMany_0) (ex3 : 0 ≤ gx ∧ gx ≤ 199) (ey2 : gy = x2) (ey3 : 0 ≤ gy ∧ gy ≤ 75) (eu2 : gu = x3) (eu3 : 1 ≤ gu ∧ gu ≤ 75) : (2 ≤ x21) ∧ (x21 ≤ 202) := by
  try simp only [Int.add_zero] at *
  first
    | omega
    | (have h := ‹LSA _ _ _ _ _ _ _ _ _ _›.2.1; omega)
    | (have h := lsa_la (p := x2) (x := x15) ‹LSA _ _ _ _ _ _ _ _ _ _› (by omega) (by omega) (by assumption); omega)
    | (have h := lsa_lb (p := x2) (x := x16) ‹LSA _ _ _ _ _ _ _ _ _ _› (by omega) (by omega) (by assumption); omega)
def o_Mo_across2_21 : or_T := (243, 22, [(0, (2, 0, 0, [150])), (1, (2, 0, 0, [150])), (2, (0, 0, 75, [])), (3, (0, 1, 75, [])), (4, (2, 0, 0, [223])), (5, (0, 2, 76, [])), (6, (2, 0, 0, [224])), (7, (0, 76, 76, [])), (8, (0, 0, 5700, [])), (9, (0, 1, 5775, [])), (10, (0, 1, 1, [])), (11, (0, 0, 5774, [])), (12, (0, 0, 23, [])), (13, (0, 76, 76, [])), (14, (0, 0, 5700, [])), (15, (0, 1, 5775, [])), (16, (0, 0, 23, [])), (17, (0, 1, 9, [])), (18, (0, 1, 9, [])), (19, (0, 2, 18, [])), (20, (0, 2, 2, [])), (21, (0, 4, 20, []))], [(1, [21, 19, 20], []), (1, [19, 17, 18], []), (20, [18], [50, 0, 0, 2, 6, 0, 2, 0, 0, 1, 0, 0, 2, 1, 0, 0, 100]), (20, [17], [50, 0, 0, 2, 6, 0, 2, 0, 0, 1, 0, 0, 2, 1, 0, 0, 100]), (10, [16, 6, 15], []), (1, [15, 14, 3], []), (3, [14, 13, 2], []), (9, [6, 1], [106]), (10, [12, 6, 11], []), (2, [11, 9, 10], []), (1, [9, 8, 3], []), (3, [8, 7, 2], []), (7, [3, 5], [2]), (10, [5, 4, 2], []), (9, [4, 1], [105]), (20, [1], [60, 4, 6, 369, 5, 100, 101, 107, 2, 95, 102, 104, 108, 109]), (20, [1], [60, 2, 3, 372, 100, 101, 102, 105, 106]), (20, [1], [60, 1, 1, 122, 5, 2]), (20, [1], [50, 2, 0, 79, 100, 1, 3, 2, 0, 79, 2, 0, 100]), (20, [1], [60, 2, 4, 380, 79, 80, 83, 84, 85, 86]), (20, [1], [50, 1, 0, 80, 0, 3, 2, 0, 80, 0, 130]), (20, [1, 2, 3], [60, 2, 5, 393, 81, 101, 105, 106, 87, 88, 89]), (20, [1], [50, 1, 0, 81, 0, 3, 2, 0, 81, 0, 76]), (20, [2, 1], [50, 1, 0, 1101, 0, 6, 4, 2, 1, 0, 0, 1, 2, 1, 101]), (20, [3], [50, 0, 0, 0, 2, 0, 1, 1, 0]), (24, [0, 1], [])], [], [(0, 0, 199, []), (0, 0, 75, []), (0, 1, 75, [])], [(23, [23, 2], [0, 1, -1]), (23, [23, 2], [0, -1, 1]), (23, [24, 3], [0, 1, -1]), (23, [24, 3], [0, -1, 1]), (20, [1, 22], [50, 1, 0, 81, 1, 3, 2, 0, 81, 1, 1]), (20, [1, 23, 24], [60, 2, 5, 393, 81, 101, 105, 106, 87, 88, 89]), (20, [1, 23, 24, 12, 16], [60, 1, 2, 390, 101, 105, 106]), (20, [21], [50, 0, 0, 2, 6, 0, 2, 0, 2, 1, 0, 0, 2, 1, 0, 0, 202])], [], [(21, 19, 2, 2), (21, 18, 3, 11), (21, 17, 3, 11), (19, 18, 1, 9), (19, 17, 1, 9), (15, 3, 0, 5700), (15, 5, -4294967296, 5699), (15, 14, 1, 75), (11, 9, -1, -1), (11, 3, -1, 5699), (11, 5, -4294967296, 5698), (11, 8, 0, 74), (9, 3, 0, 5700), (9, 5, -4294967296, 5699), (9, 8, 1, 75), (3, 5, -4294967296, -1)])
theorem oo_Mo_across2_21 {kA : Nat → ClassId} : or_ok PRD kA GG o_Mo_across2_21 := by
  intro A ta ws vs hD hth hl hk hds hf
  have hl : vs.length = 22 := hl
  have hk : ∀ q ∈ ([(0, (2, 0, 0, [150])), (1, (2, 0, 0, [150])), (2, (0, 0, 75, [])), (3, (0, 1, 75, [])), (4, (2, 0, 0, [223])), (5, (0, 2, 76, [])), (6, (2, 0, 0, [224])), (7, (0, 76, 76, [])), (8, (0, 0, 5700, [])), (9, (0, 1, 5775, [])), (10, (0, 1, 1, [])), (11, (0, 0, 5774, [])), (12, (0, 0, 23, [])), (13, (0, 76, 76, [])), (14, (0, 0, 5700, [])), (15, (0, 1, 5775, [])), (16, (0, 0, 23, [])), (17, (0, 1, 9, [])), (18, (0, 1, 9, [])), (19, (0, 2, 18, [])), (20, (0, 2, 2, [])), (21, (0, 4, 20, []))] : List (Nat × tv_T)), tv_ok ta q.2 (n_v vs q.1) := hk
  obtain ⟨t0, hk⟩ := List.forall_mem_cons.mp hk
  have t0 : tv_ok ta (2, 0, 0, [150]) (n_v vs 0) := t0
  have r0 : ta (v_ad (n_v vs 0)) = some 150 := tv_rg t0
  obtain ⟨t1, hk⟩ := List.forall_mem_cons.mp hk
  have t1 : tv_ok ta (2, 0, 0, [150]) (n_v vs 1) := t1
  have r1 : ta (v_ad (n_v vs 1)) = some 150 := tv_rg t1
  obtain ⟨t2, hk⟩ := List.forall_mem_cons.mp hk
  have t2 : tv_ok ta (0, 0, 75, []) (n_v vs 2) := t2
  have k2 : 0 ≤ v_iv (n_v vs 2) ∧ v_iv (n_v vs 2) ≤ 75 := tv_rng t2
  obtain ⟨t3, hk⟩ := List.forall_mem_cons.mp hk
  have t3 : tv_ok ta (0, 1, 75, []) (n_v vs 3) := t3
  have k3 : 1 ≤ v_iv (n_v vs 3) ∧ v_iv (n_v vs 3) ≤ 75 := tv_rng t3
  obtain ⟨t4, hk⟩ := List.forall_mem_cons.mp hk
  have t4 : tv_ok ta (2, 0, 0, [223]) (n_v vs 4) := t4
  have r4 : ta (v_ad (n_v vs 4)) = some 223 := tv_rg t4
  obtain ⟨t5, hk⟩ := List.forall_mem_cons.mp hk
  have t5 : tv_ok ta (0, 2, 76, []) (n_v vs 5) := t5
  have k5 : 2 ≤ v_iv (n_v vs 5) ∧ v_iv (n_v vs 5) ≤ 76 := tv_rng t5
  obtain ⟨t6, hk⟩ := List.forall_mem_cons.mp hk
  have t6 : tv_ok ta (2, 0, 0, [224]) (n_v vs 6) := t6
  have r6 : ta (v_ad (n_v vs 6)) = some 224 := tv_rg t6
  obtain ⟨t7, hk⟩ := List.forall_mem_cons.mp hk
  have t7 : tv_ok ta (0, 76, 76, []) (n_v vs 7) := t7
  have k7 : 76 ≤ v_iv (n_v vs 7) ∧ v_iv (n_v vs 7) ≤ 76 := tv_rng t7
  obtain ⟨t8, hk⟩ := List.forall_mem_cons.mp hk
  have t8 : tv_ok ta (0, 0, 5700, []) (n_v vs 8) := t8
  have k8 : 0 ≤ v_iv (n_v vs 8) ∧ v_iv (n_v vs 8) ≤ 5700 := tv_rng t8
  obtain ⟨t9, hk⟩ := List.forall_mem_cons.mp hk
  have t9 : tv_ok ta (0, 1, 5775, []) (n_v vs 9) := t9
  have k9 : 1 ≤ v_iv (n_v vs 9) ∧ v_iv (n_v vs 9) ≤ 5775 := tv_rng t9
  obtain ⟨t10, hk⟩ := List.forall_mem_cons.mp hk
  have t10 : tv_ok ta (0, 1, 1, []) (n_v vs 10) := t10
  have k10 : 1 ≤ v_iv (n_v vs 10) ∧ v_iv (n_v vs 10) ≤ 1 := tv_rng t10
  obtain ⟨t11, hk⟩ := List.forall_mem_cons.mp hk
  have t11 : tv_ok ta (0, 0, 5774, []) (n_v vs 11) := t11
  have k11 : 0 ≤ v_iv (n_v vs 11) ∧ v_iv (n_v vs 11) ≤ 5774 := tv_rng t11
  obtain ⟨t12, hk⟩ := List.forall_mem_cons.mp hk
  have t12 : tv_ok ta (0, 0, 23, []) (n_v vs 12) := t12
  have k12 : 0 ≤ v_iv (n_v vs 12) ∧ v_iv (n_v vs 12) ≤ 23 := tv_rng t12
  obtain ⟨t13, hk⟩ := List.forall_mem_cons.mp hk
  have t13 : tv_ok ta (0, 76, 76, []) (n_v vs 13) := t13
  have k13 : 76 ≤ v_iv (n_v vs 13) ∧ v_iv (n_v vs 13) ≤ 76 := tv_rng t13
  obtain ⟨t14, hk⟩ := List.forall_mem_cons.mp hk
  have t14 : tv_ok ta (0, 0, 5700, []) (n_v vs 14) := t14
  have k14 : 0 ≤ v_iv (n_v vs 14) ∧ v_iv (n_v vs 14) ≤ 5700 := tv_rng t14
  obtain ⟨t15, hk⟩ := List.forall_mem_cons.mp hk
  have t15 : tv_ok ta (0, 1, 5775, []) (n_v vs 15) := t15
  have k15 : 1 ≤ v_iv (n_v vs 15) ∧ v_iv (n_v vs 15) ≤ 5775 := tv_rng t15
  obtain ⟨t16, hk⟩ := List.forall_mem_cons.mp hk
  have t16 : tv_ok ta (0, 0, 23, []) (n_v vs 16) := t16
  have k16 : 0 ≤ v_iv (n_v vs 16) ∧ v_iv (n_v vs 16) ≤ 23 := tv_rng t16
  obtain ⟨t17, hk⟩ := List.forall_mem_cons.mp hk
  have t17 : tv_ok ta (0, 1, 9, []) (n_v vs 17) := t17
  have k17 : 1 ≤ v_iv (n_v vs 17) ∧ v_iv (n_v vs 17) ≤ 9 := tv_rng t17
  obtain ⟨t18, hk⟩ := List.forall_mem_cons.mp hk
  have t18 : tv_ok ta (0, 1, 9, []) (n_v vs 18) := t18
  have k18 : 1 ≤ v_iv (n_v vs 18) ∧ v_iv (n_v vs 18) ≤ 9 := tv_rng t18
  obtain ⟨t19, hk⟩ := List.forall_mem_cons.mp hk
  have t19 : tv_ok ta (0, 2, 18, []) (n_v vs 19) := t19
  have k19 : 2 ≤ v_iv (n_v vs 19) ∧ v_iv (n_v vs 19) ≤ 18 := tv_rng t19
  obtain ⟨t20, hk⟩ := List.forall_mem_cons.mp hk
  have t20 : tv_ok ta (0, 2, 2, []) (n_v vs 20) := t20
  have k20 : 2 ≤ v_iv (n_v vs 20) ∧ v_iv (n_v vs 20) ≤ 2 := tv_rng t20
  obtain ⟨t21, hk⟩ := List.forall_mem_cons.mp hk
  have t21 : tv_ok ta (0, 4, 20, []) (n_v vs 21) := t21
  have k21 : 4 ≤ v_iv (n_v vs 21) ∧ v_iv (n_v vs 21) ≤ 20 := tv_rng t21
  have hds : ∀ q ∈ ([(21, 19, 2, 2), (21, 18, 3, 11), (21, 17, 3, 11), (19, 18, 1, 9), (19, 17, 1, 9), (15, 3, 0, 5700), (15, 5, -4294967296, 5699), (15, 14, 1, 75), (11, 9, -1, -1), (11, 3, -1, 5699), (11, 5, -4294967296, 5698), (11, 8, 0, 74), (9, 3, 0, 5700), (9, 5, -4294967296, 5699), (9, 8, 1, 75), (3, 5, -4294967296, -1)] : List of_T), n_iv vs q.2.1 + q.2.2.1 ≤ n_iv vs q.1 ∧ n_iv vs q.1 ≤ n_iv vs q.2.1 + q.2.2.2 := hds
  obtain ⟨d0, hds⟩ := List.forall_mem_cons.mp hds
  have d0 : v_iv (n_v vs 19) + 2 ≤ v_iv (n_v vs 21) ∧ v_iv (n_v vs 21) ≤ v_iv (n_v vs 19) + 2 := d0
  obtain ⟨d1, hds⟩ := List.forall_mem_cons.mp hds
  have d1 : v_iv (n_v vs 18) + 3 ≤ v_iv (n_v vs 21) ∧ v_iv (n_v vs 21) ≤ v_iv (n_v vs 18) + 11 := d1
  obtain ⟨d2, hds⟩ := List.forall_mem_cons.mp hds
  have d2 : v_iv (n_v vs 17) + 3 ≤ v_iv (n_v vs 21) ∧ v_iv (n_v vs 21) ≤ v_iv (n_v vs 17) + 11 := d2
  obtain ⟨d3, hds⟩ := List.forall_mem_cons.mp hds
  have d3 : v_iv (n_v vs 18) + 1 ≤ v_iv (n_v vs 19) ∧ v_iv (n_v vs 19) ≤ v_iv (n_v vs 18) + 9 := d3
  obtain ⟨d4, hds⟩ := List.forall_mem_cons.mp hds
  have d4 : v_iv (n_v vs 17) + 1 ≤ v_iv (n_v vs 19) ∧ v_iv (n_v vs 19) ≤ v_iv (n_v vs 17) + 9 := d4
  obtain ⟨d5, hds⟩ := List.forall_mem_cons.mp hds
  have d5 : v_iv (n_v vs 3) + 0 ≤ v_iv (n_v vs 15) ∧ v_iv (n_v vs 15) ≤ v_iv (n_v vs 3) + 5700 := d5
  obtain ⟨d6, hds⟩ := List.forall_mem_cons.mp hds
  have d6 : v_iv (n_v vs 5) + (-4294967296) ≤ v_iv (n_v vs 15) ∧ v_iv (n_v vs 15) ≤ v_iv (n_v vs 5) + 5699 := d6
  obtain ⟨d7, hds⟩ := List.forall_mem_cons.mp hds
  have d7 : v_iv (n_v vs 14) + 1 ≤ v_iv (n_v vs 15) ∧ v_iv (n_v vs 15) ≤ v_iv (n_v vs 14) + 75 := d7
  obtain ⟨d8, hds⟩ := List.forall_mem_cons.mp hds
  have d8 : v_iv (n_v vs 9) + (-1) ≤ v_iv (n_v vs 11) ∧ v_iv (n_v vs 11) ≤ v_iv (n_v vs 9) + (-1) := d8
  obtain ⟨d9, hds⟩ := List.forall_mem_cons.mp hds
  have d9 : v_iv (n_v vs 3) + (-1) ≤ v_iv (n_v vs 11) ∧ v_iv (n_v vs 11) ≤ v_iv (n_v vs 3) + 5699 := d9
  obtain ⟨d10, hds⟩ := List.forall_mem_cons.mp hds
  have d10 : v_iv (n_v vs 5) + (-4294967296) ≤ v_iv (n_v vs 11) ∧ v_iv (n_v vs 11) ≤ v_iv (n_v vs 5) + 5698 := d10
  obtain ⟨d11, hds⟩ := List.forall_mem_cons.mp hds
  have d11 : v_iv (n_v vs 8) + 0 ≤ v_iv (n_v vs 11) ∧ v_iv (n_v vs 11) ≤ v_iv (n_v vs 8) + 74 := d11
  obtain ⟨d12, hds⟩ := List.forall_mem_cons.mp hds
  have d12 : v_iv (n_v vs 3) + 0 ≤ v_iv (n_v vs 9) ∧ v_iv (n_v vs 9) ≤ v_iv (n_v vs 3) + 5700 := d12
  obtain ⟨d13, hds⟩ := List.forall_mem_cons.mp hds
  have d13 : v_iv (n_v vs 5) + (-4294967296) ≤ v_iv (n_v vs 9) ∧ v_iv (n_v vs 9) ≤ v_iv (n_v vs 5) + 5699 := d13
  obtain ⟨d14, hds⟩ := List.forall_mem_cons.mp hds
  have d14 : v_iv (n_v vs 8) + 1 ≤ v_iv (n_v vs 9) ∧ v_iv (n_v vs 9) ≤ v_iv (n_v vs 8) + 75 := d14
  obtain ⟨d15, hds⟩ := List.forall_mem_cons.mp hds
  have d15 : v_iv (n_v vs 5) + (-4294967296) ≤ v_iv (n_v vs 3) ∧ v_iv (n_v vs 3) ≤ v_iv (n_v vs 5) + (-1) := d15
  have hf : fc_ok PRD [(1, [21, 19, 20], []), (1, [19, 17, 18], []), (20, [18], [50, 0, 0, 2, 6, 0, 2, 0, 0, 1, 0, 0, 2, 1, 0, 0, 100]), (20, [17], [50, 0, 0, 2, 6, 0, 2, 0, 0, 1, 0, 0, 2, 1, 0, 0, 100]), (10, [16, 6, 15], []), (1, [15, 14, 3], []), (3, [14, 13, 2], []), (9, [6, 1], [106]), (10, [12, 6, 11], []), (2, [11, 9, 10], []), (1, [9, 8, 3], []), (3, [8, 7, 2], []), (7, [3, 5], [2]), (10, [5, 4, 2], []), (9, [4, 1], [105]), (20, [1], [60, 4, 6, 369, 5, 100, 101, 107, 2, 95, 102, 104, 108, 109]), (20, [1], [60, 2, 3, 372, 100, 101, 102, 105, 106]), (20, [1], [60, 1, 1, 122, 5, 2]), (20, [1], [50, 2, 0, 79, 100, 1, 3, 2, 0, 79, 2, 0, 100]), (20, [1], [60, 2, 4, 380, 79, 80, 83, 84, 85, 86]), (20, [1], [50, 1, 0, 80, 0, 3, 2, 0, 80, 0, 130]), (20, [1, 2, 3], [60, 2, 5, 393, 81, 101, 105, 106, 87, 88, 89]), (20, [1], [50, 1, 0, 81, 0, 3, 2, 0, 81, 0, 76]), (20, [2, 1], [50, 1, 0, 1101, 0, 6, 4, 2, 1, 0, 0, 1, 2, 1, 101]), (20, [3], [50, 0, 0, 0, 2, 0, 1, 1, 0]), (24, [0, 1], [])] ta ws vs := hf
  obtain ⟨f0, hf⟩ := fc_un (show (1 : Nat) < 100 from by decide) hf
  have f0 : v_iv (n_v vs 21) = v_iv (n_v vs 19) + v_iv (n_v vs 20) := f0
  obtain ⟨f1, hf⟩ := fc_un (show (1 : Nat) < 100 from by decide) hf
  have f1 : v_iv (n_v vs 19) = v_iv (n_v vs 17) + v_iv (n_v vs 18) := f1
  obtain ⟨f2, hf⟩ := fc_un (show (20 : Nat) < 100 from by decide) hf
  have f2 : (0 ≤ v_iv (n_v vs 18)) ∧ (v_iv (n_v vs 18) ≤ 100) := f2
  obtain ⟨f3, hf⟩ := fc_un (show (20 : Nat) < 100 from by decide) hf
  have f3 : (0 ≤ v_iv (n_v vs 17)) ∧ (v_iv (n_v vs 17) ≤ 100) := f3
  obtain ⟨f4, hf⟩ := fc_un (show (10 : Nat) < 100 from by decide) hf
  have f4 : v_iv (n_v vs 16) = w_el ws (v_ad (n_v vs 6)) (v_iv (n_v vs 15)).toNat := f4
  obtain ⟨f5, hf⟩ := fc_un (show (1 : Nat) < 100 from by decide) hf
  have f5 : v_iv (n_v vs 15) = v_iv (n_v vs 14) + v_iv (n_v vs 3) := f5
  obtain ⟨f6, hf⟩ := fc_un (show (3 : Nat) < 100 from by decide) hf
  have f6 : v_iv (n_v vs 14) = v_iv (n_v vs 13) * v_iv (n_v vs 2) := f6
  rw [show v_iv (n_v vs 13) = 76 from by omega] at f6
  obtain ⟨f7, hf⟩ := fc_un (show (9 : Nat) < 100 from by decide) hf
  have f7 : n_v vs 6 = w_fd ws (v_ad (n_v vs 1)) 106 := f7
  obtain ⟨f8, hf⟩ := fc_un (show (10 : Nat) < 100 from by decide) hf
  have f8 : v_iv (n_v vs 12) = w_el ws (v_ad (n_v vs 6)) (v_iv (n_v vs 11)).toNat := f8
  obtain ⟨f9, hf⟩ := fc_un (show (2 : Nat) < 100 from by decide) hf
  have f9 : v_iv (n_v vs 11) = v_iv (n_v vs 9) - v_iv (n_v vs 10) := f9
  obtain ⟨f10, hf⟩ := fc_un (show (1 : Nat) < 100 from by decide) hf
  have f10 : v_iv (n_v vs 9) = v_iv (n_v vs 8) + v_iv (n_v vs 3) := f10
  obtain ⟨f11, hf⟩ := fc_un (show (3 : Nat) < 100 from by decide) hf
  have f11 : v_iv (n_v vs 8) = v_iv (n_v vs 7) * v_iv (n_v vs 2) := f11
  rw [show v_iv (n_v vs 7) = 76 from by omega] at f11
  obtain ⟨f12, hf⟩ := fc_un (show (7 : Nat) < 100 from by decide) hf
  have f12 : v_iv (n_v vs 3) < v_iv (n_v vs 5) := f12
  obtain ⟨f13, hf⟩ := fc_un (show (10 : Nat) < 100 from by decide) hf
  have f13 : v_iv (n_v vs 5) = w_el ws (v_ad (n_v vs 4)) (v_iv (n_v vs 2)).toNat := f13
  obtain ⟨f14, hf⟩ := fc_un (show (9 : Nat) < 100 from by decide) hf
  have f14 : n_v vs 4 = w_fd ws (v_ad (n_v vs 1)) 105 := f14
  obtain ⟨f15, hf⟩ := fc_un (show (20 : Nat) < 100 from by decide) hf
  have f15 : LSA (w_fi ws (n_v vs 1) 5) (w_fi ws (n_v vs 1) 100) (w_fi ws (n_v vs 1) 101) (w_fi ws (n_v vs 1) 107) (w_ei ws (w_ar ws (n_v vs 1) 2)) (w_ei ws (w_ar ws (n_v vs 1) 95)) (w_ei ws (w_ar ws (n_v vs 1) 102)) (w_ei ws (w_ar ws (n_v vs 1) 104)) (w_ei ws (w_ar ws (n_v vs 1) 108)) (w_ei ws (w_ar ws (n_v vs 1) 109)) := f15
  obtain ⟨f16, hf⟩ := fc_un (show (20 : Nat) < 100 from by decide) hf
  have f16 : LSB (w_fi ws (n_v vs 1) 100) (w_fi ws (n_v vs 1) 101) (w_ei ws (w_ar ws (n_v vs 1) 102)) (w_ei ws (w_ar ws (n_v vs 1) 105)) (w_ei ws (w_ar ws (n_v vs 1) 106)) := f16
  obtain ⟨f17, hf⟩ := fc_un (show (20 : Nat) < 100 from by decide) hf
  have f17 : SGR (w_fi ws (n_v vs 1) 5) (w_ei ws (w_ar ws (n_v vs 1) 2)) := f17
  obtain ⟨f18, hf⟩ := fc_un (show (20 : Nat) < 100 from by decide) hf
  have f18 : w_fi ws (n_v vs 1) 79 = w_fi ws (n_v vs 1) 100 := f18
  obtain ⟨f19, hf⟩ := fc_un (show (20 : Nat) < 100 from by decide) hf
  have f19 : PCQ (w_fi ws (n_v vs 1) 79) (w_fi ws (n_v vs 1) 80) (w_ei ws (w_ar ws (n_v vs 1) 83)) (w_ei ws (w_ar ws (n_v vs 1) 84)) (w_ei ws (w_ar ws (n_v vs 1) 85)) (w_ei ws (w_ar ws (n_v vs 1) 86)) := f19
  obtain ⟨f20, hf⟩ := fc_un (show (20 : Nat) < 100 from by decide) hf
  have f20 : w_fi ws (n_v vs 1) 80 ≤ 130 := f20
  obtain ⟨f21, hf⟩ := fc_un (show (20 : Nat) < 100 from by decide) hf
  have f21 : PAL2 (w_fi ws (n_v vs 1) 81) (w_fi ws (n_v vs 1) 101) (w_ei ws (w_ar ws (n_v vs 1) 105)) (w_ei ws (w_ar ws (n_v vs 1) 106)) (w_ei ws (w_ar ws (n_v vs 1) 87)) (w_ei ws (w_ar ws (n_v vs 1) 88)) (w_ei ws (w_ar ws (n_v vs 1) 89)) (v_iv (n_v vs 2)) (v_iv (n_v vs 3)) := f21
  obtain ⟨f22, hf⟩ := fc_un (show (20 : Nat) < 100 from by decide) hf
  have f22 : w_fi ws (n_v vs 1) 81 ≤ 76 := f22
  obtain ⟨f23, hf⟩ := fc_un (show (20 : Nat) < 100 from by decide) hf
  have f23 : (v_iv (n_v vs 2) + 1) ≤ w_fi ws (n_v vs 1) 101 := f23
  obtain ⟨f24, hf⟩ := fc_un (show (20 : Nat) < 100 from by decide) hf
  have f24 : 1 ≤ v_iv (n_v vs 3) := f24
  obtain ⟨f25, hf⟩ := fc_un (show (24 : Nat) < 100 from by decide) hf
  have f25 : n_v vs 0 = n_v vs 1 := f25
  have q1 : n_v vs 1 = n_v vs 0 := f25.symm
  rw [q1] at f7
  rw [q1] at f14
  rw [q1] at f15
  rw [q1] at f16
  rw [q1] at f17
  rw [q1] at f18
  rw [q1] at f19
  rw [q1] at f20
  rw [q1] at f21
  rw [q1] at f22
  rw [q1] at f23
  have cr_0_2 : ta (w_ar ws (n_v vs 0) 2) = some 152 := tv_rg (th_fd hD hth r0 (g := GG_150) rfl (k := 2) (t := (2, 0, 0, [152])) rfl rfl)
  have cr_0_83 : ta (w_ar ws (n_v vs 0) 83) = some 205 := tv_rg (th_fd hD hth r0 (g := GG_150) rfl (k := 83) (t := (2, 0, 0, [205])) rfl rfl)
  have cr_0_84 : ta (w_ar ws (n_v vs 0) 84) = some 206 := tv_rg (th_fd hD hth r0 (g := GG_150) rfl (k := 84) (t := (2, 0, 0, [206])) rfl rfl)
  have cr_0_85 : ta (w_ar ws (n_v vs 0) 85) = some 207 := tv_rg (th_fd hD hth r0 (g := GG_150) rfl (k := 85) (t := (2, 0, 0, [207])) rfl rfl)
  have cr_0_86 : ta (w_ar ws (n_v vs 0) 86) = some 208 := tv_rg (th_fd hD hth r0 (g := GG_150) rfl (k := 86) (t := (2, 0, 0, [208])) rfl rfl)
  have cr_0_87 : ta (w_ar ws (n_v vs 0) 87) = some 209 := tv_rg (th_fd hD hth r0 (g := GG_150) rfl (k := 87) (t := (2, 0, 0, [209])) rfl rfl)
  have cr_0_88 : ta (w_ar ws (n_v vs 0) 88) = some 210 := tv_rg (th_fd hD hth r0 (g := GG_150) rfl (k := 88) (t := (2, 0, 0, [210])) rfl rfl)
  have cr_0_89 : ta (w_ar ws (n_v vs 0) 89) = some 211 := tv_rg (th_fd hD hth r0 (g := GG_150) rfl (k := 89) (t := (2, 0, 0, [211])) rfl rfl)
  have cr_0_95 : ta (w_ar ws (n_v vs 0) 95) = some 216 := tv_rg (th_fd hD hth r0 (g := GG_150) rfl (k := 95) (t := (2, 0, 0, [216])) rfl rfl)
  have cr_0_102 : ta (w_ar ws (n_v vs 0) 102) = some 220 := tv_rg (th_fd hD hth r0 (g := GG_150) rfl (k := 102) (t := (2, 0, 0, [220])) rfl rfl)
  have cr_0_104 : ta (w_ar ws (n_v vs 0) 104) = some 222 := tv_rg (th_fd hD hth r0 (g := GG_150) rfl (k := 104) (t := (2, 0, 0, [222])) rfl rfl)
  have cr_0_105 : ta (w_ar ws (n_v vs 0) 105) = some 223 := tv_rg (th_fd hD hth r0 (g := GG_150) rfl (k := 105) (t := (2, 0, 0, [223])) rfl rfl)
  have cr_0_106 : ta (w_ar ws (n_v vs 0) 106) = some 224 := tv_rg (th_fd hD hth r0 (g := GG_150) rfl (k := 106) (t := (2, 0, 0, [224])) rfl rfl)
  have cr_0_108 : ta (w_ar ws (n_v vs 0) 108) = some 225 := tv_rg (th_fd hD hth r0 (g := GG_150) rfl (k := 108) (t := (2, 0, 0, [225])) rfl rfl)
  have cr_0_109 : ta (w_ar ws (n_v vs 0) 109) = some 226 := tv_rg (th_fd hD hth r0 (g := GG_150) rfl (k := 109) (t := (2, 0, 0, [226])) rfl rfl)
  have ad_6 : v_ad (n_v vs 6) = w_ar ws (n_v vs 0) 106 := congrArg v_ad f7
  have ad_4 : v_ad (n_v vs 4) = w_ar ws (n_v vs 0) 105 := congrArg v_ad f14
  rw [ad_6] at f4
  have h4 : v_iv (n_v vs 16) = w_ei ws (w_ar ws (n_v vs 0) 106) (v_iv (n_v vs 15)) := f4
  rw [ad_6] at f8
  have h8 : v_iv (n_v vs 12) = w_ei ws (w_ar ws (n_v vs 0) 106) (v_iv (n_v vs 11)) := f8
  rw [ad_4] at f13
  have h13 : v_iv (n_v vs 5) = w_ei ws (w_ar ws (n_v vs 0) 105) (v_iv (n_v vs 2)) := f13
  have hK_0_83 : ∀ j : Int, 0 ≤ j → j < 200 → 0 ≤ w_ei ws (w_ar ws (n_v vs 0) 83) j ∧ w_ei ws (w_ar ws (n_v vs 0) 83) j ≤ 75 := fun j h0 h1 => th_el hD hth cr_0_83 (kd := 0) (n := 200) (m := 200) (lo := 0) (hi := 75) (rs := []) (L := []) rfl (by decide) (j := j.toNat) (by omega)
  have hK_0_84 : ∀ j : Int, 0 ≤ j → j < 200 → 0 ≤ w_ei ws (w_ar ws (n_v vs 0) 84) j ∧ w_ei ws (w_ar ws (n_v vs 0) 84) j ≤ 75 := fun j h0 h1 => th_el hD hth cr_0_84 (kd := 0) (n := 200) (m := 200) (lo := 0) (hi := 75) (rs := []) (L := []) rfl (by decide) (j := j.toNat) (by omega)
  have hK_0_85 : ∀ j : Int, 0 ≤ j → j < 200 → 0 ≤ w_ei ws (w_ar ws (n_v vs 0) 85) j ∧ w_ei ws (w_ar ws (n_v vs 0) 85) j ≤ 72 := fun j h0 h1 => th_el hD hth cr_0_85 (kd := 0) (n := 200) (m := 200) (lo := 0) (hi := 72) (rs := []) (L := []) rfl (by decide) (j := j.toNat) (by omega)
  have hK_0_86 : ∀ j : Int, 0 ≤ j → j < 200 → 0 ≤ w_ei ws (w_ar ws (n_v vs 0) 86) j ∧ w_ei ws (w_ar ws (n_v vs 0) 86) j ≤ 1 := fun j h0 h1 => th_el hD hth cr_0_86 (kd := 2) (n := 200) (m := 200) (lo := 0) (hi := 1) (rs := []) (L := []) rfl (by decide) (j := j.toNat) (by omega)
  have hK_0_87 : ∀ j : Int, 0 ≤ j → j < 200 → 0 ≤ w_ei ws (w_ar ws (n_v vs 0) 87) j ∧ w_ei ws (w_ar ws (n_v vs 0) 87) j ≤ 75 := fun j h0 h1 => th_el hD hth cr_0_87 (kd := 0) (n := 200) (m := 200) (lo := 0) (hi := 75) (rs := []) (L := []) rfl (by decide) (j := j.toNat) (by omega)
  have hK_0_88 : ∀ j : Int, 0 ≤ j → j < 200 → 0 ≤ w_ei ws (w_ar ws (n_v vs 0) 88) j ∧ w_ei ws (w_ar ws (n_v vs 0) 88) j ≤ 75 := fun j h0 h1 => th_el hD hth cr_0_88 (kd := 0) (n := 200) (m := 200) (lo := 0) (hi := 75) (rs := []) (L := []) rfl (by decide) (j := j.toNat) (by omega)
  have hK_0_89 : ∀ j : Int, 0 ≤ j → j < 200 → 0 ≤ w_ei ws (w_ar ws (n_v vs 0) 89) j ∧ w_ei ws (w_ar ws (n_v vs 0) 89) j ≤ 202 := fun j h0 h1 => th_el hD hth cr_0_89 (kd := 0) (n := 200) (m := 200) (lo := 0) (hi := 202) (rs := []) (L := []) rfl (by decide) (j := j.toNat) (by omega)
  have hK_0_95 : ∀ j : Int, 0 ≤ j → j < 48 → 0 ≤ w_ei ws (w_ar ws (n_v vs 0) 95) j ∧ w_ei ws (w_ar ws (n_v vs 0) 95) j ≤ 1 := fun j h0 h1 => th_el hD hth cr_0_95 (kd := 2) (n := 48) (m := 48) (lo := 0) (hi := 1) (rs := []) (L := []) rfl (by decide) (j := j.toNat) (by omega)
  have hK_0_102 : ∀ j : Int, 0 ≤ j → j < 76 → 0 ≤ w_ei ws (w_ar ws (n_v vs 0) 102) j ∧ w_ei ws (w_ar ws (n_v vs 0) 102) j ≤ 75 := fun j h0 h1 => th_el hD hth cr_0_102 (kd := 0) (n := 76) (m := 76) (lo := 0) (hi := 75) (rs := []) (L := []) rfl (by decide) (j := j.toNat) (by omega)
  have hK_0_104 : ∀ j : Int, 0 ≤ j → j < 48 → 0 ≤ w_ei ws (w_ar ws (n_v vs 0) 104) j ∧ w_ei ws (w_ar ws (n_v vs 0) 104) j ≤ 76 := fun j h0 h1 => th_el hD hth cr_0_104 (kd := 0) (n := 48) (m := 48) (lo := 0) (hi := 76) (rs := []) (L := []) rfl (by decide) (j := j.toNat) (by omega)
  have hK_0_105 : ∀ j : Int, 0 ≤ j → j < 76 → 0 ≤ w_ei ws (w_ar ws (n_v vs 0) 105) j ∧ w_ei ws (w_ar ws (n_v vs 0) 105) j ≤ 76 := fun j h0 h1 => th_el hD hth cr_0_105 (kd := 0) (n := 76) (m := 76) (lo := 0) (hi := 76) (rs := []) (L := []) rfl (by decide) (j := j.toNat) (by omega)
  have hK_0_106 : ∀ j : Int, 0 ≤ j → j < 5776 → 0 ≤ w_ei ws (w_ar ws (n_v vs 0) 106) j ∧ w_ei ws (w_ar ws (n_v vs 0) 106) j ≤ 75 := fun j h0 h1 => th_el hD hth cr_0_106 (kd := 0) (n := 5776) (m := 5776) (lo := 0) (hi := 75) (rs := []) (L := []) rfl (by decide) (j := j.toNat) (by omega)
  have hK_0_108 : ∀ j : Int, 0 ≤ j → j < 130 → 0 ≤ w_ei ws (w_ar ws (n_v vs 0) 108) j ∧ w_ei ws (w_ar ws (n_v vs 0) 108) j ≤ 75 := fun j h0 h1 => th_el hD hth cr_0_108 (kd := 0) (n := 130) (m := 130) (lo := 0) (hi := 75) (rs := []) (L := []) rfl (by decide) (j := j.toNat) (by omega)
  have hK_0_109 : ∀ j : Int, 0 ≤ j → j < 130 → 0 ≤ w_ei ws (w_ar ws (n_v vs 0) 109) j ∧ w_ei ws (w_ar ws (n_v vs 0) 109) j ≤ 75 := fun j h0 h1 => th_el hD hth cr_0_109 (kd := 0) (n := 130) (m := 130) (lo := 0) (hi := 75) (rs := []) (L := []) rfl (by decide) (j := j.toNat) (by omega)
  have kz_0_79 : 0 ≤ w_fi ws (n_v vs 0) 79 ∧ w_fi ws (n_v vs 0) 79 ≤ 76 := tv_rng (th_fd hD hth r0 (g := GG_150) rfl (k := 79) (t := (0, 0, 76, [])) rfl rfl)
  have kz_0_80 : 0 ≤ w_fi ws (n_v vs 0) 80 ∧ w_fi ws (n_v vs 0) 80 ≤ 200 := tv_rng (th_fd hD hth r0 (g := GG_150) rfl (k := 80) (t := (0, 0, 200, [])) rfl rfl)
  have kz_0_81 : 0 ≤ w_fi ws (n_v vs 0) 81 ∧ w_fi ws (n_v vs 0) 81 ≤ 200 := tv_rng (th_fd hD hth r0 (g := GG_150) rfl (k := 81) (t := (0, 0, 200, [])) rfl rfl)
  have kz_0_100 : 0 ≤ w_fi ws (n_v vs 0) 100 ∧ w_fi ws (n_v vs 0) 100 ≤ 76 := tv_rng (th_fd hD hth r0 (g := GG_150) rfl (k := 100) (t := (0, 0, 76, [])) rfl rfl)
  have kz_0_101 : 0 ≤ w_fi ws (n_v vs 0) 101 ∧ w_fi ws (n_v vs 0) 101 ≤ 76 := tv_rng (th_fd hD hth r0 (g := GG_150) rfl (k := 101) (t := (0, 0, 76, [])) rfl rfl)
  have kz_0_107 : 0 ≤ w_fi ws (n_v vs 0) 107 ∧ w_fi ws (n_v vs 0) 107 ≤ 130 := tv_rng (th_fd hD hth r0 (g := GG_150) rfl (k := 107) (t := (0, 0, 130, [])) rfl rfl)
  have kv0 : 0 ≤ w_fi ws (n_v vs 0) 81 ∧ w_fi ws (n_v vs 0) 81 ≤ 200 := tv_rng (th_fd hD hth r0 (g := GG_150) rfl (k := 81) (t := (0, 0, 200, [])) rfl rfl)
  obtain ⟨x, ex, hx⟩ := iv_ex (ta := ta) (lo := 0) (hi := 199) (z := w_fi ws (n_v vs 0) 81) (by omega) (by omega) (by omega) (by omega)
  have ex2 : v_iv (Value.int x) = w_fi ws (n_v vs 0) 81 := ex
  have ex3 : 0 ≤ v_iv (Value.int x) ∧ v_iv (Value.int x) ≤ 199 := tv_rng hx
  obtain ⟨y, ey, hy⟩ := iv_ex (ta := ta) (lo := 0) (hi := 75) (z := v_iv (n_v vs 2)) (by omega) (by omega) (by omega) (by omega)
  have ey2 : v_iv (Value.int y) = v_iv (n_v vs 2) := ey
  have ey3 : 0 ≤ v_iv (Value.int y) ∧ v_iv (Value.int y) ≤ 75 := tv_rng hy
  obtain ⟨u, eu, hu⟩ := iv_ex (ta := ta) (lo := 1) (hi := 75) (z := v_iv (n_v vs 3)) (by omega) (by omega) (by omega) (by omega)
  have eu2 : v_iv (Value.int u) = v_iv (n_v vs 3) := eu
  have eu3 : 1 ≤ v_iv (Value.int u) ∧ v_iv (Value.int u) ≤ 75 := tv_rng hu
  have e_1 : n_v (vs ++ [Value.int x, Value.int y, Value.int u]) 1 = n_v vs 1 := n_v_old (by rw [hl]; decide)
  have e_2 : n_v (vs ++ [Value.int x, Value.int y, Value.int u]) 2 = n_v vs 2 := n_v_old (by rw [hl]; decide)
  have e_3 : n_v (vs ++ [Value.int x, Value.int y, Value.int u]) 3 = n_v vs 3 := n_v_old (by rw [hl]; decide)
  have e_12 : n_v (vs ++ [Value.int x, Value.int y, Value.int u]) 12 = n_v vs 12 := n_v_old (by rw [hl]; decide)
  have e_16 : n_v (vs ++ [Value.int x, Value.int y, Value.int u]) 16 = n_v vs 16 := n_v_old (by rw [hl]; decide)
  have e_21 : n_v (vs ++ [Value.int x, Value.int y, Value.int u]) 21 = n_v vs 21 := n_v_old (by rw [hl]; decide)
  have e_22 : n_v (vs ++ [Value.int x, Value.int y, Value.int u]) 22 = Value.int x := n_v_newk (k := 0) hl rfl
  have e_23 : n_v (vs ++ [Value.int x, Value.int y, Value.int u]) 23 = Value.int y := n_v_newk (k := 1) hl rfl
  have e_24 : n_v (vs ++ [Value.int x, Value.int y, Value.int u]) 24 = Value.int u := n_v_newk (k := 2) hl rfl
  have nf0 : fc_1 PRD (23, [23, 2], [0, 1, -1]) ws (vs ++ [Value.int x, Value.int y, Value.int u]) := by
    refine ⟨fun n hn => ?_, ?_⟩
    · have hn : n ∈ [23, 2] := hn
      rw [List.length_append, hl]
      simp only [List.mem_cons, List.not_mem_nil, or_false] at hn
      show n < 22 + 3; omega
    · show 1 * v_iv (n_v (vs ++ [Value.int x, Value.int y, Value.int u]) 23) + ((-1) * v_iv (n_v (vs ++ [Value.int x, Value.int y, Value.int u]) 2) + 0) ≤ 0
      rw [e_2]
      rw [e_23]
      exact vc_Mo_across2_21_0 (v_iv (n_v vs 2)) (v_iv (n_v vs 3)) (v_iv (n_v vs 5)) (v_iv (n_v vs 7)) (v_iv (n_v vs 8)) (v_iv (n_v vs 9)) (v_iv (n_v vs 10)) (v_iv (n_v vs 11)) (v_iv (n_v vs 12)) (v_iv (n_v vs 13)) (v_iv (n_v vs 14)) (v_iv (n_v vs 15)) (v_iv (n_v vs 16)) (v_iv (n_v vs 17)) (v_iv (n_v vs 18)) (v_iv (n_v vs 19)) (v_iv (n_v vs 20)) (v_iv (n_v vs 21)) (w_ei ws (w_ar ws (n_v vs 0) 106)) (w_ei ws (w_ar ws (n_v vs 0) 105)) (w_ei ws (w_ar ws (n_v vs 0) 2)) (w_ei ws (w_ar ws (n_v vs 0) 95)) (w_ei ws (w_ar ws (n_v vs 0) 102)) (w_ei ws (w_ar ws (n_v vs 0) 104)) (w_ei ws (w_ar ws (n_v vs 0) 108)) (w_ei ws (w_ar ws (n_v vs 0) 109)) (w_fi ws (n_v vs 0) 5) (w_fi ws (n_v vs 0) 100) (w_fi ws (n_v vs 0) 101) (w_fi ws (n_v vs 0) 107) (w_fi ws (n_v vs 0) 79) (w_ei ws (w_ar ws (n_v vs 0) 83)) (w_ei ws (w_ar ws (n_v vs 0) 84)) (w_ei ws (w_ar ws (n_v vs 0) 85)) (w_ei ws (w_ar ws (n_v vs 0) 86)) (w_fi ws (n_v vs 0) 80) (w_ei ws (w_ar ws (n_v vs 0) 87)) (w_ei ws (w_ar ws (n_v vs 0) 88)) (w_ei ws (w_ar ws (n_v vs 0) 89)) (w_fi ws (n_v vs 0) 81) (v_iv (Value.int x)) (v_iv (Value.int y)) (v_iv (Value.int u)) k2 k3 k5 k7 k8 k9 k10 k11 k12 k13 k14 k15 k16 k17 k18 k19 k20 k21 d0 d1 d2 d3 d4 d5 d6 d7 d8 d9 d10 d11 d12 d13 d14 d15 f0 f1 f2 f3 h4 f5 f6 h8 f9 f10 f11 f12 h13 f15 f16 f17 f18 f19 f20 f21 f22 f23 f24 hK_0_83 hK_0_84 hK_0_85 hK_0_86 hK_0_87 hK_0_88 hK_0_89 hK_0_95 hK_0_102 hK_0_104 hK_0_105 hK_0_106 hK_0_108 hK_0_109 kz_0_79 kz_0_80 kz_0_81 kz_0_100 kz_0_101 kz_0_107 ex2 ex3 ey2 ey3 eu2 eu3
  have nf1 : fc_1 PRD (23, [23, 2], [0, -1, 1]) ws (vs ++ [Value.int x, Value.int y, Value.int u]) := by
    refine ⟨fun n hn => ?_, ?_⟩
    · have hn : n ∈ [23, 2] := hn
      rw [List.length_append, hl]
      simp only [List.mem_cons, List.not_mem_nil, or_false] at hn
      show n < 22 + 3; omega
    · show (-1) * v_iv (n_v (vs ++ [Value.int x, Value.int y, Value.int u]) 23) + (1 * v_iv (n_v (vs ++ [Value.int x, Value.int y, Value.int u]) 2) + 0) ≤ 0
      rw [e_2]
      rw [e_23]
      exact vc_Mo_across2_21_1 (v_iv (n_v vs 2)) (v_iv (n_v vs 3)) (v_iv (n_v vs 5)) (v_iv (n_v vs 7)) (v_iv (n_v vs 8)) (v_iv (n_v vs 9)) (v_iv (n_v vs 10)) (v_iv (n_v vs 11)) (v_iv (n_v vs 12)) (v_iv (n_v vs 13)) (v_iv (n_v vs 14)) (v_iv (n_v vs 15)) (v_iv (n_v vs 16)) (v_iv (n_v vs 17)) (v_iv (n_v vs 18)) (v_iv (n_v vs 19)) (v_iv (n_v vs 20)) (v_iv (n_v vs 21)) (w_ei ws (w_ar ws (n_v vs 0) 106)) (w_ei ws (w_ar ws (n_v vs 0) 105)) (w_ei ws (w_ar ws (n_v vs 0) 2)) (w_ei ws (w_ar ws (n_v vs 0) 95)) (w_ei ws (w_ar ws (n_v vs 0) 102)) (w_ei ws (w_ar ws (n_v vs 0) 104)) (w_ei ws (w_ar ws (n_v vs 0) 108)) (w_ei ws (w_ar ws (n_v vs 0) 109)) (w_fi ws (n_v vs 0) 5) (w_fi ws (n_v vs 0) 100) (w_fi ws (n_v vs 0) 101) (w_fi ws (n_v vs 0) 107) (w_fi ws (n_v vs 0) 79) (w_ei ws (w_ar ws (n_v vs 0) 83)) (w_ei ws (w_ar ws (n_v vs 0) 84)) (w_ei ws (w_ar ws (n_v vs 0) 85)) (w_ei ws (w_ar ws (n_v vs 0) 86)) (w_fi ws (n_v vs 0) 80) (w_ei ws (w_ar ws (n_v vs 0) 87)) (w_ei ws (w_ar ws (n_v vs 0) 88)) (w_ei ws (w_ar ws (n_v vs 0) 89)) (w_fi ws (n_v vs 0) 81) (v_iv (Value.int x)) (v_iv (Value.int y)) (v_iv (Value.int u)) k2 k3 k5 k7 k8 k9 k10 k11 k12 k13 k14 k15 k16 k17 k18 k19 k20 k21 d0 d1 d2 d3 d4 d5 d6 d7 d8 d9 d10 d11 d12 d13 d14 d15 f0 f1 f2 f3 h4 f5 f6 h8 f9 f10 f11 f12 h13 f15 f16 f17 f18 f19 f20 f21 f22 f23 f24 hK_0_83 hK_0_84 hK_0_85 hK_0_86 hK_0_87 hK_0_88 hK_0_89 hK_0_95 hK_0_102 hK_0_104 hK_0_105 hK_0_106 hK_0_108 hK_0_109 kz_0_79 kz_0_80 kz_0_81 kz_0_100 kz_0_101 kz_0_107 ex2 ex3 ey2 ey3 eu2 eu3
  have nf2 : fc_1 PRD (23, [24, 3], [0, 1, -1]) ws (vs ++ [Value.int x, Value.int y, Value.int u]) := by
    refine ⟨fun n hn => ?_, ?_⟩
    · have hn : n ∈ [24, 3] := hn
      rw [List.length_append, hl]
      simp only [List.mem_cons, List.not_mem_nil, or_false] at hn
      show n < 22 + 3; omega
    · show 1 * v_iv (n_v (vs ++ [Value.int x, Value.int y, Value.int u]) 24) + ((-1) * v_iv (n_v (vs ++ [Value.int x, Value.int y, Value.int u]) 3) + 0) ≤ 0
      rw [e_3]
      rw [e_24]
      exact vc_Mo_across2_21_2 (v_iv (n_v vs 2)) (v_iv (n_v vs 3)) (v_iv (n_v vs 5)) (v_iv (n_v vs 7)) (v_iv (n_v vs 8)) (v_iv (n_v vs 9)) (v_iv (n_v vs 10)) (v_iv (n_v vs 11)) (v_iv (n_v vs 12)) (v_iv (n_v vs 13)) (v_iv (n_v vs 14)) (v_iv (n_v vs 15)) (v_iv (n_v vs 16)) (v_iv (n_v vs 17)) (v_iv (n_v vs 18)) (v_iv (n_v vs 19)) (v_iv (n_v vs 20)) (v_iv (n_v vs 21)) (w_ei ws (w_ar ws (n_v vs 0) 106)) (w_ei ws (w_ar ws (n_v vs 0) 105)) (w_ei ws (w_ar ws (n_v vs 0) 2)) (w_ei ws (w_ar ws (n_v vs 0) 95)) (w_ei ws (w_ar ws (n_v vs 0) 102)) (w_ei ws (w_ar ws (n_v vs 0) 104)) (w_ei ws (w_ar ws (n_v vs 0) 108)) (w_ei ws (w_ar ws (n_v vs 0) 109)) (w_fi ws (n_v vs 0) 5) (w_fi ws (n_v vs 0) 100) (w_fi ws (n_v vs 0) 101) (w_fi ws (n_v vs 0) 107) (w_fi ws (n_v vs 0) 79) (w_ei ws (w_ar ws (n_v vs 0) 83)) (w_ei ws (w_ar ws (n_v vs 0) 84)) (w_ei ws (w_ar ws (n_v vs 0) 85)) (w_ei ws (w_ar ws (n_v vs 0) 86)) (w_fi ws (n_v vs 0) 80) (w_ei ws (w_ar ws (n_v vs 0) 87)) (w_ei ws (w_ar ws (n_v vs 0) 88)) (w_ei ws (w_ar ws (n_v vs 0) 89)) (w_fi ws (n_v vs 0) 81) (v_iv (Value.int x)) (v_iv (Value.int y)) (v_iv (Value.int u)) k2 k3 k5 k7 k8 k9 k10 k11 k12 k13 k14 k15 k16 k17 k18 k19 k20 k21 d0 d1 d2 d3 d4 d5 d6 d7 d8 d9 d10 d11 d12 d13 d14 d15 f0 f1 f2 f3 h4 f5 f6 h8 f9 f10 f11 f12 h13 f15 f16 f17 f18 f19 f20 f21 f22 f23 f24 hK_0_83 hK_0_84 hK_0_85 hK_0_86 hK_0_87 hK_0_88 hK_0_89 hK_0_95 hK_0_102 hK_0_104 hK_0_105 hK_0_106 hK_0_108 hK_0_109 kz_0_79 kz_0_80 kz_0_81 kz_0_100 kz_0_101 kz_0_107 ex2 ex3 ey2 ey3 eu2 eu3
  have nf3 : fc_1 PRD (23, [24, 3], [0, -1, 1]) ws (vs ++ [Value.int x, Value.int y, Value.int u]) := by
    refine ⟨fun n hn => ?_, ?_⟩
    · have hn : n ∈ [24, 3] := hn
      rw [List.length_append, hl]
      simp only [List.mem_cons, List.not_mem_nil, or_false] at hn
      show n < 22 + 3; omega
    · show (-1) * v_iv (n_v (vs ++ [Value.int x, Value.int y, Value.int u]) 24) + (1 * v_iv (n_v (vs ++ [Value.int x, Value.int y, Value.int u]) 3) + 0) ≤ 0
      rw [e_3]
      rw [e_24]
      exact vc_Mo_across2_21_3 (v_iv (n_v vs 2)) (v_iv (n_v vs 3)) (v_iv (n_v vs 5)) (v_iv (n_v vs 7)) (v_iv (n_v vs 8)) (v_iv (n_v vs 9)) (v_iv (n_v vs 10)) (v_iv (n_v vs 11)) (v_iv (n_v vs 12)) (v_iv (n_v vs 13)) (v_iv (n_v vs 14)) (v_iv (n_v vs 15)) (v_iv (n_v vs 16)) (v_iv (n_v vs 17)) (v_iv (n_v vs 18)) (v_iv (n_v vs 19)) (v_iv (n_v vs 20)) (v_iv (n_v vs 21)) (w_ei ws (w_ar ws (n_v vs 0) 106)) (w_ei ws (w_ar ws (n_v vs 0) 105)) (w_ei ws (w_ar ws (n_v vs 0) 2)) (w_ei ws (w_ar ws (n_v vs 0) 95)) (w_ei ws (w_ar ws (n_v vs 0) 102)) (w_ei ws (w_ar ws (n_v vs 0) 104)) (w_ei ws (w_ar ws (n_v vs 0) 108)) (w_ei ws (w_ar ws (n_v vs 0) 109)) (w_fi ws (n_v vs 0) 5) (w_fi ws (n_v vs 0) 100) (w_fi ws (n_v vs 0) 101) (w_fi ws (n_v vs 0) 107) (w_fi ws (n_v vs 0) 79) (w_ei ws (w_ar ws (n_v vs 0) 83)) (w_ei ws (w_ar ws (n_v vs 0) 84)) (w_ei ws (w_ar ws (n_v vs 0) 85)) (w_ei ws (w_ar ws (n_v vs 0) 86)) (w_fi ws (n_v vs 0) 80) (w_ei ws (w_ar ws (n_v vs 0) 87)) (w_ei ws (w_ar ws (n_v vs 0) 88)) (w_ei ws (w_ar ws (n_v vs 0) 89)) (w_fi ws (n_v vs 0) 81) (v_iv (Value.int x)) (v_iv (Value.int y)) (v_iv (Value.int u)) k2 k3 k5 k7 k8 k9 k10 k11 k12 k13 k14 k15 k16 k17 k18 k19 k20 k21 d0 d1 d2 d3 d4 d5 d6 d7 d8 d9 d10 d11 d12 d13 d14 d15 f0 f1 f2 f3 h4 f5 f6 h8 f9 f10 f11 f12 h13 f15 f16 f17 f18 f19 f20 f21 f22 f23 f24 hK_0_83 hK_0_84 hK_0_85 hK_0_86 hK_0_87 hK_0_88 hK_0_89 hK_0_95 hK_0_102 hK_0_104 hK_0_105 hK_0_106 hK_0_108 hK_0_109 kz_0_79 kz_0_80 kz_0_81 kz_0_100 kz_0_101 kz_0_107 ex2 ex3 ey2 ey3 eu2 eu3
  have nf4 : fc_1 PRD (20, [1, 22], [50, 1, 0, 81, 1, 3, 2, 0, 81, 1, 1]) ws (vs ++ [Value.int x, Value.int y, Value.int u]) := by
    refine ⟨fun n hn => ?_, ?_⟩
    · have hn : n ∈ [1, 22] := hn
      rw [List.length_append, hl]
      simp only [List.mem_cons, List.not_mem_nil, or_false] at hn
      show n < 22 + 3; omega
    · show w_fi ws (n_v (vs ++ [Value.int x, Value.int y, Value.int u]) 1) 81 = v_iv (n_v (vs ++ [Value.int x, Value.int y, Value.int u]) 22)
      rw [e_1]
      rw [e_22]
      rw [q1]
      exact vc_Mo_across2_21_4 (v_iv (n_v vs 2)) (v_iv (n_v vs 3)) (v_iv (n_v vs 5)) (v_iv (n_v vs 7)) (v_iv (n_v vs 8)) (v_iv (n_v vs 9)) (v_iv (n_v vs 10)) (v_iv (n_v vs 11)) (v_iv (n_v vs 12)) (v_iv (n_v vs 13)) (v_iv (n_v vs 14)) (v_iv (n_v vs 15)) (v_iv (n_v vs 16)) (v_iv (n_v vs 17)) (v_iv (n_v vs 18)) (v_iv (n_v vs 19)) (v_iv (n_v vs 20)) (v_iv (n_v vs 21)) (w_ei ws (w_ar ws (n_v vs 0) 106)) (w_ei ws (w_ar ws (n_v vs 0) 105)) (w_ei ws (w_ar ws (n_v vs 0) 2)) (w_ei ws (w_ar ws (n_v vs 0) 95)) (w_ei ws (w_ar ws (n_v vs 0) 102)) (w_ei ws (w_ar ws (n_v vs 0) 104)) (w_ei ws (w_ar ws (n_v vs 0) 108)) (w_ei ws (w_ar ws (n_v vs 0) 109)) (w_fi ws (n_v vs 0) 5) (w_fi ws (n_v vs 0) 100) (w_fi ws (n_v vs 0) 101) (w_fi ws (n_v vs 0) 107) (w_fi ws (n_v vs 0) 79) (w_ei ws (w_ar ws (n_v vs 0) 83)) (w_ei ws (w_ar ws (n_v vs 0) 84)) (w_ei ws (w_ar ws (n_v vs 0) 85)) (w_ei ws (w_ar ws (n_v vs 0) 86)) (w_fi ws (n_v vs 0) 80) (w_ei ws (w_ar ws (n_v vs 0) 87)) (w_ei ws (w_ar ws (n_v vs 0) 88)) (w_ei ws (w_ar ws (n_v vs 0) 89)) (w_fi ws (n_v vs 0) 81) (v_iv (Value.int x)) (v_iv (Value.int y)) (v_iv (Value.int u)) k2 k3 k5 k7 k8 k9 k10 k11 k12 k13 k14 k15 k16 k17 k18 k19 k20 k21 d0 d1 d2 d3 d4 d5 d6 d7 d8 d9 d10 d11 d12 d13 d14 d15 f0 f1 f2 f3 h4 f5 f6 h8 f9 f10 f11 f12 h13 f15 f16 f17 f18 f19 f20 f21 f22 f23 f24 hK_0_83 hK_0_84 hK_0_85 hK_0_86 hK_0_87 hK_0_88 hK_0_89 hK_0_95 hK_0_102 hK_0_104 hK_0_105 hK_0_106 hK_0_108 hK_0_109 kz_0_79 kz_0_80 kz_0_81 kz_0_100 kz_0_101 kz_0_107 ex2 ex3 ey2 ey3 eu2 eu3
  have nf5 : fc_1 PRD (20, [1, 23, 24], [60, 2, 5, 393, 81, 101, 105, 106, 87, 88, 89]) ws (vs ++ [Value.int x, Value.int y, Value.int u]) := by
    refine ⟨fun n hn => ?_, ?_⟩
    · have hn : n ∈ [1, 23, 24] := hn
      rw [List.length_append, hl]
      simp only [List.mem_cons, List.not_mem_nil, or_false] at hn
      show n < 22 + 3; omega
    · show PAL2 (w_fi ws (n_v (vs ++ [Value.int x, Value.int y, Value.int u]) 1) 81) (w_fi ws (n_v (vs ++ [Value.int x, Value.int y, Value.int u]) 1) 101) (w_ei ws (w_ar ws (n_v (vs ++ [Value.int x, Value.int y, Value.int u]) 1) 105)) (w_ei ws (w_ar ws (n_v (vs ++ [Value.int x, Value.int y, Value.int u]) 1) 106)) (w_ei ws (w_ar ws (n_v (vs ++ [Value.int x, Value.int y, Value.int u]) 1) 87)) (w_ei ws (w_ar ws (n_v (vs ++ [Value.int x, Value.int y, Value.int u]) 1) 88)) (w_ei ws (w_ar ws (n_v (vs ++ [Value.int x, Value.int y, Value.int u]) 1) 89)) (v_iv (n_v (vs ++ [Value.int x, Value.int y, Value.int u]) 23)) (v_iv (n_v (vs ++ [Value.int x, Value.int y, Value.int u]) 24))
      rw [e_1]
      rw [e_23]
      rw [e_24]
      rw [q1]
      exact vc_Mo_across2_21_5 (v_iv (n_v vs 2)) (v_iv (n_v vs 3)) (v_iv (n_v vs 5)) (v_iv (n_v vs 7)) (v_iv (n_v vs 8)) (v_iv (n_v vs 9)) (v_iv (n_v vs 10)) (v_iv (n_v vs 11)) (v_iv (n_v vs 12)) (v_iv (n_v vs 13)) (v_iv (n_v vs 14)) (v_iv (n_v vs 15)) (v_iv (n_v vs 16)) (v_iv (n_v vs 17)) (v_iv (n_v vs 18)) (v_iv (n_v vs 19)) (v_iv (n_v vs 20)) (v_iv (n_v vs 21)) (w_ei ws (w_ar ws (n_v vs 0) 106)) (w_ei ws (w_ar ws (n_v vs 0) 105)) (w_ei ws (w_ar ws (n_v vs 0) 2)) (w_ei ws (w_ar ws (n_v vs 0) 95)) (w_ei ws (w_ar ws (n_v vs 0) 102)) (w_ei ws (w_ar ws (n_v vs 0) 104)) (w_ei ws (w_ar ws (n_v vs 0) 108)) (w_ei ws (w_ar ws (n_v vs 0) 109)) (w_fi ws (n_v vs 0) 5) (w_fi ws (n_v vs 0) 100) (w_fi ws (n_v vs 0) 101) (w_fi ws (n_v vs 0) 107) (w_fi ws (n_v vs 0) 79) (w_ei ws (w_ar ws (n_v vs 0) 83)) (w_ei ws (w_ar ws (n_v vs 0) 84)) (w_ei ws (w_ar ws (n_v vs 0) 85)) (w_ei ws (w_ar ws (n_v vs 0) 86)) (w_fi ws (n_v vs 0) 80) (w_ei ws (w_ar ws (n_v vs 0) 87)) (w_ei ws (w_ar ws (n_v vs 0) 88)) (w_ei ws (w_ar ws (n_v vs 0) 89)) (w_fi ws (n_v vs 0) 81) (v_iv (Value.int x)) (v_iv (Value.int y)) (v_iv (Value.int u)) k2 k3 k5 k7 k8 k9 k10 k11 k12 k13 k14 k15 k16 k17 k18 k19 k20 k21 d0 d1 d2 d3 d4 d5 d6 d7 d8 d9 d10 d11 d12 d13 d14 d15 f0 f1 f2 f3 h4 f5 f6 h8 f9 f10 f11 f12 h13 f15 f16 f17 f18 f19 f20 f21 f22 f23 f24 hK_0_83 hK_0_84 hK_0_85 hK_0_86 hK_0_87 hK_0_88 hK_0_89 hK_0_95 hK_0_102 hK_0_104 hK_0_105 hK_0_106 hK_0_108 hK_0_109 kz_0_79 kz_0_80 kz_0_81 kz_0_100 kz_0_101 kz_0_107 ex2 ex3 ey2 ey3 eu2 eu3
  have nf6 : fc_1 PRD (20, [1, 23, 24, 12, 16], [60, 1, 2, 390, 101, 105, 106]) ws (vs ++ [Value.int x, Value.int y, Value.int u]) := by
    refine ⟨fun n hn => ?_, ?_⟩
    · have hn : n ∈ [1, 23, 24, 12, 16] := hn
      rw [List.length_append, hl]
      simp only [List.mem_cons, List.not_mem_nil, or_false] at hn
      show n < 22 + 3; omega
    · show PAN (w_fi ws (n_v (vs ++ [Value.int x, Value.int y, Value.int u]) 1) 101) (w_ei ws (w_ar ws (n_v (vs ++ [Value.int x, Value.int y, Value.int u]) 1) 105)) (w_ei ws (w_ar ws (n_v (vs ++ [Value.int x, Value.int y, Value.int u]) 1) 106)) (v_iv (n_v (vs ++ [Value.int x, Value.int y, Value.int u]) 23)) (v_iv (n_v (vs ++ [Value.int x, Value.int y, Value.int u]) 24)) (v_iv (n_v (vs ++ [Value.int x, Value.int y, Value.int u]) 12)) (v_iv (n_v (vs ++ [Value.int x, Value.int y, Value.int u]) 16))
      rw [e_1]
      rw [e_12]
      rw [e_16]
      rw [e_23]
      rw [e_24]
      rw [q1]
      exact vc_Mo_across2_21_6 (v_iv (n_v vs 2)) (v_iv (n_v vs 3)) (v_iv (n_v vs 5)) (v_iv (n_v vs 7)) (v_iv (n_v vs 8)) (v_iv (n_v vs 9)) (v_iv (n_v vs 10)) (v_iv (n_v vs 11)) (v_iv (n_v vs 12)) (v_iv (n_v vs 13)) (v_iv (n_v vs 14)) (v_iv (n_v vs 15)) (v_iv (n_v vs 16)) (v_iv (n_v vs 17)) (v_iv (n_v vs 18)) (v_iv (n_v vs 19)) (v_iv (n_v vs 20)) (v_iv (n_v vs 21)) (w_ei ws (w_ar ws (n_v vs 0) 106)) (w_ei ws (w_ar ws (n_v vs 0) 105)) (w_ei ws (w_ar ws (n_v vs 0) 2)) (w_ei ws (w_ar ws (n_v vs 0) 95)) (w_ei ws (w_ar ws (n_v vs 0) 102)) (w_ei ws (w_ar ws (n_v vs 0) 104)) (w_ei ws (w_ar ws (n_v vs 0) 108)) (w_ei ws (w_ar ws (n_v vs 0) 109)) (w_fi ws (n_v vs 0) 5) (w_fi ws (n_v vs 0) 100) (w_fi ws (n_v vs 0) 101) (w_fi ws (n_v vs 0) 107) (w_fi ws (n_v vs 0) 79) (w_ei ws (w_ar ws (n_v vs 0) 83)) (w_ei ws (w_ar ws (n_v vs 0) 84)) (w_ei ws (w_ar ws (n_v vs 0) 85)) (w_ei ws (w_ar ws (n_v vs 0) 86)) (w_fi ws (n_v vs 0) 80) (w_ei ws (w_ar ws (n_v vs 0) 87)) (w_ei ws (w_ar ws (n_v vs 0) 88)) (w_ei ws (w_ar ws (n_v vs 0) 89)) (w_fi ws (n_v vs 0) 81) (v_iv (Value.int x)) (v_iv (Value.int y)) (v_iv (Value.int u)) k2 k3 k5 k7 k8 k9 k10 k11 k12 k13 k14 k15 k16 k17 k18 k19 k20 k21 d0 d1 d2 d3 d4 d5 d6 d7 d8 d9 d10 d11 d12 d13 d14 d15 f0 f1 f2 f3 h4 f5 f6 h8 f9 f10 f11 f12 h13 f15 f16 f17 f18 f19 f20 f21 f22 f23 f24 hK_0_83 hK_0_84 hK_0_85 hK_0_86 hK_0_87 hK_0_88 hK_0_89 hK_0_95 hK_0_102 hK_0_104 hK_0_105 hK_0_106 hK_0_108 hK_0_109 kz_0_79 kz_0_80 kz_0_81 kz_0_100 kz_0_101 kz_0_107 ex2 ex3 ey2 ey3 eu2 eu3
  have nf7 : fc_1 PRD (20, [21], [50, 0, 0, 2, 6, 0, 2, 0, 2, 1, 0, 0, 2, 1, 0, 0, 202]) ws (vs ++ [Value.int x, Value.int y, Value.int u]) := by
    refine ⟨fun n hn => ?_, ?_⟩
    · have hn : n ∈ [21] := hn
      rw [List.length_append, hl]
      simp only [List.mem_cons, List.not_mem_nil, or_false] at hn
      show n < 22 + 3; omega
    · show (2 ≤ v_iv (n_v (vs ++ [Value.int x, Value.int y, Value.int u]) 21)) ∧ (v_iv (n_v (vs ++ [Value.int x, Value.int y, Value.int u]) 21) ≤ 202)
      rw [e_21]
      exact vc_Mo_across2_21_7 (v_iv (n_v vs 2)) (v_iv (n_v vs 3)) (v_iv (n_v vs 5)) (v_iv (n_v vs 7)) (v_iv (n_v vs 8)) (v_iv (n_v vs 9)) (v_iv (n_v vs 10)) (v_iv (n_v vs 11)) (v_iv (n_v vs 12)) (v_iv (n_v vs 13)) (v_iv (n_v vs 14)) (v_iv (n_v vs 15)) (v_iv (n_v vs 16)) (v_iv (n_v vs 17)) (v_iv (n_v vs 18)) (v_iv (n_v vs 19)) (v_iv (n_v vs 20)) (v_iv (n_v vs 21)) (w_ei ws (w_ar ws (n_v vs 0) 106)) (w_ei ws (w_ar ws (n_v vs 0) 105)) (w_ei ws (w_ar ws (n_v vs 0) 2)) (w_ei ws (w_ar ws (n_v vs 0) 95)) (w_ei ws (w_ar ws (n_v vs 0) 102)) (w_ei ws (w_ar ws (n_v vs 0) 104)) (w_ei ws (w_ar ws (n_v vs 0) 108)) (w_ei ws (w_ar ws (n_v vs 0) 109)) (w_fi ws (n_v vs 0) 5) (w_fi ws (n_v vs 0) 100) (w_fi ws (n_v vs 0) 101) (w_fi ws (n_v vs 0) 107) (w_fi ws (n_v vs 0) 79) (w_ei ws (w_ar ws (n_v vs 0) 83)) (w_ei ws (w_ar ws (n_v vs 0) 84)) (w_ei ws (w_ar ws (n_v vs 0) 85)) (w_ei ws (w_ar ws (n_v vs 0) 86)) (w_fi ws (n_v vs 0) 80) (w_ei ws (w_ar ws (n_v vs 0) 87)) (w_ei ws (w_ar ws (n_v vs 0) 88)) (w_ei ws (w_ar ws (n_v vs 0) 89)) (w_fi ws (n_v vs 0) 81) (v_iv (Value.int x)) (v_iv (Value.int y)) (v_iv (Value.int u)) k2 k3 k5 k7 k8 k9 k10 k11 k12 k13 k14 k15 k16 k17 k18 k19 k20 k21 d0 d1 d2 d3 d4 d5 d6 d7 d8 d9 d10 d11 d12 d13 d14 d15 f0 f1 f2 f3 h4 f5 f6 h8 f9 f10 f11 f12 h13 f15 f16 f17 f18 f19 f20 f21 f22 f23 f24 hK_0_83 hK_0_84 hK_0_85 hK_0_86 hK_0_87 hK_0_88 hK_0_89 hK_0_95 hK_0_102 hK_0_104 hK_0_105 hK_0_106 hK_0_108 hK_0_109 kz_0_79 kz_0_80 kz_0_81 kz_0_100 kz_0_101 kz_0_107 ex2 ex3 ey2 ey3 eu2 eu3
  exact ⟨(fun _ h => (by cases h)), [Value.int x, Value.int y, Value.int u], ag_three hx hy hu, List.forall_mem_cons.mpr ⟨⟨show (23 : Nat) < 100 from by decide, nf0⟩, List.forall_mem_cons.mpr ⟨⟨show (23 : Nat) < 100 from by decide, nf1⟩, List.forall_mem_cons.mpr ⟨⟨show (23 : Nat) < 100 from by decide, nf2⟩, List.forall_mem_cons.mpr ⟨⟨show (23 : Nat) < 100 from by decide, nf3⟩, List.forall_mem_cons.mpr ⟨⟨show (20 : Nat) < 100 from by decide, nf4⟩, List.forall_mem_cons.mpr ⟨⟨show (20 : Nat) < 100 from by decide, nf5⟩, List.forall_mem_cons.mpr ⟨⟨show (20 : Nat) < 100 from by decide, nf6⟩, List.forall_mem_cons.mpr ⟨⟨show (20 : Nat) < 100 from by decide, nf7⟩, (fun _ h => (by cases h))⟩⟩⟩⟩⟩⟩⟩⟩, (fun _ h => (by cases h))⟩
set_option maxHeartbeats 4000000 in
theorem vc_Mo_across2_22_0 (x2 : Int) (x3 : Int) (x5 : Int) (x12 : Int) (x16 : Int) (x17 : Int) (x18 : Int) (x19 : Int) (x20 : Int) (x21 : Int) (x22 : Int) (x23 : Int) (x24 : Int) (x25 : Int) (layerSize_0 : Int → Int) (layerItem_0 : Int → Int) (layerMany_0 : Int) (all_0 : Int → Int) (turned_0 : Int → Int) (itemLayer_0 : Int → Int) (firstJoint_0 : Int → Int) (lineA_0 : Int → Int) (lineB_0 : Int → Int) (r_0 : Int) (items_0 : Int) (lines_0 : Int) (pointMany_0 : Int) (costA_0 : Int → Int) (costB_0 : Int → Int) (costW_0 : Int → Int) (costPlain_0 : Int → Int) (costMany_0 : Int) (apartMany_0 : Int) (apartA_0 : Int → Int) (apartB_0 : Int → Int) (apart_0 : Int → Int) (k2 : 0 ≤ x2 ∧ x2 ≤ 75) (k3 : 1 ≤ x3 ∧ x3 ≤ 75) (k5 : 2 ≤ x5 ∧ x5 ≤ 76) (k12 : 0 ≤ x12 ∧ x12 ≤ 23) (k16 : 0 ≤ x16 ∧ x16 ≤ 23) (k17 : 1 ≤ x17 ∧ x17 ≤ 9) (k18 : 1 ≤ x18 ∧ x18 ≤ 9) (k19 : 2 ≤ x19 ∧ x19 ≤ 18) (k20 : 2 ≤ x20 ∧ x20 ≤ 2) (k21 : 4 ≤ x21 ∧ x21 ≤ 20) (k22 : 0 ≤ x22 ∧ x22 ≤ 199) (k23 : 0 ≤ x23 ∧ x23 ≤ 75) (k24 : 1 ≤ x24 ∧ x24 ≤ 75) (k25 : 2 ≤ x25 ∧ x25 ≤ 76) (d0 : x3 + 1 ≤ x25 ∧ x25 ≤ x3 + 1) (d1 : x5 + (-4294967296) ≤ x25 ∧ x25 ≤ x5 + 0) (d2 : x19 + 2 ≤ x21 ∧ x21 ≤ x19 + 2) (d3 : x18 + 3 ≤ x21 ∧ x21 ≤ x18 + 11) (d4 : x17 + 3 ≤ x21 ∧ x21 ≤ x17 + 11) (d5 : x18 + 1 ≤ x19 ∧ x19 ≤ x18 + 9) (d6 : x17 + 1 ≤ x19 ∧ x19 ≤ x17 + 9) (d7 : x5 + (-4294967296) ≤ x3 ∧ x3 ≤ x5 + (-1)) (f0 : x25 = x3 + 1) (f1 : 1 * x23 + ((-1) * x2 + 0) ≤ 0) (f2 : (-1) * x23 + (1 * x2 + 0) ≤ 0) (f3 : 1 * x24 + ((-1) * x3 + 0) ≤ 0) (f4 : (-1) * x24 + (1 * x3 + 0) ≤ 0) (f5 : PAN (layerMany_0) (layerSize_0) (layerItem_0) (x23) (x24) (x12) (x16)) (f6 : (2 ≤ x21) ∧ (x21 ≤ 202)) (f7 : (0 ≤ x18) ∧ (x18 ≤ 100)) (f8 : (0 ≤ x17) ∧ (x17 ≤ 100)) (f9 : LSA (r_0) (items_0) (layerMany_0) (lines_0) (all_0) (turned_0) (itemLayer_0) (firstJoint_0) (lineA_0) (lineB_0)) (f10 : LSB (items_0) (layerMany_0) (itemLayer_0) (layerSize_0) (layerItem_0)) (f11 : SGR (r_0) (all_0)) (f12 : pointMany_0 = items_0) (f13 : PCQ (pointMany_0) (costMany_0) (costA_0) (costB_0) (costW_0) (costPlain_0)) (f14 : costMany_0 ≤ 130) (f15 : (x2 + 1) ≤ layerMany_0) (f16 : 1 ≤ x3) (f18 : apartMany_0 = (x22 + 1)) (f19 : PAP (apartMany_0) (layerMany_0) (layerSize_0) (layerItem_0) (apartA_0) (apartB_0) (apart_0) (x23) (x24)) (f21 : 1 * x23 + ((-1) * x2 + 0) ≤ 0) (f22 : (-1) * x23 + (1 * x2 + 0) ≤ 0) (f23 : 1 * x24 + ((-1) * x3 + 0) ≤ 0) (f24 : (-1) * x24 + (1 * x3 + 0) ≤ 0) (f25 : x21 = x19 + x20) (f26 : x19 = x17 + x18) (f27 : x3 < x5) (hK_0_83 : ∀ j : Int, 0 ≤ j → j < 200 → 0 ≤ costA_0 j ∧ costA_0 j ≤ 75) (hK_0_84 : ∀ j : Int, 0 ≤ j → j < 200 → 0 ≤ costB_0 j ∧ costB_0 j ≤ 75) (hK_0_85 : ∀ j : Int, 0 ≤ j → j < 200 → 0 ≤ costW_0 j ∧ costW_0 j ≤ 72) (hK_0_86 : ∀ j : Int, 0 ≤ j → j < 200 → 0 ≤ costPlain_0 j ∧ costPlain_0 j ≤ 1) (hK_0_87 : ∀ j : Int, 0 ≤ j → j < 200 → 0 ≤ apartA_0 j ∧ apartA_0 j ≤ 75) (hK_0_88 : ∀ j : Int, 0 ≤ j → j < 200 → 0 ≤ apartB_0 j ∧ apartB_0 j ≤ 75) (hK_0_89 : ∀ j : Int, 0 ≤ j → j < 200 → 0 ≤ apart_0 j ∧ apart_0 j ≤ 202) (hK_0_95 : ∀ j : Int, 0 ≤ j → j < 48 → 0 ≤ turned_0 j ∧ turned_0 j ≤ 1) (hK_0_102 : ∀ j : Int, 0 ≤ j → j < 76 → 0 ≤ itemLayer_0 j ∧ itemLayer_0 j ≤ 75) (hK_0_104 : ∀ j : Int, 0 ≤ j → j < 48 → 0 ≤ firstJoint_0 j ∧ firstJoint_0 j ≤ 76) (hK_0_105 : ∀ j : Int, 0 ≤ j → j < 76 → 0 ≤ layerSize_0 j ∧ layerSize_0 j ≤ 76) (hK_0_106 : ∀ j : Int, 0 ≤ j → j < 5776 → 0 ≤ layerItem_0 j ∧ layerItem_0 j ≤ 75) (hK_0_108 : ∀ j : Int, 0 ≤ j → j < 130 → 0 ≤ lineA_0 j ∧ lineA_0 j ≤ 75) (hK_0_109 : ∀ j : Int, 0 ≤ j → j < 130 → 0 ≤ lineB_0 j ∧ lineB_0 j ≤ 75) (kz_0_79 : 0 ≤ pointMany_0 ∧ pointMany_0 ≤ 76) (kz_0_80 : 0 ≤ costMany_0 ∧ costMany_0 ≤ 200) (kz_0_81 : 0 ≤ apartMany_0 ∧ apartMany_0 ≤ 200) (kz_0_100 : 0 ≤ items_0 ∧ items_0 ≤ 76) (kz_0_101 : 0 ≤ layerMany_0 ∧ layerMany_0 ≤ 76) (kz_0_107 : 0 ≤ lines_0 ∧ lines_0 ≤ 130) : PAL2 (apartMany_0) (layerMany_0) (layerSize_0) (layerItem_0) (apartA_0) (apartB_0) (apart_0) (x2) (x25) := by
  first
    | exact paq_less ‹PAL1 _ _ _ _ _ _ _ _› (by omega)
    | (have h := ‹PAP _ _ _ _ _ _ _ _ _›
       exact paq_less h (by omega))
set_option maxHeartbeats 4000000 in
theorem vc_Mo_across2_22_1 (x2 : Int) (x3 : Int) (x5 : Int) (x12 : Int) (x16 : Int) (x17 : Int) (x18 : Int) (x19 : Int) (x20 : Int) (x21 : Int) (x22 : Int) (x23 : Int) (x24 : Int) (x25 : Int) (layerSize_0 : Int → Int) (layerItem_0 : Int → Int) (layerMany_0 : Int) (all_0 : Int → Int) (turned_0 : Int → Int) (itemLayer_0 : Int → Int) (firstJoint_0 : Int → Int) (lineA_0 : Int → Int) (lineB_0 : Int → Int) (r_0 : Int) (items_0 : Int) (lines_0 : Int) (pointMany_0 : Int) (costA_0 : Int → Int) (costB_0 : Int → Int) (costW_0 : Int → Int) (costPlain_0 : Int → Int) (costMany_0 : Int) (apartMany_0 : Int) (apartA_0 : Int → Int) (apartB_0 : Int → Int) (apart_0 : Int → Int) (k2 : 0 ≤ x2 ∧ x2 ≤ 75) (k3 : 1 ≤ x3 ∧ x3 ≤ 75) (k5 : 2 ≤ x5 ∧ x5 ≤ 76) (k12 : 0 ≤ x12 ∧ x12 ≤ 23) (k16 : 0 ≤ x16 ∧ x16 ≤ 23) (k17 : 1 ≤ x17 ∧ x17 ≤ 9) (k18 : 1 ≤ x18 ∧ x18 ≤ 9) (k19 : 2 ≤ x19 ∧ x19 ≤ 18) (k20 : 2 ≤ x20 ∧ x20 ≤ 2) (k21 : 4 ≤ x21 ∧ x21 ≤ 20) (k22 : 0 ≤ x22 ∧ x22 ≤ 199) (k23 : 0 ≤ x23 ∧ x23 ≤ 75) (k24 : 1 ≤ x24 ∧ x24 ≤ 75) (k25 : 2 ≤ x25 ∧ x25 ≤ 76) (d0 : x3 + 1 ≤ x25 ∧ x25 ≤ x3 + 1) (d1 : x5 + (-4294967296) ≤ x25 ∧ x25 ≤ x5 + 0) (d2 : x19 + 2 ≤ x21 ∧ x21 ≤ x19 + 2) (d3 : x18 + 3 ≤ x21 ∧ x21 ≤ x18 + 11) (d4 : x17 + 3 ≤ x21 ∧ x21 ≤ x17 + 11) (d5 : x18 + 1 ≤ x19 ∧ x19 ≤ x18 + 9) (d6 : x17 + 1 ≤ x19 ∧ x19 ≤ x17 + 9) (d7 : x5 + (-4294967296) ≤ x3 ∧ x3 ≤ x5 + (-1)) (f0 : x25 = x3 + 1) (f1 : 1 * x23 + ((-1) * x2 + 0) ≤ 0) (f2 : (-1) * x23 + (1 * x2 + 0) ≤ 0) (f3 : 1 * x24 + ((-1) * x3 + 0) ≤ 0) (f4 : (-1) * x24 + (1 * x3 + 0) ≤ 0) (f5 : PAN (layerMany_0) (layerSize_0) (layerItem_0) (x23) (x24) (x12) (x16)) (f6 : (2 ≤ x21) ∧ (x21 ≤ 202)) (f7 : (0 ≤ x18) ∧ (x18 ≤ 100)) (f8 : (0 ≤ x17) ∧ (x17 ≤ 100)) (f9 : LSA (r_0) (items_0) (layerMany_0) (lines_0) (all_0) (turned_0) (itemLayer_0) (firstJoint_0) (lineA_0) (lineB_0)) (f10 : LSB (items_0) (layerMany_0) (itemLayer_0) (layerSize_0) (layerItem_0)) (f11 : SGR (r_0) (all_0)) (f12 : pointMany_0 = items_0) (f13 : PCQ (pointMany_0) (costMany_0) (costA_0) (costB_0) (costW_0) (costPlain_0)) (f14 : costMany_0 ≤ 130) (f15 : (x2 + 1) ≤ layerMany_0) (f16 : 1 ≤ x3) (f18 : apartMany_0 = (x22 + 1)) (f19 : PAP (apartMany_0) (layerMany_0) (layerSize_0) (layerItem_0) (apartA_0) (apartB_0) (apart_0) (x23) (x24)) (f21 : 1 * x23 + ((-1) * x2 + 0) ≤ 0) (f22 : (-1) * x23 + (1 * x2 + 0) ≤ 0) (f23 : 1 * x24 + ((-1) * x3 + 0) ≤ 0) (f24 : (-1) * x24 + (1 * x3 + 0) ≤ 0) (f25 : x21 = x19 + x20) (f26 : x19 = x17 + x18) (f27 : x3 < x5) (hK_0_83 : ∀ j : Int, 0 ≤ j → j < 200 → 0 ≤ costA_0 j ∧ costA_0 j ≤ 75) (hK_0_84 : ∀ j : Int, 0 ≤ j → j < 200 → 0 ≤ costB_0 j ∧ costB_0 j ≤ 75) (hK_0_85 : ∀ j : Int, 0 ≤ j → j < 200 → 0 ≤ costW_0 j ∧ costW_0 j ≤ 72) (hK_0_86 : ∀ j : Int, 0 ≤ j → j < 200 → 0 ≤ costPlain_0 j ∧ costPlain_0 j ≤ 1) (hK_0_87 : ∀ j : Int, 0 ≤ j → j < 200 → 0 ≤ apartA_0 j ∧ apartA_0 j ≤ 75) (hK_0_88 : ∀ j : Int, 0 ≤ j → j < 200 → 0 ≤ apartB_0 j ∧ apartB_0 j ≤ 75) (hK_0_89 : ∀ j : Int, 0 ≤ j → j < 200 → 0 ≤ apart_0 j ∧ apart_0 j ≤ 202) (hK_0_95 : ∀ j : Int, 0 ≤ j → j < 48 → 0 ≤ turned_0 j ∧ turned_0 j ≤ 1) (hK_0_102 : ∀ j : Int, 0 ≤ j → j < 76 → 0 ≤ itemLayer_0 j ∧ itemLayer_0 j ≤ 75) (hK_0_104 : ∀ j : Int, 0 ≤ j → j < 48 → 0 ≤ firstJoint_0 j ∧ firstJoint_0 j ≤ 76) (hK_0_105 : ∀ j : Int, 0 ≤ j → j < 76 → 0 ≤ layerSize_0 j ∧ layerSize_0 j ≤ 76) (hK_0_106 : ∀ j : Int, 0 ≤ j → j < 5776 → 0 ≤ layerItem_0 j ∧ layerItem_0 j ≤ 75) (hK_0_108 : ∀ j : Int, 0 ≤ j → j < 130 → 0 ≤ lineA_0 j ∧ lineA_0 j ≤ 75) (hK_0_109 : ∀ j : Int, 0 ≤ j → j < 130 → 0 ≤ lineB_0 j ∧ lineB_0 j ≤ 75) (kz_0_79 : 0 ≤ pointMany_0 ∧ pointMany_0 ≤ 76) (kz_0_80 : 0 ≤ costMany_0 ∧ costMany_0 ≤ 200) (kz_0_81 : 0 ≤ apartMany_0 ∧ apartMany_0 ≤ 200) (kz_0_100 : 0 ≤ items_0 ∧ items_0 ≤ 76) (kz_0_101 : 0 ≤ layerMany_0 ∧ layerMany_0 ≤ 76) (kz_0_107 : 0 ≤ lines_0 ∧ lines_0 ≤ 130) : apartMany_0 ≤ 76 := by
  try simp only [Int.add_zero] at *
  first
    | omega
    | (have h := paq_am ‹LSB _ _ _ _ _› ‹PAP _ _ _ _ _ _ _ _ _› (by have h := ‹LSA _ _ _ _ _ _ _ _ _ _›.2.1; have n := ‹LSA _ _ _ _ _ _ _ _ _ _›.1.1.1.1; omega); have h2 := ‹LSB _ _ _ _ _›.1; omega)
set_option maxHeartbeats 4000000 in
theorem vc_Mo_across2_22_2 (x2 : Int) (x3 : Int) (x5 : Int) (x12 : Int) (x16 : Int) (x17 : Int) (x18 : Int) (x19 : Int) (x20 : Int) (x21 : Int) (x22 : Int) (x23 : Int) (x24 : Int) (x25 : Int) (layerSize_0 : Int → Int) (layerItem_0 : Int → Int) (layerMany_0 : Int) (all_0 : Int → Int) (turned_0 : Int → Int) (itemLayer_0 : Int → Int) (firstJoint_0 : Int → Int) (lineA_0 : Int → Int) (lineB_0 : Int → Int) (r_0 : Int) (items_0 : Int) (lines_0 : Int) (pointMany_0 : Int) (costA_0 : Int → Int) (costB_0 : Int → Int) (costW_0 : Int → Int) (costPlain_0 : Int → Int) (costMany_0 : Int) (apartMany_0 : Int) (apartA_0 : Int → Int) (apartB_0 : Int → Int) (apart_0 : Int → Int) (k2 : 0 ≤ x2 ∧ x2 ≤ 75) (k3 : 1 ≤ x3 ∧ x3 ≤ 75) (k5 : 2 ≤ x5 ∧ x5 ≤ 76) (k12 : 0 ≤ x12 ∧ x12 ≤ 23) (k16 : 0 ≤ x16 ∧ x16 ≤ 23) (k17 : 1 ≤ x17 ∧ x17 ≤ 9) (k18 : 1 ≤ x18 ∧ x18 ≤ 9) (k19 : 2 ≤ x19 ∧ x19 ≤ 18) (k20 : 2 ≤ x20 ∧ x20 ≤ 2) (k21 : 4 ≤ x21 ∧ x21 ≤ 20) (k22 : 0 ≤ x22 ∧ x22 ≤ 199) (k23 : 0 ≤ x23 ∧ x23 ≤ 75) (k24 : 1 ≤ x24 ∧ x24 ≤ 75) (k25 : 2 ≤ x25 ∧ x25 ≤ 76) (d0 : x3 + 1 ≤ x25 ∧ x25 ≤ x3 + 1) (d1 : x5 + (-4294967296) ≤ x25 ∧ x25 ≤ x5 + 0) (d2 : x19 + 2 ≤ x21 ∧ x21 ≤ x19 + 2) (d3 : x18 + 3 ≤ x21 ∧ x21 ≤ x18 + 11) (d4 : x17 + 3 ≤ x21 ∧ x21 ≤ x17 + 11) (d5 : x18 + 1 ≤ x19 ∧ x19 ≤ x18 + 9) (d6 : x17 + 1 ≤ x19 ∧ x19 ≤ x17 + 9) (d7 : x5 + (-4294967296) ≤ x3 ∧ x3 ≤ x5 + (-1)) (f0 : x25 = x3 + 1) (f1 : 1 * x23 + ((-1) * x2 + 0) ≤ 0) (f2 : (-1) * x23 + (1 * x2 + 0) ≤ 0) (f3 : 1 * x24 + ((-1) * x3 + 0) ≤ 0) (f4 : (-1) * x24 + (1 * x3 + 0) ≤ 0) (f5 : PAN (layerMany_0) (layerSize_0) (layerItem_0) (x23) (x24) (x12) (x16)) (f6 : (2 ≤ x21) ∧ (x21 ≤ 202)) (f7 : (0 ≤ x18) ∧ (x18 ≤ 100)) (f8 : (0 ≤ x17) ∧ (x17 ≤ 100)) (f9 : LSA (r_0) (items_0) (layerMany_0) (lines_0) (all_0) (turned_0) (itemLayer_0) (firstJoint_0) (lineA_0) (lineB_0)) (f10 : LSB (items_0) (layerMany_0) (itemLayer_0) (layerSize_0) (layerItem_0)) (f11 : SGR (r_0) (all_0)) (f12 : pointMany_0 = items_0) (f13 : PCQ (pointMany_0) (costMany_0) (costA_0) (costB_0) (costW_0) (costPlain_0)) (f14 : costMany_0 ≤ 130) (f15 : (x2 + 1) ≤ layerMany_0) (f16 : 1 ≤ x3) (f18 : apartMany_0 = (x22 + 1)) (f19 : PAP (apartMany_0) (layerMany_0) (layerSize_0) (layerItem_0) (apartA_0) (apartB_0) (apart_0) (x23) (x24)) (f21 : 1 * x23 + ((-1) * x2 + 0) ≤ 0) (f22 : (-1) * x23 + (1 * x2 + 0) ≤ 0) (f23 : 1 * x24 + ((-1) * x3 + 0) ≤ 0) (f24 : (-1) * x24 + (1 * x3 + 0) ≤ 0) (f25 : x21 = x19 + x20) (f26 : x19 = x17 + x18) (f27 : x3 < x5) (hK_0_83 : ∀ j : Int, 0 ≤ j → j < 200 → 0 ≤ costA_0 j ∧ costA_0 j ≤ 75) (hK_0_84 : ∀ j : Int, 0 ≤ j → j < 200 → 0 ≤ costB_0 j ∧ costB_0 j ≤ 75) (hK_0_85 : ∀ j : Int, 0 ≤ j → j < 200 → 0 ≤ costW_0 j ∧ costW_0 j ≤ 72) (hK_0_86 : ∀ j : Int, 0 ≤ j → j < 200 → 0 ≤ costPlain_0 j ∧ costPlain_0 j ≤ 1) (hK_0_87 : ∀ j : Int, 0 ≤ j → j < 200 → 0 ≤ apartA_0 j ∧ apartA_0 j ≤ 75) (hK_0_88 : ∀ j : Int, 0 ≤ j → j < 200 → 0 ≤ apartB_0 j ∧ apartB_0 j ≤ 75) (hK_0_89 : ∀ j : Int, 0 ≤ j → j < 200 → 0 ≤ apart_0 j ∧ apart_0 j ≤ 202) (hK_0_95 : ∀ j : Int, 0 ≤ j → j < 48 → 0 ≤ turned_0 j ∧ turned_0 j ≤ 1) (hK_0_102 : ∀ j : Int, 0 ≤ j → j < 76 → 0 ≤ itemLayer_0 j ∧ itemLayer_0 j ≤ 75) (hK_0_104 : ∀ j : Int, 0 ≤ j → j < 48 → 0 ≤ firstJoint_0 j ∧ firstJoint_0 j ≤ 76) (hK_0_105 : ∀ j : Int, 0 ≤ j → j < 76 → 0 ≤ layerSize_0 j ∧ layerSize_0 j ≤ 76) (hK_0_106 : ∀ j : Int, 0 ≤ j → j < 5776 → 0 ≤ layerItem_0 j ∧ layerItem_0 j ≤ 75) (hK_0_108 : ∀ j : Int, 0 ≤ j → j < 130 → 0 ≤ lineA_0 j ∧ lineA_0 j ≤ 75) (hK_0_109 : ∀ j : Int, 0 ≤ j → j < 130 → 0 ≤ lineB_0 j ∧ lineB_0 j ≤ 75) (kz_0_79 : 0 ≤ pointMany_0 ∧ pointMany_0 ≤ 76) (kz_0_80 : 0 ≤ costMany_0 ∧ costMany_0 ≤ 200) (kz_0_81 : 0 ≤ apartMany_0 ∧ apartMany_0 ≤ 200) (kz_0_100 : 0 ≤ items_0 ∧ items_0 ≤ 76) (kz_0_101 : 0 ≤ layerMany_0 ∧ layerMany_0 ≤ 76) (kz_0_107 : 0 ≤ lines_0 ∧ lines_0 ≤ 130) : 1 ≤ x25 := by
  try simp only [Int.add_zero] at *
  first
    | omega
    | (have h := paq_am ‹LSB _ _ _ _ _› ‹PAP _ _ _ _ _ _ _ _ _› (by have h := ‹LSA _ _ _ _ _ _ _ _ _ _›.2.1; have n := ‹LSA _ _ _ _ _ _ _ _ _ _›.1.1.1.1; omega); have h2 := ‹LSB _ _ _ _ _›.1; omega)
def o_Mo_across2_22 : or_T := (188, 26, [(0, (2, 0, 0, [150])), (1, (2, 0, 0, [150])), (2, (0, 0, 75, [])), (3, (0, 1, 75, [])), (5, (0, 2, 76, [])), (12, (0, 0, 23, [])), (16, (0, 0, 23, [])), (17, (0, 1, 9, [])), (18, (0, 1, 9, [])), (19, (0, 2, 18, [])), (20, (0, 2, 2, [])), (21, (0, 4, 20, [])), (22, (0, 0, 199, [])), (23, (0, 0, 75, [])), (24, (0, 1, 75, [])), (25, (0, 2, 76, []))], [(6, [25, 3], [1]), (23, [23, 2], [0, 1, -1]), (23, [23, 2], [0, -1, 1]), (23, [24, 3], [0, 1, -1]), (23, [24, 3], [0, -1, 1]), (20, [1, 23, 24, 12, 16], [60, 1, 2, 390, 101, 105, 106]), (20, [21], [50, 0, 0, 2, 6, 0, 2, 0, 2, 1, 0, 0, 2, 1, 0, 0, 202]), (20, [18], [50, 0, 0, 2, 6, 0, 2, 0, 0, 1, 0, 0, 2, 1, 0, 0, 100]), (20, [17], [50, 0, 0, 2, 6, 0, 2, 0, 0, 1, 0, 0, 2, 1, 0, 0, 100]), (20, [1], [60, 4, 6, 369, 5, 100, 101, 107, 2, 95, 102, 104, 108, 109]), (20, [1], [60, 2, 3, 372, 100, 101, 102, 105, 106]), (20, [1], [60, 1, 1, 122, 5, 2]), (20, [1], [50, 2, 0, 79, 100, 1, 3, 2, 0, 79, 2, 0, 100]), (20, [1], [60, 2, 4, 380, 79, 80, 83, 84, 85, 86]), (20, [1], [50, 1, 0, 80, 0, 3, 2, 0, 80, 0, 130]), (20, [2, 1], [50, 1, 0, 1101, 0, 6, 4, 2, 1, 0, 0, 1, 2, 1, 101]), (20, [3], [50, 0, 0, 0, 2, 0, 1, 1, 0]), (24, [0, 1], []), (20, [1, 22], [50, 1, 0, 81, 1, 3, 2, 0, 81, 4, 2, 1, 1, 0, 1]), (20, [1, 23, 24], [60, 2, 5, 391, 81, 101, 105, 106, 87, 88, 89]), (102, [24], [5759265950624221147542392138950726767439575529717529521720131584, 13081]), (23, [23, 2], [0, 1, -1]), (23, [23, 2], [0, -1, 1]), (23, [24, 3], [0, 1, -1]), (23, [24, 3], [0, -1, 1]), (1, [21, 19, 20], []), (1, [19, 17, 18], []), (7, [3, 5], [2])], [], [], [(20, [1, 2, 25], [60, 2, 5, 393, 81, 101, 105, 106, 87, 88, 89]), (20, [1], [50, 1, 0, 81, 0, 3, 2, 0, 81, 0, 76]), (20, [25], [50, 0, 0, 0, 2, 0, 1, 1, 0])], [], [(25, 3, 1, 1), (25, 5, -4294967296, 0), (21, 19, 2, 2), (21, 18, 3, 11), (21, 17, 3, 11), (19, 18, 1, 9), (19, 17, 1, 9), (3, 5, -4294967296, -1)])
theorem oo_Mo_across2_22 {kA : Nat → ClassId} : or_ok PRD kA GG o_Mo_across2_22 := by
  intro A ta ws vs hD hth hl hk hds hf
  have hl : vs.length = 26 := hl
  have hk : ∀ q ∈ ([(0, (2, 0, 0, [150])), (1, (2, 0, 0, [150])), (2, (0, 0, 75, [])), (3, (0, 1, 75, [])), (5, (0, 2, 76, [])), (12, (0, 0, 23, [])), (16, (0, 0, 23, [])), (17, (0, 1, 9, [])), (18, (0, 1, 9, [])), (19, (0, 2, 18, [])), (20, (0, 2, 2, [])), (21, (0, 4, 20, [])), (22, (0, 0, 199, [])), (23, (0, 0, 75, [])), (24, (0, 1, 75, [])), (25, (0, 2, 76, []))] : List (Nat × tv_T)), tv_ok ta q.2 (n_v vs q.1) := hk
  obtain ⟨t0, hk⟩ := List.forall_mem_cons.mp hk
  have t0 : tv_ok ta (2, 0, 0, [150]) (n_v vs 0) := t0
  have r0 : ta (v_ad (n_v vs 0)) = some 150 := tv_rg t0
  obtain ⟨t1, hk⟩ := List.forall_mem_cons.mp hk
  have t1 : tv_ok ta (2, 0, 0, [150]) (n_v vs 1) := t1
  have r1 : ta (v_ad (n_v vs 1)) = some 150 := tv_rg t1
  obtain ⟨t2, hk⟩ := List.forall_mem_cons.mp hk
  have t2 : tv_ok ta (0, 0, 75, []) (n_v vs 2) := t2
  have k2 : 0 ≤ v_iv (n_v vs 2) ∧ v_iv (n_v vs 2) ≤ 75 := tv_rng t2
  obtain ⟨t3, hk⟩ := List.forall_mem_cons.mp hk
  have t3 : tv_ok ta (0, 1, 75, []) (n_v vs 3) := t3
  have k3 : 1 ≤ v_iv (n_v vs 3) ∧ v_iv (n_v vs 3) ≤ 75 := tv_rng t3
  obtain ⟨t5, hk⟩ := List.forall_mem_cons.mp hk
  have t5 : tv_ok ta (0, 2, 76, []) (n_v vs 5) := t5
  have k5 : 2 ≤ v_iv (n_v vs 5) ∧ v_iv (n_v vs 5) ≤ 76 := tv_rng t5
  obtain ⟨t12, hk⟩ := List.forall_mem_cons.mp hk
  have t12 : tv_ok ta (0, 0, 23, []) (n_v vs 12) := t12
  have k12 : 0 ≤ v_iv (n_v vs 12) ∧ v_iv (n_v vs 12) ≤ 23 := tv_rng t12
  obtain ⟨t16, hk⟩ := List.forall_mem_cons.mp hk
  have t16 : tv_ok ta (0, 0, 23, []) (n_v vs 16) := t16
  have k16 : 0 ≤ v_iv (n_v vs 16) ∧ v_iv (n_v vs 16) ≤ 23 := tv_rng t16
  obtain ⟨t17, hk⟩ := List.forall_mem_cons.mp hk
  have t17 : tv_ok ta (0, 1, 9, []) (n_v vs 17) := t17
  have k17 : 1 ≤ v_iv (n_v vs 17) ∧ v_iv (n_v vs 17) ≤ 9 := tv_rng t17
  obtain ⟨t18, hk⟩ := List.forall_mem_cons.mp hk
  have t18 : tv_ok ta (0, 1, 9, []) (n_v vs 18) := t18
  have k18 : 1 ≤ v_iv (n_v vs 18) ∧ v_iv (n_v vs 18) ≤ 9 := tv_rng t18
  obtain ⟨t19, hk⟩ := List.forall_mem_cons.mp hk
  have t19 : tv_ok ta (0, 2, 18, []) (n_v vs 19) := t19
  have k19 : 2 ≤ v_iv (n_v vs 19) ∧ v_iv (n_v vs 19) ≤ 18 := tv_rng t19
  obtain ⟨t20, hk⟩ := List.forall_mem_cons.mp hk
  have t20 : tv_ok ta (0, 2, 2, []) (n_v vs 20) := t20
  have k20 : 2 ≤ v_iv (n_v vs 20) ∧ v_iv (n_v vs 20) ≤ 2 := tv_rng t20
  obtain ⟨t21, hk⟩ := List.forall_mem_cons.mp hk
  have t21 : tv_ok ta (0, 4, 20, []) (n_v vs 21) := t21
  have k21 : 4 ≤ v_iv (n_v vs 21) ∧ v_iv (n_v vs 21) ≤ 20 := tv_rng t21
  obtain ⟨t22, hk⟩ := List.forall_mem_cons.mp hk
  have t22 : tv_ok ta (0, 0, 199, []) (n_v vs 22) := t22
  have k22 : 0 ≤ v_iv (n_v vs 22) ∧ v_iv (n_v vs 22) ≤ 199 := tv_rng t22
  obtain ⟨t23, hk⟩ := List.forall_mem_cons.mp hk
  have t23 : tv_ok ta (0, 0, 75, []) (n_v vs 23) := t23
  have k23 : 0 ≤ v_iv (n_v vs 23) ∧ v_iv (n_v vs 23) ≤ 75 := tv_rng t23
  obtain ⟨t24, hk⟩ := List.forall_mem_cons.mp hk
  have t24 : tv_ok ta (0, 1, 75, []) (n_v vs 24) := t24
  have k24 : 1 ≤ v_iv (n_v vs 24) ∧ v_iv (n_v vs 24) ≤ 75 := tv_rng t24
  obtain ⟨t25, hk⟩ := List.forall_mem_cons.mp hk
  have t25 : tv_ok ta (0, 2, 76, []) (n_v vs 25) := t25
  have k25 : 2 ≤ v_iv (n_v vs 25) ∧ v_iv (n_v vs 25) ≤ 76 := tv_rng t25
  have hds : ∀ q ∈ ([(25, 3, 1, 1), (25, 5, -4294967296, 0), (21, 19, 2, 2), (21, 18, 3, 11), (21, 17, 3, 11), (19, 18, 1, 9), (19, 17, 1, 9), (3, 5, -4294967296, -1)] : List of_T), n_iv vs q.2.1 + q.2.2.1 ≤ n_iv vs q.1 ∧ n_iv vs q.1 ≤ n_iv vs q.2.1 + q.2.2.2 := hds
  obtain ⟨d0, hds⟩ := List.forall_mem_cons.mp hds
  have d0 : v_iv (n_v vs 3) + 1 ≤ v_iv (n_v vs 25) ∧ v_iv (n_v vs 25) ≤ v_iv (n_v vs 3) + 1 := d0
  obtain ⟨d1, hds⟩ := List.forall_mem_cons.mp hds
  have d1 : v_iv (n_v vs 5) + (-4294967296) ≤ v_iv (n_v vs 25) ∧ v_iv (n_v vs 25) ≤ v_iv (n_v vs 5) + 0 := d1
  obtain ⟨d2, hds⟩ := List.forall_mem_cons.mp hds
  have d2 : v_iv (n_v vs 19) + 2 ≤ v_iv (n_v vs 21) ∧ v_iv (n_v vs 21) ≤ v_iv (n_v vs 19) + 2 := d2
  obtain ⟨d3, hds⟩ := List.forall_mem_cons.mp hds
  have d3 : v_iv (n_v vs 18) + 3 ≤ v_iv (n_v vs 21) ∧ v_iv (n_v vs 21) ≤ v_iv (n_v vs 18) + 11 := d3
  obtain ⟨d4, hds⟩ := List.forall_mem_cons.mp hds
  have d4 : v_iv (n_v vs 17) + 3 ≤ v_iv (n_v vs 21) ∧ v_iv (n_v vs 21) ≤ v_iv (n_v vs 17) + 11 := d4
  obtain ⟨d5, hds⟩ := List.forall_mem_cons.mp hds
  have d5 : v_iv (n_v vs 18) + 1 ≤ v_iv (n_v vs 19) ∧ v_iv (n_v vs 19) ≤ v_iv (n_v vs 18) + 9 := d5
  obtain ⟨d6, hds⟩ := List.forall_mem_cons.mp hds
  have d6 : v_iv (n_v vs 17) + 1 ≤ v_iv (n_v vs 19) ∧ v_iv (n_v vs 19) ≤ v_iv (n_v vs 17) + 9 := d6
  obtain ⟨d7, hds⟩ := List.forall_mem_cons.mp hds
  have d7 : v_iv (n_v vs 5) + (-4294967296) ≤ v_iv (n_v vs 3) ∧ v_iv (n_v vs 3) ≤ v_iv (n_v vs 5) + (-1) := d7
  have hf : fc_ok PRD [(6, [25, 3], [1]), (23, [23, 2], [0, 1, -1]), (23, [23, 2], [0, -1, 1]), (23, [24, 3], [0, 1, -1]), (23, [24, 3], [0, -1, 1]), (20, [1, 23, 24, 12, 16], [60, 1, 2, 390, 101, 105, 106]), (20, [21], [50, 0, 0, 2, 6, 0, 2, 0, 2, 1, 0, 0, 2, 1, 0, 0, 202]), (20, [18], [50, 0, 0, 2, 6, 0, 2, 0, 0, 1, 0, 0, 2, 1, 0, 0, 100]), (20, [17], [50, 0, 0, 2, 6, 0, 2, 0, 0, 1, 0, 0, 2, 1, 0, 0, 100]), (20, [1], [60, 4, 6, 369, 5, 100, 101, 107, 2, 95, 102, 104, 108, 109]), (20, [1], [60, 2, 3, 372, 100, 101, 102, 105, 106]), (20, [1], [60, 1, 1, 122, 5, 2]), (20, [1], [50, 2, 0, 79, 100, 1, 3, 2, 0, 79, 2, 0, 100]), (20, [1], [60, 2, 4, 380, 79, 80, 83, 84, 85, 86]), (20, [1], [50, 1, 0, 80, 0, 3, 2, 0, 80, 0, 130]), (20, [2, 1], [50, 1, 0, 1101, 0, 6, 4, 2, 1, 0, 0, 1, 2, 1, 101]), (20, [3], [50, 0, 0, 0, 2, 0, 1, 1, 0]), (24, [0, 1], []), (20, [1, 22], [50, 1, 0, 81, 1, 3, 2, 0, 81, 4, 2, 1, 1, 0, 1]), (20, [1, 23, 24], [60, 2, 5, 391, 81, 101, 105, 106, 87, 88, 89]), (102, [24], [5759265950624221147542392138950726767439575529717529521720131584, 13081]), (23, [23, 2], [0, 1, -1]), (23, [23, 2], [0, -1, 1]), (23, [24, 3], [0, 1, -1]), (23, [24, 3], [0, -1, 1]), (1, [21, 19, 20], []), (1, [19, 17, 18], []), (7, [3, 5], [2])] ta ws vs := hf
  obtain ⟨f0, hf⟩ := fc_un (show (6 : Nat) < 100 from by decide) hf
  have f0 : v_iv (n_v vs 25) = v_iv (n_v vs 3) + 1 := f0
  obtain ⟨f1, hf⟩ := fc_un (show (23 : Nat) < 100 from by decide) hf
  have f1 : 1 * v_iv (n_v vs 23) + ((-1) * v_iv (n_v vs 2) + 0) ≤ 0 := f1
  obtain ⟨f2, hf⟩ := fc_un (show (23 : Nat) < 100 from by decide) hf
  have f2 : (-1) * v_iv (n_v vs 23) + (1 * v_iv (n_v vs 2) + 0) ≤ 0 := f2
  obtain ⟨f3, hf⟩ := fc_un (show (23 : Nat) < 100 from by decide) hf
  have f3 : 1 * v_iv (n_v vs 24) + ((-1) * v_iv (n_v vs 3) + 0) ≤ 0 := f3
  obtain ⟨f4, hf⟩ := fc_un (show (23 : Nat) < 100 from by decide) hf
  have f4 : (-1) * v_iv (n_v vs 24) + (1 * v_iv (n_v vs 3) + 0) ≤ 0 := f4
  obtain ⟨f5, hf⟩ := fc_un (show (20 : Nat) < 100 from by decide) hf
  have f5 : PAN (w_fi ws (n_v vs 1) 101) (w_ei ws (w_ar ws (n_v vs 1) 105)) (w_ei ws (w_ar ws (n_v vs 1) 106)) (v_iv (n_v vs 23)) (v_iv (n_v vs 24)) (v_iv (n_v vs 12)) (v_iv (n_v vs 16)) := f5
  obtain ⟨f6, hf⟩ := fc_un (show (20 : Nat) < 100 from by decide) hf
  have f6 : (2 ≤ v_iv (n_v vs 21)) ∧ (v_iv (n_v vs 21) ≤ 202) := f6
  obtain ⟨f7, hf⟩ := fc_un (show (20 : Nat) < 100 from by decide) hf
  have f7 : (0 ≤ v_iv (n_v vs 18)) ∧ (v_iv (n_v vs 18) ≤ 100) := f7
  obtain ⟨f8, hf⟩ := fc_un (show (20 : Nat) < 100 from by decide) hf
  have f8 : (0 ≤ v_iv (n_v vs 17)) ∧ (v_iv (n_v vs 17) ≤ 100) := f8
  obtain ⟨f9, hf⟩ := fc_un (show (20 : Nat) < 100 from by decide) hf
  have f9 : LSA (w_fi ws (n_v vs 1) 5) (w_fi ws (n_v vs 1) 100) (w_fi ws (n_v vs 1) 101) (w_fi ws (n_v vs 1) 107) (w_ei ws (w_ar ws (n_v vs 1) 2)) (w_ei ws (w_ar ws (n_v vs 1) 95)) (w_ei ws (w_ar ws (n_v vs 1) 102)) (w_ei ws (w_ar ws (n_v vs 1) 104)) (w_ei ws (w_ar ws (n_v vs 1) 108)) (w_ei ws (w_ar ws (n_v vs 1) 109)) := f9
  obtain ⟨f10, hf⟩ := fc_un (show (20 : Nat) < 100 from by decide) hf
  have f10 : LSB (w_fi ws (n_v vs 1) 100) (w_fi ws (n_v vs 1) 101) (w_ei ws (w_ar ws (n_v vs 1) 102)) (w_ei ws (w_ar ws (n_v vs 1) 105)) (w_ei ws (w_ar ws (n_v vs 1) 106)) := f10
  obtain ⟨f11, hf⟩ := fc_un (show (20 : Nat) < 100 from by decide) hf
  have f11 : SGR (w_fi ws (n_v vs 1) 5) (w_ei ws (w_ar ws (n_v vs 1) 2)) := f11
  obtain ⟨f12, hf⟩ := fc_un (show (20 : Nat) < 100 from by decide) hf
  have f12 : w_fi ws (n_v vs 1) 79 = w_fi ws (n_v vs 1) 100 := f12
  obtain ⟨f13, hf⟩ := fc_un (show (20 : Nat) < 100 from by decide) hf
  have f13 : PCQ (w_fi ws (n_v vs 1) 79) (w_fi ws (n_v vs 1) 80) (w_ei ws (w_ar ws (n_v vs 1) 83)) (w_ei ws (w_ar ws (n_v vs 1) 84)) (w_ei ws (w_ar ws (n_v vs 1) 85)) (w_ei ws (w_ar ws (n_v vs 1) 86)) := f13
  obtain ⟨f14, hf⟩ := fc_un (show (20 : Nat) < 100 from by decide) hf
  have f14 : w_fi ws (n_v vs 1) 80 ≤ 130 := f14
  obtain ⟨f15, hf⟩ := fc_un (show (20 : Nat) < 100 from by decide) hf
  have f15 : (v_iv (n_v vs 2) + 1) ≤ w_fi ws (n_v vs 1) 101 := f15
  obtain ⟨f16, hf⟩ := fc_un (show (20 : Nat) < 100 from by decide) hf
  have f16 : 1 ≤ v_iv (n_v vs 3) := f16
  obtain ⟨f17, hf⟩ := fc_un (show (24 : Nat) < 100 from by decide) hf
  have f17 : n_v vs 0 = n_v vs 1 := f17
  obtain ⟨f18, hf⟩ := fc_un (show (20 : Nat) < 100 from by decide) hf
  have f18 : w_fi ws (n_v vs 1) 81 = (v_iv (n_v vs 22) + 1) := f18
  obtain ⟨f19, hf⟩ := fc_un (show (20 : Nat) < 100 from by decide) hf
  have f19 : PAP (w_fi ws (n_v vs 1) 81) (w_fi ws (n_v vs 1) 101) (w_ei ws (w_ar ws (n_v vs 1) 105)) (w_ei ws (w_ar ws (n_v vs 1) 106)) (w_ei ws (w_ar ws (n_v vs 1) 87)) (w_ei ws (w_ar ws (n_v vs 1) 88)) (w_ei ws (w_ar ws (n_v vs 1) 89)) (v_iv (n_v vs 23)) (v_iv (n_v vs 24)) := f19
  obtain ⟨ta1, w1, le1, ⟨_, s1⟩, hf⟩ := fc_us (show ¬ (102 : Nat) < 100 from by decide) hf
  obtain ⟨f21, hf⟩ := fc_un (show (23 : Nat) < 100 from by decide) hf
  have f21 : 1 * v_iv (n_v vs 23) + ((-1) * v_iv (n_v vs 2) + 0) ≤ 0 := f21
  obtain ⟨f22, hf⟩ := fc_un (show (23 : Nat) < 100 from by decide) hf
  have f22 : (-1) * v_iv (n_v vs 23) + (1 * v_iv (n_v vs 2) + 0) ≤ 0 := f22
  obtain ⟨f23, hf⟩ := fc_un (show (23 : Nat) < 100 from by decide) hf
  have f23 : 1 * v_iv (n_v vs 24) + ((-1) * v_iv (n_v vs 3) + 0) ≤ 0 := f23
  obtain ⟨f24, hf⟩ := fc_un (show (23 : Nat) < 100 from by decide) hf
  have f24 : (-1) * v_iv (n_v vs 24) + (1 * v_iv (n_v vs 3) + 0) ≤ 0 := f24
  obtain ⟨f25, hf⟩ := fc_un (show (1 : Nat) < 100 from by decide) hf
  have f25 : v_iv (n_v vs 21) = v_iv (n_v vs 19) + v_iv (n_v vs 20) := f25
  obtain ⟨f26, hf⟩ := fc_un (show (1 : Nat) < 100 from by decide) hf
  have f26 : v_iv (n_v vs 19) = v_iv (n_v vs 17) + v_iv (n_v vs 18) := f26
  obtain ⟨f27, hf⟩ := fc_un (show (7 : Nat) < 100 from by decide) hf
  have f27 : v_iv (n_v vs 3) < v_iv (n_v vs 5) := f27
  have q1 : n_v vs 1 = n_v vs 0 := f17.symm
  rw [q1] at f5
  rw [q1] at f9
  rw [q1] at f10
  rw [q1] at f11
  rw [q1] at f12
  rw [q1] at f13
  rw [q1] at f14
  rw [q1] at f15
  rw [q1] at f18
  rw [q1] at f19
  have cr_0_2 : ta (w_ar ws (n_v vs 0) 2) = some 152 := tv_rg (th_fd hD hth r0 (g := GG_150) rfl (k := 2) (t := (2, 0, 0, [152])) rfl rfl)
  have cr_0_83 : ta (w_ar ws (n_v vs 0) 83) = some 205 := tv_rg (th_fd hD hth r0 (g := GG_150) rfl (k := 83) (t := (2, 0, 0, [205])) rfl rfl)
  have cr_0_84 : ta (w_ar ws (n_v vs 0) 84) = some 206 := tv_rg (th_fd hD hth r0 (g := GG_150) rfl (k := 84) (t := (2, 0, 0, [206])) rfl rfl)
  have cr_0_85 : ta (w_ar ws (n_v vs 0) 85) = some 207 := tv_rg (th_fd hD hth r0 (g := GG_150) rfl (k := 85) (t := (2, 0, 0, [207])) rfl rfl)
  have cr_0_86 : ta (w_ar ws (n_v vs 0) 86) = some 208 := tv_rg (th_fd hD hth r0 (g := GG_150) rfl (k := 86) (t := (2, 0, 0, [208])) rfl rfl)
  have cr_0_87 : ta (w_ar ws (n_v vs 0) 87) = some 209 := tv_rg (th_fd hD hth r0 (g := GG_150) rfl (k := 87) (t := (2, 0, 0, [209])) rfl rfl)
  have cr_0_88 : ta (w_ar ws (n_v vs 0) 88) = some 210 := tv_rg (th_fd hD hth r0 (g := GG_150) rfl (k := 88) (t := (2, 0, 0, [210])) rfl rfl)
  have cr_0_89 : ta (w_ar ws (n_v vs 0) 89) = some 211 := tv_rg (th_fd hD hth r0 (g := GG_150) rfl (k := 89) (t := (2, 0, 0, [211])) rfl rfl)
  have cr_0_95 : ta (w_ar ws (n_v vs 0) 95) = some 216 := tv_rg (th_fd hD hth r0 (g := GG_150) rfl (k := 95) (t := (2, 0, 0, [216])) rfl rfl)
  have cr_0_102 : ta (w_ar ws (n_v vs 0) 102) = some 220 := tv_rg (th_fd hD hth r0 (g := GG_150) rfl (k := 102) (t := (2, 0, 0, [220])) rfl rfl)
  have cr_0_104 : ta (w_ar ws (n_v vs 0) 104) = some 222 := tv_rg (th_fd hD hth r0 (g := GG_150) rfl (k := 104) (t := (2, 0, 0, [222])) rfl rfl)
  have cr_0_105 : ta (w_ar ws (n_v vs 0) 105) = some 223 := tv_rg (th_fd hD hth r0 (g := GG_150) rfl (k := 105) (t := (2, 0, 0, [223])) rfl rfl)
  have cr_0_106 : ta (w_ar ws (n_v vs 0) 106) = some 224 := tv_rg (th_fd hD hth r0 (g := GG_150) rfl (k := 106) (t := (2, 0, 0, [224])) rfl rfl)
  have cr_0_108 : ta (w_ar ws (n_v vs 0) 108) = some 225 := tv_rg (th_fd hD hth r0 (g := GG_150) rfl (k := 108) (t := (2, 0, 0, [225])) rfl rfl)
  have cr_0_109 : ta (w_ar ws (n_v vs 0) 109) = some 226 := tv_rg (th_fd hD hth r0 (g := GG_150) rfl (k := 109) (t := (2, 0, 0, [226])) rfl rfl)
  have hK_0_83 : ∀ j : Int, 0 ≤ j → j < 200 → 0 ≤ w_ei ws (w_ar ws (n_v vs 0) 83) j ∧ w_ei ws (w_ar ws (n_v vs 0) 83) j ≤ 75 := fun j h0 h1 => th_el hD hth cr_0_83 (kd := 0) (n := 200) (m := 200) (lo := 0) (hi := 75) (rs := []) (L := []) rfl (by decide) (j := j.toNat) (by omega)
  have hK_0_84 : ∀ j : Int, 0 ≤ j → j < 200 → 0 ≤ w_ei ws (w_ar ws (n_v vs 0) 84) j ∧ w_ei ws (w_ar ws (n_v vs 0) 84) j ≤ 75 := fun j h0 h1 => th_el hD hth cr_0_84 (kd := 0) (n := 200) (m := 200) (lo := 0) (hi := 75) (rs := []) (L := []) rfl (by decide) (j := j.toNat) (by omega)
  have hK_0_85 : ∀ j : Int, 0 ≤ j → j < 200 → 0 ≤ w_ei ws (w_ar ws (n_v vs 0) 85) j ∧ w_ei ws (w_ar ws (n_v vs 0) 85) j ≤ 72 := fun j h0 h1 => th_el hD hth cr_0_85 (kd := 0) (n := 200) (m := 200) (lo := 0) (hi := 72) (rs := []) (L := []) rfl (by decide) (j := j.toNat) (by omega)
  have hK_0_86 : ∀ j : Int, 0 ≤ j → j < 200 → 0 ≤ w_ei ws (w_ar ws (n_v vs 0) 86) j ∧ w_ei ws (w_ar ws (n_v vs 0) 86) j ≤ 1 := fun j h0 h1 => th_el hD hth cr_0_86 (kd := 2) (n := 200) (m := 200) (lo := 0) (hi := 1) (rs := []) (L := []) rfl (by decide) (j := j.toNat) (by omega)
  have hK_0_87 : ∀ j : Int, 0 ≤ j → j < 200 → 0 ≤ w_ei ws (w_ar ws (n_v vs 0) 87) j ∧ w_ei ws (w_ar ws (n_v vs 0) 87) j ≤ 75 := fun j h0 h1 => th_el hD hth cr_0_87 (kd := 0) (n := 200) (m := 200) (lo := 0) (hi := 75) (rs := []) (L := []) rfl (by decide) (j := j.toNat) (by omega)
  have hK_0_88 : ∀ j : Int, 0 ≤ j → j < 200 → 0 ≤ w_ei ws (w_ar ws (n_v vs 0) 88) j ∧ w_ei ws (w_ar ws (n_v vs 0) 88) j ≤ 75 := fun j h0 h1 => th_el hD hth cr_0_88 (kd := 0) (n := 200) (m := 200) (lo := 0) (hi := 75) (rs := []) (L := []) rfl (by decide) (j := j.toNat) (by omega)
  have hK_0_89 : ∀ j : Int, 0 ≤ j → j < 200 → 0 ≤ w_ei ws (w_ar ws (n_v vs 0) 89) j ∧ w_ei ws (w_ar ws (n_v vs 0) 89) j ≤ 202 := fun j h0 h1 => th_el hD hth cr_0_89 (kd := 0) (n := 200) (m := 200) (lo := 0) (hi := 202) (rs := []) (L := []) rfl (by decide) (j := j.toNat) (by omega)
  have hK_0_95 : ∀ j : Int, 0 ≤ j → j < 48 → 0 ≤ w_ei ws (w_ar ws (n_v vs 0) 95) j ∧ w_ei ws (w_ar ws (n_v vs 0) 95) j ≤ 1 := fun j h0 h1 => th_el hD hth cr_0_95 (kd := 2) (n := 48) (m := 48) (lo := 0) (hi := 1) (rs := []) (L := []) rfl (by decide) (j := j.toNat) (by omega)
  have hK_0_102 : ∀ j : Int, 0 ≤ j → j < 76 → 0 ≤ w_ei ws (w_ar ws (n_v vs 0) 102) j ∧ w_ei ws (w_ar ws (n_v vs 0) 102) j ≤ 75 := fun j h0 h1 => th_el hD hth cr_0_102 (kd := 0) (n := 76) (m := 76) (lo := 0) (hi := 75) (rs := []) (L := []) rfl (by decide) (j := j.toNat) (by omega)
  have hK_0_104 : ∀ j : Int, 0 ≤ j → j < 48 → 0 ≤ w_ei ws (w_ar ws (n_v vs 0) 104) j ∧ w_ei ws (w_ar ws (n_v vs 0) 104) j ≤ 76 := fun j h0 h1 => th_el hD hth cr_0_104 (kd := 0) (n := 48) (m := 48) (lo := 0) (hi := 76) (rs := []) (L := []) rfl (by decide) (j := j.toNat) (by omega)
  have hK_0_105 : ∀ j : Int, 0 ≤ j → j < 76 → 0 ≤ w_ei ws (w_ar ws (n_v vs 0) 105) j ∧ w_ei ws (w_ar ws (n_v vs 0) 105) j ≤ 76 := fun j h0 h1 => th_el hD hth cr_0_105 (kd := 0) (n := 76) (m := 76) (lo := 0) (hi := 76) (rs := []) (L := []) rfl (by decide) (j := j.toNat) (by omega)
  have hK_0_106 : ∀ j : Int, 0 ≤ j → j < 5776 → 0 ≤ w_ei ws (w_ar ws (n_v vs 0) 106) j ∧ w_ei ws (w_ar ws (n_v vs 0) 106) j ≤ 75 := fun j h0 h1 => th_el hD hth cr_0_106 (kd := 0) (n := 5776) (m := 5776) (lo := 0) (hi := 75) (rs := []) (L := []) rfl (by decide) (j := j.toNat) (by omega)
  have hK_0_108 : ∀ j : Int, 0 ≤ j → j < 130 → 0 ≤ w_ei ws (w_ar ws (n_v vs 0) 108) j ∧ w_ei ws (w_ar ws (n_v vs 0) 108) j ≤ 75 := fun j h0 h1 => th_el hD hth cr_0_108 (kd := 0) (n := 130) (m := 130) (lo := 0) (hi := 75) (rs := []) (L := []) rfl (by decide) (j := j.toNat) (by omega)
  have hK_0_109 : ∀ j : Int, 0 ≤ j → j < 130 → 0 ≤ w_ei ws (w_ar ws (n_v vs 0) 109) j ∧ w_ei ws (w_ar ws (n_v vs 0) 109) j ≤ 75 := fun j h0 h1 => th_el hD hth cr_0_109 (kd := 0) (n := 130) (m := 130) (lo := 0) (hi := 75) (rs := []) (L := []) rfl (by decide) (j := j.toNat) (by omega)
  have kz_0_79 : 0 ≤ w_fi ws (n_v vs 0) 79 ∧ w_fi ws (n_v vs 0) 79 ≤ 76 := tv_rng (th_fd hD hth r0 (g := GG_150) rfl (k := 79) (t := (0, 0, 76, [])) rfl rfl)
  have kz_0_80 : 0 ≤ w_fi ws (n_v vs 0) 80 ∧ w_fi ws (n_v vs 0) 80 ≤ 200 := tv_rng (th_fd hD hth r0 (g := GG_150) rfl (k := 80) (t := (0, 0, 200, [])) rfl rfl)
  have kz_0_81 : 0 ≤ w_fi ws (n_v vs 0) 81 ∧ w_fi ws (n_v vs 0) 81 ≤ 200 := tv_rng (th_fd hD hth r0 (g := GG_150) rfl (k := 81) (t := (0, 0, 200, [])) rfl rfl)
  have kz_0_100 : 0 ≤ w_fi ws (n_v vs 0) 100 ∧ w_fi ws (n_v vs 0) 100 ≤ 76 := tv_rng (th_fd hD hth r0 (g := GG_150) rfl (k := 100) (t := (0, 0, 76, [])) rfl rfl)
  have kz_0_101 : 0 ≤ w_fi ws (n_v vs 0) 101 ∧ w_fi ws (n_v vs 0) 101 ≤ 76 := tv_rng (th_fd hD hth r0 (g := GG_150) rfl (k := 101) (t := (0, 0, 76, [])) rfl rfl)
  have kz_0_107 : 0 ≤ w_fi ws (n_v vs 0) 107 ∧ w_fi ws (n_v vs 0) 107 ≤ 130 := tv_rng (th_fd hD hth r0 (g := GG_150) rfl (k := 107) (t := (0, 0, 130, [])) rfl rfl)
  have nf0 : fc_1 PRD (20, [1, 2, 25], [60, 2, 5, 393, 81, 101, 105, 106, 87, 88, 89]) ws (vs) := by
    refine ⟨fun n hn => ?_, ?_⟩
    · have hn : n ∈ [1, 2, 25] := hn
      rw [hl]
      simp only [List.mem_cons, List.not_mem_nil, or_false] at hn
      show n < 26; omega
    · show PAL2 (w_fi ws (n_v vs 1) 81) (w_fi ws (n_v vs 1) 101) (w_ei ws (w_ar ws (n_v vs 1) 105)) (w_ei ws (w_ar ws (n_v vs 1) 106)) (w_ei ws (w_ar ws (n_v vs 1) 87)) (w_ei ws (w_ar ws (n_v vs 1) 88)) (w_ei ws (w_ar ws (n_v vs 1) 89)) (v_iv (n_v vs 2)) (v_iv (n_v vs 25))
      rw [q1]
      exact vc_Mo_across2_22_0 (v_iv (n_v vs 2)) (v_iv (n_v vs 3)) (v_iv (n_v vs 5)) (v_iv (n_v vs 12)) (v_iv (n_v vs 16)) (v_iv (n_v vs 17)) (v_iv (n_v vs 18)) (v_iv (n_v vs 19)) (v_iv (n_v vs 20)) (v_iv (n_v vs 21)) (v_iv (n_v vs 22)) (v_iv (n_v vs 23)) (v_iv (n_v vs 24)) (v_iv (n_v vs 25)) (w_ei ws (w_ar ws (n_v vs 0) 105)) (w_ei ws (w_ar ws (n_v vs 0) 106)) (w_fi ws (n_v vs 0) 101) (w_ei ws (w_ar ws (n_v vs 0) 2)) (w_ei ws (w_ar ws (n_v vs 0) 95)) (w_ei ws (w_ar ws (n_v vs 0) 102)) (w_ei ws (w_ar ws (n_v vs 0) 104)) (w_ei ws (w_ar ws (n_v vs 0) 108)) (w_ei ws (w_ar ws (n_v vs 0) 109)) (w_fi ws (n_v vs 0) 5) (w_fi ws (n_v vs 0) 100) (w_fi ws (n_v vs 0) 107) (w_fi ws (n_v vs 0) 79) (w_ei ws (w_ar ws (n_v vs 0) 83)) (w_ei ws (w_ar ws (n_v vs 0) 84)) (w_ei ws (w_ar ws (n_v vs 0) 85)) (w_ei ws (w_ar ws (n_v vs 0) 86)) (w_fi ws (n_v vs 0) 80) (w_fi ws (n_v vs 0) 81) (w_ei ws (w_ar ws (n_v vs 0) 87)) (w_ei ws (w_ar ws (n_v vs 0) 88)) (w_ei ws (w_ar ws (n_v vs 0) 89)) k2 k3 k5 k12 k16 k17 k18 k19 k20 k21 k22 k23 k24 k25 d0 d1 d2 d3 d4 d5 d6 d7 f0 f1 f2 f3 f4 f5 f6 f7 f8 f9 f10 f11 f12 f13 f14 f15 f16 f18 f19 f21 f22 f23 f24 f25 f26 f27 hK_0_83 hK_0_84 hK_0_85 hK_0_86 hK_0_87 hK_0_88 hK_0_89 hK_0_95 hK_0_102 hK_0_104 hK_0_105 hK_0_106 hK_0_108 hK_0_109 kz_0_79 kz_0_80 kz_0_81 kz_0_100 kz_0_101 kz_0_107
  have nf1 : fc_1 PRD (20, [1], [50, 1, 0, 81, 0, 3, 2, 0, 81, 0, 76]) ws (vs) := by
    refine ⟨fun n hn => ?_, ?_⟩
    · have hn : n ∈ [1] := hn
      rw [hl]
      simp only [List.mem_cons, List.not_mem_nil, or_false] at hn
      show n < 26; omega
    · show w_fi ws (n_v vs 1) 81 ≤ 76
      rw [q1]
      exact vc_Mo_across2_22_1 (v_iv (n_v vs 2)) (v_iv (n_v vs 3)) (v_iv (n_v vs 5)) (v_iv (n_v vs 12)) (v_iv (n_v vs 16)) (v_iv (n_v vs 17)) (v_iv (n_v vs 18)) (v_iv (n_v vs 19)) (v_iv (n_v vs 20)) (v_iv (n_v vs 21)) (v_iv (n_v vs 22)) (v_iv (n_v vs 23)) (v_iv (n_v vs 24)) (v_iv (n_v vs 25)) (w_ei ws (w_ar ws (n_v vs 0) 105)) (w_ei ws (w_ar ws (n_v vs 0) 106)) (w_fi ws (n_v vs 0) 101) (w_ei ws (w_ar ws (n_v vs 0) 2)) (w_ei ws (w_ar ws (n_v vs 0) 95)) (w_ei ws (w_ar ws (n_v vs 0) 102)) (w_ei ws (w_ar ws (n_v vs 0) 104)) (w_ei ws (w_ar ws (n_v vs 0) 108)) (w_ei ws (w_ar ws (n_v vs 0) 109)) (w_fi ws (n_v vs 0) 5) (w_fi ws (n_v vs 0) 100) (w_fi ws (n_v vs 0) 107) (w_fi ws (n_v vs 0) 79) (w_ei ws (w_ar ws (n_v vs 0) 83)) (w_ei ws (w_ar ws (n_v vs 0) 84)) (w_ei ws (w_ar ws (n_v vs 0) 85)) (w_ei ws (w_ar ws (n_v vs 0) 86)) (w_fi ws (n_v vs 0) 80) (w_fi ws (n_v vs 0) 81) (w_ei ws (w_ar ws (n_v vs 0) 87)) (w_ei ws (w_ar ws (n_v vs 0) 88)) (w_ei ws (w_ar ws (n_v vs 0) 89)) k2 k3 k5 k12 k16 k17 k18 k19 k20 k21 k22 k23 k24 k25 d0 d1 d2 d3 d4 d5 d6 d7 f0 f1 f2 f3 f4 f5 f6 f7 f8 f9 f10 f11 f12 f13 f14 f15 f16 f18 f19 f21 f22 f23 f24 f25 f26 f27 hK_0_83 hK_0_84 hK_0_85 hK_0_86 hK_0_87 hK_0_88 hK_0_89 hK_0_95 hK_0_102 hK_0_104 hK_0_105 hK_0_106 hK_0_108 hK_0_109 kz_0_79 kz_0_80 kz_0_81 kz_0_100 kz_0_101 kz_0_107
  have nf2 : fc_1 PRD (20, [25], [50, 0, 0, 0, 2, 0, 1, 1, 0]) ws (vs) := by
    refine ⟨fun n hn => ?_, ?_⟩
    · have hn : n ∈ [25] := hn
      rw [hl]
      simp only [List.mem_cons, List.not_mem_nil, or_false] at hn
      show n < 26; omega
    · show 1 ≤ v_iv (n_v vs 25)
      exact vc_Mo_across2_22_2 (v_iv (n_v vs 2)) (v_iv (n_v vs 3)) (v_iv (n_v vs 5)) (v_iv (n_v vs 12)) (v_iv (n_v vs 16)) (v_iv (n_v vs 17)) (v_iv (n_v vs 18)) (v_iv (n_v vs 19)) (v_iv (n_v vs 20)) (v_iv (n_v vs 21)) (v_iv (n_v vs 22)) (v_iv (n_v vs 23)) (v_iv (n_v vs 24)) (v_iv (n_v vs 25)) (w_ei ws (w_ar ws (n_v vs 0) 105)) (w_ei ws (w_ar ws (n_v vs 0) 106)) (w_fi ws (n_v vs 0) 101) (w_ei ws (w_ar ws (n_v vs 0) 2)) (w_ei ws (w_ar ws (n_v vs 0) 95)) (w_ei ws (w_ar ws (n_v vs 0) 102)) (w_ei ws (w_ar ws (n_v vs 0) 104)) (w_ei ws (w_ar ws (n_v vs 0) 108)) (w_ei ws (w_ar ws (n_v vs 0) 109)) (w_fi ws (n_v vs 0) 5) (w_fi ws (n_v vs 0) 100) (w_fi ws (n_v vs 0) 107) (w_fi ws (n_v vs 0) 79) (w_ei ws (w_ar ws (n_v vs 0) 83)) (w_ei ws (w_ar ws (n_v vs 0) 84)) (w_ei ws (w_ar ws (n_v vs 0) 85)) (w_ei ws (w_ar ws (n_v vs 0) 86)) (w_fi ws (n_v vs 0) 80) (w_fi ws (n_v vs 0) 81) (w_ei ws (w_ar ws (n_v vs 0) 87)) (w_ei ws (w_ar ws (n_v vs 0) 88)) (w_ei ws (w_ar ws (n_v vs 0) 89)) k2 k3 k5 k12 k16 k17 k18 k19 k20 k21 k22 k23 k24 k25 d0 d1 d2 d3 d4 d5 d6 d7 f0 f1 f2 f3 f4 f5 f6 f7 f8 f9 f10 f11 f12 f13 f14 f15 f16 f18 f19 f21 f22 f23 f24 f25 f26 f27 hK_0_83 hK_0_84 hK_0_85 hK_0_86 hK_0_87 hK_0_88 hK_0_89 hK_0_95 hK_0_102 hK_0_104 hK_0_105 hK_0_106 hK_0_108 hK_0_109 kz_0_79 kz_0_80 kz_0_81 kz_0_100 kz_0_101 kz_0_107
  refine ⟨(fun _ h => (by cases h)), [], trivial, ?_, (fun _ h => (by cases h))⟩
  rw [List.append_nil]
  exact List.forall_mem_cons.mpr ⟨⟨show (20 : Nat) < 100 from by decide, nf0⟩, List.forall_mem_cons.mpr ⟨⟨show (20 : Nat) < 100 from by decide, nf1⟩, List.forall_mem_cons.mpr ⟨⟨show (20 : Nat) < 100 from by decide, nf2⟩, (fun _ h => (by cases h))⟩⟩⟩
def n_Mo_across2_an : List an_T := [(20, [(0, (2, 0, 0, [150])), (1, (0, 0, 130, []))], [], (0, 0), [(0, 0, 99980), (1, 2, 130), (0, 0, 100000), (0, 0, 0), (0, 0, 0)], [], [], [(2, 0, 0, [150])], 0, [], [(20, [1], [60, 4, 6, 369, 5, 100, 101, 107, 2, 95, 102, 104, 108, 109]), (20, [1], [60, 2, 3, 372, 100, 101, 102, 105, 106]), (20, [1], [60, 1, 1, 122, 5, 2]), (20, [1], [50, 2, 0, 79, 100, 1, 3, 2, 0, 79, 2, 0, 100]), (20, [1], [60, 2, 4, 380, 79, 80, 83, 84, 85, 86]), (20, [1, 2], [50, 1, 0, 80, 1, 3, 2, 0, 80, 1, 1]), (20, [1], [50, 1, 0, 81, 1, 3, 2, 0, 81, 0, 0]), (24, [0, 1], [])]), (178, [(0, (2, 0, 0, [150])), (1, (0, 0, 76, []))], [], (0, 0), [(0, 0, 99822), (1, 2, 76), (0, 0, 100000), (0, 0, 0), (0, 0, 0)], [], [], [(2, 0, 0, [150])], 0, [], [(20, [1], [60, 4, 6, 369, 5, 100, 101, 107, 2, 95, 102, 104, 108, 109]), (20, [1], [60, 2, 3, 372, 100, 101, 102, 105, 106]), (20, [1], [60, 1, 1, 122, 5, 2]), (20, [1], [50, 2, 0, 79, 100, 1, 3, 2, 0, 79, 2, 0, 100]), (20, [1], [60, 2, 4, 380, 79, 80, 83, 84, 85, 86]), (20, [1], [50, 1, 0, 80, 0, 3, 2, 0, 80, 0, 130]), (20, [1, 2], [60, 2, 5, 392, 81, 101, 105, 106, 87, 88, 89]), (20, [1], [50, 1, 0, 81, 0, 3, 2, 0, 81, 0, 76]), (24, [0, 1], [])]), (188, [(0, (2, 0, 0, [150])), (1, (0, 0, 75, [])), (2, (0, 1, 76, []))], [], (0, 0), [(0, 0, 99822), (1, 2, 76), (0, 0, 99812), (1, 3, 76), (0, 0, 100000)], [], [], [(2, 0, 0, [150])], 0, [], [(20, [1], [60, 4, 6, 369, 5, 100, 101, 107, 2, 95, 102, 104, 108, 109]), (20, [1], [60, 2, 3, 372, 100, 101, 102, 105, 106]), (20, [1], [60, 1, 1, 122, 5, 2]), (20, [1], [50, 2, 0, 79, 100, 1, 3, 2, 0, 79, 2, 0, 100]), (20, [1], [60, 2, 4, 380, 79, 80, 83, 84, 85, 86]), (20, [1], [50, 1, 0, 80, 0, 3, 2, 0, 80, 0, 130]), (20, [1, 2, 3], [60, 2, 5, 393, 81, 101, 105, 106, 87, 88, 89]), (20, [1], [50, 1, 0, 81, 0, 3, 2, 0, 81, 0, 76]), (20, [2, 1], [50, 1, 0, 1101, 0, 6, 4, 2, 1, 0, 0, 1, 2, 1, 101]), (20, [3], [50, 0, 0, 0, 2, 0, 1, 1, 0]), (24, [0, 1], [])])]
def t_Mo_across2_ct : ct_L := [(1, 475, e_Mo_nodes), (1, 488, e_Mo_between), (1, 737, e_Mo_weight), (1, 827, e_Mo_rise), (1, 877, e_Mo_halfOf), (505, 821, e_Mo_cost_at_ga), (733, 825, e_Mo_apart_at_ga)]
set_option maxRecDepth 100000 in
theorem c_Mo_across2 {l : Launch} {D : va_G} {kA : Nat → ClassId} (h_Mo_apart_at_ga : ct_ok PRD l D kA GG y_Mo_apart_at_ga z_Mo_apart_at_ga e_Mo_apart_at_ga) (h_Mo_between : ct_ok PRD l D kA GG y_Mo_between z_Mo_between e_Mo_between) (h_Mo_cost_at_ga : ct_ok PRD l D kA GG y_Mo_cost_at_ga z_Mo_cost_at_ga e_Mo_cost_at_ga) (h_Mo_halfOf : ct_ok PRD l D kA GG y_Mo_halfOf z_Mo_halfOf e_Mo_halfOf) (h_Mo_nodes : ct_ok PRD l D kA GG y_Mo_nodes z_Mo_nodes e_Mo_nodes) (h_Mo_rise : ct_ok PRD l D kA GG y_Mo_rise z_Mo_rise e_Mo_rise) (h_Mo_weight : ct_ok PRD l D kA GG y_Mo_weight z_Mo_weight e_Mo_weight) : ct_ok PRD l D kA GG y_Mo_across2 z_Mo_across2 e_Mo_across2 := chk_all_ok (FT := [(225, 13, 103), (231, 13, 105), (234, 13, 106), (237, 13, 108), (240, 13, 109), (844, 13, 100), (847, 13, 107), (852, 13, 101)]) (PT := [(777, 13, 80, .int), (780, 13, 81, .int), (783, 13, 79, .int)]) (CT := t_Mo_across2_ct) (KT := []) (NT := []) (AN := n_Mo_across2_an) (OT := [o_Mo_across2_0, o_Mo_across2_1, o_Mo_across2_2, o_Mo_across2_3, o_Mo_across2_4, o_Mo_across2_5, o_Mo_across2_6, o_Mo_across2_7, o_Mo_across2_8, o_Mo_across2_9, o_Mo_across2_10, o_Mo_across2_11, o_Mo_across2_12, o_Mo_across2_13, o_Mo_across2_14, o_Mo_across2_15, o_Mo_across2_16, o_Mo_across2_17, o_Mo_across2_18, o_Mo_across2_19, o_Mo_across2_20, o_Mo_across2_21, o_Mo_across2_22]) 5 1096 (List.forall_mem_cons.mpr ⟨oo_Mo_across2_0, List.forall_mem_cons.mpr ⟨oo_Mo_across2_1, List.forall_mem_cons.mpr ⟨oo_Mo_across2_2, List.forall_mem_cons.mpr ⟨oo_Mo_across2_3, List.forall_mem_cons.mpr ⟨oo_Mo_across2_4, List.forall_mem_cons.mpr ⟨oo_Mo_across2_5, List.forall_mem_cons.mpr ⟨oo_Mo_across2_6, List.forall_mem_cons.mpr ⟨oo_Mo_across2_7, List.forall_mem_cons.mpr ⟨oo_Mo_across2_8, List.forall_mem_cons.mpr ⟨oo_Mo_across2_9, List.forall_mem_cons.mpr ⟨oo_Mo_across2_10, List.forall_mem_cons.mpr ⟨oo_Mo_across2_11, List.forall_mem_cons.mpr ⟨oo_Mo_across2_12, List.forall_mem_cons.mpr ⟨oo_Mo_across2_13, List.forall_mem_cons.mpr ⟨oo_Mo_across2_14, List.forall_mem_cons.mpr ⟨oo_Mo_across2_15, List.forall_mem_cons.mpr ⟨oo_Mo_across2_16, List.forall_mem_cons.mpr ⟨oo_Mo_across2_17, List.forall_mem_cons.mpr ⟨oo_Mo_across2_18, List.forall_mem_cons.mpr ⟨oo_Mo_across2_19, List.forall_mem_cons.mpr ⟨oo_Mo_across2_20, List.forall_mem_cons.mpr ⟨oo_Mo_across2_21, List.forall_mem_cons.mpr ⟨oo_Mo_across2_22, List.forall_mem_nil _⟩⟩⟩⟩⟩⟩⟩⟩⟩⟩⟩⟩⟩⟩⟩⟩⟩⟩⟩⟩⟩⟩⟩) (by decide +kernel) ⟨List.forall_mem_cons.mpr ⟨gf_Mo_225, List.forall_mem_cons.mpr ⟨gf_Mo_231, List.forall_mem_cons.mpr ⟨gf_Mo_234, List.forall_mem_cons.mpr ⟨gf_Mo_237, List.forall_mem_cons.mpr ⟨gf_Mo_240, List.forall_mem_cons.mpr ⟨gf_Mo_844, List.forall_mem_cons.mpr ⟨gf_Mo_847, List.forall_mem_cons.mpr ⟨gf_Mo_852, List.forall_mem_nil _⟩⟩⟩⟩⟩⟩⟩⟩, List.forall_mem_cons.mpr ⟨pf_Mo_777, List.forall_mem_cons.mpr ⟨pf_Mo_780, List.forall_mem_cons.mpr ⟨pf_Mo_783, List.forall_mem_nil _⟩⟩⟩, List.forall_mem_cons.mpr ⟨cl_virtual (y := y_Mo_nodes) (ci := 13) rfl rfl ⟨_, _, rfl⟩ (by decide +kernel) h_Mo_nodes wm_3025 wm_9 wm_3022 wm_3024 wv_13_3 ⟨by decide, by decide, by decide +kernel⟩ (by decide), List.forall_mem_cons.mpr ⟨cl_virtual (y := y_Mo_between) (ci := 13) rfl rfl ⟨_, _, rfl⟩ (by decide +kernel) h_Mo_between wm_3033 wm_9 wm_3030 wm_3032 wv_13_5 ⟨by decide, by decide, by decide +kernel⟩ (by decide), List.forall_mem_cons.mpr ⟨cl_virtual (y := y_Mo_weight) (ci := 13) rfl rfl ⟨_, _, rfl⟩ (by decide +kernel) h_Mo_weight wm_3339 wm_9 wm_3336 wm_3338 wv_17_7 ⟨by decide, by decide, by decide +kernel⟩ (by decide), List.forall_mem_cons.mpr ⟨cl_virtual (y := y_Mo_rise) (ci := 13) rfl rfl ⟨_, _, rfl⟩ (by decide +kernel) h_Mo_rise wm_3411 wm_9 wm_3408 wm_3410 wv_18_5 ⟨by decide, by decide, by decide +kernel⟩ (by decide), List.forall_mem_cons.mpr ⟨cl_virtual (y := y_Mo_halfOf) (ci := 13) rfl rfl ⟨_, _, rfl⟩ (by decide +kernel) h_Mo_halfOf wm_3474 wm_9 wm_3471 wm_3473 wv_19_4 ⟨by decide, by decide, by decide +kernel⟩ (by decide), List.forall_mem_cons.mpr ⟨cl_virtual (y := y_Mo_cost_at_ga) (ci := 13) rfl rfl ⟨_, _, rfl⟩ (by decide +kernel) h_Mo_cost_at_ga wm_3403 wm_9 wm_3400 wm_3402 wv_18_3 ⟨by decide, by decide, by decide +kernel⟩ (by decide), List.forall_mem_cons.mpr ⟨cl_virtual (y := y_Mo_apart_at_ga) (ci := 13) rfl rfl ⟨_, _, rfl⟩ (by decide +kernel) h_Mo_apart_at_ga wm_3407 wm_9 wm_3404 wm_3406 wv_18_4 ⟨by decide, by decide, by decide +kernel⟩ (by decide), List.forall_mem_nil _⟩⟩⟩⟩⟩⟩⟩, List.forall_mem_nil _, List.forall_mem_nil _, GG_pl⟩ (by decide +kernel)
