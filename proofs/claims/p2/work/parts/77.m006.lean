set_option maxHeartbeats 4000000 in
theorem vc_Mo_list_0_0 (x1 : Int) (x2 : Int) (x3 : Int) (all_0 : Int → Int) (turned_0 : Int → Int) (itemLayer_0 : Int → Int) (r_0 : Int) (all_1 : Int → Int) (turned_1 : Int → Int) (itemLayer_1 : Int → Int) (r_1 : Int) (all_2 : Int → Int) (turned_2 : Int → Int) (itemLayer_2 : Int → Int) (r_2 : Int) (items_0 : Int) (items_1 : Int) (lines_0 : Int) (lines_1 : Int) (lines_2 : Int) (firstJoint_0 : Int → Int) (firstJoint_1 : Int → Int) (firstJoint_2 : Int → Int) (lineA_0 : Int → Int) (lineA_1 : Int → Int) (lineA_2 : Int → Int) (lineB_0 : Int → Int) (lineB_1 : Int → Int) (lineB_2 : Int → Int) (k1 : 0 ≤ x1 ∧ x1 ≤ 24) (k2 : 0 ≤ x2 ∧ x2 ≤ 0) (k3 : 0 ≤ x3 ∧ x3 ≤ 0) (f0 : LYJ (r_0) (all_0) (turned_0) (itemLayer_0)) (f1 : x1 = all_0 (r_0)) (f3 : LYJ (r_1) (all_1) (turned_1) (itemLayer_1)) (f4 : x1 = all_1 (r_1)) (f6 : LYJ (r_2) (all_2) (turned_2) (itemLayer_2)) (f7 : x1 = all_2 (r_2)) (fe_0_5_1 : r_0 = r_1) (fe_0_100_1 : items_0 = items_1) (fe_0_107_1 : lines_0 = x2) (fe_0_5_2 : r_1 = r_2) (fe_0_100_2 : items_1 = x1) (fe_0_107_2 : lines_1 = lines_2) (hE_0_2_1 : ∀ j : Int, all_0 j = all_1 j) (hE_0_2_2 : ∀ j : Int, all_1 j = all_2 j) (hE_0_95_1 : ∀ j : Int, turned_0 j = turned_1 j) (hE_0_95_2 : ∀ j : Int, turned_1 j = turned_2 j) (hK_0_95 : ∀ j : Int, 0 ≤ j → j < 48 → 0 ≤ turned_0 j ∧ turned_0 j ≤ 1) (hE_0_102_1 : ∀ j : Int, itemLayer_0 j = itemLayer_1 j) (hE_0_102_2 : ∀ j : Int, itemLayer_1 j = itemLayer_2 j) (hK_0_102 : ∀ j : Int, 0 ≤ j → j < 76 → 0 ≤ itemLayer_0 j ∧ itemLayer_0 j ≤ 75) (hE_0_104_1 : ∀ j : Int, firstJoint_0 j = firstJoint_1 j) (hE_0_104_2 : ∀ j : Int, firstJoint_1 j = firstJoint_2 j) (hK_0_104 : ∀ j : Int, 0 ≤ j → j < 48 → 0 ≤ firstJoint_0 j ∧ firstJoint_0 j ≤ 76) (hE_0_108_1 : ∀ j : Int, lineA_0 j = lineA_1 j) (hE_0_108_2 : ∀ j : Int, lineA_1 j = lineA_2 j) (hK_0_108 : ∀ j : Int, 0 ≤ j → j < 130 → 0 ≤ lineA_0 j ∧ lineA_0 j ≤ 75) (hE_0_109_1 : ∀ j : Int, lineB_0 j = lineB_1 j) (hE_0_109_2 : ∀ j : Int, lineB_1 j = lineB_2 j) (hK_0_109 : ∀ j : Int, 0 ≤ j → j < 130 → 0 ≤ lineB_0 j ∧ lineB_0 j ≤ 75) (kz_0_100 : 0 ≤ items_0 ∧ items_0 ≤ 76) (kz_0_107 : 0 ≤ lines_0 ∧ lines_0 ≤ 130) : LIC (r_0) (items_0) (all_0) (turned_0) (itemLayer_0) (firstJoint_0) (x3) := by
  subst fe_0_5_1
  subst fe_0_100_1
  subst fe_0_5_2
  subst fe_0_107_2
  have e_hE_0_2_1 := funext hE_0_2_1; subst e_hE_0_2_1
  have e_hE_0_2_2 := funext hE_0_2_2; subst e_hE_0_2_2
  have e_hE_0_95_1 := funext hE_0_95_1; subst e_hE_0_95_1
  have e_hE_0_95_2 := funext hE_0_95_2; subst e_hE_0_95_2
  have e_hE_0_102_1 := funext hE_0_102_1; subst e_hE_0_102_1
  have e_hE_0_102_2 := funext hE_0_102_2; subst e_hE_0_102_2
  have e_hE_0_104_1 := funext hE_0_104_1; subst e_hE_0_104_1
  have e_hE_0_104_2 := funext hE_0_104_2; subst e_hE_0_104_2
  have e_hE_0_108_1 := funext hE_0_108_1; subst e_hE_0_108_1
  have e_hE_0_108_2 := funext hE_0_108_2; subst e_hE_0_108_2
  have e_hE_0_109_1 := funext hE_0_109_1; subst e_hE_0_109_1
  have e_hE_0_109_2 := funext hE_0_109_2; subst e_hE_0_109_2
  try simp only [Int.add_zero] at *
  first
    | exact lic_zero ‹LYJ _ _ _ _› (by omega) (by omega)
    | exact lig_next ‹LIG _ _ _ _ _ _ _ _ _› (by assumption)
set_option maxHeartbeats 4000000 in
theorem vc_Mo_list_0_1 (x1 : Int) (x2 : Int) (x3 : Int) (all_0 : Int → Int) (turned_0 : Int → Int) (itemLayer_0 : Int → Int) (r_0 : Int) (all_1 : Int → Int) (turned_1 : Int → Int) (itemLayer_1 : Int → Int) (r_1 : Int) (all_2 : Int → Int) (turned_2 : Int → Int) (itemLayer_2 : Int → Int) (r_2 : Int) (items_0 : Int) (items_1 : Int) (lines_0 : Int) (lines_1 : Int) (lines_2 : Int) (firstJoint_0 : Int → Int) (firstJoint_1 : Int → Int) (firstJoint_2 : Int → Int) (lineA_0 : Int → Int) (lineA_1 : Int → Int) (lineA_2 : Int → Int) (lineB_0 : Int → Int) (lineB_1 : Int → Int) (lineB_2 : Int → Int) (k1 : 0 ≤ x1 ∧ x1 ≤ 24) (k2 : 0 ≤ x2 ∧ x2 ≤ 0) (k3 : 0 ≤ x3 ∧ x3 ≤ 0) (f0 : LYJ (r_0) (all_0) (turned_0) (itemLayer_0)) (f1 : x1 = all_0 (r_0)) (f3 : LYJ (r_1) (all_1) (turned_1) (itemLayer_1)) (f4 : x1 = all_1 (r_1)) (f6 : LYJ (r_2) (all_2) (turned_2) (itemLayer_2)) (f7 : x1 = all_2 (r_2)) (fe_0_5_1 : r_0 = r_1) (fe_0_100_1 : items_0 = items_1) (fe_0_107_1 : lines_0 = x2) (fe_0_5_2 : r_1 = r_2) (fe_0_100_2 : items_1 = x1) (fe_0_107_2 : lines_1 = lines_2) (hE_0_2_1 : ∀ j : Int, all_0 j = all_1 j) (hE_0_2_2 : ∀ j : Int, all_1 j = all_2 j) (hE_0_95_1 : ∀ j : Int, turned_0 j = turned_1 j) (hE_0_95_2 : ∀ j : Int, turned_1 j = turned_2 j) (hK_0_95 : ∀ j : Int, 0 ≤ j → j < 48 → 0 ≤ turned_0 j ∧ turned_0 j ≤ 1) (hE_0_102_1 : ∀ j : Int, itemLayer_0 j = itemLayer_1 j) (hE_0_102_2 : ∀ j : Int, itemLayer_1 j = itemLayer_2 j) (hK_0_102 : ∀ j : Int, 0 ≤ j → j < 76 → 0 ≤ itemLayer_0 j ∧ itemLayer_0 j ≤ 75) (hE_0_104_1 : ∀ j : Int, firstJoint_0 j = firstJoint_1 j) (hE_0_104_2 : ∀ j : Int, firstJoint_1 j = firstJoint_2 j) (hK_0_104 : ∀ j : Int, 0 ≤ j → j < 48 → 0 ≤ firstJoint_0 j ∧ firstJoint_0 j ≤ 76) (hE_0_108_1 : ∀ j : Int, lineA_0 j = lineA_1 j) (hE_0_108_2 : ∀ j : Int, lineA_1 j = lineA_2 j) (hK_0_108 : ∀ j : Int, 0 ≤ j → j < 130 → 0 ≤ lineA_0 j ∧ lineA_0 j ≤ 75) (hE_0_109_1 : ∀ j : Int, lineB_0 j = lineB_1 j) (hE_0_109_2 : ∀ j : Int, lineB_1 j = lineB_2 j) (hK_0_109 : ∀ j : Int, 0 ≤ j → j < 130 → 0 ≤ lineB_0 j ∧ lineB_0 j ≤ 75) (kz_0_100 : 0 ≤ items_0 ∧ items_0 ≤ 76) (kz_0_107 : 0 ≤ lines_0 ∧ lines_0 ≤ 130) : LNP (r_0) (lines_0) (items_0) (all_0) (itemLayer_0) (lineA_0) (lineB_0) := by
  subst fe_0_5_1
  subst fe_0_100_1
  subst fe_0_5_2
  subst fe_0_107_2
  have e_hE_0_2_1 := funext hE_0_2_1; subst e_hE_0_2_1
  have e_hE_0_2_2 := funext hE_0_2_2; subst e_hE_0_2_2
  have e_hE_0_95_1 := funext hE_0_95_1; subst e_hE_0_95_1
  have e_hE_0_95_2 := funext hE_0_95_2; subst e_hE_0_95_2
  have e_hE_0_102_1 := funext hE_0_102_1; subst e_hE_0_102_1
  have e_hE_0_102_2 := funext hE_0_102_2; subst e_hE_0_102_2
  have e_hE_0_104_1 := funext hE_0_104_1; subst e_hE_0_104_1
  have e_hE_0_104_2 := funext hE_0_104_2; subst e_hE_0_104_2
  have e_hE_0_108_1 := funext hE_0_108_1; subst e_hE_0_108_1
  have e_hE_0_108_2 := funext hE_0_108_2; subst e_hE_0_108_2
  have e_hE_0_109_1 := funext hE_0_109_1; subst e_hE_0_109_1
  have e_hE_0_109_2 := funext hE_0_109_2; subst e_hE_0_109_2
  first
    | assumption
    | (intro p a b; exfalso; omega)
set_option maxHeartbeats 4000000 in
theorem vc_Mo_list_0_2 (x1 : Int) (x2 : Int) (x3 : Int) (all_0 : Int → Int) (turned_0 : Int → Int) (itemLayer_0 : Int → Int) (r_0 : Int) (all_1 : Int → Int) (turned_1 : Int → Int) (itemLayer_1 : Int → Int) (r_1 : Int) (all_2 : Int → Int) (turned_2 : Int → Int) (itemLayer_2 : Int → Int) (r_2 : Int) (items_0 : Int) (items_1 : Int) (lines_0 : Int) (lines_1 : Int) (lines_2 : Int) (firstJoint_0 : Int → Int) (firstJoint_1 : Int → Int) (firstJoint_2 : Int → Int) (lineA_0 : Int → Int) (lineA_1 : Int → Int) (lineA_2 : Int → Int) (lineB_0 : Int → Int) (lineB_1 : Int → Int) (lineB_2 : Int → Int) (k1 : 0 ≤ x1 ∧ x1 ≤ 24) (k2 : 0 ≤ x2 ∧ x2 ≤ 0) (k3 : 0 ≤ x3 ∧ x3 ≤ 0) (f0 : LYJ (r_0) (all_0) (turned_0) (itemLayer_0)) (f1 : x1 = all_0 (r_0)) (f3 : LYJ (r_1) (all_1) (turned_1) (itemLayer_1)) (f4 : x1 = all_1 (r_1)) (f6 : LYJ (r_2) (all_2) (turned_2) (itemLayer_2)) (f7 : x1 = all_2 (r_2)) (fe_0_5_1 : r_0 = r_1) (fe_0_100_1 : items_0 = items_1) (fe_0_107_1 : lines_0 = x2) (fe_0_5_2 : r_1 = r_2) (fe_0_100_2 : items_1 = x1) (fe_0_107_2 : lines_1 = lines_2) (hE_0_2_1 : ∀ j : Int, all_0 j = all_1 j) (hE_0_2_2 : ∀ j : Int, all_1 j = all_2 j) (hE_0_95_1 : ∀ j : Int, turned_0 j = turned_1 j) (hE_0_95_2 : ∀ j : Int, turned_1 j = turned_2 j) (hK_0_95 : ∀ j : Int, 0 ≤ j → j < 48 → 0 ≤ turned_0 j ∧ turned_0 j ≤ 1) (hE_0_102_1 : ∀ j : Int, itemLayer_0 j = itemLayer_1 j) (hE_0_102_2 : ∀ j : Int, itemLayer_1 j = itemLayer_2 j) (hK_0_102 : ∀ j : Int, 0 ≤ j → j < 76 → 0 ≤ itemLayer_0 j ∧ itemLayer_0 j ≤ 75) (hE_0_104_1 : ∀ j : Int, firstJoint_0 j = firstJoint_1 j) (hE_0_104_2 : ∀ j : Int, firstJoint_1 j = firstJoint_2 j) (hK_0_104 : ∀ j : Int, 0 ≤ j → j < 48 → 0 ≤ firstJoint_0 j ∧ firstJoint_0 j ≤ 76) (hE_0_108_1 : ∀ j : Int, lineA_0 j = lineA_1 j) (hE_0_108_2 : ∀ j : Int, lineA_1 j = lineA_2 j) (hK_0_108 : ∀ j : Int, 0 ≤ j → j < 130 → 0 ≤ lineA_0 j ∧ lineA_0 j ≤ 75) (hE_0_109_1 : ∀ j : Int, lineB_0 j = lineB_1 j) (hE_0_109_2 : ∀ j : Int, lineB_1 j = lineB_2 j) (hK_0_109 : ∀ j : Int, 0 ≤ j → j < 130 → 0 ≤ lineB_0 j ∧ lineB_0 j ≤ 75) (kz_0_100 : 0 ≤ items_0 ∧ items_0 ≤ 76) (kz_0_107 : 0 ≤ lines_0 ∧ lines_0 ≤ 130) : lines_0 = ((items_0 - all_0 (r_0)) + x3) := by
  subst fe_0_5_1
  subst fe_0_100_1
  subst fe_0_5_2
  subst fe_0_107_2
  have e_hE_0_2_1 := funext hE_0_2_1; subst e_hE_0_2_1
  have e_hE_0_2_2 := funext hE_0_2_2; subst e_hE_0_2_2
  have e_hE_0_95_1 := funext hE_0_95_1; subst e_hE_0_95_1
  have e_hE_0_95_2 := funext hE_0_95_2; subst e_hE_0_95_2
  have e_hE_0_102_1 := funext hE_0_102_1; subst e_hE_0_102_1
  have e_hE_0_102_2 := funext hE_0_102_2; subst e_hE_0_102_2
  have e_hE_0_104_1 := funext hE_0_104_1; subst e_hE_0_104_1
  have e_hE_0_104_2 := funext hE_0_104_2; subst e_hE_0_104_2
  have e_hE_0_108_1 := funext hE_0_108_1; subst e_hE_0_108_1
  have e_hE_0_108_2 := funext hE_0_108_2; subst e_hE_0_108_2
  have e_hE_0_109_1 := funext hE_0_109_1; subst e_hE_0_109_1
  have e_hE_0_109_2 := funext hE_0_109_2; subst e_hE_0_109_2
  try simp only [Int.add_zero] at *
  first
    | omega
    | (have h := lid_bd ‹LID _ _ _ _ _ _ _ _ _›; omega)
    | (have h := ‹LYJ _ _ _ _›.1.1.1; omega)
    | (have h := (lic_bd ‹LIC _ _ _ _ _ _ _›).1; omega)
    | (have h := (lic_bd ‹LIF _ _ _ _ _ _›).1; omega)
    | (have h := ‹LSA _ _ _ _ _ _ _ _ _ _›.2.1; omega)
    | (have h := lli_bd ‹LLI _ _ _ _ _ _›; have h2 := ‹LSA _ _ _ _ _ _ _ _ _ _›.2.1; omega)
set_option maxHeartbeats 4000000 in
theorem vc_Mo_list_0_3 (x1 : Int) (x2 : Int) (x3 : Int) (all_0 : Int → Int) (turned_0 : Int → Int) (itemLayer_0 : Int → Int) (r_0 : Int) (all_1 : Int → Int) (turned_1 : Int → Int) (itemLayer_1 : Int → Int) (r_1 : Int) (all_2 : Int → Int) (turned_2 : Int → Int) (itemLayer_2 : Int → Int) (r_2 : Int) (items_0 : Int) (items_1 : Int) (lines_0 : Int) (lines_1 : Int) (lines_2 : Int) (firstJoint_0 : Int → Int) (firstJoint_1 : Int → Int) (firstJoint_2 : Int → Int) (lineA_0 : Int → Int) (lineA_1 : Int → Int) (lineA_2 : Int → Int) (lineB_0 : Int → Int) (lineB_1 : Int → Int) (lineB_2 : Int → Int) (k1 : 0 ≤ x1 ∧ x1 ≤ 24) (k2 : 0 ≤ x2 ∧ x2 ≤ 0) (k3 : 0 ≤ x3 ∧ x3 ≤ 0) (f0 : LYJ (r_0) (all_0) (turned_0) (itemLayer_0)) (f1 : x1 = all_0 (r_0)) (f3 : LYJ (r_1) (all_1) (turned_1) (itemLayer_1)) (f4 : x1 = all_1 (r_1)) (f6 : LYJ (r_2) (all_2) (turned_2) (itemLayer_2)) (f7 : x1 = all_2 (r_2)) (fe_0_5_1 : r_0 = r_1) (fe_0_100_1 : items_0 = items_1) (fe_0_107_1 : lines_0 = x2) (fe_0_5_2 : r_1 = r_2) (fe_0_100_2 : items_1 = x1) (fe_0_107_2 : lines_1 = lines_2) (hE_0_2_1 : ∀ j : Int, all_0 j = all_1 j) (hE_0_2_2 : ∀ j : Int, all_1 j = all_2 j) (hE_0_95_1 : ∀ j : Int, turned_0 j = turned_1 j) (hE_0_95_2 : ∀ j : Int, turned_1 j = turned_2 j) (hK_0_95 : ∀ j : Int, 0 ≤ j → j < 48 → 0 ≤ turned_0 j ∧ turned_0 j ≤ 1) (hE_0_102_1 : ∀ j : Int, itemLayer_0 j = itemLayer_1 j) (hE_0_102_2 : ∀ j : Int, itemLayer_1 j = itemLayer_2 j) (hK_0_102 : ∀ j : Int, 0 ≤ j → j < 76 → 0 ≤ itemLayer_0 j ∧ itemLayer_0 j ≤ 75) (hE_0_104_1 : ∀ j : Int, firstJoint_0 j = firstJoint_1 j) (hE_0_104_2 : ∀ j : Int, firstJoint_1 j = firstJoint_2 j) (hK_0_104 : ∀ j : Int, 0 ≤ j → j < 48 → 0 ≤ firstJoint_0 j ∧ firstJoint_0 j ≤ 76) (hE_0_108_1 : ∀ j : Int, lineA_0 j = lineA_1 j) (hE_0_108_2 : ∀ j : Int, lineA_1 j = lineA_2 j) (hK_0_108 : ∀ j : Int, 0 ≤ j → j < 130 → 0 ≤ lineA_0 j ∧ lineA_0 j ≤ 75) (hE_0_109_1 : ∀ j : Int, lineB_0 j = lineB_1 j) (hE_0_109_2 : ∀ j : Int, lineB_1 j = lineB_2 j) (hK_0_109 : ∀ j : Int, 0 ≤ j → j < 130 → 0 ≤ lineB_0 j ∧ lineB_0 j ≤ 75) (kz_0_100 : 0 ≤ items_0 ∧ items_0 ≤ 76) (kz_0_107 : 0 ≤ lines_0 ∧ lines_0 ≤ 130) : x3 ≤ all_0 ((r_0 + 1)) := by
  subst fe_0_5_1
  subst fe_0_100_1
  subst fe_0_5_2
  subst fe_0_107_2
  have e_hE_0_2_1 := funext hE_0_2_1; subst e_hE_0_2_1
  have e_hE_0_2_2 := funext hE_0_2_2; subst e_hE_0_2_2
  have e_hE_0_95_1 := funext hE_0_95_1; subst e_hE_0_95_1
  have e_hE_0_95_2 := funext hE_0_95_2; subst e_hE_0_95_2
  have e_hE_0_102_1 := funext hE_0_102_1; subst e_hE_0_102_1
  have e_hE_0_102_2 := funext hE_0_102_2; subst e_hE_0_102_2
  have e_hE_0_104_1 := funext hE_0_104_1; subst e_hE_0_104_1
  have e_hE_0_104_2 := funext hE_0_104_2; subst e_hE_0_104_2
  have e_hE_0_108_1 := funext hE_0_108_1; subst e_hE_0_108_1
  have e_hE_0_108_2 := funext hE_0_108_2; subst e_hE_0_108_2
  have e_hE_0_109_1 := funext hE_0_109_1; subst e_hE_0_109_1
  have e_hE_0_109_2 := funext hE_0_109_2; subst e_hE_0_109_2
  try simp only [Int.add_zero] at *
  first
    | omega
    | (have h := lid_bd ‹LID _ _ _ _ _ _ _ _ _›; omega)
    | (have h := ‹LYJ _ _ _ _›.1.1.1; omega)
    | (have h := (lic_bd ‹LIC _ _ _ _ _ _ _›).1; omega)
    | (have h := (lic_bd ‹LIF _ _ _ _ _ _›).1; omega)
    | (have h := ‹LSA _ _ _ _ _ _ _ _ _ _›.2.1; omega)
    | (have h := lli_bd ‹LLI _ _ _ _ _ _›; have h2 := ‹LSA _ _ _ _ _ _ _ _ _ _›.2.1; omega)
set_option maxHeartbeats 4000000 in
theorem vc_Mo_list_0_4 (x1 : Int) (x2 : Int) (x3 : Int) (all_0 : Int → Int) (turned_0 : Int → Int) (itemLayer_0 : Int → Int) (r_0 : Int) (all_1 : Int → Int) (turned_1 : Int → Int) (itemLayer_1 : Int → Int) (r_1 : Int) (all_2 : Int → Int) (turned_2 : Int → Int) (itemLayer_2 : Int → Int) (r_2 : Int) (items_0 : Int) (items_1 : Int) (lines_0 : Int) (lines_1 : Int) (lines_2 : Int) (firstJoint_0 : Int → Int) (firstJoint_1 : Int → Int) (firstJoint_2 : Int → Int) (lineA_0 : Int → Int) (lineA_1 : Int → Int) (lineA_2 : Int → Int) (lineB_0 : Int → Int) (lineB_1 : Int → Int) (lineB_2 : Int → Int) (k1 : 0 ≤ x1 ∧ x1 ≤ 24) (k2 : 0 ≤ x2 ∧ x2 ≤ 0) (k3 : 0 ≤ x3 ∧ x3 ≤ 0) (f0 : LYJ (r_0) (all_0) (turned_0) (itemLayer_0)) (f1 : x1 = all_0 (r_0)) (f3 : LYJ (r_1) (all_1) (turned_1) (itemLayer_1)) (f4 : x1 = all_1 (r_1)) (f6 : LYJ (r_2) (all_2) (turned_2) (itemLayer_2)) (f7 : x1 = all_2 (r_2)) (fe_0_5_1 : r_0 = r_1) (fe_0_100_1 : items_0 = items_1) (fe_0_107_1 : lines_0 = x2) (fe_0_5_2 : r_1 = r_2) (fe_0_100_2 : items_1 = x1) (fe_0_107_2 : lines_1 = lines_2) (hE_0_2_1 : ∀ j : Int, all_0 j = all_1 j) (hE_0_2_2 : ∀ j : Int, all_1 j = all_2 j) (hE_0_95_1 : ∀ j : Int, turned_0 j = turned_1 j) (hE_0_95_2 : ∀ j : Int, turned_1 j = turned_2 j) (hK_0_95 : ∀ j : Int, 0 ≤ j → j < 48 → 0 ≤ turned_0 j ∧ turned_0 j ≤ 1) (hE_0_102_1 : ∀ j : Int, itemLayer_0 j = itemLayer_1 j) (hE_0_102_2 : ∀ j : Int, itemLayer_1 j = itemLayer_2 j) (hK_0_102 : ∀ j : Int, 0 ≤ j → j < 76 → 0 ≤ itemLayer_0 j ∧ itemLayer_0 j ≤ 75) (hE_0_104_1 : ∀ j : Int, firstJoint_0 j = firstJoint_1 j) (hE_0_104_2 : ∀ j : Int, firstJoint_1 j = firstJoint_2 j) (hK_0_104 : ∀ j : Int, 0 ≤ j → j < 48 → 0 ≤ firstJoint_0 j ∧ firstJoint_0 j ≤ 76) (hE_0_108_1 : ∀ j : Int, lineA_0 j = lineA_1 j) (hE_0_108_2 : ∀ j : Int, lineA_1 j = lineA_2 j) (hK_0_108 : ∀ j : Int, 0 ≤ j → j < 130 → 0 ≤ lineA_0 j ∧ lineA_0 j ≤ 75) (hE_0_109_1 : ∀ j : Int, lineB_0 j = lineB_1 j) (hE_0_109_2 : ∀ j : Int, lineB_1 j = lineB_2 j) (hK_0_109 : ∀ j : Int, 0 ≤ j → j < 130 → 0 ≤ lineB_0 j ∧ lineB_0 j ≤ 75) (kz_0_100 : 0 ≤ items_0 ∧ items_0 ≤ 76) (kz_0_107 : 0 ≤ lines_0 ∧ lines_0 ≤ 130) : 0 ≤ all_0 (r_0) := by
  subst fe_0_5_1
  subst fe_0_100_1
  subst fe_0_5_2
  subst fe_0_107_2
  have e_hE_0_2_1 := funext hE_0_2_1; subst e_hE_0_2_1
  have e_hE_0_2_2 := funext hE_0_2_2; subst e_hE_0_2_2
  have e_hE_0_95_1 := funext hE_0_95_1; subst e_hE_0_95_1
  have e_hE_0_95_2 := funext hE_0_95_2; subst e_hE_0_95_2
  have e_hE_0_102_1 := funext hE_0_102_1; subst e_hE_0_102_1
  have e_hE_0_102_2 := funext hE_0_102_2; subst e_hE_0_102_2
  have e_hE_0_104_1 := funext hE_0_104_1; subst e_hE_0_104_1
  have e_hE_0_104_2 := funext hE_0_104_2; subst e_hE_0_104_2
  have e_hE_0_108_1 := funext hE_0_108_1; subst e_hE_0_108_1
  have e_hE_0_108_2 := funext hE_0_108_2; subst e_hE_0_108_2
  have e_hE_0_109_1 := funext hE_0_109_1; subst e_hE_0_109_1
  have e_hE_0_109_2 := funext hE_0_109_2; subst e_hE_0_109_2
  try simp only [Int.add_zero] at *
  first
    | omega
    | (have h := lid_bd ‹LID _ _ _ _ _ _ _ _ _›; omega)
    | (have h := ‹LYJ _ _ _ _›.1.1.1; omega)
    | (have h := (lic_bd ‹LIC _ _ _ _ _ _ _›).1; omega)
    | (have h := (lic_bd ‹LIF _ _ _ _ _ _›).1; omega)
    | (have h := ‹LSA _ _ _ _ _ _ _ _ _ _›.2.1; omega)
    | (have h := lli_bd ‹LLI _ _ _ _ _ _›; have h2 := ‹LSA _ _ _ _ _ _ _ _ _ _›.2.1; omega)
def o_Mo_list_0 : or_T := (12, 4, [(0, (2, 0, 0, [150])), (1, (0, 0, 24, [])), (2, (0, 0, 0, [])), (3, (0, 0, 0, []))], [(20, [0], [60, 1, 3, 362, 5, 2, 95, 102]), (20, [1, 0], [50, 1, 1, 1005, 1002, 1, 2, 1, 0, 3, 1, 2, 2, 1, 5]), (101, [0, 2], [107]), (20, [0], [60, 1, 3, 362, 5, 2, 95, 102]), (20, [1, 0], [50, 1, 1, 1005, 1002, 1, 2, 1, 0, 3, 1, 2, 2, 1, 5]), (101, [0, 1], [100]), (20, [0], [60, 1, 3, 362, 5, 2, 95, 102]), (20, [1, 0], [50, 1, 1, 1005, 1002, 1, 2, 1, 0, 3, 1, 2, 2, 1, 5])], [], [], [(20, [0, 3], [60, 2, 4, 365, 5, 100, 2, 95, 102, 104]), (20, [0], [60, 3, 4, 363, 5, 107, 100, 2, 102, 108, 109]), (20, [0, 3], [50, 3, 1, 107, 100, 5, 2, 1, 3, 2, 0, 107, 4, 11, 5, 3, 2, 0, 100, 3, 0, 2, 2, 0, 5, 1, 1]), (20, [3, 0], [50, 1, 1, 1005, 1002, 0, 2, 1, 0, 3, 1, 2, 4, 3, 2, 1, 5, 0, 1]), (20, [0], [50, 1, 1, 5, 2, 0, 2, 0, 0, 3, 0, 2, 2, 0, 5]), (24, [0, 0], [])], [], [])
theorem oo_Mo_list_0 {kA : Nat → ClassId} : or_ok PRD kA GG o_Mo_list_0 := by
  intro A ta ws vs hD hth hl hk hds hf
  have hl : vs.length = 4 := hl
  have hk : ∀ q ∈ ([(0, (2, 0, 0, [150])), (1, (0, 0, 24, [])), (2, (0, 0, 0, [])), (3, (0, 0, 0, []))] : List (Nat × tv_T)), tv_ok ta q.2 (n_v vs q.1) := hk
  obtain ⟨t0, hk⟩ := List.forall_mem_cons.mp hk
  have t0 : tv_ok ta (2, 0, 0, [150]) (n_v vs 0) := t0
  have r0 : ta (v_ad (n_v vs 0)) = some 150 := tv_rg t0
  obtain ⟨t1, hk⟩ := List.forall_mem_cons.mp hk
  have t1 : tv_ok ta (0, 0, 24, []) (n_v vs 1) := t1
  have k1 : 0 ≤ v_iv (n_v vs 1) ∧ v_iv (n_v vs 1) ≤ 24 := tv_rng t1
  obtain ⟨t2, hk⟩ := List.forall_mem_cons.mp hk
  have t2 : tv_ok ta (0, 0, 0, []) (n_v vs 2) := t2
  have k2 : 0 ≤ v_iv (n_v vs 2) ∧ v_iv (n_v vs 2) ≤ 0 := tv_rng t2
  obtain ⟨t3, hk⟩ := List.forall_mem_cons.mp hk
  have t3 : tv_ok ta (0, 0, 0, []) (n_v vs 3) := t3
  have k3 : 0 ≤ v_iv (n_v vs 3) ∧ v_iv (n_v vs 3) ≤ 0 := tv_rng t3
  have hf : fc_ok PRD [(20, [0], [60, 1, 3, 362, 5, 2, 95, 102]), (20, [1, 0], [50, 1, 1, 1005, 1002, 1, 2, 1, 0, 3, 1, 2, 2, 1, 5]), (101, [0, 2], [107]), (20, [0], [60, 1, 3, 362, 5, 2, 95, 102]), (20, [1, 0], [50, 1, 1, 1005, 1002, 1, 2, 1, 0, 3, 1, 2, 2, 1, 5]), (101, [0, 1], [100]), (20, [0], [60, 1, 3, 362, 5, 2, 95, 102]), (20, [1, 0], [50, 1, 1, 1005, 1002, 1, 2, 1, 0, 3, 1, 2, 2, 1, 5])] ta ws vs := hf
  obtain ⟨f0, hf⟩ := fc_un (show (20 : Nat) < 100 from by decide) hf
  have f0 : LYJ (w_fi ws (n_v vs 0) 5) (w_ei ws (w_ar ws (n_v vs 0) 2)) (w_ei ws (w_ar ws (n_v vs 0) 95)) (w_ei ws (w_ar ws (n_v vs 0) 102)) := f0
  obtain ⟨f1, hf⟩ := fc_un (show (20 : Nat) < 100 from by decide) hf
  have f1 : v_iv (n_v vs 1) = w_ei ws (w_ar ws (n_v vs 0) 2) (w_fi ws (n_v vs 0) 5) := f1
  obtain ⟨ta1, w1, le1, ⟨_, s1⟩, hf⟩ := fc_us (show ¬ (101 : Nat) < 100 from by decide) hf
  have s1 : (∀ b j, w_el ws b j = w_el w1 b j) ∧ ∀ b j, w_fd ws b j = if b = v_ad (n_v vs 0) ∧ j = 107 then n_v vs 2 else w_fd w1 b j := s1
  obtain ⟨f3, hf⟩ := fc_un (show (20 : Nat) < 100 from by decide) hf
  have f3 : LYJ (w_fi w1 (n_v vs 0) 5) (w_ei w1 (w_ar w1 (n_v vs 0) 2)) (w_ei w1 (w_ar w1 (n_v vs 0) 95)) (w_ei w1 (w_ar w1 (n_v vs 0) 102)) := f3
  obtain ⟨f4, hf⟩ := fc_un (show (20 : Nat) < 100 from by decide) hf
  have f4 : v_iv (n_v vs 1) = w_ei w1 (w_ar w1 (n_v vs 0) 2) (w_fi w1 (n_v vs 0) 5) := f4
  obtain ⟨ta2, w2, le2, ⟨_, s2⟩, hf⟩ := fc_us (show ¬ (101 : Nat) < 100 from by decide) hf
  have s2 : (∀ b j, w_el w1 b j = w_el w2 b j) ∧ ∀ b j, w_fd w1 b j = if b = v_ad (n_v vs 0) ∧ j = 100 then n_v vs 1 else w_fd w2 b j := s2
  obtain ⟨f6, hf⟩ := fc_un (show (20 : Nat) < 100 from by decide) hf
  have f6 : LYJ (w_fi w2 (n_v vs 0) 5) (w_ei w2 (w_ar w2 (n_v vs 0) 2)) (w_ei w2 (w_ar w2 (n_v vs 0) 95)) (w_ei w2 (w_ar w2 (n_v vs 0) 102)) := f6
  obtain ⟨f7, hf⟩ := fc_un (show (20 : Nat) < 100 from by decide) hf
  have f7 : v_iv (n_v vs 1) = w_ei w2 (w_ar w2 (n_v vs 0) 2) (w_fi w2 (n_v vs 0) 5) := f7
  have ar_0_2_1 : w_ar w1 (n_v vs 0) 2 = w_ar ws (n_v vs 0) 2 := by show v_ad (w_fd w1 _ _) = v_ad (w_fd ws _ _); rw [s1.2, if_neg (fun e => absurd e.2 (by decide))]
  have ar_0_2_2 : w_ar w2 (n_v vs 0) 2 = w_ar ws (n_v vs 0) 2 := by rw [← ar_0_2_1]; show v_ad (w_fd w2 _ _) = v_ad (w_fd w1 _ _); rw [s2.2, if_neg (fun e => absurd e.2 (by decide))]
  have cr_0_2 : ta (w_ar ws (n_v vs 0) 2) = some 152 := tv_rg (th_fd hD hth r0 (g := GG_150) rfl (k := 2) (t := (2, 0, 0, [152])) rfl rfl)
  have ar_0_95_1 : w_ar w1 (n_v vs 0) 95 = w_ar ws (n_v vs 0) 95 := by show v_ad (w_fd w1 _ _) = v_ad (w_fd ws _ _); rw [s1.2, if_neg (fun e => absurd e.2 (by decide))]
  have ar_0_95_2 : w_ar w2 (n_v vs 0) 95 = w_ar ws (n_v vs 0) 95 := by rw [← ar_0_95_1]; show v_ad (w_fd w2 _ _) = v_ad (w_fd w1 _ _); rw [s2.2, if_neg (fun e => absurd e.2 (by decide))]
  have cr_0_95 : ta (w_ar ws (n_v vs 0) 95) = some 216 := tv_rg (th_fd hD hth r0 (g := GG_150) rfl (k := 95) (t := (2, 0, 0, [216])) rfl rfl)
  have ar_0_102_1 : w_ar w1 (n_v vs 0) 102 = w_ar ws (n_v vs 0) 102 := by show v_ad (w_fd w1 _ _) = v_ad (w_fd ws _ _); rw [s1.2, if_neg (fun e => absurd e.2 (by decide))]
  have ar_0_102_2 : w_ar w2 (n_v vs 0) 102 = w_ar ws (n_v vs 0) 102 := by rw [← ar_0_102_1]; show v_ad (w_fd w2 _ _) = v_ad (w_fd w1 _ _); rw [s2.2, if_neg (fun e => absurd e.2 (by decide))]
  have cr_0_102 : ta (w_ar ws (n_v vs 0) 102) = some 220 := tv_rg (th_fd hD hth r0 (g := GG_150) rfl (k := 102) (t := (2, 0, 0, [220])) rfl rfl)
  have ar_0_104_1 : w_ar w1 (n_v vs 0) 104 = w_ar ws (n_v vs 0) 104 := by show v_ad (w_fd w1 _ _) = v_ad (w_fd ws _ _); rw [s1.2, if_neg (fun e => absurd e.2 (by decide))]
  have ar_0_104_2 : w_ar w2 (n_v vs 0) 104 = w_ar ws (n_v vs 0) 104 := by rw [← ar_0_104_1]; show v_ad (w_fd w2 _ _) = v_ad (w_fd w1 _ _); rw [s2.2, if_neg (fun e => absurd e.2 (by decide))]
  have cr_0_104 : ta (w_ar ws (n_v vs 0) 104) = some 222 := tv_rg (th_fd hD hth r0 (g := GG_150) rfl (k := 104) (t := (2, 0, 0, [222])) rfl rfl)
  have ar_0_108_1 : w_ar w1 (n_v vs 0) 108 = w_ar ws (n_v vs 0) 108 := by show v_ad (w_fd w1 _ _) = v_ad (w_fd ws _ _); rw [s1.2, if_neg (fun e => absurd e.2 (by decide))]
  have ar_0_108_2 : w_ar w2 (n_v vs 0) 108 = w_ar ws (n_v vs 0) 108 := by rw [← ar_0_108_1]; show v_ad (w_fd w2 _ _) = v_ad (w_fd w1 _ _); rw [s2.2, if_neg (fun e => absurd e.2 (by decide))]
  have cr_0_108 : ta (w_ar ws (n_v vs 0) 108) = some 225 := tv_rg (th_fd hD hth r0 (g := GG_150) rfl (k := 108) (t := (2, 0, 0, [225])) rfl rfl)
  have ar_0_109_1 : w_ar w1 (n_v vs 0) 109 = w_ar ws (n_v vs 0) 109 := by show v_ad (w_fd w1 _ _) = v_ad (w_fd ws _ _); rw [s1.2, if_neg (fun e => absurd e.2 (by decide))]
  have ar_0_109_2 : w_ar w2 (n_v vs 0) 109 = w_ar ws (n_v vs 0) 109 := by rw [← ar_0_109_1]; show v_ad (w_fd w2 _ _) = v_ad (w_fd w1 _ _); rw [s2.2, if_neg (fun e => absurd e.2 (by decide))]
  have cr_0_109 : ta (w_ar ws (n_v vs 0) 109) = some 226 := tv_rg (th_fd hD hth r0 (g := GG_150) rfl (k := 109) (t := (2, 0, 0, [226])) rfl rfl)
  rw [ar_0_2_1] at f3
  rw [ar_0_95_1] at f3
  rw [ar_0_102_1] at f3
  rw [ar_0_2_1] at f4
  rw [ar_0_2_2] at f6
  rw [ar_0_95_2] at f6
  rw [ar_0_102_2] at f6
  rw [ar_0_2_2] at f7
  have fe_0_5_1 : w_fi ws (n_v vs 0) 5 = w_fi w1 (n_v vs 0) 5 := by show v_iv (w_fd _ _ _) = v_iv (w_fd _ _ _); rw [s1.2, if_neg (fun e => absurd e.2 (by decide))]
  have fe_0_100_1 : w_fi ws (n_v vs 0) 100 = w_fi w1 (n_v vs 0) 100 := by show v_iv (w_fd _ _ _) = v_iv (w_fd _ _ _); rw [s1.2, if_neg (fun e => absurd e.2 (by decide))]
  have fe_0_107_1 : w_fi ws (n_v vs 0) 107 = v_iv (n_v vs 2) := by show v_iv (w_fd _ _ _) = _; rw [s1.2, if_pos ⟨rfl, rfl⟩]
  have fe_0_5_2 : w_fi w1 (n_v vs 0) 5 = w_fi w2 (n_v vs 0) 5 := by show v_iv (w_fd _ _ _) = v_iv (w_fd _ _ _); rw [s2.2, if_neg (fun e => absurd e.2 (by decide))]
  have fe_0_100_2 : w_fi w1 (n_v vs 0) 100 = v_iv (n_v vs 1) := by show v_iv (w_fd _ _ _) = _; rw [s2.2, if_pos ⟨rfl, rfl⟩]
  have fe_0_107_2 : w_fi w1 (n_v vs 0) 107 = w_fi w2 (n_v vs 0) 107 := by show v_iv (w_fd _ _ _) = v_iv (w_fd _ _ _); rw [s2.2, if_neg (fun e => absurd e.2 (by decide))]
  have hE_0_2_1 : ∀ j : Int, w_ei ws (w_ar ws (n_v vs 0) 2) j = w_ei w1 (w_ar ws (n_v vs 0) 2) j := fun j => s1.1 _ _
  have hE_0_2_2 : ∀ j : Int, w_ei w1 (w_ar ws (n_v vs 0) 2) j = w_ei w2 (w_ar ws (n_v vs 0) 2) j := fun j => s2.1 _ _
  have hE_0_95_1 : ∀ j : Int, w_ei ws (w_ar ws (n_v vs 0) 95) j = w_ei w1 (w_ar ws (n_v vs 0) 95) j := fun j => s1.1 _ _
  have hE_0_95_2 : ∀ j : Int, w_ei w1 (w_ar ws (n_v vs 0) 95) j = w_ei w2 (w_ar ws (n_v vs 0) 95) j := fun j => s2.1 _ _
  have hK_0_95 : ∀ j : Int, 0 ≤ j → j < 48 → 0 ≤ w_ei ws (w_ar ws (n_v vs 0) 95) j ∧ w_ei ws (w_ar ws (n_v vs 0) 95) j ≤ 1 := fun j h0 h1 => th_el hD hth cr_0_95 (kd := 2) (n := 48) (m := 48) (lo := 0) (hi := 1) (rs := []) (L := []) rfl (by decide) (j := j.toNat) (by omega)
  have hE_0_102_1 : ∀ j : Int, w_ei ws (w_ar ws (n_v vs 0) 102) j = w_ei w1 (w_ar ws (n_v vs 0) 102) j := fun j => s1.1 _ _
  have hE_0_102_2 : ∀ j : Int, w_ei w1 (w_ar ws (n_v vs 0) 102) j = w_ei w2 (w_ar ws (n_v vs 0) 102) j := fun j => s2.1 _ _
  have hK_0_102 : ∀ j : Int, 0 ≤ j → j < 76 → 0 ≤ w_ei ws (w_ar ws (n_v vs 0) 102) j ∧ w_ei ws (w_ar ws (n_v vs 0) 102) j ≤ 75 := fun j h0 h1 => th_el hD hth cr_0_102 (kd := 0) (n := 76) (m := 76) (lo := 0) (hi := 75) (rs := []) (L := []) rfl (by decide) (j := j.toNat) (by omega)
  have hE_0_104_1 : ∀ j : Int, w_ei ws (w_ar ws (n_v vs 0) 104) j = w_ei w1 (w_ar ws (n_v vs 0) 104) j := fun j => s1.1 _ _
  have hE_0_104_2 : ∀ j : Int, w_ei w1 (w_ar ws (n_v vs 0) 104) j = w_ei w2 (w_ar ws (n_v vs 0) 104) j := fun j => s2.1 _ _
  have hK_0_104 : ∀ j : Int, 0 ≤ j → j < 48 → 0 ≤ w_ei ws (w_ar ws (n_v vs 0) 104) j ∧ w_ei ws (w_ar ws (n_v vs 0) 104) j ≤ 76 := fun j h0 h1 => th_el hD hth cr_0_104 (kd := 0) (n := 48) (m := 48) (lo := 0) (hi := 76) (rs := []) (L := []) rfl (by decide) (j := j.toNat) (by omega)
  have hE_0_108_1 : ∀ j : Int, w_ei ws (w_ar ws (n_v vs 0) 108) j = w_ei w1 (w_ar ws (n_v vs 0) 108) j := fun j => s1.1 _ _
  have hE_0_108_2 : ∀ j : Int, w_ei w1 (w_ar ws (n_v vs 0) 108) j = w_ei w2 (w_ar ws (n_v vs 0) 108) j := fun j => s2.1 _ _
  have hK_0_108 : ∀ j : Int, 0 ≤ j → j < 130 → 0 ≤ w_ei ws (w_ar ws (n_v vs 0) 108) j ∧ w_ei ws (w_ar ws (n_v vs 0) 108) j ≤ 75 := fun j h0 h1 => th_el hD hth cr_0_108 (kd := 0) (n := 130) (m := 130) (lo := 0) (hi := 75) (rs := []) (L := []) rfl (by decide) (j := j.toNat) (by omega)
  have hE_0_109_1 : ∀ j : Int, w_ei ws (w_ar ws (n_v vs 0) 109) j = w_ei w1 (w_ar ws (n_v vs 0) 109) j := fun j => s1.1 _ _
  have hE_0_109_2 : ∀ j : Int, w_ei w1 (w_ar ws (n_v vs 0) 109) j = w_ei w2 (w_ar ws (n_v vs 0) 109) j := fun j => s2.1 _ _
  have hK_0_109 : ∀ j : Int, 0 ≤ j → j < 130 → 0 ≤ w_ei ws (w_ar ws (n_v vs 0) 109) j ∧ w_ei ws (w_ar ws (n_v vs 0) 109) j ≤ 75 := fun j h0 h1 => th_el hD hth cr_0_109 (kd := 0) (n := 130) (m := 130) (lo := 0) (hi := 75) (rs := []) (L := []) rfl (by decide) (j := j.toNat) (by omega)
  have kz_0_100 : 0 ≤ w_fi ws (n_v vs 0) 100 ∧ w_fi ws (n_v vs 0) 100 ≤ 76 := tv_rng (th_fd hD hth r0 (g := GG_150) rfl (k := 100) (t := (0, 0, 76, [])) rfl rfl)
  have kz_0_107 : 0 ≤ w_fi ws (n_v vs 0) 107 ∧ w_fi ws (n_v vs 0) 107 ≤ 130 := tv_rng (th_fd hD hth r0 (g := GG_150) rfl (k := 107) (t := (0, 0, 130, [])) rfl rfl)
  have nf0 : fc_1 PRD (20, [0, 3], [60, 2, 4, 365, 5, 100, 2, 95, 102, 104]) ws (vs) := by
    refine ⟨fun n hn => ?_, ?_⟩
    · have hn : n ∈ [0, 3] := hn
      rw [hl]
      simp only [List.mem_cons, List.not_mem_nil, or_false] at hn
      show n < 4; omega
    · show LIC (w_fi ws (n_v vs 0) 5) (w_fi ws (n_v vs 0) 100) (w_ei ws (w_ar ws (n_v vs 0) 2)) (w_ei ws (w_ar ws (n_v vs 0) 95)) (w_ei ws (w_ar ws (n_v vs 0) 102)) (w_ei ws (w_ar ws (n_v vs 0) 104)) (v_iv (n_v vs 3))
      exact vc_Mo_list_0_0 (v_iv (n_v vs 1)) (v_iv (n_v vs 2)) (v_iv (n_v vs 3)) (w_ei ws (w_ar ws (n_v vs 0) 2)) (w_ei ws (w_ar ws (n_v vs 0) 95)) (w_ei ws (w_ar ws (n_v vs 0) 102)) (w_fi ws (n_v vs 0) 5) (w_ei w1 (w_ar ws (n_v vs 0) 2)) (w_ei w1 (w_ar ws (n_v vs 0) 95)) (w_ei w1 (w_ar ws (n_v vs 0) 102)) (w_fi w1 (n_v vs 0) 5) (w_ei w2 (w_ar ws (n_v vs 0) 2)) (w_ei w2 (w_ar ws (n_v vs 0) 95)) (w_ei w2 (w_ar ws (n_v vs 0) 102)) (w_fi w2 (n_v vs 0) 5) (w_fi ws (n_v vs 0) 100) (w_fi w1 (n_v vs 0) 100) (w_fi ws (n_v vs 0) 107) (w_fi w1 (n_v vs 0) 107) (w_fi w2 (n_v vs 0) 107) (w_ei ws (w_ar ws (n_v vs 0) 104)) (w_ei w1 (w_ar ws (n_v vs 0) 104)) (w_ei w2 (w_ar ws (n_v vs 0) 104)) (w_ei ws (w_ar ws (n_v vs 0) 108)) (w_ei w1 (w_ar ws (n_v vs 0) 108)) (w_ei w2 (w_ar ws (n_v vs 0) 108)) (w_ei ws (w_ar ws (n_v vs 0) 109)) (w_ei w1 (w_ar ws (n_v vs 0) 109)) (w_ei w2 (w_ar ws (n_v vs 0) 109)) k1 k2 k3 f0 f1 f3 f4 f6 f7 fe_0_5_1 fe_0_100_1 fe_0_107_1 fe_0_5_2 fe_0_100_2 fe_0_107_2 hE_0_2_1 hE_0_2_2 hE_0_95_1 hE_0_95_2 hK_0_95 hE_0_102_1 hE_0_102_2 hK_0_102 hE_0_104_1 hE_0_104_2 hK_0_104 hE_0_108_1 hE_0_108_2 hK_0_108 hE_0_109_1 hE_0_109_2 hK_0_109 kz_0_100 kz_0_107
  have nf1 : fc_1 PRD (20, [0], [60, 3, 4, 363, 5, 107, 100, 2, 102, 108, 109]) ws (vs) := by
    refine ⟨fun n hn => ?_, ?_⟩
    · have hn : n ∈ [0] := hn
      rw [hl]
      simp only [List.mem_cons, List.not_mem_nil, or_false] at hn
      show n < 4; omega
    · show LNP (w_fi ws (n_v vs 0) 5) (w_fi ws (n_v vs 0) 107) (w_fi ws (n_v vs 0) 100) (w_ei ws (w_ar ws (n_v vs 0) 2)) (w_ei ws (w_ar ws (n_v vs 0) 102)) (w_ei ws (w_ar ws (n_v vs 0) 108)) (w_ei ws (w_ar ws (n_v vs 0) 109))
      exact vc_Mo_list_0_1 (v_iv (n_v vs 1)) (v_iv (n_v vs 2)) (v_iv (n_v vs 3)) (w_ei ws (w_ar ws (n_v vs 0) 2)) (w_ei ws (w_ar ws (n_v vs 0) 95)) (w_ei ws (w_ar ws (n_v vs 0) 102)) (w_fi ws (n_v vs 0) 5) (w_ei w1 (w_ar ws (n_v vs 0) 2)) (w_ei w1 (w_ar ws (n_v vs 0) 95)) (w_ei w1 (w_ar ws (n_v vs 0) 102)) (w_fi w1 (n_v vs 0) 5) (w_ei w2 (w_ar ws (n_v vs 0) 2)) (w_ei w2 (w_ar ws (n_v vs 0) 95)) (w_ei w2 (w_ar ws (n_v vs 0) 102)) (w_fi w2 (n_v vs 0) 5) (w_fi ws (n_v vs 0) 100) (w_fi w1 (n_v vs 0) 100) (w_fi ws (n_v vs 0) 107) (w_fi w1 (n_v vs 0) 107) (w_fi w2 (n_v vs 0) 107) (w_ei ws (w_ar ws (n_v vs 0) 104)) (w_ei w1 (w_ar ws (n_v vs 0) 104)) (w_ei w2 (w_ar ws (n_v vs 0) 104)) (w_ei ws (w_ar ws (n_v vs 0) 108)) (w_ei w1 (w_ar ws (n_v vs 0) 108)) (w_ei w2 (w_ar ws (n_v vs 0) 108)) (w_ei ws (w_ar ws (n_v vs 0) 109)) (w_ei w1 (w_ar ws (n_v vs 0) 109)) (w_ei w2 (w_ar ws (n_v vs 0) 109)) k1 k2 k3 f0 f1 f3 f4 f6 f7 fe_0_5_1 fe_0_100_1 fe_0_107_1 fe_0_5_2 fe_0_100_2 fe_0_107_2 hE_0_2_1 hE_0_2_2 hE_0_95_1 hE_0_95_2 hK_0_95 hE_0_102_1 hE_0_102_2 hK_0_102 hE_0_104_1 hE_0_104_2 hK_0_104 hE_0_108_1 hE_0_108_2 hK_0_108 hE_0_109_1 hE_0_109_2 hK_0_109 kz_0_100 kz_0_107
  have nf2 : fc_1 PRD (20, [0, 3], [50, 3, 1, 107, 100, 5, 2, 1, 3, 2, 0, 107, 4, 11, 5, 3, 2, 0, 100, 3, 0, 2, 2, 0, 5, 1, 1]) ws (vs) := by
    refine ⟨fun n hn => ?_, ?_⟩
    · have hn : n ∈ [0, 3] := hn
      rw [hl]
      simp only [List.mem_cons, List.not_mem_nil, or_false] at hn
      show n < 4; omega
    · show w_fi ws (n_v vs 0) 107 = ((w_fi ws (n_v vs 0) 100 - w_ei ws (w_ar ws (n_v vs 0) 2) (w_fi ws (n_v vs 0) 5)) + v_iv (n_v vs 3))
      exact vc_Mo_list_0_2 (v_iv (n_v vs 1)) (v_iv (n_v vs 2)) (v_iv (n_v vs 3)) (w_ei ws (w_ar ws (n_v vs 0) 2)) (w_ei ws (w_ar ws (n_v vs 0) 95)) (w_ei ws (w_ar ws (n_v vs 0) 102)) (w_fi ws (n_v vs 0) 5) (w_ei w1 (w_ar ws (n_v vs 0) 2)) (w_ei w1 (w_ar ws (n_v vs 0) 95)) (w_ei w1 (w_ar ws (n_v vs 0) 102)) (w_fi w1 (n_v vs 0) 5) (w_ei w2 (w_ar ws (n_v vs 0) 2)) (w_ei w2 (w_ar ws (n_v vs 0) 95)) (w_ei w2 (w_ar ws (n_v vs 0) 102)) (w_fi w2 (n_v vs 0) 5) (w_fi ws (n_v vs 0) 100) (w_fi w1 (n_v vs 0) 100) (w_fi ws (n_v vs 0) 107) (w_fi w1 (n_v vs 0) 107) (w_fi w2 (n_v vs 0) 107) (w_ei ws (w_ar ws (n_v vs 0) 104)) (w_ei w1 (w_ar ws (n_v vs 0) 104)) (w_ei w2 (w_ar ws (n_v vs 0) 104)) (w_ei ws (w_ar ws (n_v vs 0) 108)) (w_ei w1 (w_ar ws (n_v vs 0) 108)) (w_ei w2 (w_ar ws (n_v vs 0) 108)) (w_ei ws (w_ar ws (n_v vs 0) 109)) (w_ei w1 (w_ar ws (n_v vs 0) 109)) (w_ei w2 (w_ar ws (n_v vs 0) 109)) k1 k2 k3 f0 f1 f3 f4 f6 f7 fe_0_5_1 fe_0_100_1 fe_0_107_1 fe_0_5_2 fe_0_100_2 fe_0_107_2 hE_0_2_1 hE_0_2_2 hE_0_95_1 hE_0_95_2 hK_0_95 hE_0_102_1 hE_0_102_2 hK_0_102 hE_0_104_1 hE_0_104_2 hK_0_104 hE_0_108_1 hE_0_108_2 hK_0_108 hE_0_109_1 hE_0_109_2 hK_0_109 kz_0_100 kz_0_107
  have nf3 : fc_1 PRD (20, [3, 0], [50, 1, 1, 1005, 1002, 0, 2, 1, 0, 3, 1, 2, 4, 3, 2, 1, 5, 0, 1]) ws (vs) := by
    refine ⟨fun n hn => ?_, ?_⟩
    · have hn : n ∈ [3, 0] := hn
      rw [hl]
      simp only [List.mem_cons, List.not_mem_nil, or_false] at hn
      show n < 4; omega
    · show v_iv (n_v vs 3) ≤ w_ei ws (w_ar ws (n_v vs 0) 2) ((w_fi ws (n_v vs 0) 5 + 1))
      exact vc_Mo_list_0_3 (v_iv (n_v vs 1)) (v_iv (n_v vs 2)) (v_iv (n_v vs 3)) (w_ei ws (w_ar ws (n_v vs 0) 2)) (w_ei ws (w_ar ws (n_v vs 0) 95)) (w_ei ws (w_ar ws (n_v vs 0) 102)) (w_fi ws (n_v vs 0) 5) (w_ei w1 (w_ar ws (n_v vs 0) 2)) (w_ei w1 (w_ar ws (n_v vs 0) 95)) (w_ei w1 (w_ar ws (n_v vs 0) 102)) (w_fi w1 (n_v vs 0) 5) (w_ei w2 (w_ar ws (n_v vs 0) 2)) (w_ei w2 (w_ar ws (n_v vs 0) 95)) (w_ei w2 (w_ar ws (n_v vs 0) 102)) (w_fi w2 (n_v vs 0) 5) (w_fi ws (n_v vs 0) 100) (w_fi w1 (n_v vs 0) 100) (w_fi ws (n_v vs 0) 107) (w_fi w1 (n_v vs 0) 107) (w_fi w2 (n_v vs 0) 107) (w_ei ws (w_ar ws (n_v vs 0) 104)) (w_ei w1 (w_ar ws (n_v vs 0) 104)) (w_ei w2 (w_ar ws (n_v vs 0) 104)) (w_ei ws (w_ar ws (n_v vs 0) 108)) (w_ei w1 (w_ar ws (n_v vs 0) 108)) (w_ei w2 (w_ar ws (n_v vs 0) 108)) (w_ei ws (w_ar ws (n_v vs 0) 109)) (w_ei w1 (w_ar ws (n_v vs 0) 109)) (w_ei w2 (w_ar ws (n_v vs 0) 109)) k1 k2 k3 f0 f1 f3 f4 f6 f7 fe_0_5_1 fe_0_100_1 fe_0_107_1 fe_0_5_2 fe_0_100_2 fe_0_107_2 hE_0_2_1 hE_0_2_2 hE_0_95_1 hE_0_95_2 hK_0_95 hE_0_102_1 hE_0_102_2 hK_0_102 hE_0_104_1 hE_0_104_2 hK_0_104 hE_0_108_1 hE_0_108_2 hK_0_108 hE_0_109_1 hE_0_109_2 hK_0_109 kz_0_100 kz_0_107
  have nf4 : fc_1 PRD (20, [0], [50, 1, 1, 5, 2, 0, 2, 0, 0, 3, 0, 2, 2, 0, 5]) ws (vs) := by
    refine ⟨fun n hn => ?_, ?_⟩
    · have hn : n ∈ [0] := hn
      rw [hl]
      simp only [List.mem_cons, List.not_mem_nil, or_false] at hn
      show n < 4; omega
    · show 0 ≤ w_ei ws (w_ar ws (n_v vs 0) 2) (w_fi ws (n_v vs 0) 5)
      exact vc_Mo_list_0_4 (v_iv (n_v vs 1)) (v_iv (n_v vs 2)) (v_iv (n_v vs 3)) (w_ei ws (w_ar ws (n_v vs 0) 2)) (w_ei ws (w_ar ws (n_v vs 0) 95)) (w_ei ws (w_ar ws (n_v vs 0) 102)) (w_fi ws (n_v vs 0) 5) (w_ei w1 (w_ar ws (n_v vs 0) 2)) (w_ei w1 (w_ar ws (n_v vs 0) 95)) (w_ei w1 (w_ar ws (n_v vs 0) 102)) (w_fi w1 (n_v vs 0) 5) (w_ei w2 (w_ar ws (n_v vs 0) 2)) (w_ei w2 (w_ar ws (n_v vs 0) 95)) (w_ei w2 (w_ar ws (n_v vs 0) 102)) (w_fi w2 (n_v vs 0) 5) (w_fi ws (n_v vs 0) 100) (w_fi w1 (n_v vs 0) 100) (w_fi ws (n_v vs 0) 107) (w_fi w1 (n_v vs 0) 107) (w_fi w2 (n_v vs 0) 107) (w_ei ws (w_ar ws (n_v vs 0) 104)) (w_ei w1 (w_ar ws (n_v vs 0) 104)) (w_ei w2 (w_ar ws (n_v vs 0) 104)) (w_ei ws (w_ar ws (n_v vs 0) 108)) (w_ei w1 (w_ar ws (n_v vs 0) 108)) (w_ei w2 (w_ar ws (n_v vs 0) 108)) (w_ei ws (w_ar ws (n_v vs 0) 109)) (w_ei w1 (w_ar ws (n_v vs 0) 109)) (w_ei w2 (w_ar ws (n_v vs 0) 109)) k1 k2 k3 f0 f1 f3 f4 f6 f7 fe_0_5_1 fe_0_100_1 fe_0_107_1 fe_0_5_2 fe_0_100_2 fe_0_107_2 hE_0_2_1 hE_0_2_2 hE_0_95_1 hE_0_95_2 hK_0_95 hE_0_102_1 hE_0_102_2 hK_0_102 hE_0_104_1 hE_0_104_2 hK_0_104 hE_0_108_1 hE_0_108_2 hK_0_108 hE_0_109_1 hE_0_109_2 hK_0_109 kz_0_100 kz_0_107
  have nf5 : fc_1 PRD (24, [0, 0], []) ws (vs) := by
    refine ⟨fun n hn => ?_, ?_⟩
    · have hn : n ∈ [0, 0] := hn
      rw [hl]
      simp only [List.mem_cons, List.not_mem_nil, or_false] at hn
      show n < 4; omega
    · show n_v vs 0 = n_v vs 0
      first | rfl | simp only [true_and]
  refine ⟨(fun _ h => (by cases h)), [], trivial, ?_, (fun _ h => (by cases h))⟩
  rw [List.append_nil]
  exact List.forall_mem_cons.mpr ⟨⟨show (20 : Nat) < 100 from by decide, nf0⟩, List.forall_mem_cons.mpr ⟨⟨show (20 : Nat) < 100 from by decide, nf1⟩, List.forall_mem_cons.mpr ⟨⟨show (20 : Nat) < 100 from by decide, nf2⟩, List.forall_mem_cons.mpr ⟨⟨show (20 : Nat) < 100 from by decide, nf3⟩, List.forall_mem_cons.mpr ⟨⟨show (20 : Nat) < 100 from by decide, nf4⟩, List.forall_mem_cons.mpr ⟨⟨show (24 : Nat) < 100 from by decide, nf5⟩, (fun _ h => (by cases h))⟩⟩⟩⟩⟩⟩
set_option maxHeartbeats 4000000 in
theorem vc_Mo_list_1_0 (x4 : Int) (x6 : Int) (x7 : Int) (x8 : Int) (all_0 : Int → Int) (r_0 : Int) (turned_0 : Int → Int) (itemLayer_0 : Int → Int) (firstJoint_0 : Int → Int) (items_0 : Int) (lineA_0 : Int → Int) (lineB_0 : Int → Int) (lines_0 : Int) (all_1 : Int → Int) (turned_1 : Int → Int) (itemLayer_1 : Int → Int) (firstJoint_1 : Int → Int) (r_1 : Int) (items_1 : Int) (lineA_1 : Int → Int) (lineB_1 : Int → Int) (lines_1 : Int) (layerMany_0 : Int) (k4 : 0 ≤ x4 ∧ x4 ≤ 48) (k6 : 0 ≤ x6 ∧ x6 ≤ 48) (k7 : 0 ≤ x7 ∧ x7 ≤ 0) (k8 : 0 ≤ x8 ∧ x8 ≤ 0) (d0 : x6 + 0 ≤ x4 ∧ x4 ≤ x6 + 4294967296) (f0 : 1 * x6 + ((-1) * all_0 (r_0 + 1) + 0) ≤ 0) (f1 : (-1) * x6 + (1 * all_0 (r_0 + 1) + 0) ≤ 0) (f2 : LIC (r_0) (items_0) (all_0) (turned_0) (itemLayer_0) (firstJoint_0) (x4)) (f3 : LNP (r_0) (lines_0) (items_0) (all_0) (itemLayer_0) (lineA_0) (lineB_0)) (f4 : lines_0 = ((items_0 - all_0 (r_0)) + x4)) (f5 : x4 ≤ all_0 ((r_0 + 1))) (f6 : 0 ≤ all_0 (r_0)) (f9 : x6 ≤ x4) (f10 : 1 * x6 + ((-1) * all_1 (r_0 + 1) + 0) ≤ 0) (f11 : (-1) * x6 + (1 * all_1 (r_0 + 1) + 0) ≤ 0) (f12 : LIC (r_1) (items_1) (all_1) (turned_1) (itemLayer_1) (firstJoint_1) (x4)) (f13 : LNP (r_1) (lines_1) (items_1) (all_1) (itemLayer_1) (lineA_1) (lineB_1)) (f14 : lines_1 = ((items_1 - all_1 (r_1)) + x4)) (f15 : x4 ≤ all_1 ((r_1 + 1))) (f16 : 0 ≤ all_1 (r_1)) (fe_0_5_1 : r_0 = r_1) (fe_0_100_1 : items_0 = items_1) (fe_0_101_1 : layerMany_0 = x7) (fe_0_107_1 : lines_0 = lines_1) (hE_0_2_1 : ∀ j : Int, all_0 j = all_1 j) (hE_0_95_1 : ∀ j : Int, turned_0 j = turned_1 j) (hK_0_95 : ∀ j : Int, 0 ≤ j → j < 48 → 0 ≤ turned_0 j ∧ turned_0 j ≤ 1) (hE_0_102_1 : ∀ j : Int, itemLayer_0 j = itemLayer_1 j) (hK_0_102 : ∀ j : Int, 0 ≤ j → j < 76 → 0 ≤ itemLayer_0 j ∧ itemLayer_0 j ≤ 75) (hE_0_104_1 : ∀ j : Int, firstJoint_0 j = firstJoint_1 j) (hK_0_104 : ∀ j : Int, 0 ≤ j → j < 48 → 0 ≤ firstJoint_0 j ∧ firstJoint_0 j ≤ 76) (hE_0_108_1 : ∀ j : Int, lineA_0 j = lineA_1 j) (hK_0_108 : ∀ j : Int, 0 ≤ j → j < 130 → 0 ≤ lineA_0 j ∧ lineA_0 j ≤ 75) (hE_0_109_1 : ∀ j : Int, lineB_0 j = lineB_1 j) (hK_0_109 : ∀ j : Int, 0 ≤ j → j < 130 → 0 ≤ lineB_0 j ∧ lineB_0 j ≤ 75) (kz_0_100 : 0 ≤ items_0 ∧ items_0 ≤ 76) (kz_0_101 : 0 ≤ layerMany_0 ∧ layerMany_0 ≤ 76) (kz_0_107 : 0 ≤ lines_0 ∧ lines_0 ≤ 130) : LIF (r_0) (items_0) (all_0) (turned_0) (itemLayer_0) (firstJoint_0) := by
  subst fe_0_5_1
  subst fe_0_100_1
  subst fe_0_107_1
  have e_hE_0_2_1 := funext hE_0_2_1; subst e_hE_0_2_1
  have e_hE_0_95_1 := funext hE_0_95_1; subst e_hE_0_95_1
  have e_hE_0_102_1 := funext hE_0_102_1; subst e_hE_0_102_1
  have e_hE_0_104_1 := funext hE_0_104_1; subst e_hE_0_104_1
  have e_hE_0_108_1 := funext hE_0_108_1; subst e_hE_0_108_1
  have e_hE_0_109_1 := funext hE_0_109_1; subst e_hE_0_109_1
  have h := ‹LIC _ _ _ _ _ _ _›
  have e := h.2.1
  unfold LIF
  rw [show all_0 (r_0 + 1) = x4 by omega]
  exact h
set_option maxHeartbeats 4000000 in
theorem vc_Mo_list_1_1 (x4 : Int) (x6 : Int) (x7 : Int) (x8 : Int) (all_0 : Int → Int) (r_0 : Int) (turned_0 : Int → Int) (itemLayer_0 : Int → Int) (firstJoint_0 : Int → Int) (items_0 : Int) (lineA_0 : Int → Int) (lineB_0 : Int → Int) (lines_0 : Int) (all_1 : Int → Int) (turned_1 : Int → Int) (itemLayer_1 : Int → Int) (firstJoint_1 : Int → Int) (r_1 : Int) (items_1 : Int) (lineA_1 : Int → Int) (lineB_1 : Int → Int) (lines_1 : Int) (layerMany_0 : Int) (k4 : 0 ≤ x4 ∧ x4 ≤ 48) (k6 : 0 ≤ x6 ∧ x6 ≤ 48) (k7 : 0 ≤ x7 ∧ x7 ≤ 0) (k8 : 0 ≤ x8 ∧ x8 ≤ 0) (d0 : x6 + 0 ≤ x4 ∧ x4 ≤ x6 + 4294967296) (f0 : 1 * x6 + ((-1) * all_0 (r_0 + 1) + 0) ≤ 0) (f1 : (-1) * x6 + (1 * all_0 (r_0 + 1) + 0) ≤ 0) (f2 : LIC (r_0) (items_0) (all_0) (turned_0) (itemLayer_0) (firstJoint_0) (x4)) (f3 : LNP (r_0) (lines_0) (items_0) (all_0) (itemLayer_0) (lineA_0) (lineB_0)) (f4 : lines_0 = ((items_0 - all_0 (r_0)) + x4)) (f5 : x4 ≤ all_0 ((r_0 + 1))) (f6 : 0 ≤ all_0 (r_0)) (f9 : x6 ≤ x4) (f10 : 1 * x6 + ((-1) * all_1 (r_0 + 1) + 0) ≤ 0) (f11 : (-1) * x6 + (1 * all_1 (r_0 + 1) + 0) ≤ 0) (f12 : LIC (r_1) (items_1) (all_1) (turned_1) (itemLayer_1) (firstJoint_1) (x4)) (f13 : LNP (r_1) (lines_1) (items_1) (all_1) (itemLayer_1) (lineA_1) (lineB_1)) (f14 : lines_1 = ((items_1 - all_1 (r_1)) + x4)) (f15 : x4 ≤ all_1 ((r_1 + 1))) (f16 : 0 ≤ all_1 (r_1)) (fe_0_5_1 : r_0 = r_1) (fe_0_100_1 : items_0 = items_1) (fe_0_101_1 : layerMany_0 = x7) (fe_0_107_1 : lines_0 = lines_1) (hE_0_2_1 : ∀ j : Int, all_0 j = all_1 j) (hE_0_95_1 : ∀ j : Int, turned_0 j = turned_1 j) (hK_0_95 : ∀ j : Int, 0 ≤ j → j < 48 → 0 ≤ turned_0 j ∧ turned_0 j ≤ 1) (hE_0_102_1 : ∀ j : Int, itemLayer_0 j = itemLayer_1 j) (hK_0_102 : ∀ j : Int, 0 ≤ j → j < 76 → 0 ≤ itemLayer_0 j ∧ itemLayer_0 j ≤ 75) (hE_0_104_1 : ∀ j : Int, firstJoint_0 j = firstJoint_1 j) (hK_0_104 : ∀ j : Int, 0 ≤ j → j < 48 → 0 ≤ firstJoint_0 j ∧ firstJoint_0 j ≤ 76) (hE_0_108_1 : ∀ j : Int, lineA_0 j = lineA_1 j) (hK_0_108 : ∀ j : Int, 0 ≤ j → j < 130 → 0 ≤ lineA_0 j ∧ lineA_0 j ≤ 75) (hE_0_109_1 : ∀ j : Int, lineB_0 j = lineB_1 j) (hK_0_109 : ∀ j : Int, 0 ≤ j → j < 130 → 0 ≤ lineB_0 j ∧ lineB_0 j ≤ 75) (kz_0_100 : 0 ≤ items_0 ∧ items_0 ≤ 76) (kz_0_101 : 0 ≤ layerMany_0 ∧ layerMany_0 ≤ 76) (kz_0_107 : 0 ≤ lines_0 ∧ lines_0 ≤ 130) : LMF (layerMany_0) (itemLayer_0) (x8) := by
  subst fe_0_5_1
  subst fe_0_100_1
  subst fe_0_107_1
  have e_hE_0_2_1 := funext hE_0_2_1; subst e_hE_0_2_1
  have e_hE_0_95_1 := funext hE_0_95_1; subst e_hE_0_95_1
  have e_hE_0_102_1 := funext hE_0_102_1; subst e_hE_0_102_1
  have e_hE_0_104_1 := funext hE_0_104_1; subst e_hE_0_104_1
  have e_hE_0_108_1 := funext hE_0_108_1; subst e_hE_0_108_1
  have e_hE_0_109_1 := funext hE_0_109_1; subst e_hE_0_109_1
  first
    | exact ⟨by omega, fun j a b => by exfalso; omega⟩
    | exact lm1_step ‹LMF _ _ _› ‹LIF _ _ _ _ _ _› (by omega) (by omega) (by assumption) (by assumption) (by omega)
set_option maxHeartbeats 4000000 in
theorem vc_Mo_list_1_2 (x4 : Int) (x6 : Int) (x7 : Int) (x8 : Int) (all_0 : Int → Int) (r_0 : Int) (turned_0 : Int → Int) (itemLayer_0 : Int → Int) (firstJoint_0 : Int → Int) (items_0 : Int) (lineA_0 : Int → Int) (lineB_0 : Int → Int) (lines_0 : Int) (all_1 : Int → Int) (turned_1 : Int → Int) (itemLayer_1 : Int → Int) (firstJoint_1 : Int → Int) (r_1 : Int) (items_1 : Int) (lineA_1 : Int → Int) (lineB_1 : Int → Int) (lines_1 : Int) (layerMany_0 : Int) (k4 : 0 ≤ x4 ∧ x4 ≤ 48) (k6 : 0 ≤ x6 ∧ x6 ≤ 48) (k7 : 0 ≤ x7 ∧ x7 ≤ 0) (k8 : 0 ≤ x8 ∧ x8 ≤ 0) (d0 : x6 + 0 ≤ x4 ∧ x4 ≤ x6 + 4294967296) (f0 : 1 * x6 + ((-1) * all_0 (r_0 + 1) + 0) ≤ 0) (f1 : (-1) * x6 + (1 * all_0 (r_0 + 1) + 0) ≤ 0) (f2 : LIC (r_0) (items_0) (all_0) (turned_0) (itemLayer_0) (firstJoint_0) (x4)) (f3 : LNP (r_0) (lines_0) (items_0) (all_0) (itemLayer_0) (lineA_0) (lineB_0)) (f4 : lines_0 = ((items_0 - all_0 (r_0)) + x4)) (f5 : x4 ≤ all_0 ((r_0 + 1))) (f6 : 0 ≤ all_0 (r_0)) (f9 : x6 ≤ x4) (f10 : 1 * x6 + ((-1) * all_1 (r_0 + 1) + 0) ≤ 0) (f11 : (-1) * x6 + (1 * all_1 (r_0 + 1) + 0) ≤ 0) (f12 : LIC (r_1) (items_1) (all_1) (turned_1) (itemLayer_1) (firstJoint_1) (x4)) (f13 : LNP (r_1) (lines_1) (items_1) (all_1) (itemLayer_1) (lineA_1) (lineB_1)) (f14 : lines_1 = ((items_1 - all_1 (r_1)) + x4)) (f15 : x4 ≤ all_1 ((r_1 + 1))) (f16 : 0 ≤ all_1 (r_1)) (fe_0_5_1 : r_0 = r_1) (fe_0_100_1 : items_0 = items_1) (fe_0_101_1 : layerMany_0 = x7) (fe_0_107_1 : lines_0 = lines_1) (hE_0_2_1 : ∀ j : Int, all_0 j = all_1 j) (hE_0_95_1 : ∀ j : Int, turned_0 j = turned_1 j) (hK_0_95 : ∀ j : Int, 0 ≤ j → j < 48 → 0 ≤ turned_0 j ∧ turned_0 j ≤ 1) (hE_0_102_1 : ∀ j : Int, itemLayer_0 j = itemLayer_1 j) (hK_0_102 : ∀ j : Int, 0 ≤ j → j < 76 → 0 ≤ itemLayer_0 j ∧ itemLayer_0 j ≤ 75) (hE_0_104_1 : ∀ j : Int, firstJoint_0 j = firstJoint_1 j) (hK_0_104 : ∀ j : Int, 0 ≤ j → j < 48 → 0 ≤ firstJoint_0 j ∧ firstJoint_0 j ≤ 76) (hE_0_108_1 : ∀ j : Int, lineA_0 j = lineA_1 j) (hK_0_108 : ∀ j : Int, 0 ≤ j → j < 130 → 0 ≤ lineA_0 j ∧ lineA_0 j ≤ 75) (hE_0_109_1 : ∀ j : Int, lineB_0 j = lineB_1 j) (hK_0_109 : ∀ j : Int, 0 ≤ j → j < 130 → 0 ≤ lineB_0 j ∧ lineB_0 j ≤ 75) (kz_0_100 : 0 ≤ items_0 ∧ items_0 ≤ 76) (kz_0_101 : 0 ≤ layerMany_0 ∧ layerMany_0 ≤ 76) (kz_0_107 : 0 ≤ lines_0 ∧ lines_0 ≤ 130) : lines_0 = ((items_0 - all_0 (r_0)) + all_0 ((r_0 + 1))) := by
  subst fe_0_5_1
  subst fe_0_100_1
  subst fe_0_107_1
  have e_hE_0_2_1 := funext hE_0_2_1; subst e_hE_0_2_1
  have e_hE_0_95_1 := funext hE_0_95_1; subst e_hE_0_95_1
  have e_hE_0_102_1 := funext hE_0_102_1; subst e_hE_0_102_1
  have e_hE_0_104_1 := funext hE_0_104_1; subst e_hE_0_104_1
  have e_hE_0_108_1 := funext hE_0_108_1; subst e_hE_0_108_1
  have e_hE_0_109_1 := funext hE_0_109_1; subst e_hE_0_109_1
  try simp only [Int.add_zero] at *
  first
    | omega
    | (have h := lid_bd ‹LID _ _ _ _ _ _ _ _ _›; omega)
    | (have h := ‹LYJ _ _ _ _›.1.1.1; omega)
    | (have h := (lic_bd ‹LIC _ _ _ _ _ _ _›).1; omega)
    | (have h := (lic_bd ‹LIF _ _ _ _ _ _›).1; omega)
    | (have h := ‹LSA _ _ _ _ _ _ _ _ _ _›.2.1; omega)
    | (have h := lli_bd ‹LLI _ _ _ _ _ _›; have h2 := ‹LSA _ _ _ _ _ _ _ _ _ _›.2.1; omega)
def o_Mo_list_1 : or_T := (139, 9, [(0, (2, 0, 0, [150])), (2, (2, 0, 0, [150])), (4, (0, 0, 48, [])), (6, (0, 0, 48, [])), (7, (0, 0, 0, [])), (8, (0, 0, 0, []))], [(20, [6, 2], [30, 0, 1, 0, 0, -1, 3, 2005001]), (20, [6, 2], [30, 0, -1, 0, 0, 1, 3, 2005001]), (20, [2, 4], [60, 2, 4, 365, 5, 100, 2, 95, 102, 104]), (20, [2], [60, 3, 4, 363, 5, 107, 100, 2, 102, 108, 109]), (20, [2, 4], [50, 3, 1, 107, 100, 5, 2, 1, 3, 2, 0, 107, 4, 11, 5, 3, 2, 0, 100, 3, 0, 2, 2, 0, 5, 1, 1]), (20, [4, 2], [50, 1, 1, 1005, 1002, 0, 2, 1, 0, 3, 1, 2, 4, 3, 2, 1, 5, 0, 1]), (20, [2], [50, 1, 1, 5, 2, 0, 2, 0, 0, 3, 0, 2, 2, 0, 5]), (24, [0, 2], []), (101, [2, 7], [101]), (7, [4, 6], [3]), (20, [6, 2], [30, 0, 1, 0, 0, -1, 3, 2005001]), (20, [6, 2], [30, 0, -1, 0, 0, 1, 3, 2005001]), (20, [2, 4], [60, 2, 4, 365, 5, 100, 2, 95, 102, 104]), (20, [2], [60, 3, 4, 363, 5, 107, 100, 2, 102, 108, 109]), (20, [2, 4], [50, 3, 1, 107, 100, 5, 2, 1, 3, 2, 0, 107, 4, 11, 5, 3, 2, 0, 100, 3, 0, 2, 2, 0, 5, 1, 1]), (20, [4, 2], [50, 1, 1, 1005, 1002, 0, 2, 1, 0, 3, 1, 2, 4, 3, 2, 1, 5, 0, 1]), (20, [2], [50, 1, 1, 5, 2, 0, 2, 0, 0, 3, 0, 2, 2, 0, 5])], [], [], [(20, [2], [60, 2, 4, 367, 5, 100, 2, 95, 102, 104]), (20, [2, 8], [60, 1, 1, 368, 101, 102]), (20, [2], [50, 3, 1, 107, 100, 5, 2, 1, 3, 2, 0, 107, 4, 11, 5, 3, 2, 0, 100, 3, 0, 2, 2, 0, 5, 3, 0, 2, 4, 3, 2, 0, 5, 0, 1])], [], [(4, 6, 0, 4294967296)])
theorem oo_Mo_list_1 {kA : Nat → ClassId} : or_ok PRD kA GG o_Mo_list_1 := by
  intro A ta ws vs hD hth hl hk hds hf
  have hl : vs.length = 9 := hl
  have hk : ∀ q ∈ ([(0, (2, 0, 0, [150])), (2, (2, 0, 0, [150])), (4, (0, 0, 48, [])), (6, (0, 0, 48, [])), (7, (0, 0, 0, [])), (8, (0, 0, 0, []))] : List (Nat × tv_T)), tv_ok ta q.2 (n_v vs q.1) := hk
  obtain ⟨t0, hk⟩ := List.forall_mem_cons.mp hk
  have t0 : tv_ok ta (2, 0, 0, [150]) (n_v vs 0) := t0
  have r0 : ta (v_ad (n_v vs 0)) = some 150 := tv_rg t0
  obtain ⟨t2, hk⟩ := List.forall_mem_cons.mp hk
  have t2 : tv_ok ta (2, 0, 0, [150]) (n_v vs 2) := t2
  have r2 : ta (v_ad (n_v vs 2)) = some 150 := tv_rg t2
  obtain ⟨t4, hk⟩ := List.forall_mem_cons.mp hk
  have t4 : tv_ok ta (0, 0, 48, []) (n_v vs 4) := t4
  have k4 : 0 ≤ v_iv (n_v vs 4) ∧ v_iv (n_v vs 4) ≤ 48 := tv_rng t4
  obtain ⟨t6, hk⟩ := List.forall_mem_cons.mp hk
  have t6 : tv_ok ta (0, 0, 48, []) (n_v vs 6) := t6
  have k6 : 0 ≤ v_iv (n_v vs 6) ∧ v_iv (n_v vs 6) ≤ 48 := tv_rng t6
  obtain ⟨t7, hk⟩ := List.forall_mem_cons.mp hk
  have t7 : tv_ok ta (0, 0, 0, []) (n_v vs 7) := t7
  have k7 : 0 ≤ v_iv (n_v vs 7) ∧ v_iv (n_v vs 7) ≤ 0 := tv_rng t7
  obtain ⟨t8, hk⟩ := List.forall_mem_cons.mp hk
  have t8 : tv_ok ta (0, 0, 0, []) (n_v vs 8) := t8
  have k8 : 0 ≤ v_iv (n_v vs 8) ∧ v_iv (n_v vs 8) ≤ 0 := tv_rng t8
  have hds : ∀ q ∈ ([(4, 6, 0, 4294967296)] : List of_T), n_iv vs q.2.1 + q.2.2.1 ≤ n_iv vs q.1 ∧ n_iv vs q.1 ≤ n_iv vs q.2.1 + q.2.2.2 := hds
  obtain ⟨d0, hds⟩ := List.forall_mem_cons.mp hds
  have d0 : v_iv (n_v vs 6) + 0 ≤ v_iv (n_v vs 4) ∧ v_iv (n_v vs 4) ≤ v_iv (n_v vs 6) + 4294967296 := d0
  have hf : fc_ok PRD [(20, [6, 2], [30, 0, 1, 0, 0, -1, 3, 2005001]), (20, [6, 2], [30, 0, -1, 0, 0, 1, 3, 2005001]), (20, [2, 4], [60, 2, 4, 365, 5, 100, 2, 95, 102, 104]), (20, [2], [60, 3, 4, 363, 5, 107, 100, 2, 102, 108, 109]), (20, [2, 4], [50, 3, 1, 107, 100, 5, 2, 1, 3, 2, 0, 107, 4, 11, 5, 3, 2, 0, 100, 3, 0, 2, 2, 0, 5, 1, 1]), (20, [4, 2], [50, 1, 1, 1005, 1002, 0, 2, 1, 0, 3, 1, 2, 4, 3, 2, 1, 5, 0, 1]), (20, [2], [50, 1, 1, 5, 2, 0, 2, 0, 0, 3, 0, 2, 2, 0, 5]), (24, [0, 2], []), (101, [2, 7], [101]), (7, [4, 6], [3]), (20, [6, 2], [30, 0, 1, 0, 0, -1, 3, 2005001]), (20, [6, 2], [30, 0, -1, 0, 0, 1, 3, 2005001]), (20, [2, 4], [60, 2, 4, 365, 5, 100, 2, 95, 102, 104]), (20, [2], [60, 3, 4, 363, 5, 107, 100, 2, 102, 108, 109]), (20, [2, 4], [50, 3, 1, 107, 100, 5, 2, 1, 3, 2, 0, 107, 4, 11, 5, 3, 2, 0, 100, 3, 0, 2, 2, 0, 5, 1, 1]), (20, [4, 2], [50, 1, 1, 1005, 1002, 0, 2, 1, 0, 3, 1, 2, 4, 3, 2, 1, 5, 0, 1]), (20, [2], [50, 1, 1, 5, 2, 0, 2, 0, 0, 3, 0, 2, 2, 0, 5])] ta ws vs := hf
  obtain ⟨f0, hf⟩ := fc_un (show (20 : Nat) < 100 from by decide) hf
  have f0 : 1 * v_iv (n_v vs 6) + ((-1) * w_el ws (w_ar ws (n_v vs 2) 2) (w_fi ws (n_v vs 2) 5 + 1).toNat + 0) ≤ 0 := f0
  obtain ⟨f1, hf⟩ := fc_un (show (20 : Nat) < 100 from by decide) hf
  have f1 : (-1) * v_iv (n_v vs 6) + (1 * w_el ws (w_ar ws (n_v vs 2) 2) (w_fi ws (n_v vs 2) 5 + 1).toNat + 0) ≤ 0 := f1
  obtain ⟨f2, hf⟩ := fc_un (show (20 : Nat) < 100 from by decide) hf
  have f2 : LIC (w_fi ws (n_v vs 2) 5) (w_fi ws (n_v vs 2) 100) (w_ei ws (w_ar ws (n_v vs 2) 2)) (w_ei ws (w_ar ws (n_v vs 2) 95)) (w_ei ws (w_ar ws (n_v vs 2) 102)) (w_ei ws (w_ar ws (n_v vs 2) 104)) (v_iv (n_v vs 4)) := f2
  obtain ⟨f3, hf⟩ := fc_un (show (20 : Nat) < 100 from by decide) hf
  have f3 : LNP (w_fi ws (n_v vs 2) 5) (w_fi ws (n_v vs 2) 107) (w_fi ws (n_v vs 2) 100) (w_ei ws (w_ar ws (n_v vs 2) 2)) (w_ei ws (w_ar ws (n_v vs 2) 102)) (w_ei ws (w_ar ws (n_v vs 2) 108)) (w_ei ws (w_ar ws (n_v vs 2) 109)) := f3
  obtain ⟨f4, hf⟩ := fc_un (show (20 : Nat) < 100 from by decide) hf
  have f4 : w_fi ws (n_v vs 2) 107 = ((w_fi ws (n_v vs 2) 100 - w_ei ws (w_ar ws (n_v vs 2) 2) (w_fi ws (n_v vs 2) 5)) + v_iv (n_v vs 4)) := f4
  obtain ⟨f5, hf⟩ := fc_un (show (20 : Nat) < 100 from by decide) hf
  have f5 : v_iv (n_v vs 4) ≤ w_ei ws (w_ar ws (n_v vs 2) 2) ((w_fi ws (n_v vs 2) 5 + 1)) := f5
  obtain ⟨f6, hf⟩ := fc_un (show (20 : Nat) < 100 from by decide) hf
  have f6 : 0 ≤ w_ei ws (w_ar ws (n_v vs 2) 2) (w_fi ws (n_v vs 2) 5) := f6
  obtain ⟨f7, hf⟩ := fc_un (show (24 : Nat) < 100 from by decide) hf
  have f7 : n_v vs 0 = n_v vs 2 := f7
  obtain ⟨ta1, w1, le1, ⟨_, s1⟩, hf⟩ := fc_us (show ¬ (101 : Nat) < 100 from by decide) hf
  have s1 : (∀ b j, w_el ws b j = w_el w1 b j) ∧ ∀ b j, w_fd ws b j = if b = v_ad (n_v vs 2) ∧ j = 101 then n_v vs 7 else w_fd w1 b j := s1
  obtain ⟨f9, hf⟩ := fc_un (show (7 : Nat) < 100 from by decide) hf
  have f9 : v_iv (n_v vs 6) ≤ v_iv (n_v vs 4) := f9
  obtain ⟨f10, hf⟩ := fc_un (show (20 : Nat) < 100 from by decide) hf
  have f10 : 1 * v_iv (n_v vs 6) + ((-1) * w_el w1 (w_ar w1 (n_v vs 2) 2) (w_fi w1 (n_v vs 2) 5 + 1).toNat + 0) ≤ 0 := f10
  obtain ⟨f11, hf⟩ := fc_un (show (20 : Nat) < 100 from by decide) hf
  have f11 : (-1) * v_iv (n_v vs 6) + (1 * w_el w1 (w_ar w1 (n_v vs 2) 2) (w_fi w1 (n_v vs 2) 5 + 1).toNat + 0) ≤ 0 := f11
  obtain ⟨f12, hf⟩ := fc_un (show (20 : Nat) < 100 from by decide) hf
  have f12 : LIC (w_fi w1 (n_v vs 2) 5) (w_fi w1 (n_v vs 2) 100) (w_ei w1 (w_ar w1 (n_v vs 2) 2)) (w_ei w1 (w_ar w1 (n_v vs 2) 95)) (w_ei w1 (w_ar w1 (n_v vs 2) 102)) (w_ei w1 (w_ar w1 (n_v vs 2) 104)) (v_iv (n_v vs 4)) := f12
  obtain ⟨f13, hf⟩ := fc_un (show (20 : Nat) < 100 from by decide) hf
  have f13 : LNP (w_fi w1 (n_v vs 2) 5) (w_fi w1 (n_v vs 2) 107) (w_fi w1 (n_v vs 2) 100) (w_ei w1 (w_ar w1 (n_v vs 2) 2)) (w_ei w1 (w_ar w1 (n_v vs 2) 102)) (w_ei w1 (w_ar w1 (n_v vs 2) 108)) (w_ei w1 (w_ar w1 (n_v vs 2) 109)) := f13
  obtain ⟨f14, hf⟩ := fc_un (show (20 : Nat) < 100 from by decide) hf
  have f14 : w_fi w1 (n_v vs 2) 107 = ((w_fi w1 (n_v vs 2) 100 - w_ei w1 (w_ar w1 (n_v vs 2) 2) (w_fi w1 (n_v vs 2) 5)) + v_iv (n_v vs 4)) := f14
  obtain ⟨f15, hf⟩ := fc_un (show (20 : Nat) < 100 from by decide) hf
  have f15 : v_iv (n_v vs 4) ≤ w_ei w1 (w_ar w1 (n_v vs 2) 2) ((w_fi w1 (n_v vs 2) 5 + 1)) := f15
  obtain ⟨f16, hf⟩ := fc_un (show (20 : Nat) < 100 from by decide) hf
  have f16 : 0 ≤ w_ei w1 (w_ar w1 (n_v vs 2) 2) (w_fi w1 (n_v vs 2) 5) := f16
  have q2 : n_v vs 2 = n_v vs 0 := f7.symm
  rw [q2] at f0
  rw [q2] at f1
  rw [q2] at f2
  rw [q2] at f3
  rw [q2] at f4
  rw [q2] at f5
  rw [q2] at f6
  rw [q2] at s1
  rw [q2] at f10
  rw [q2] at f11
  rw [q2] at f12
  rw [q2] at f13
  rw [q2] at f14
  rw [q2] at f15
  rw [q2] at f16
  have ar_0_2_1 : w_ar w1 (n_v vs 0) 2 = w_ar ws (n_v vs 0) 2 := by show v_ad (w_fd w1 _ _) = v_ad (w_fd ws _ _); rw [s1.2, if_neg (fun e => absurd e.2 (by decide))]
  have cr_0_2 : ta (w_ar ws (n_v vs 0) 2) = some 152 := tv_rg (th_fd hD hth r0 (g := GG_150) rfl (k := 2) (t := (2, 0, 0, [152])) rfl rfl)
  have ar_0_95_1 : w_ar w1 (n_v vs 0) 95 = w_ar ws (n_v vs 0) 95 := by show v_ad (w_fd w1 _ _) = v_ad (w_fd ws _ _); rw [s1.2, if_neg (fun e => absurd e.2 (by decide))]
  have cr_0_95 : ta (w_ar ws (n_v vs 0) 95) = some 216 := tv_rg (th_fd hD hth r0 (g := GG_150) rfl (k := 95) (t := (2, 0, 0, [216])) rfl rfl)
  have ar_0_102_1 : w_ar w1 (n_v vs 0) 102 = w_ar ws (n_v vs 0) 102 := by show v_ad (w_fd w1 _ _) = v_ad (w_fd ws _ _); rw [s1.2, if_neg (fun e => absurd e.2 (by decide))]
  have cr_0_102 : ta (w_ar ws (n_v vs 0) 102) = some 220 := tv_rg (th_fd hD hth r0 (g := GG_150) rfl (k := 102) (t := (2, 0, 0, [220])) rfl rfl)
  have ar_0_104_1 : w_ar w1 (n_v vs 0) 104 = w_ar ws (n_v vs 0) 104 := by show v_ad (w_fd w1 _ _) = v_ad (w_fd ws _ _); rw [s1.2, if_neg (fun e => absurd e.2 (by decide))]
  have cr_0_104 : ta (w_ar ws (n_v vs 0) 104) = some 222 := tv_rg (th_fd hD hth r0 (g := GG_150) rfl (k := 104) (t := (2, 0, 0, [222])) rfl rfl)
  have ar_0_108_1 : w_ar w1 (n_v vs 0) 108 = w_ar ws (n_v vs 0) 108 := by show v_ad (w_fd w1 _ _) = v_ad (w_fd ws _ _); rw [s1.2, if_neg (fun e => absurd e.2 (by decide))]
  have cr_0_108 : ta (w_ar ws (n_v vs 0) 108) = some 225 := tv_rg (th_fd hD hth r0 (g := GG_150) rfl (k := 108) (t := (2, 0, 0, [225])) rfl rfl)
  have ar_0_109_1 : w_ar w1 (n_v vs 0) 109 = w_ar ws (n_v vs 0) 109 := by show v_ad (w_fd w1 _ _) = v_ad (w_fd ws _ _); rw [s1.2, if_neg (fun e => absurd e.2 (by decide))]
  have cr_0_109 : ta (w_ar ws (n_v vs 0) 109) = some 226 := tv_rg (th_fd hD hth r0 (g := GG_150) rfl (k := 109) (t := (2, 0, 0, [226])) rfl rfl)
  have fi_0_5_1 : w_fi w1 (n_v vs 0) 5 = w_fi ws (n_v vs 0) 5 := by show v_iv (w_fd w1 _ _) = v_iv (w_fd ws _ _); rw [s1.2, if_neg (fun e => absurd e.2 (by decide))]
  rw [ar_0_2_1] at f10
  rw [fi_0_5_1] at f10
  rw [ar_0_2_1] at f11
  rw [fi_0_5_1] at f11
  rw [ar_0_2_1] at f12
  rw [ar_0_95_1] at f12
  rw [ar_0_102_1] at f12
  rw [ar_0_104_1] at f12
  rw [ar_0_2_1] at f13
  rw [ar_0_102_1] at f13
  rw [ar_0_108_1] at f13
  rw [ar_0_109_1] at f13
  rw [ar_0_2_1] at f14
  rw [ar_0_2_1] at f15
  rw [ar_0_2_1] at f16
  have fe_0_5_1 : w_fi ws (n_v vs 0) 5 = w_fi w1 (n_v vs 0) 5 := by show v_iv (w_fd _ _ _) = v_iv (w_fd _ _ _); rw [s1.2, if_neg (fun e => absurd e.2 (by decide))]
  have fe_0_100_1 : w_fi ws (n_v vs 0) 100 = w_fi w1 (n_v vs 0) 100 := by show v_iv (w_fd _ _ _) = v_iv (w_fd _ _ _); rw [s1.2, if_neg (fun e => absurd e.2 (by decide))]
  have fe_0_101_1 : w_fi ws (n_v vs 0) 101 = v_iv (n_v vs 7) := by show v_iv (w_fd _ _ _) = _; rw [s1.2, if_pos ⟨rfl, rfl⟩]
  have fe_0_107_1 : w_fi ws (n_v vs 0) 107 = w_fi w1 (n_v vs 0) 107 := by show v_iv (w_fd _ _ _) = v_iv (w_fd _ _ _); rw [s1.2, if_neg (fun e => absurd e.2 (by decide))]
  have hE_0_2_1 : ∀ j : Int, w_ei ws (w_ar ws (n_v vs 0) 2) j = w_ei w1 (w_ar ws (n_v vs 0) 2) j := fun j => s1.1 _ _
  have hE_0_95_1 : ∀ j : Int, w_ei ws (w_ar ws (n_v vs 0) 95) j = w_ei w1 (w_ar ws (n_v vs 0) 95) j := fun j => s1.1 _ _
  have hK_0_95 : ∀ j : Int, 0 ≤ j → j < 48 → 0 ≤ w_ei ws (w_ar ws (n_v vs 0) 95) j ∧ w_ei ws (w_ar ws (n_v vs 0) 95) j ≤ 1 := fun j h0 h1 => th_el hD hth cr_0_95 (kd := 2) (n := 48) (m := 48) (lo := 0) (hi := 1) (rs := []) (L := []) rfl (by decide) (j := j.toNat) (by omega)
  have hE_0_102_1 : ∀ j : Int, w_ei ws (w_ar ws (n_v vs 0) 102) j = w_ei w1 (w_ar ws (n_v vs 0) 102) j := fun j => s1.1 _ _
  have hK_0_102 : ∀ j : Int, 0 ≤ j → j < 76 → 0 ≤ w_ei ws (w_ar ws (n_v vs 0) 102) j ∧ w_ei ws (w_ar ws (n_v vs 0) 102) j ≤ 75 := fun j h0 h1 => th_el hD hth cr_0_102 (kd := 0) (n := 76) (m := 76) (lo := 0) (hi := 75) (rs := []) (L := []) rfl (by decide) (j := j.toNat) (by omega)
  have hE_0_104_1 : ∀ j : Int, w_ei ws (w_ar ws (n_v vs 0) 104) j = w_ei w1 (w_ar ws (n_v vs 0) 104) j := fun j => s1.1 _ _
  have hK_0_104 : ∀ j : Int, 0 ≤ j → j < 48 → 0 ≤ w_ei ws (w_ar ws (n_v vs 0) 104) j ∧ w_ei ws (w_ar ws (n_v vs 0) 104) j ≤ 76 := fun j h0 h1 => th_el hD hth cr_0_104 (kd := 0) (n := 48) (m := 48) (lo := 0) (hi := 76) (rs := []) (L := []) rfl (by decide) (j := j.toNat) (by omega)
  have hE_0_108_1 : ∀ j : Int, w_ei ws (w_ar ws (n_v vs 0) 108) j = w_ei w1 (w_ar ws (n_v vs 0) 108) j := fun j => s1.1 _ _
  have hK_0_108 : ∀ j : Int, 0 ≤ j → j < 130 → 0 ≤ w_ei ws (w_ar ws (n_v vs 0) 108) j ∧ w_ei ws (w_ar ws (n_v vs 0) 108) j ≤ 75 := fun j h0 h1 => th_el hD hth cr_0_108 (kd := 0) (n := 130) (m := 130) (lo := 0) (hi := 75) (rs := []) (L := []) rfl (by decide) (j := j.toNat) (by omega)
  have hE_0_109_1 : ∀ j : Int, w_ei ws (w_ar ws (n_v vs 0) 109) j = w_ei w1 (w_ar ws (n_v vs 0) 109) j := fun j => s1.1 _ _
  have hK_0_109 : ∀ j : Int, 0 ≤ j → j < 130 → 0 ≤ w_ei ws (w_ar ws (n_v vs 0) 109) j ∧ w_ei ws (w_ar ws (n_v vs 0) 109) j ≤ 75 := fun j h0 h1 => th_el hD hth cr_0_109 (kd := 0) (n := 130) (m := 130) (lo := 0) (hi := 75) (rs := []) (L := []) rfl (by decide) (j := j.toNat) (by omega)
  have kz_0_100 : 0 ≤ w_fi ws (n_v vs 0) 100 ∧ w_fi ws (n_v vs 0) 100 ≤ 76 := tv_rng (th_fd hD hth r0 (g := GG_150) rfl (k := 100) (t := (0, 0, 76, [])) rfl rfl)
  have kz_0_101 : 0 ≤ w_fi ws (n_v vs 0) 101 ∧ w_fi ws (n_v vs 0) 101 ≤ 76 := tv_rng (th_fd hD hth r0 (g := GG_150) rfl (k := 101) (t := (0, 0, 76, [])) rfl rfl)
  have kz_0_107 : 0 ≤ w_fi ws (n_v vs 0) 107 ∧ w_fi ws (n_v vs 0) 107 ≤ 130 := tv_rng (th_fd hD hth r0 (g := GG_150) rfl (k := 107) (t := (0, 0, 130, [])) rfl rfl)
  have nf0 : fc_1 PRD (20, [2], [60, 2, 4, 367, 5, 100, 2, 95, 102, 104]) ws (vs) := by
    refine ⟨fun n hn => ?_, ?_⟩
    · have hn : n ∈ [2] := hn
      rw [hl]
      simp only [List.mem_cons, List.not_mem_nil, or_false] at hn
      show n < 9; omega
    · show LIF (w_fi ws (n_v vs 2) 5) (w_fi ws (n_v vs 2) 100) (w_ei ws (w_ar ws (n_v vs 2) 2)) (w_ei ws (w_ar ws (n_v vs 2) 95)) (w_ei ws (w_ar ws (n_v vs 2) 102)) (w_ei ws (w_ar ws (n_v vs 2) 104))
      rw [q2]
      exact vc_Mo_list_1_0 (v_iv (n_v vs 4)) (v_iv (n_v vs 6)) (v_iv (n_v vs 7)) (v_iv (n_v vs 8)) (w_ei ws (w_ar ws (n_v vs 0) 2)) (w_fi ws (n_v vs 0) 5) (w_ei ws (w_ar ws (n_v vs 0) 95)) (w_ei ws (w_ar ws (n_v vs 0) 102)) (w_ei ws (w_ar ws (n_v vs 0) 104)) (w_fi ws (n_v vs 0) 100) (w_ei ws (w_ar ws (n_v vs 0) 108)) (w_ei ws (w_ar ws (n_v vs 0) 109)) (w_fi ws (n_v vs 0) 107) (w_ei w1 (w_ar ws (n_v vs 0) 2)) (w_ei w1 (w_ar ws (n_v vs 0) 95)) (w_ei w1 (w_ar ws (n_v vs 0) 102)) (w_ei w1 (w_ar ws (n_v vs 0) 104)) (w_fi w1 (n_v vs 0) 5) (w_fi w1 (n_v vs 0) 100) (w_ei w1 (w_ar ws (n_v vs 0) 108)) (w_ei w1 (w_ar ws (n_v vs 0) 109)) (w_fi w1 (n_v vs 0) 107) (w_fi ws (n_v vs 0) 101) k4 k6 k7 k8 d0 f0 f1 f2 f3 f4 f5 f6 f9 f10 f11 f12 f13 f14 f15 f16 fe_0_5_1 fe_0_100_1 fe_0_101_1 fe_0_107_1 hE_0_2_1 hE_0_95_1 hK_0_95 hE_0_102_1 hK_0_102 hE_0_104_1 hK_0_104 hE_0_108_1 hK_0_108 hE_0_109_1 hK_0_109 kz_0_100 kz_0_101 kz_0_107
  have nf1 : fc_1 PRD (20, [2, 8], [60, 1, 1, 368, 101, 102]) ws (vs) := by
    refine ⟨fun n hn => ?_, ?_⟩
    · have hn : n ∈ [2, 8] := hn
      rw [hl]
      simp only [List.mem_cons, List.not_mem_nil, or_false] at hn
      show n < 9; omega
    · show LMF (w_fi ws (n_v vs 2) 101) (w_ei ws (w_ar ws (n_v vs 2) 102)) (v_iv (n_v vs 8))
      rw [q2]
      exact vc_Mo_list_1_1 (v_iv (n_v vs 4)) (v_iv (n_v vs 6)) (v_iv (n_v vs 7)) (v_iv (n_v vs 8)) (w_ei ws (w_ar ws (n_v vs 0) 2)) (w_fi ws (n_v vs 0) 5) (w_ei ws (w_ar ws (n_v vs 0) 95)) (w_ei ws (w_ar ws (n_v vs 0) 102)) (w_ei ws (w_ar ws (n_v vs 0) 104)) (w_fi ws (n_v vs 0) 100) (w_ei ws (w_ar ws (n_v vs 0) 108)) (w_ei ws (w_ar ws (n_v vs 0) 109)) (w_fi ws (n_v vs 0) 107) (w_ei w1 (w_ar ws (n_v vs 0) 2)) (w_ei w1 (w_ar ws (n_v vs 0) 95)) (w_ei w1 (w_ar ws (n_v vs 0) 102)) (w_ei w1 (w_ar ws (n_v vs 0) 104)) (w_fi w1 (n_v vs 0) 5) (w_fi w1 (n_v vs 0) 100) (w_ei w1 (w_ar ws (n_v vs 0) 108)) (w_ei w1 (w_ar ws (n_v vs 0) 109)) (w_fi w1 (n_v vs 0) 107) (w_fi ws (n_v vs 0) 101) k4 k6 k7 k8 d0 f0 f1 f2 f3 f4 f5 f6 f9 f10 f11 f12 f13 f14 f15 f16 fe_0_5_1 fe_0_100_1 fe_0_101_1 fe_0_107_1 hE_0_2_1 hE_0_95_1 hK_0_95 hE_0_102_1 hK_0_102 hE_0_104_1 hK_0_104 hE_0_108_1 hK_0_108 hE_0_109_1 hK_0_109 kz_0_100 kz_0_101 kz_0_107
  have nf2 : fc_1 PRD (20, [2], [50, 3, 1, 107, 100, 5, 2, 1, 3, 2, 0, 107, 4, 11, 5, 3, 2, 0, 100, 3, 0, 2, 2, 0, 5, 3, 0, 2, 4, 3, 2, 0, 5, 0, 1]) ws (vs) := by
    refine ⟨fun n hn => ?_, ?_⟩
    · have hn : n ∈ [2] := hn
      rw [hl]
      simp only [List.mem_cons, List.not_mem_nil, or_false] at hn
      show n < 9; omega
    · show w_fi ws (n_v vs 2) 107 = ((w_fi ws (n_v vs 2) 100 - w_ei ws (w_ar ws (n_v vs 2) 2) (w_fi ws (n_v vs 2) 5)) + w_ei ws (w_ar ws (n_v vs 2) 2) ((w_fi ws (n_v vs 2) 5 + 1)))
      rw [q2]
      exact vc_Mo_list_1_2 (v_iv (n_v vs 4)) (v_iv (n_v vs 6)) (v_iv (n_v vs 7)) (v_iv (n_v vs 8)) (w_ei ws (w_ar ws (n_v vs 0) 2)) (w_fi ws (n_v vs 0) 5) (w_ei ws (w_ar ws (n_v vs 0) 95)) (w_ei ws (w_ar ws (n_v vs 0) 102)) (w_ei ws (w_ar ws (n_v vs 0) 104)) (w_fi ws (n_v vs 0) 100) (w_ei ws (w_ar ws (n_v vs 0) 108)) (w_ei ws (w_ar ws (n_v vs 0) 109)) (w_fi ws (n_v vs 0) 107) (w_ei w1 (w_ar ws (n_v vs 0) 2)) (w_ei w1 (w_ar ws (n_v vs 0) 95)) (w_ei w1 (w_ar ws (n_v vs 0) 102)) (w_ei w1 (w_ar ws (n_v vs 0) 104)) (w_fi w1 (n_v vs 0) 5) (w_fi w1 (n_v vs 0) 100) (w_ei w1 (w_ar ws (n_v vs 0) 108)) (w_ei w1 (w_ar ws (n_v vs 0) 109)) (w_fi w1 (n_v vs 0) 107) (w_fi ws (n_v vs 0) 101) k4 k6 k7 k8 d0 f0 f1 f2 f3 f4 f5 f6 f9 f10 f11 f12 f13 f14 f15 f16 fe_0_5_1 fe_0_100_1 fe_0_101_1 fe_0_107_1 hE_0_2_1 hE_0_95_1 hK_0_95 hE_0_102_1 hK_0_102 hE_0_104_1 hK_0_104 hE_0_108_1 hK_0_108 hE_0_109_1 hK_0_109 kz_0_100 kz_0_101 kz_0_107
  refine ⟨(fun _ h => (by cases h)), [], trivial, ?_, (fun _ h => (by cases h))⟩
  rw [List.append_nil]
  exact List.forall_mem_cons.mpr ⟨⟨show (20 : Nat) < 100 from by decide, nf0⟩, List.forall_mem_cons.mpr ⟨⟨show (20 : Nat) < 100 from by decide, nf1⟩, List.forall_mem_cons.mpr ⟨⟨show (20 : Nat) < 100 from by decide, nf2⟩, (fun _ h => (by cases h))⟩⟩⟩
set_option maxHeartbeats 4000000 in
theorem vc_Mo_list_2_r0 (x4 : Int) (x5 : Int) (x6 : Int) (items_0 : Int) (all_0 : Int → Int) (r_0 : Int) (turned_0 : Int → Int) (itemLayer_0 : Int → Int) (firstJoint_0 : Int → Int) (lineA_0 : Int → Int) (lineB_0 : Int → Int) (lines_0 : Int) (k4 : 0 ≤ x4 ∧ x4 ≤ 47) (k5 : 0 ≤ x5 ∧ x5 ≤ 75) (k6 : 1 ≤ x6 ∧ x6 ≤ 48) (d0 : x6 + (-4294967296) ≤ x4 ∧ x4 ≤ x6 + (-1)) (g0 : x5 = items_0) (f2 : x4 < x6) (f3 : 1 * x6 + ((-1) * all_0 (r_0 + 1) + 0) ≤ 0) (f4 : (-1) * x6 + (1 * all_0 (r_0 + 1) + 0) ≤ 0) (f5 : LIC (r_0) (items_0) (all_0) (turned_0) (itemLayer_0) (firstJoint_0) (x4)) (f6 : LNP (r_0) (lines_0) (items_0) (all_0) (itemLayer_0) (lineA_0) (lineB_0)) (f7 : lines_0 = ((items_0 - all_0 (r_0)) + x4)) (f8 : x4 ≤ all_0 ((r_0 + 1))) (f9 : 0 ≤ all_0 (r_0)) (hK_0_95 : ∀ j : Int, 0 ≤ j → j < 48 → 0 ≤ turned_0 j ∧ turned_0 j ≤ 1) (hK_0_102 : ∀ j : Int, 0 ≤ j → j < 76 → 0 ≤ itemLayer_0 j ∧ itemLayer_0 j ≤ 75) (hK_0_104 : ∀ j : Int, 0 ≤ j → j < 48 → 0 ≤ firstJoint_0 j ∧ firstJoint_0 j ≤ 76) (hK_0_108 : ∀ j : Int, 0 ≤ j → j < 130 → 0 ≤ lineA_0 j ∧ lineA_0 j ≤ 75) (hK_0_109 : ∀ j : Int, 0 ≤ j → j < 130 → 0 ≤ lineB_0 j ∧ lineB_0 j ≤ 75) (kz_0_100 : 0 ≤ items_0 ∧ items_0 ≤ 76) (kz_0_107 : 0 ≤ lines_0 ∧ lines_0 ≤ 130) : 0 ≤ x5 ∧ x5 ≤ 72 := by
  try simp only [Int.add_zero] at *
  first
    | omega
    | (have h := lid_bd ‹LID _ _ _ _ _ _ _ _ _›; omega)
    | (have h := ‹LYJ _ _ _ _›.1.1.1; omega)
    | (have h := (lic_bd ‹LIC _ _ _ _ _ _ _›).1; omega)
    | (have h := (lic_bd ‹LIF _ _ _ _ _ _›).1; omega)
    | (have h := ‹LSA _ _ _ _ _ _ _ _ _ _›.2.1; omega)
    | (have h := lli_bd ‹LLI _ _ _ _ _ _›; have h2 := ‹LSA _ _ _ _ _ _ _ _ _ _›.2.1; omega)
def o_Mo_list_2 : or_T := (29, 8, [(0, (2, 0, 0, [150])), (2, (2, 0, 0, [150])), (4, (0, 0, 47, [])), (5, (0, 0, 75, [])), (6, (0, 1, 48, [])), (7, (2, 0, 0, [222]))], [(9, [5, 2], [100]), (9, [7, 2], [104]), (7, [4, 6], [2]), (20, [6, 2], [30, 0, 1, 0, 0, -1, 3, 2005001]), (20, [6, 2], [30, 0, -1, 0, 0, 1, 3, 2005001]), (20, [2, 4], [60, 2, 4, 365, 5, 100, 2, 95, 102, 104]), (20, [2], [60, 3, 4, 363, 5, 107, 100, 2, 102, 108, 109]), (20, [2, 4], [50, 3, 1, 107, 100, 5, 2, 1, 3, 2, 0, 107, 4, 11, 5, 3, 2, 0, 100, 3, 0, 2, 2, 0, 5, 1, 1]), (20, [4, 2], [50, 1, 1, 1005, 1002, 0, 2, 1, 0, 3, 1, 2, 4, 3, 2, 1, 5, 0, 1]), (20, [2], [50, 1, 1, 5, 2, 0, 2, 0, 0, 3, 0, 2, 2, 0, 5]), (24, [0, 2], [])], [(5, (0, 0, 72, []))], [], [], [], [(4, 6, -4294967296, -1)])
theorem oo_Mo_list_2 {kA : Nat → ClassId} : or_ok PRD kA GG o_Mo_list_2 := by
  intro A ta ws vs hD hth hl hk hds hf
  have hl : vs.length = 8 := hl
  have hk : ∀ q ∈ ([(0, (2, 0, 0, [150])), (2, (2, 0, 0, [150])), (4, (0, 0, 47, [])), (5, (0, 0, 75, [])), (6, (0, 1, 48, [])), (7, (2, 0, 0, [222]))] : List (Nat × tv_T)), tv_ok ta q.2 (n_v vs q.1) := hk
  obtain ⟨t0, hk⟩ := List.forall_mem_cons.mp hk
  have t0 : tv_ok ta (2, 0, 0, [150]) (n_v vs 0) := t0
  have r0 : ta (v_ad (n_v vs 0)) = some 150 := tv_rg t0
  obtain ⟨t2, hk⟩ := List.forall_mem_cons.mp hk
  have t2 : tv_ok ta (2, 0, 0, [150]) (n_v vs 2) := t2
  have r2 : ta (v_ad (n_v vs 2)) = some 150 := tv_rg t2
  obtain ⟨t4, hk⟩ := List.forall_mem_cons.mp hk
  have t4 : tv_ok ta (0, 0, 47, []) (n_v vs 4) := t4
  have k4 : 0 ≤ v_iv (n_v vs 4) ∧ v_iv (n_v vs 4) ≤ 47 := tv_rng t4
  obtain ⟨t5, hk⟩ := List.forall_mem_cons.mp hk
  have t5 : tv_ok ta (0, 0, 75, []) (n_v vs 5) := t5
  have k5 : 0 ≤ v_iv (n_v vs 5) ∧ v_iv (n_v vs 5) ≤ 75 := tv_rng t5
  obtain ⟨t6, hk⟩ := List.forall_mem_cons.mp hk
  have t6 : tv_ok ta (0, 1, 48, []) (n_v vs 6) := t6
  have k6 : 1 ≤ v_iv (n_v vs 6) ∧ v_iv (n_v vs 6) ≤ 48 := tv_rng t6
  obtain ⟨t7, hk⟩ := List.forall_mem_cons.mp hk
  have t7 : tv_ok ta (2, 0, 0, [222]) (n_v vs 7) := t7
  have r7 : ta (v_ad (n_v vs 7)) = some 222 := tv_rg t7
  have hds : ∀ q ∈ ([(4, 6, -4294967296, -1)] : List of_T), n_iv vs q.2.1 + q.2.2.1 ≤ n_iv vs q.1 ∧ n_iv vs q.1 ≤ n_iv vs q.2.1 + q.2.2.2 := hds
  obtain ⟨d0, hds⟩ := List.forall_mem_cons.mp hds
  have d0 : v_iv (n_v vs 6) + (-4294967296) ≤ v_iv (n_v vs 4) ∧ v_iv (n_v vs 4) ≤ v_iv (n_v vs 6) + (-1) := d0
  have hf : fc_ok PRD [(9, [5, 2], [100]), (9, [7, 2], [104]), (7, [4, 6], [2]), (20, [6, 2], [30, 0, 1, 0, 0, -1, 3, 2005001]), (20, [6, 2], [30, 0, -1, 0, 0, 1, 3, 2005001]), (20, [2, 4], [60, 2, 4, 365, 5, 100, 2, 95, 102, 104]), (20, [2], [60, 3, 4, 363, 5, 107, 100, 2, 102, 108, 109]), (20, [2, 4], [50, 3, 1, 107, 100, 5, 2, 1, 3, 2, 0, 107, 4, 11, 5, 3, 2, 0, 100, 3, 0, 2, 2, 0, 5, 1, 1]), (20, [4, 2], [50, 1, 1, 1005, 1002, 0, 2, 1, 0, 3, 1, 2, 4, 3, 2, 1, 5, 0, 1]), (20, [2], [50, 1, 1, 5, 2, 0, 2, 0, 0, 3, 0, 2, 2, 0, 5]), (24, [0, 2], [])] ta ws vs := hf
  obtain ⟨f0, hf⟩ := fc_un (show (9 : Nat) < 100 from by decide) hf
  have f0 : n_v vs 5 = w_fd ws (v_ad (n_v vs 2)) 100 := f0
  obtain ⟨f1, hf⟩ := fc_un (show (9 : Nat) < 100 from by decide) hf
  have f1 : n_v vs 7 = w_fd ws (v_ad (n_v vs 2)) 104 := f1
  obtain ⟨f2, hf⟩ := fc_un (show (7 : Nat) < 100 from by decide) hf
  have f2 : v_iv (n_v vs 4) < v_iv (n_v vs 6) := f2
  obtain ⟨f3, hf⟩ := fc_un (show (20 : Nat) < 100 from by decide) hf
  have f3 : 1 * v_iv (n_v vs 6) + ((-1) * w_el ws (w_ar ws (n_v vs 2) 2) (w_fi ws (n_v vs 2) 5 + 1).toNat + 0) ≤ 0 := f3
  obtain ⟨f4, hf⟩ := fc_un (show (20 : Nat) < 100 from by decide) hf
  have f4 : (-1) * v_iv (n_v vs 6) + (1 * w_el ws (w_ar ws (n_v vs 2) 2) (w_fi ws (n_v vs 2) 5 + 1).toNat + 0) ≤ 0 := f4
  obtain ⟨f5, hf⟩ := fc_un (show (20 : Nat) < 100 from by decide) hf
  have f5 : LIC (w_fi ws (n_v vs 2) 5) (w_fi ws (n_v vs 2) 100) (w_ei ws (w_ar ws (n_v vs 2) 2)) (w_ei ws (w_ar ws (n_v vs 2) 95)) (w_ei ws (w_ar ws (n_v vs 2) 102)) (w_ei ws (w_ar ws (n_v vs 2) 104)) (v_iv (n_v vs 4)) := f5
  obtain ⟨f6, hf⟩ := fc_un (show (20 : Nat) < 100 from by decide) hf
  have f6 : LNP (w_fi ws (n_v vs 2) 5) (w_fi ws (n_v vs 2) 107) (w_fi ws (n_v vs 2) 100) (w_ei ws (w_ar ws (n_v vs 2) 2)) (w_ei ws (w_ar ws (n_v vs 2) 102)) (w_ei ws (w_ar ws (n_v vs 2) 108)) (w_ei ws (w_ar ws (n_v vs 2) 109)) := f6
  obtain ⟨f7, hf⟩ := fc_un (show (20 : Nat) < 100 from by decide) hf
  have f7 : w_fi ws (n_v vs 2) 107 = ((w_fi ws (n_v vs 2) 100 - w_ei ws (w_ar ws (n_v vs 2) 2) (w_fi ws (n_v vs 2) 5)) + v_iv (n_v vs 4)) := f7
  obtain ⟨f8, hf⟩ := fc_un (show (20 : Nat) < 100 from by decide) hf
  have f8 : v_iv (n_v vs 4) ≤ w_ei ws (w_ar ws (n_v vs 2) 2) ((w_fi ws (n_v vs 2) 5 + 1)) := f8
  obtain ⟨f9, hf⟩ := fc_un (show (20 : Nat) < 100 from by decide) hf
  have f9 : 0 ≤ w_ei ws (w_ar ws (n_v vs 2) 2) (w_fi ws (n_v vs 2) 5) := f9
  obtain ⟨f10, hf⟩ := fc_un (show (24 : Nat) < 100 from by decide) hf
  have f10 : n_v vs 0 = n_v vs 2 := f10
  have q2 : n_v vs 2 = n_v vs 0 := f10.symm
  rw [q2] at f0
  rw [q2] at f1
  rw [q2] at f3
  rw [q2] at f4
  rw [q2] at f5
  rw [q2] at f6
  rw [q2] at f7
  rw [q2] at f8
  rw [q2] at f9
  have cr_0_2 : ta (w_ar ws (n_v vs 0) 2) = some 152 := tv_rg (th_fd hD hth r0 (g := GG_150) rfl (k := 2) (t := (2, 0, 0, [152])) rfl rfl)
  have cr_0_95 : ta (w_ar ws (n_v vs 0) 95) = some 216 := tv_rg (th_fd hD hth r0 (g := GG_150) rfl (k := 95) (t := (2, 0, 0, [216])) rfl rfl)
  have cr_0_102 : ta (w_ar ws (n_v vs 0) 102) = some 220 := tv_rg (th_fd hD hth r0 (g := GG_150) rfl (k := 102) (t := (2, 0, 0, [220])) rfl rfl)
  have cr_0_104 : ta (w_ar ws (n_v vs 0) 104) = some 222 := tv_rg (th_fd hD hth r0 (g := GG_150) rfl (k := 104) (t := (2, 0, 0, [222])) rfl rfl)
  have cr_0_108 : ta (w_ar ws (n_v vs 0) 108) = some 225 := tv_rg (th_fd hD hth r0 (g := GG_150) rfl (k := 108) (t := (2, 0, 0, [225])) rfl rfl)
  have cr_0_109 : ta (w_ar ws (n_v vs 0) 109) = some 226 := tv_rg (th_fd hD hth r0 (g := GG_150) rfl (k := 109) (t := (2, 0, 0, [226])) rfl rfl)
  have ad_7 : v_ad (n_v vs 7) = w_ar ws (n_v vs 0) 104 := congrArg v_ad f1
  have g0 : v_iv (n_v vs 5) = w_fi ws (n_v vs 0) 100 := congrArg v_iv f0
  have hK_0_95 : ∀ j : Int, 0 ≤ j → j < 48 → 0 ≤ w_ei ws (w_ar ws (n_v vs 0) 95) j ∧ w_ei ws (w_ar ws (n_v vs 0) 95) j ≤ 1 := fun j h0 h1 => th_el hD hth cr_0_95 (kd := 2) (n := 48) (m := 48) (lo := 0) (hi := 1) (rs := []) (L := []) rfl (by decide) (j := j.toNat) (by omega)
  have hK_0_102 : ∀ j : Int, 0 ≤ j → j < 76 → 0 ≤ w_ei ws (w_ar ws (n_v vs 0) 102) j ∧ w_ei ws (w_ar ws (n_v vs 0) 102) j ≤ 75 := fun j h0 h1 => th_el hD hth cr_0_102 (kd := 0) (n := 76) (m := 76) (lo := 0) (hi := 75) (rs := []) (L := []) rfl (by decide) (j := j.toNat) (by omega)
  have hK_0_104 : ∀ j : Int, 0 ≤ j → j < 48 → 0 ≤ w_ei ws (w_ar ws (n_v vs 0) 104) j ∧ w_ei ws (w_ar ws (n_v vs 0) 104) j ≤ 76 := fun j h0 h1 => th_el hD hth cr_0_104 (kd := 0) (n := 48) (m := 48) (lo := 0) (hi := 76) (rs := []) (L := []) rfl (by decide) (j := j.toNat) (by omega)
  have hK_0_108 : ∀ j : Int, 0 ≤ j → j < 130 → 0 ≤ w_ei ws (w_ar ws (n_v vs 0) 108) j ∧ w_ei ws (w_ar ws (n_v vs 0) 108) j ≤ 75 := fun j h0 h1 => th_el hD hth cr_0_108 (kd := 0) (n := 130) (m := 130) (lo := 0) (hi := 75) (rs := []) (L := []) rfl (by decide) (j := j.toNat) (by omega)
  have hK_0_109 : ∀ j : Int, 0 ≤ j → j < 130 → 0 ≤ w_ei ws (w_ar ws (n_v vs 0) 109) j ∧ w_ei ws (w_ar ws (n_v vs 0) 109) j ≤ 75 := fun j h0 h1 => th_el hD hth cr_0_109 (kd := 0) (n := 130) (m := 130) (lo := 0) (hi := 75) (rs := []) (L := []) rfl (by decide) (j := j.toNat) (by omega)
  have kz_0_100 : 0 ≤ w_fi ws (n_v vs 0) 100 ∧ w_fi ws (n_v vs 0) 100 ≤ 76 := tv_rng (th_fd hD hth r0 (g := GG_150) rfl (k := 100) (t := (0, 0, 76, [])) rfl rfl)
  have kz_0_107 : 0 ≤ w_fi ws (n_v vs 0) 107 ∧ w_fi ws (n_v vs 0) 107 ≤ 130 := tv_rng (th_fd hD hth r0 (g := GG_150) rfl (k := 107) (t := (0, 0, 130, [])) rfl rfl)
  have hrf0 : 0 ≤ v_iv (n_v vs 5) ∧ v_iv (n_v vs 5) ≤ 72 := vc_Mo_list_2_r0 (v_iv (n_v vs 4)) (v_iv (n_v vs 5)) (v_iv (n_v vs 6)) (w_fi ws (n_v vs 0) 100) (w_ei ws (w_ar ws (n_v vs 0) 2)) (w_fi ws (n_v vs 0) 5) (w_ei ws (w_ar ws (n_v vs 0) 95)) (w_ei ws (w_ar ws (n_v vs 0) 102)) (w_ei ws (w_ar ws (n_v vs 0) 104)) (w_ei ws (w_ar ws (n_v vs 0) 108)) (w_ei ws (w_ar ws (n_v vs 0) 109)) (w_fi ws (n_v vs 0) 107) k4 k5 k6 d0 g0 f2 f3 f4 f5 f6 f7 f8 f9 hK_0_95 hK_0_102 hK_0_104 hK_0_108 hK_0_109 kz_0_100 kz_0_107
  have rf5 : tv_ok ta (0, 0, 72, []) (n_v vs 5) := tv_in t5 (by first | omega | grind) (by first | omega | grind)
  refine ⟨List.forall_mem_cons.mpr ⟨rf5, (fun _ h => (by cases h))⟩, [], trivial, ?_, (fun _ h => (by cases h))⟩
  rw [List.append_nil]
  exact (fun _ h => (by cases h))
set_option maxHeartbeats 4000000 in
theorem vc_Mo_list_3_0 (x4 : Int) (x5 : Int) (x6 : Int) (x8 : Int) (x10 : Int) (x11 : Int) (x12 : Int) (x13 : Int) (itemLayer_0 : Int → Int) (all_0 : Int → Int) (turned_0 : Int → Int) (r_0 : Int) (lineA_0 : Int → Int) (lineB_0 : Int → Int) (lines_0 : Int) (items_0 : Int) (items_1 : Int) (all_1 : Int → Int) (turned_1 : Int → Int) (itemLayer_1 : Int → Int) (firstJoint_1 : Int → Int) (r_1 : Int) (lineA_1 : Int → Int) (lineB_1 : Int → Int) (lines_1 : Int) (firstJoint_0 : Int → Int) (k4 : 0 ≤ x4 ∧ x4 ≤ 47) (k5 : 0 ≤ x5 ∧ x5 ≤ 72) (k6 : 1 ≤ x6 ∧ x6 ≤ 48) (k8 : 0 ≤ x8 ∧ x8 ≤ 23) (k10 : 0 ≤ x10 ∧ x10 ≤ 23) (k11 : 0 ≤ x11 ∧ x11 ≤ 75) (k12 : 1 ≤ x12 ∧ x12 ≤ 1) (k13 : 1 ≤ x13 ∧ x13 ≤ 76) (d0 : x11 + 1 ≤ x13 ∧ x13 ≤ x11 + 1) (d1 : x6 + (-4294967296) ≤ x4 ∧ x4 ≤ x6 + (-1)) (f0 : x13 = x11 + x12) (h1 : x11 = itemLayer_0 (x10)) (f2 : FRO (r_0) (all_0) (turned_0) (x4) (x10)) (f4 : FRO (r_0) (all_0) (turned_0) (x4) (x8)) (f5 : 1 * x6 + ((-1) * all_0 (r_0 + 1) + 0) ≤ 0) (f6 : (-1) * x6 + (1 * all_0 (r_0 + 1) + 0) ≤ 0) (f7 : LNP (r_0) (lines_0) (items_0) (all_0) (itemLayer_0) (lineA_0) (lineB_0)) (f8 : lines_0 = ((items_0 - all_0 (r_0)) + x4)) (f9 : x4 ≤ all_0 ((r_0 + 1))) (f10 : 0 ≤ all_0 (r_0)) (g13 : x5 = items_1) (f15 : x4 < x6) (f16 : 1 * x6 + ((-1) * all_1 (r_0 + 1) + 0) ≤ 0) (f17 : (-1) * x6 + (1 * all_1 (r_0 + 1) + 0) ≤ 0) (f18 : LIC (r_1) (items_1) (all_1) (turned_1) (itemLayer_1) (firstJoint_1) (x4)) (f19 : LNP (r_1) (lines_1) (items_1) (all_1) (itemLayer_1) (lineA_1) (lineB_1)) (f20 : lines_1 = ((items_1 - all_1 (r_1)) + x4)) (f21 : x4 ≤ all_1 ((r_1 + 1))) (f22 : 0 ≤ all_1 (r_1)) (fe_0_5_1 : r_0 = r_1) (fe_0_100_1 : items_0 = items_1) (fe_0_107_1 : lines_0 = lines_1) (hE_0_2_1 : ∀ j : Int, all_0 j = all_1 j) (hE_0_95_1 : ∀ j : Int, turned_0 j = turned_1 j) (hK_0_95 : ∀ j : Int, 0 ≤ j → j < 48 → 0 ≤ turned_0 j ∧ turned_0 j ≤ 1) (hE_0_102_1 : ∀ j : Int, itemLayer_0 j = itemLayer_1 j) (hK_0_102 : ∀ j : Int, 0 ≤ j → j < 76 → 0 ≤ itemLayer_0 j ∧ itemLayer_0 j ≤ 75) (hE_0_104_1 : ∀ j : Int, 0 ≤ j → (j = x4 → firstJoint_0 j = x5) ∧ (j ≠ x4 → firstJoint_0 j = firstJoint_1 j)) (hK_0_104 : ∀ j : Int, 0 ≤ j → j < 48 → 0 ≤ firstJoint_0 j ∧ firstJoint_0 j ≤ 76) (hE_0_108_1 : ∀ j : Int, lineA_0 j = lineA_1 j) (hK_0_108 : ∀ j : Int, 0 ≤ j → j < 130 → 0 ≤ lineA_0 j ∧ lineA_0 j ≤ 75) (hE_0_109_1 : ∀ j : Int, lineB_0 j = lineB_1 j) (hK_0_109 : ∀ j : Int, 0 ≤ j → j < 130 → 0 ≤ lineB_0 j ∧ lineB_0 j ≤ 75) (kz_0_100 : 0 ≤ items_0 ∧ items_0 ≤ 76) (kz_0_107 : 0 ≤ lines_0 ∧ lines_0 ≤ 130) : LID (r_0) (items_0) (all_0) (turned_0) (itemLayer_0) (firstJoint_0) (x4) (x8) (x13) := by
  subst fe_0_5_1
  subst fe_0_100_1
  subst fe_0_107_1
  have e_hE_0_2_1 := funext hE_0_2_1; subst e_hE_0_2_1
  have e_hE_0_95_1 := funext hE_0_95_1; subst e_hE_0_95_1
  have e_hE_0_102_1 := funext hE_0_102_1; subst e_hE_0_102_1
  have e_hE_0_108_1 := funext hE_0_108_1; subst e_hE_0_108_1
  have e_hE_0_109_1 := funext hE_0_109_1; subst e_hE_0_109_1
  first
    | exact lid_start (a := x10) ‹LIC _ _ _ _ _ _ _› (by omega) (by assumption) rfl (by omega) (by assumption) (by assumption) (by assumption) (by omega)
    | exact lie_next ‹LIE _ _ _ _ _ _ _ _ _› (by omega) (by omega) (by omega)
set_option maxHeartbeats 4000000 in
theorem vc_Mo_list_3_1 (x4 : Int) (x5 : Int) (x6 : Int) (x8 : Int) (x10 : Int) (x11 : Int) (x12 : Int) (x13 : Int) (itemLayer_0 : Int → Int) (all_0 : Int → Int) (turned_0 : Int → Int) (r_0 : Int) (lineA_0 : Int → Int) (lineB_0 : Int → Int) (lines_0 : Int) (items_0 : Int) (items_1 : Int) (all_1 : Int → Int) (turned_1 : Int → Int) (itemLayer_1 : Int → Int) (firstJoint_1 : Int → Int) (r_1 : Int) (lineA_1 : Int → Int) (lineB_1 : Int → Int) (lines_1 : Int) (firstJoint_0 : Int → Int) (k4 : 0 ≤ x4 ∧ x4 ≤ 47) (k5 : 0 ≤ x5 ∧ x5 ≤ 72) (k6 : 1 ≤ x6 ∧ x6 ≤ 48) (k8 : 0 ≤ x8 ∧ x8 ≤ 23) (k10 : 0 ≤ x10 ∧ x10 ≤ 23) (k11 : 0 ≤ x11 ∧ x11 ≤ 75) (k12 : 1 ≤ x12 ∧ x12 ≤ 1) (k13 : 1 ≤ x13 ∧ x13 ≤ 76) (d0 : x11 + 1 ≤ x13 ∧ x13 ≤ x11 + 1) (d1 : x6 + (-4294967296) ≤ x4 ∧ x4 ≤ x6 + (-1)) (f0 : x13 = x11 + x12) (h1 : x11 = itemLayer_0 (x10)) (f2 : FRO (r_0) (all_0) (turned_0) (x4) (x10)) (f4 : FRO (r_0) (all_0) (turned_0) (x4) (x8)) (f5 : 1 * x6 + ((-1) * all_0 (r_0 + 1) + 0) ≤ 0) (f6 : (-1) * x6 + (1 * all_0 (r_0 + 1) + 0) ≤ 0) (f7 : LNP (r_0) (lines_0) (items_0) (all_0) (itemLayer_0) (lineA_0) (lineB_0)) (f8 : lines_0 = ((items_0 - all_0 (r_0)) + x4)) (f9 : x4 ≤ all_0 ((r_0 + 1))) (f10 : 0 ≤ all_0 (r_0)) (g13 : x5 = items_1) (f15 : x4 < x6) (f16 : 1 * x6 + ((-1) * all_1 (r_0 + 1) + 0) ≤ 0) (f17 : (-1) * x6 + (1 * all_1 (r_0 + 1) + 0) ≤ 0) (f18 : LIC (r_1) (items_1) (all_1) (turned_1) (itemLayer_1) (firstJoint_1) (x4)) (f19 : LNP (r_1) (lines_1) (items_1) (all_1) (itemLayer_1) (lineA_1) (lineB_1)) (f20 : lines_1 = ((items_1 - all_1 (r_1)) + x4)) (f21 : x4 ≤ all_1 ((r_1 + 1))) (f22 : 0 ≤ all_1 (r_1)) (fe_0_5_1 : r_0 = r_1) (fe_0_100_1 : items_0 = items_1) (fe_0_107_1 : lines_0 = lines_1) (hE_0_2_1 : ∀ j : Int, all_0 j = all_1 j) (hE_0_95_1 : ∀ j : Int, turned_0 j = turned_1 j) (hK_0_95 : ∀ j : Int, 0 ≤ j → j < 48 → 0 ≤ turned_0 j ∧ turned_0 j ≤ 1) (hE_0_102_1 : ∀ j : Int, itemLayer_0 j = itemLayer_1 j) (hK_0_102 : ∀ j : Int, 0 ≤ j → j < 76 → 0 ≤ itemLayer_0 j ∧ itemLayer_0 j ≤ 75) (hE_0_104_1 : ∀ j : Int, 0 ≤ j → (j = x4 → firstJoint_0 j = x5) ∧ (j ≠ x4 → firstJoint_0 j = firstJoint_1 j)) (hK_0_104 : ∀ j : Int, 0 ≤ j → j < 48 → 0 ≤ firstJoint_0 j ∧ firstJoint_0 j ≤ 76) (hE_0_108_1 : ∀ j : Int, lineA_0 j = lineA_1 j) (hK_0_108 : ∀ j : Int, 0 ≤ j → j < 130 → 0 ≤ lineA_0 j ∧ lineA_0 j ≤ 75) (hE_0_109_1 : ∀ j : Int, lineB_0 j = lineB_1 j) (hK_0_109 : ∀ j : Int, 0 ≤ j → j < 130 → 0 ≤ lineB_0 j ∧ lineB_0 j ≤ 75) (kz_0_100 : 0 ≤ items_0 ∧ items_0 ≤ 76) (kz_0_107 : 0 ≤ lines_0 ∧ lines_0 ≤ 130) : (x4 + 1) ≤ all_0 ((r_0 + 1)) := by
  subst fe_0_5_1
  subst fe_0_100_1
  subst fe_0_107_1
  have e_hE_0_2_1 := funext hE_0_2_1; subst e_hE_0_2_1
  have e_hE_0_95_1 := funext hE_0_95_1; subst e_hE_0_95_1
  have e_hE_0_102_1 := funext hE_0_102_1; subst e_hE_0_102_1
  have e_hE_0_108_1 := funext hE_0_108_1; subst e_hE_0_108_1
  have e_hE_0_109_1 := funext hE_0_109_1; subst e_hE_0_109_1
  try simp only [Int.add_zero] at *
  first
    | omega
    | (have h := lid_bd ‹LID _ _ _ _ _ _ _ _ _›; omega)
    | (have h := ‹LYJ _ _ _ _›.1.1.1; omega)
    | (have h := (lic_bd ‹LIC _ _ _ _ _ _ _›).1; omega)
    | (have h := (lic_bd ‹LIF _ _ _ _ _ _›).1; omega)
    | (have h := ‹LSA _ _ _ _ _ _ _ _ _ _›.2.1; omega)
    | (have h := lli_bd ‹LLI _ _ _ _ _ _›; have h2 := ‹LSA _ _ _ _ _ _ _ _ _ _›.2.1; omega)
def o_Mo_list_3 : or_T := (50, 14, [(0, (2, 0, 0, [150])), (2, (2, 0, 0, [150])), (4, (0, 0, 47, [])), (5, (0, 0, 72, [])), (6, (0, 1, 48, [])), (7, (2, 0, 0, [222])), (8, (0, 0, 23, [])), (9, (2, 0, 0, [220])), (10, (0, 0, 23, [])), (11, (0, 0, 75, [])), (12, (0, 1, 1, [])), (13, (0, 1, 76, []))], [(1, [13, 11, 12], []), (10, [11, 9, 10], []), (20, [2, 4, 10], [60, 1, 2, 356, 5, 2, 95]), (9, [9, 2], [102]), (20, [2, 4, 8], [60, 1, 2, 356, 5, 2, 95]), (20, [6, 2], [30, 0, 1, 0, 0, -1, 3, 2005001]), (20, [6, 2], [30, 0, -1, 0, 0, 1, 3, 2005001]), (20, [2], [60, 3, 4, 363, 5, 107, 100, 2, 102, 108, 109]), (20, [2, 4], [50, 3, 1, 107, 100, 5, 2, 1, 3, 2, 0, 107, 4, 11, 5, 3, 2, 0, 100, 3, 0, 2, 2, 0, 5, 1, 1]), (20, [4, 2], [50, 1, 1, 1005, 1002, 0, 2, 1, 0, 3, 1, 2, 4, 3, 2, 1, 5, 0, 1]), (20, [2], [50, 1, 1, 5, 2, 0, 2, 0, 0, 3, 0, 2, 2, 0, 5]), (24, [0, 2], []), (100, [7, 4, 5], []), (9, [5, 2], [100]), (9, [7, 2], [104]), (7, [4, 6], [2]), (20, [6, 2], [30, 0, 1, 0, 0, -1, 3, 2005001]), (20, [6, 2], [30, 0, -1, 0, 0, 1, 3, 2005001]), (20, [2, 4], [60, 2, 4, 365, 5, 100, 2, 95, 102, 104]), (20, [2], [60, 3, 4, 363, 5, 107, 100, 2, 102, 108, 109]), (20, [2, 4], [50, 3, 1, 107, 100, 5, 2, 1, 3, 2, 0, 107, 4, 11, 5, 3, 2, 0, 100, 3, 0, 2, 2, 0, 5, 1, 1]), (20, [4, 2], [50, 1, 1, 1005, 1002, 0, 2, 1, 0, 3, 1, 2, 4, 3, 2, 1, 5, 0, 1]), (20, [2], [50, 1, 1, 5, 2, 0, 2, 0, 0, 3, 0, 2, 2, 0, 5])], [], [], [(20, [2, 4, 8, 13], [60, 2, 4, 366, 5, 100, 2, 95, 102, 104]), (20, [4, 2], [50, 1, 1, 1005, 1002, 0, 6, 4, 2, 1, 0, 0, 1, 3, 1, 2, 4, 3, 2, 1, 5, 0, 1])], [], [(13, 11, 1, 1), (4, 6, -4294967296, -1)])
theorem oo_Mo_list_3 {kA : Nat → ClassId} : or_ok PRD kA GG o_Mo_list_3 := by
  intro A ta ws vs hD hth hl hk hds hf
  have hl : vs.length = 14 := hl
  have hk : ∀ q ∈ ([(0, (2, 0, 0, [150])), (2, (2, 0, 0, [150])), (4, (0, 0, 47, [])), (5, (0, 0, 72, [])), (6, (0, 1, 48, [])), (7, (2, 0, 0, [222])), (8, (0, 0, 23, [])), (9, (2, 0, 0, [220])), (10, (0, 0, 23, [])), (11, (0, 0, 75, [])), (12, (0, 1, 1, [])), (13, (0, 1, 76, []))] : List (Nat × tv_T)), tv_ok ta q.2 (n_v vs q.1) := hk
  obtain ⟨t0, hk⟩ := List.forall_mem_cons.mp hk
  have t0 : tv_ok ta (2, 0, 0, [150]) (n_v vs 0) := t0
  have r0 : ta (v_ad (n_v vs 0)) = some 150 := tv_rg t0
  obtain ⟨t2, hk⟩ := List.forall_mem_cons.mp hk
  have t2 : tv_ok ta (2, 0, 0, [150]) (n_v vs 2) := t2
  have r2 : ta (v_ad (n_v vs 2)) = some 150 := tv_rg t2
  obtain ⟨t4, hk⟩ := List.forall_mem_cons.mp hk
  have t4 : tv_ok ta (0, 0, 47, []) (n_v vs 4) := t4
  have k4 : 0 ≤ v_iv (n_v vs 4) ∧ v_iv (n_v vs 4) ≤ 47 := tv_rng t4
  obtain ⟨t5, hk⟩ := List.forall_mem_cons.mp hk
  have t5 : tv_ok ta (0, 0, 72, []) (n_v vs 5) := t5
  have k5 : 0 ≤ v_iv (n_v vs 5) ∧ v_iv (n_v vs 5) ≤ 72 := tv_rng t5
  obtain ⟨t6, hk⟩ := List.forall_mem_cons.mp hk
  have t6 : tv_ok ta (0, 1, 48, []) (n_v vs 6) := t6
  have k6 : 1 ≤ v_iv (n_v vs 6) ∧ v_iv (n_v vs 6) ≤ 48 := tv_rng t6
  obtain ⟨t7, hk⟩ := List.forall_mem_cons.mp hk
  have t7 : tv_ok ta (2, 0, 0, [222]) (n_v vs 7) := t7
  have r7 : ta (v_ad (n_v vs 7)) = some 222 := tv_rg t7
  obtain ⟨t8, hk⟩ := List.forall_mem_cons.mp hk
  have t8 : tv_ok ta (0, 0, 23, []) (n_v vs 8) := t8
  have k8 : 0 ≤ v_iv (n_v vs 8) ∧ v_iv (n_v vs 8) ≤ 23 := tv_rng t8
  obtain ⟨t9, hk⟩ := List.forall_mem_cons.mp hk
  have t9 : tv_ok ta (2, 0, 0, [220]) (n_v vs 9) := t9
  have r9 : ta (v_ad (n_v vs 9)) = some 220 := tv_rg t9
  obtain ⟨t10, hk⟩ := List.forall_mem_cons.mp hk
  have t10 : tv_ok ta (0, 0, 23, []) (n_v vs 10) := t10
  have k10 : 0 ≤ v_iv (n_v vs 10) ∧ v_iv (n_v vs 10) ≤ 23 := tv_rng t10
  obtain ⟨t11, hk⟩ := List.forall_mem_cons.mp hk
  have t11 : tv_ok ta (0, 0, 75, []) (n_v vs 11) := t11
  have k11 : 0 ≤ v_iv (n_v vs 11) ∧ v_iv (n_v vs 11) ≤ 75 := tv_rng t11
  obtain ⟨t12, hk⟩ := List.forall_mem_cons.mp hk
  have t12 : tv_ok ta (0, 1, 1, []) (n_v vs 12) := t12
  have k12 : 1 ≤ v_iv (n_v vs 12) ∧ v_iv (n_v vs 12) ≤ 1 := tv_rng t12
  obtain ⟨t13, hk⟩ := List.forall_mem_cons.mp hk
  have t13 : tv_ok ta (0, 1, 76, []) (n_v vs 13) := t13
  have k13 : 1 ≤ v_iv (n_v vs 13) ∧ v_iv (n_v vs 13) ≤ 76 := tv_rng t13
  have hds : ∀ q ∈ ([(13, 11, 1, 1), (4, 6, -4294967296, -1)] : List of_T), n_iv vs q.2.1 + q.2.2.1 ≤ n_iv vs q.1 ∧ n_iv vs q.1 ≤ n_iv vs q.2.1 + q.2.2.2 := hds
  obtain ⟨d0, hds⟩ := List.forall_mem_cons.mp hds
  have d0 : v_iv (n_v vs 11) + 1 ≤ v_iv (n_v vs 13) ∧ v_iv (n_v vs 13) ≤ v_iv (n_v vs 11) + 1 := d0
  obtain ⟨d1, hds⟩ := List.forall_mem_cons.mp hds
  have d1 : v_iv (n_v vs 6) + (-4294967296) ≤ v_iv (n_v vs 4) ∧ v_iv (n_v vs 4) ≤ v_iv (n_v vs 6) + (-1) := d1
  have hf : fc_ok PRD [(1, [13, 11, 12], []), (10, [11, 9, 10], []), (20, [2, 4, 10], [60, 1, 2, 356, 5, 2, 95]), (9, [9, 2], [102]), (20, [2, 4, 8], [60, 1, 2, 356, 5, 2, 95]), (20, [6, 2], [30, 0, 1, 0, 0, -1, 3, 2005001]), (20, [6, 2], [30, 0, -1, 0, 0, 1, 3, 2005001]), (20, [2], [60, 3, 4, 363, 5, 107, 100, 2, 102, 108, 109]), (20, [2, 4], [50, 3, 1, 107, 100, 5, 2, 1, 3, 2, 0, 107, 4, 11, 5, 3, 2, 0, 100, 3, 0, 2, 2, 0, 5, 1, 1]), (20, [4, 2], [50, 1, 1, 1005, 1002, 0, 2, 1, 0, 3, 1, 2, 4, 3, 2, 1, 5, 0, 1]), (20, [2], [50, 1, 1, 5, 2, 0, 2, 0, 0, 3, 0, 2, 2, 0, 5]), (24, [0, 2], []), (100, [7, 4, 5], []), (9, [5, 2], [100]), (9, [7, 2], [104]), (7, [4, 6], [2]), (20, [6, 2], [30, 0, 1, 0, 0, -1, 3, 2005001]), (20, [6, 2], [30, 0, -1, 0, 0, 1, 3, 2005001]), (20, [2, 4], [60, 2, 4, 365, 5, 100, 2, 95, 102, 104]), (20, [2], [60, 3, 4, 363, 5, 107, 100, 2, 102, 108, 109]), (20, [2, 4], [50, 3, 1, 107, 100, 5, 2, 1, 3, 2, 0, 107, 4, 11, 5, 3, 2, 0, 100, 3, 0, 2, 2, 0, 5, 1, 1]), (20, [4, 2], [50, 1, 1, 1005, 1002, 0, 2, 1, 0, 3, 1, 2, 4, 3, 2, 1, 5, 0, 1]), (20, [2], [50, 1, 1, 5, 2, 0, 2, 0, 0, 3, 0, 2, 2, 0, 5])] ta ws vs := hf
  obtain ⟨f0, hf⟩ := fc_un (show (1 : Nat) < 100 from by decide) hf
  have f0 : v_iv (n_v vs 13) = v_iv (n_v vs 11) + v_iv (n_v vs 12) := f0
  obtain ⟨f1, hf⟩ := fc_un (show (10 : Nat) < 100 from by decide) hf
  have f1 : v_iv (n_v vs 11) = w_el ws (v_ad (n_v vs 9)) (v_iv (n_v vs 10)).toNat := f1
  obtain ⟨f2, hf⟩ := fc_un (show (20 : Nat) < 100 from by decide) hf
  have f2 : FRO (w_fi ws (n_v vs 2) 5) (w_ei ws (w_ar ws (n_v vs 2) 2)) (w_ei ws (w_ar ws (n_v vs 2) 95)) (v_iv (n_v vs 4)) (v_iv (n_v vs 10)) := f2
  obtain ⟨f3, hf⟩ := fc_un (show (9 : Nat) < 100 from by decide) hf
  have f3 : n_v vs 9 = w_fd ws (v_ad (n_v vs 2)) 102 := f3
  obtain ⟨f4, hf⟩ := fc_un (show (20 : Nat) < 100 from by decide) hf
  have f4 : FRO (w_fi ws (n_v vs 2) 5) (w_ei ws (w_ar ws (n_v vs 2) 2)) (w_ei ws (w_ar ws (n_v vs 2) 95)) (v_iv (n_v vs 4)) (v_iv (n_v vs 8)) := f4
  obtain ⟨f5, hf⟩ := fc_un (show (20 : Nat) < 100 from by decide) hf
  have f5 : 1 * v_iv (n_v vs 6) + ((-1) * w_el ws (w_ar ws (n_v vs 2) 2) (w_fi ws (n_v vs 2) 5 + 1).toNat + 0) ≤ 0 := f5
  obtain ⟨f6, hf⟩ := fc_un (show (20 : Nat) < 100 from by decide) hf
  have f6 : (-1) * v_iv (n_v vs 6) + (1 * w_el ws (w_ar ws (n_v vs 2) 2) (w_fi ws (n_v vs 2) 5 + 1).toNat + 0) ≤ 0 := f6
  obtain ⟨f7, hf⟩ := fc_un (show (20 : Nat) < 100 from by decide) hf
  have f7 : LNP (w_fi ws (n_v vs 2) 5) (w_fi ws (n_v vs 2) 107) (w_fi ws (n_v vs 2) 100) (w_ei ws (w_ar ws (n_v vs 2) 2)) (w_ei ws (w_ar ws (n_v vs 2) 102)) (w_ei ws (w_ar ws (n_v vs 2) 108)) (w_ei ws (w_ar ws (n_v vs 2) 109)) := f7
  obtain ⟨f8, hf⟩ := fc_un (show (20 : Nat) < 100 from by decide) hf
  have f8 : w_fi ws (n_v vs 2) 107 = ((w_fi ws (n_v vs 2) 100 - w_ei ws (w_ar ws (n_v vs 2) 2) (w_fi ws (n_v vs 2) 5)) + v_iv (n_v vs 4)) := f8
  obtain ⟨f9, hf⟩ := fc_un (show (20 : Nat) < 100 from by decide) hf
  have f9 : v_iv (n_v vs 4) ≤ w_ei ws (w_ar ws (n_v vs 2) 2) ((w_fi ws (n_v vs 2) 5 + 1)) := f9
  obtain ⟨f10, hf⟩ := fc_un (show (20 : Nat) < 100 from by decide) hf
  have f10 : 0 ≤ w_ei ws (w_ar ws (n_v vs 2) 2) (w_fi ws (n_v vs 2) 5) := f10
  obtain ⟨f11, hf⟩ := fc_un (show (24 : Nat) < 100 from by decide) hf
  have f11 : n_v vs 0 = n_v vs 2 := f11
  obtain ⟨ta1, w1, le1, ⟨_, s1⟩, hf⟩ := fc_us (show ¬ (100 : Nat) < 100 from by decide) hf
  have s1 : (∀ b j, w_el ws b j = if b = v_ad (n_v vs 7) ∧ j = (v_iv (n_v vs 4)).toNat then v_iv (n_v vs 5) else w_el w1 b j) ∧ ∀ b k, w_fd ws b k = w_fd w1 b k := s1
  obtain ⟨f13, hf⟩ := fc_un (show (9 : Nat) < 100 from by decide) hf
  have f13 : n_v vs 5 = w_fd w1 (v_ad (n_v vs 2)) 100 := f13
  obtain ⟨f14, hf⟩ := fc_un (show (9 : Nat) < 100 from by decide) hf
  have f14 : n_v vs 7 = w_fd w1 (v_ad (n_v vs 2)) 104 := f14
  obtain ⟨f15, hf⟩ := fc_un (show (7 : Nat) < 100 from by decide) hf
  have f15 : v_iv (n_v vs 4) < v_iv (n_v vs 6) := f15
  obtain ⟨f16, hf⟩ := fc_un (show (20 : Nat) < 100 from by decide) hf
  have f16 : 1 * v_iv (n_v vs 6) + ((-1) * w_el w1 (w_ar w1 (n_v vs 2) 2) (w_fi w1 (n_v vs 2) 5 + 1).toNat + 0) ≤ 0 := f16
  obtain ⟨f17, hf⟩ := fc_un (show (20 : Nat) < 100 from by decide) hf
  have f17 : (-1) * v_iv (n_v vs 6) + (1 * w_el w1 (w_ar w1 (n_v vs 2) 2) (w_fi w1 (n_v vs 2) 5 + 1).toNat + 0) ≤ 0 := f17
  obtain ⟨f18, hf⟩ := fc_un (show (20 : Nat) < 100 from by decide) hf
  have f18 : LIC (w_fi w1 (n_v vs 2) 5) (w_fi w1 (n_v vs 2) 100) (w_ei w1 (w_ar w1 (n_v vs 2) 2)) (w_ei w1 (w_ar w1 (n_v vs 2) 95)) (w_ei w1 (w_ar w1 (n_v vs 2) 102)) (w_ei w1 (w_ar w1 (n_v vs 2) 104)) (v_iv (n_v vs 4)) := f18
  obtain ⟨f19, hf⟩ := fc_un (show (20 : Nat) < 100 from by decide) hf
  have f19 : LNP (w_fi w1 (n_v vs 2) 5) (w_fi w1 (n_v vs 2) 107) (w_fi w1 (n_v vs 2) 100) (w_ei w1 (w_ar w1 (n_v vs 2) 2)) (w_ei w1 (w_ar w1 (n_v vs 2) 102)) (w_ei w1 (w_ar w1 (n_v vs 2) 108)) (w_ei w1 (w_ar w1 (n_v vs 2) 109)) := f19
  obtain ⟨f20, hf⟩ := fc_un (show (20 : Nat) < 100 from by decide) hf
  have f20 : w_fi w1 (n_v vs 2) 107 = ((w_fi w1 (n_v vs 2) 100 - w_ei w1 (w_ar w1 (n_v vs 2) 2) (w_fi w1 (n_v vs 2) 5)) + v_iv (n_v vs 4)) := f20
  obtain ⟨f21, hf⟩ := fc_un (show (20 : Nat) < 100 from by decide) hf
  have f21 : v_iv (n_v vs 4) ≤ w_ei w1 (w_ar w1 (n_v vs 2) 2) ((w_fi w1 (n_v vs 2) 5 + 1)) := f21
  obtain ⟨f22, hf⟩ := fc_un (show (20 : Nat) < 100 from by decide) hf
  have f22 : 0 ≤ w_ei w1 (w_ar w1 (n_v vs 2) 2) (w_fi w1 (n_v vs 2) 5) := f22
  have q2 : n_v vs 2 = n_v vs 0 := f11.symm
  rw [q2] at f2
  rw [q2] at f3
  rw [q2] at f4
  rw [q2] at f5
  rw [q2] at f6
  rw [q2] at f7
  rw [q2] at f8
  rw [q2] at f9
  rw [q2] at f10
  rw [q2] at f13
  rw [q2] at f14
  rw [q2] at f16
  rw [q2] at f17
  rw [q2] at f18
  rw [q2] at f19
  rw [q2] at f20
  rw [q2] at f21
  rw [q2] at f22
  have ar_0_2_1 : w_ar w1 (n_v vs 0) 2 = w_ar ws (n_v vs 0) 2 := by show v_ad (w_fd w1 _ _) = v_ad (w_fd ws _ _); rw [s1.2]
  have cr_0_2 : ta (w_ar ws (n_v vs 0) 2) = some 152 := tv_rg (th_fd hD hth r0 (g := GG_150) rfl (k := 2) (t := (2, 0, 0, [152])) rfl rfl)
  have ar_0_95_1 : w_ar w1 (n_v vs 0) 95 = w_ar ws (n_v vs 0) 95 := by show v_ad (w_fd w1 _ _) = v_ad (w_fd ws _ _); rw [s1.2]
  have cr_0_95 : ta (w_ar ws (n_v vs 0) 95) = some 216 := tv_rg (th_fd hD hth r0 (g := GG_150) rfl (k := 95) (t := (2, 0, 0, [216])) rfl rfl)
  have ar_0_102_1 : w_ar w1 (n_v vs 0) 102 = w_ar ws (n_v vs 0) 102 := by show v_ad (w_fd w1 _ _) = v_ad (w_fd ws _ _); rw [s1.2]
  have cr_0_102 : ta (w_ar ws (n_v vs 0) 102) = some 220 := tv_rg (th_fd hD hth r0 (g := GG_150) rfl (k := 102) (t := (2, 0, 0, [220])) rfl rfl)
  have ar_0_104_1 : w_ar w1 (n_v vs 0) 104 = w_ar ws (n_v vs 0) 104 := by show v_ad (w_fd w1 _ _) = v_ad (w_fd ws _ _); rw [s1.2]
  have cr_0_104 : ta (w_ar ws (n_v vs 0) 104) = some 222 := tv_rg (th_fd hD hth r0 (g := GG_150) rfl (k := 104) (t := (2, 0, 0, [222])) rfl rfl)
  have ar_0_108_1 : w_ar w1 (n_v vs 0) 108 = w_ar ws (n_v vs 0) 108 := by show v_ad (w_fd w1 _ _) = v_ad (w_fd ws _ _); rw [s1.2]
  have cr_0_108 : ta (w_ar ws (n_v vs 0) 108) = some 225 := tv_rg (th_fd hD hth r0 (g := GG_150) rfl (k := 108) (t := (2, 0, 0, [225])) rfl rfl)
  have ar_0_109_1 : w_ar w1 (n_v vs 0) 109 = w_ar ws (n_v vs 0) 109 := by show v_ad (w_fd w1 _ _) = v_ad (w_fd ws _ _); rw [s1.2]
  have cr_0_109 : ta (w_ar ws (n_v vs 0) 109) = some 226 := tv_rg (th_fd hD hth r0 (g := GG_150) rfl (k := 109) (t := (2, 0, 0, [226])) rfl rfl)
  have fi_0_5_1 : w_fi w1 (n_v vs 0) 5 = w_fi ws (n_v vs 0) 5 := by show v_iv (w_fd w1 _ _) = v_iv (w_fd ws _ _); rw [s1.2]
  have ad_9 : v_ad (n_v vs 9) = w_ar ws (n_v vs 0) 102 := congrArg v_ad f3
  have ad_7 : v_ad (n_v vs 7) = w_ar ws (n_v vs 0) 104 := (congrArg v_ad f14).trans ar_0_104_1
  rw [ad_9] at f1
  have h1 : v_iv (n_v vs 11) = w_ei ws (w_ar ws (n_v vs 0) 102) (v_iv (n_v vs 10)) := f1
  have g13 : v_iv (n_v vs 5) = w_fi w1 (n_v vs 0) 100 := congrArg v_iv f13
  rw [ar_0_2_1] at f16
  rw [fi_0_5_1] at f16
  rw [ar_0_2_1] at f17
  rw [fi_0_5_1] at f17
  rw [ar_0_2_1] at f18
  rw [ar_0_95_1] at f18
  rw [ar_0_102_1] at f18
  rw [ar_0_104_1] at f18
  rw [ar_0_2_1] at f19
  rw [ar_0_102_1] at f19
  rw [ar_0_108_1] at f19
  rw [ar_0_109_1] at f19
  rw [ar_0_2_1] at f20
  rw [ar_0_2_1] at f21
  rw [ar_0_2_1] at f22
  have fe_0_5_1 : w_fi ws (n_v vs 0) 5 = w_fi w1 (n_v vs 0) 5 := congrArg v_iv (s1.2 _ _)
  have fe_0_100_1 : w_fi ws (n_v vs 0) 100 = w_fi w1 (n_v vs 0) 100 := congrArg v_iv (s1.2 _ _)
  have fe_0_107_1 : w_fi ws (n_v vs 0) 107 = w_fi w1 (n_v vs 0) 107 := congrArg v_iv (s1.2 _ _)
  have hE_0_2_1 : ∀ j : Int, w_ei ws (w_ar ws (n_v vs 0) 2) j = w_ei w1 (w_ar ws (n_v vs 0) 2) j := fun j => by unfold w_ei; rw [s1.1, if_neg (fun e => by have e1 := e.1; rw [← e1] at r7; rw [cr_0_2] at r7; exact absurd (Option.some.inj r7) (by decide))]
  have hE_0_95_1 : ∀ j : Int, w_ei ws (w_ar ws (n_v vs 0) 95) j = w_ei w1 (w_ar ws (n_v vs 0) 95) j := fun j => by unfold w_ei; rw [s1.1, if_neg (fun e => by have e1 := e.1; rw [← e1] at r7; rw [cr_0_95] at r7; exact absurd (Option.some.inj r7) (by decide))]
  have hK_0_95 : ∀ j : Int, 0 ≤ j → j < 48 → 0 ≤ w_ei ws (w_ar ws (n_v vs 0) 95) j ∧ w_ei ws (w_ar ws (n_v vs 0) 95) j ≤ 1 := fun j h0 h1 => th_el hD hth cr_0_95 (kd := 2) (n := 48) (m := 48) (lo := 0) (hi := 1) (rs := []) (L := []) rfl (by decide) (j := j.toNat) (by omega)
  have hE_0_102_1 : ∀ j : Int, w_ei ws (w_ar ws (n_v vs 0) 102) j = w_ei w1 (w_ar ws (n_v vs 0) 102) j := fun j => by unfold w_ei; rw [s1.1, if_neg (fun e => by have e1 := e.1; rw [← e1] at r7; rw [cr_0_102] at r7; exact absurd (Option.some.inj r7) (by decide))]
  have hK_0_102 : ∀ j : Int, 0 ≤ j → j < 76 → 0 ≤ w_ei ws (w_ar ws (n_v vs 0) 102) j ∧ w_ei ws (w_ar ws (n_v vs 0) 102) j ≤ 75 := fun j h0 h1 => th_el hD hth cr_0_102 (kd := 0) (n := 76) (m := 76) (lo := 0) (hi := 75) (rs := []) (L := []) rfl (by decide) (j := j.toNat) (by omega)
  have hE_0_104_1 : ∀ j : Int, 0 ≤ j → (j = v_iv (n_v vs 4) → w_ei ws (w_ar ws (n_v vs 0) 104) j = v_iv (n_v vs 5)) ∧ (j ≠ v_iv (n_v vs 4) → w_ei ws (w_ar ws (n_v vs 0) 104) j = w_ei w1 (w_ar ws (n_v vs 0) 104) j) := fun j hj => ⟨fun h => by unfold w_ei; rw [s1.1, if_pos ⟨ad_7.symm, by rw [h]⟩], fun h => by unfold w_ei; rw [s1.1, if_neg (fun e => h (by have := e.2; omega))]⟩
  have hK_0_104 : ∀ j : Int, 0 ≤ j → j < 48 → 0 ≤ w_ei ws (w_ar ws (n_v vs 0) 104) j ∧ w_ei ws (w_ar ws (n_v vs 0) 104) j ≤ 76 := fun j h0 h1 => th_el hD hth cr_0_104 (kd := 0) (n := 48) (m := 48) (lo := 0) (hi := 76) (rs := []) (L := []) rfl (by decide) (j := j.toNat) (by omega)
  have hE_0_108_1 : ∀ j : Int, w_ei ws (w_ar ws (n_v vs 0) 108) j = w_ei w1 (w_ar ws (n_v vs 0) 108) j := fun j => by unfold w_ei; rw [s1.1, if_neg (fun e => by have e1 := e.1; rw [← e1] at r7; rw [cr_0_108] at r7; exact absurd (Option.some.inj r7) (by decide))]
  have hK_0_108 : ∀ j : Int, 0 ≤ j → j < 130 → 0 ≤ w_ei ws (w_ar ws (n_v vs 0) 108) j ∧ w_ei ws (w_ar ws (n_v vs 0) 108) j ≤ 75 := fun j h0 h1 => th_el hD hth cr_0_108 (kd := 0) (n := 130) (m := 130) (lo := 0) (hi := 75) (rs := []) (L := []) rfl (by decide) (j := j.toNat) (by omega)
  have hE_0_109_1 : ∀ j : Int, w_ei ws (w_ar ws (n_v vs 0) 109) j = w_ei w1 (w_ar ws (n_v vs 0) 109) j := fun j => by unfold w_ei; rw [s1.1, if_neg (fun e => by have e1 := e.1; rw [← e1] at r7; rw [cr_0_109] at r7; exact absurd (Option.some.inj r7) (by decide))]
  have hK_0_109 : ∀ j : Int, 0 ≤ j → j < 130 → 0 ≤ w_ei ws (w_ar ws (n_v vs 0) 109) j ∧ w_ei ws (w_ar ws (n_v vs 0) 109) j ≤ 75 := fun j h0 h1 => th_el hD hth cr_0_109 (kd := 0) (n := 130) (m := 130) (lo := 0) (hi := 75) (rs := []) (L := []) rfl (by decide) (j := j.toNat) (by omega)
  have kz_0_100 : 0 ≤ w_fi ws (n_v vs 0) 100 ∧ w_fi ws (n_v vs 0) 100 ≤ 76 := tv_rng (th_fd hD hth r0 (g := GG_150) rfl (k := 100) (t := (0, 0, 76, [])) rfl rfl)
  have kz_0_107 : 0 ≤ w_fi ws (n_v vs 0) 107 ∧ w_fi ws (n_v vs 0) 107 ≤ 130 := tv_rng (th_fd hD hth r0 (g := GG_150) rfl (k := 107) (t := (0, 0, 130, [])) rfl rfl)
  have nf0 : fc_1 PRD (20, [2, 4, 8, 13], [60, 2, 4, 366, 5, 100, 2, 95, 102, 104]) ws (vs) := by
    refine ⟨fun n hn => ?_, ?_⟩
    · have hn : n ∈ [2, 4, 8, 13] := hn
      rw [hl]
      simp only [List.mem_cons, List.not_mem_nil, or_false] at hn
      show n < 14; omega
    · show LID (w_fi ws (n_v vs 2) 5) (w_fi ws (n_v vs 2) 100) (w_ei ws (w_ar ws (n_v vs 2) 2)) (w_ei ws (w_ar ws (n_v vs 2) 95)) (w_ei ws (w_ar ws (n_v vs 2) 102)) (w_ei ws (w_ar ws (n_v vs 2) 104)) (v_iv (n_v vs 4)) (v_iv (n_v vs 8)) (v_iv (n_v vs 13))
      rw [q2]
      exact vc_Mo_list_3_0 (v_iv (n_v vs 4)) (v_iv (n_v vs 5)) (v_iv (n_v vs 6)) (v_iv (n_v vs 8)) (v_iv (n_v vs 10)) (v_iv (n_v vs 11)) (v_iv (n_v vs 12)) (v_iv (n_v vs 13)) (w_ei ws (w_ar ws (n_v vs 0) 102)) (w_ei ws (w_ar ws (n_v vs 0) 2)) (w_ei ws (w_ar ws (n_v vs 0) 95)) (w_fi ws (n_v vs 0) 5) (w_ei ws (w_ar ws (n_v vs 0) 108)) (w_ei ws (w_ar ws (n_v vs 0) 109)) (w_fi ws (n_v vs 0) 107) (w_fi ws (n_v vs 0) 100) (w_fi w1 (n_v vs 0) 100) (w_ei w1 (w_ar ws (n_v vs 0) 2)) (w_ei w1 (w_ar ws (n_v vs 0) 95)) (w_ei w1 (w_ar ws (n_v vs 0) 102)) (w_ei w1 (w_ar ws (n_v vs 0) 104)) (w_fi w1 (n_v vs 0) 5) (w_ei w1 (w_ar ws (n_v vs 0) 108)) (w_ei w1 (w_ar ws (n_v vs 0) 109)) (w_fi w1 (n_v vs 0) 107) (w_ei ws (w_ar ws (n_v vs 0) 104)) k4 k5 k6 k8 k10 k11 k12 k13 d0 d1 f0 h1 f2 f4 f5 f6 f7 f8 f9 f10 g13 f15 f16 f17 f18 f19 f20 f21 f22 fe_0_5_1 fe_0_100_1 fe_0_107_1 hE_0_2_1 hE_0_95_1 hK_0_95 hE_0_102_1 hK_0_102 hE_0_104_1 hK_0_104 hE_0_108_1 hK_0_108 hE_0_109_1 hK_0_109 kz_0_100 kz_0_107
  have nf1 : fc_1 PRD (20, [4, 2], [50, 1, 1, 1005, 1002, 0, 6, 4, 2, 1, 0, 0, 1, 3, 1, 2, 4, 3, 2, 1, 5, 0, 1]) ws (vs) := by
    refine ⟨fun n hn => ?_, ?_⟩
    · have hn : n ∈ [4, 2] := hn
      rw [hl]
      simp only [List.mem_cons, List.not_mem_nil, or_false] at hn
      show n < 14; omega
    · show (v_iv (n_v vs 4) + 1) ≤ w_ei ws (w_ar ws (n_v vs 2) 2) ((w_fi ws (n_v vs 2) 5 + 1))
      rw [q2]
      exact vc_Mo_list_3_1 (v_iv (n_v vs 4)) (v_iv (n_v vs 5)) (v_iv (n_v vs 6)) (v_iv (n_v vs 8)) (v_iv (n_v vs 10)) (v_iv (n_v vs 11)) (v_iv (n_v vs 12)) (v_iv (n_v vs 13)) (w_ei ws (w_ar ws (n_v vs 0) 102)) (w_ei ws (w_ar ws (n_v vs 0) 2)) (w_ei ws (w_ar ws (n_v vs 0) 95)) (w_fi ws (n_v vs 0) 5) (w_ei ws (w_ar ws (n_v vs 0) 108)) (w_ei ws (w_ar ws (n_v vs 0) 109)) (w_fi ws (n_v vs 0) 107) (w_fi ws (n_v vs 0) 100) (w_fi w1 (n_v vs 0) 100) (w_ei w1 (w_ar ws (n_v vs 0) 2)) (w_ei w1 (w_ar ws (n_v vs 0) 95)) (w_ei w1 (w_ar ws (n_v vs 0) 102)) (w_ei w1 (w_ar ws (n_v vs 0) 104)) (w_fi w1 (n_v vs 0) 5) (w_ei w1 (w_ar ws (n_v vs 0) 108)) (w_ei w1 (w_ar ws (n_v vs 0) 109)) (w_fi w1 (n_v vs 0) 107) (w_ei ws (w_ar ws (n_v vs 0) 104)) k4 k5 k6 k8 k10 k11 k12 k13 d0 d1 f0 h1 f2 f4 f5 f6 f7 f8 f9 f10 g13 f15 f16 f17 f18 f19 f20 f21 f22 fe_0_5_1 fe_0_100_1 fe_0_107_1 hE_0_2_1 hE_0_95_1 hK_0_95 hE_0_102_1 hK_0_102 hE_0_104_1 hK_0_104 hE_0_108_1 hK_0_108 hE_0_109_1 hK_0_109 kz_0_100 kz_0_107
  refine ⟨(fun _ h => (by cases h)), [], trivial, ?_, (fun _ h => (by cases h))⟩
  rw [List.append_nil]
  exact List.forall_mem_cons.mpr ⟨⟨show (20 : Nat) < 100 from by decide, nf0⟩, List.forall_mem_cons.mpr ⟨⟨show (20 : Nat) < 100 from by decide, nf1⟩, (fun _ h => (by cases h))⟩⟩
set_option maxHeartbeats 4000000 in
theorem vc_Mo_list_4_0 (x4 : Int) (x5 : Int) (x6 : Int) (x9 : Int) (x10 : Int) (x11 : Int) (all_0 : Int → Int) (turned_0 : Int → Int) (r_0 : Int) (itemLayer_0 : Int → Int) (firstJoint_0 : Int → Int) (items_0 : Int) (lineA_0 : Int → Int) (lineB_0 : Int → Int) (lines_0 : Int) (gx : Int) (k4 : 0 ≤ x4 ∧ x4 ≤ 47) (k5 : 0 ≤ x5 ∧ x5 ≤ 74) (k6 : 1 ≤ x6 ∧ x6 ≤ 76) (k9 : 0 ≤ x9 ∧ x9 ≤ 23) (k10 : 0 ≤ x10 ∧ x10 ≤ 75) (k11 : 0 ≤ x11 ∧ x11 ≤ 23) (d0 : x10 + 0 ≤ x6 ∧ x6 ≤ x10 + 4294967296) (f0 : TOO (r_0) (all_0) (turned_0) (x4) (x11)) (f1 : x10 ≤ x6) (h2 : x10 = itemLayer_0 (x9)) (f3 : TOO (r_0) (all_0) (turned_0) (x4) (x9)) (f5 : LID (r_0) (items_0) (all_0) (turned_0) (itemLayer_0) (firstJoint_0) (x4) (x5) (x6)) (f6 : LNP (r_0) (lines_0) (items_0) (all_0) (itemLayer_0) (lineA_0) (lineB_0)) (f7 : (x4 + 1) ≤ all_0 ((r_0 + 1))) (f8 : lines_0 = ((items_0 - all_0 (r_0)) + x4)) (f9 : 0 ≤ all_0 (r_0)) (hK_0_95 : ∀ j : Int, 0 ≤ j → j < 48 → 0 ≤ turned_0 j ∧ turned_0 j ≤ 1) (hK_0_102 : ∀ j : Int, 0 ≤ j → j < 76 → 0 ≤ itemLayer_0 j ∧ itemLayer_0 j ≤ 75) (hK_0_104 : ∀ j : Int, 0 ≤ j → j < 48 → 0 ≤ firstJoint_0 j ∧ firstJoint_0 j ≤ 76) (hK_0_108 : ∀ j : Int, 0 ≤ j → j < 130 → 0 ≤ lineA_0 j ∧ lineA_0 j ≤ 75) (hK_0_109 : ∀ j : Int, 0 ≤ j → j < 130 → 0 ≤ lineB_0 j ∧ lineB_0 j ≤ 75) (kz_0_100 : 0 ≤ items_0 ∧ items_0 ≤ 76) (kz_0_107 : 0 ≤ lines_0 ∧ lines_0 ≤ 130) (ex2 : gx = lines_0) (ex3 : 0 ≤ gx ∧ gx ≤ 129) : LIG (r_0) (items_0) (all_0) (turned_0) (itemLayer_0) (firstJoint_0) (x4) (x5) (x6) := by
  (have h9 : TOO r_0 all_0 turned_0 x4 x9 := by assumption
   unfold TOO at h9
   exact ⟨‹LID _ _ _ _ _ _ _ _ _›, by rw [← h9]; omega⟩)
set_option maxHeartbeats 4000000 in
theorem vc_Mo_list_4_1 (x4 : Int) (x5 : Int) (x6 : Int) (x9 : Int) (x10 : Int) (x11 : Int) (all_0 : Int → Int) (turned_0 : Int → Int) (r_0 : Int) (itemLayer_0 : Int → Int) (firstJoint_0 : Int → Int) (items_0 : Int) (lineA_0 : Int → Int) (lineB_0 : Int → Int) (lines_0 : Int) (gx : Int) (k4 : 0 ≤ x4 ∧ x4 ≤ 47) (k5 : 0 ≤ x5 ∧ x5 ≤ 74) (k6 : 1 ≤ x6 ∧ x6 ≤ 76) (k9 : 0 ≤ x9 ∧ x9 ≤ 23) (k10 : 0 ≤ x10 ∧ x10 ≤ 75) (k11 : 0 ≤ x11 ∧ x11 ≤ 23) (d0 : x10 + 0 ≤ x6 ∧ x6 ≤ x10 + 4294967296) (f0 : TOO (r_0) (all_0) (turned_0) (x4) (x11)) (f1 : x10 ≤ x6) (h2 : x10 = itemLayer_0 (x9)) (f3 : TOO (r_0) (all_0) (turned_0) (x4) (x9)) (f5 : LID (r_0) (items_0) (all_0) (turned_0) (itemLayer_0) (firstJoint_0) (x4) (x5) (x6)) (f6 : LNP (r_0) (lines_0) (items_0) (all_0) (itemLayer_0) (lineA_0) (lineB_0)) (f7 : (x4 + 1) ≤ all_0 ((r_0 + 1))) (f8 : lines_0 = ((items_0 - all_0 (r_0)) + x4)) (f9 : 0 ≤ all_0 (r_0)) (hK_0_95 : ∀ j : Int, 0 ≤ j → j < 48 → 0 ≤ turned_0 j ∧ turned_0 j ≤ 1) (hK_0_102 : ∀ j : Int, 0 ≤ j → j < 76 → 0 ≤ itemLayer_0 j ∧ itemLayer_0 j ≤ 75) (hK_0_104 : ∀ j : Int, 0 ≤ j → j < 48 → 0 ≤ firstJoint_0 j ∧ firstJoint_0 j ≤ 76) (hK_0_108 : ∀ j : Int, 0 ≤ j → j < 130 → 0 ≤ lineA_0 j ∧ lineA_0 j ≤ 75) (hK_0_109 : ∀ j : Int, 0 ≤ j → j < 130 → 0 ≤ lineB_0 j ∧ lineB_0 j ≤ 75) (kz_0_100 : 0 ≤ items_0 ∧ items_0 ≤ 76) (kz_0_107 : 0 ≤ lines_0 ∧ lines_0 ≤ 130) (ex2 : gx = lines_0) (ex3 : 0 ≤ gx ∧ gx ≤ 129) : lines_0 = gx := by
  try simp only [Int.add_zero] at *
  first
    | omega
    | (have h := lid_bd ‹LID _ _ _ _ _ _ _ _ _›; omega)
    | (have h := ‹LYJ _ _ _ _›.1.1.1; omega)
    | (have h := (lic_bd ‹LIC _ _ _ _ _ _ _›).1; omega)
    | (have h := (lic_bd ‹LIF _ _ _ _ _ _›).1; omega)
    | (have h := ‹LSA _ _ _ _ _ _ _ _ _ _›.2.1; omega)
    | (have h := lli_bd ‹LLI _ _ _ _ _ _›; have h2 := ‹LSA _ _ _ _ _ _ _ _ _ _›.2.1; omega)
set_option maxHeartbeats 4000000 in
theorem vc_Mo_list_4_2 (x4 : Int) (x5 : Int) (x6 : Int) (x9 : Int) (x10 : Int) (x11 : Int) (all_0 : Int → Int) (turned_0 : Int → Int) (r_0 : Int) (itemLayer_0 : Int → Int) (firstJoint_0 : Int → Int) (items_0 : Int) (lineA_0 : Int → Int) (lineB_0 : Int → Int) (lines_0 : Int) (gx : Int) (k4 : 0 ≤ x4 ∧ x4 ≤ 47) (k5 : 0 ≤ x5 ∧ x5 ≤ 74) (k6 : 1 ≤ x6 ∧ x6 ≤ 76) (k9 : 0 ≤ x9 ∧ x9 ≤ 23) (k10 : 0 ≤ x10 ∧ x10 ≤ 75) (k11 : 0 ≤ x11 ∧ x11 ≤ 23) (d0 : x10 + 0 ≤ x6 ∧ x6 ≤ x10 + 4294967296) (f0 : TOO (r_0) (all_0) (turned_0) (x4) (x11)) (f1 : x10 ≤ x6) (h2 : x10 = itemLayer_0 (x9)) (f3 : TOO (r_0) (all_0) (turned_0) (x4) (x9)) (f5 : LID (r_0) (items_0) (all_0) (turned_0) (itemLayer_0) (firstJoint_0) (x4) (x5) (x6)) (f6 : LNP (r_0) (lines_0) (items_0) (all_0) (itemLayer_0) (lineA_0) (lineB_0)) (f7 : (x4 + 1) ≤ all_0 ((r_0 + 1))) (f8 : lines_0 = ((items_0 - all_0 (r_0)) + x4)) (f9 : 0 ≤ all_0 (r_0)) (hK_0_95 : ∀ j : Int, 0 ≤ j → j < 48 → 0 ≤ turned_0 j ∧ turned_0 j ≤ 1) (hK_0_102 : ∀ j : Int, 0 ≤ j → j < 76 → 0 ≤ itemLayer_0 j ∧ itemLayer_0 j ≤ 75) (hK_0_104 : ∀ j : Int, 0 ≤ j → j < 48 → 0 ≤ firstJoint_0 j ∧ firstJoint_0 j ≤ 76) (hK_0_108 : ∀ j : Int, 0 ≤ j → j < 130 → 0 ≤ lineA_0 j ∧ lineA_0 j ≤ 75) (hK_0_109 : ∀ j : Int, 0 ≤ j → j < 130 → 0 ≤ lineB_0 j ∧ lineB_0 j ≤ 75) (kz_0_100 : 0 ≤ items_0 ∧ items_0 ≤ 76) (kz_0_107 : 0 ≤ lines_0 ∧ lines_0 ≤ 130) (ex2 : gx = lines_0) (ex3 : 0 ≤ gx ∧ gx ≤ 129) : LNP (r_0) (lines_0) (items_0) (all_0) (itemLayer_0) (lineA_0) (lineB_0) := by
  first
    | assumption
    | exact lnp_il ‹LNP _ _ _ _ _ _ _› (by assumption) (by omega)
set_option maxHeartbeats 4000000 in
theorem vc_Mo_list_4_3 (x4 : Int) (x5 : Int) (x6 : Int) (x9 : Int) (x10 : Int) (x11 : Int) (all_0 : Int → Int) (turned_0 : Int → Int) (r_0 : Int) (itemLayer_0 : Int → Int) (firstJoint_0 : Int → Int) (items_0 : Int) (lineA_0 : Int → Int) (lineB_0 : Int → Int) (lines_0 : Int) (gx : Int) (k4 : 0 ≤ x4 ∧ x4 ≤ 47) (k5 : 0 ≤ x5 ∧ x5 ≤ 74) (k6 : 1 ≤ x6 ∧ x6 ≤ 76) (k9 : 0 ≤ x9 ∧ x9 ≤ 23) (k10 : 0 ≤ x10 ∧ x10 ≤ 75) (k11 : 0 ≤ x11 ∧ x11 ≤ 23) (d0 : x10 + 0 ≤ x6 ∧ x6 ≤ x10 + 4294967296) (f0 : TOO (r_0) (all_0) (turned_0) (x4) (x11)) (f1 : x10 ≤ x6) (h2 : x10 = itemLayer_0 (x9)) (f3 : TOO (r_0) (all_0) (turned_0) (x4) (x9)) (f5 : LID (r_0) (items_0) (all_0) (turned_0) (itemLayer_0) (firstJoint_0) (x4) (x5) (x6)) (f6 : LNP (r_0) (lines_0) (items_0) (all_0) (itemLayer_0) (lineA_0) (lineB_0)) (f7 : (x4 + 1) ≤ all_0 ((r_0 + 1))) (f8 : lines_0 = ((items_0 - all_0 (r_0)) + x4)) (f9 : 0 ≤ all_0 (r_0)) (hK_0_95 : ∀ j : Int, 0 ≤ j → j < 48 → 0 ≤ turned_0 j ∧ turned_0 j ≤ 1) (hK_0_102 : ∀ j : Int, 0 ≤ j → j < 76 → 0 ≤ itemLayer_0 j ∧ itemLayer_0 j ≤ 75) (hK_0_104 : ∀ j : Int, 0 ≤ j → j < 48 → 0 ≤ firstJoint_0 j ∧ firstJoint_0 j ≤ 76) (hK_0_108 : ∀ j : Int, 0 ≤ j → j < 130 → 0 ≤ lineA_0 j ∧ lineA_0 j ≤ 75) (hK_0_109 : ∀ j : Int, 0 ≤ j → j < 130 → 0 ≤ lineB_0 j ∧ lineB_0 j ≤ 75) (kz_0_100 : 0 ≤ items_0 ∧ items_0 ≤ 76) (kz_0_107 : 0 ≤ lines_0 ∧ lines_0 ≤ 130) (ex2 : gx = lines_0) (ex3 : 0 ≤ gx ∧ gx ≤ 129) : LNK (r_0) (items_0) (all_0) (itemLayer_0) (x5) (x11) := by
  have h9 : TOO r_0 all_0 turned_0 x4 x9 := by assumption
  unfold TOO at h9
  exact lid_ln2 ‹LID _ _ _ _ _ _ _ _ _› (by rw [← h9]; omega) (by assumption)
set_option maxHeartbeats 4000000 in
theorem vc_Mo_list_4_4 (x4 : Int) (x5 : Int) (x6 : Int) (x9 : Int) (x10 : Int) (x11 : Int) (all_0 : Int → Int) (turned_0 : Int → Int) (r_0 : Int) (itemLayer_0 : Int → Int) (firstJoint_0 : Int → Int) (items_0 : Int) (lineA_0 : Int → Int) (lineB_0 : Int → Int) (lines_0 : Int) (gx : Int) (k4 : 0 ≤ x4 ∧ x4 ≤ 47) (k5 : 0 ≤ x5 ∧ x5 ≤ 74) (k6 : 1 ≤ x6 ∧ x6 ≤ 76) (k9 : 0 ≤ x9 ∧ x9 ≤ 23) (k10 : 0 ≤ x10 ∧ x10 ≤ 75) (k11 : 0 ≤ x11 ∧ x11 ≤ 23) (d0 : x10 + 0 ≤ x6 ∧ x6 ≤ x10 + 4294967296) (f0 : TOO (r_0) (all_0) (turned_0) (x4) (x11)) (f1 : x10 ≤ x6) (h2 : x10 = itemLayer_0 (x9)) (f3 : TOO (r_0) (all_0) (turned_0) (x4) (x9)) (f5 : LID (r_0) (items_0) (all_0) (turned_0) (itemLayer_0) (firstJoint_0) (x4) (x5) (x6)) (f6 : LNP (r_0) (lines_0) (items_0) (all_0) (itemLayer_0) (lineA_0) (lineB_0)) (f7 : (x4 + 1) ≤ all_0 ((r_0 + 1))) (f8 : lines_0 = ((items_0 - all_0 (r_0)) + x4)) (f9 : 0 ≤ all_0 (r_0)) (hK_0_95 : ∀ j : Int, 0 ≤ j → j < 48 → 0 ≤ turned_0 j ∧ turned_0 j ≤ 1) (hK_0_102 : ∀ j : Int, 0 ≤ j → j < 76 → 0 ≤ itemLayer_0 j ∧ itemLayer_0 j ≤ 75) (hK_0_104 : ∀ j : Int, 0 ≤ j → j < 48 → 0 ≤ firstJoint_0 j ∧ firstJoint_0 j ≤ 76) (hK_0_108 : ∀ j : Int, 0 ≤ j → j < 130 → 0 ≤ lineA_0 j ∧ lineA_0 j ≤ 75) (hK_0_109 : ∀ j : Int, 0 ≤ j → j < 130 → 0 ≤ lineB_0 j ∧ lineB_0 j ≤ 75) (kz_0_100 : 0 ≤ items_0 ∧ items_0 ≤ 76) (kz_0_107 : 0 ≤ lines_0 ∧ lines_0 ≤ 130) (ex2 : gx = lines_0) (ex3 : 0 ≤ gx ∧ gx ≤ 129) : gx = ((items_0 - all_0 (r_0)) + x4) := by
  try simp only [Int.add_zero] at *
  first
    | omega
    | (have h := lid_bd ‹LID _ _ _ _ _ _ _ _ _›; omega)
    | (have h := ‹LYJ _ _ _ _›.1.1.1; omega)
    | (have h := (lic_bd ‹LIC _ _ _ _ _ _ _›).1; omega)
    | (have h := (lic_bd ‹LIF _ _ _ _ _ _›).1; omega)
    | (have h := ‹LSA _ _ _ _ _ _ _ _ _ _›.2.1; omega)
    | (have h := lli_bd ‹LLI _ _ _ _ _ _›; have h2 := ‹LSA _ _ _ _ _ _ _ _ _ _›.2.1; omega)
def o_Mo_list_4 : or_T := (123, 12, [(0, (2, 0, 0, [150])), (2, (2, 0, 0, [150])), (4, (0, 0, 47, [])), (5, (0, 0, 74, [])), (6, (0, 1, 76, [])), (8, (2, 0, 0, [220])), (9, (0, 0, 23, [])), (10, (0, 0, 75, [])), (11, (0, 0, 23, []))], [(20, [2, 4, 11], [60, 1, 2, 357, 5, 2, 95]), (7, [6, 10], [3]), (10, [10, 8, 9], []), (20, [2, 4, 9], [60, 1, 2, 357, 5, 2, 95]), (9, [8, 2], [102]), (20, [2, 4, 5, 6], [60, 2, 4, 366, 5, 100, 2, 95, 102, 104]), (20, [2], [60, 3, 4, 363, 5, 107, 100, 2, 102, 108, 109]), (20, [4, 2], [50, 1, 1, 1005, 1002, 0, 6, 4, 2, 1, 0, 0, 1, 3, 1, 2, 4, 3, 2, 1, 5, 0, 1]), (20, [2, 4], [50, 3, 1, 107, 100, 5, 2, 1, 3, 2, 0, 107, 4, 11, 5, 3, 2, 0, 100, 3, 0, 2, 2, 0, 5, 1, 1]), (20, [2], [50, 1, 1, 5, 2, 0, 2, 0, 0, 3, 0, 2, 2, 0, 5]), (24, [0, 2], [])], [], [(0, 0, 129, [])], [(20, [2, 4, 5, 6], [60, 2, 4, 387, 5, 100, 2, 95, 102, 104]), (20, [2, 12], [50, 1, 0, 107, 1, 3, 2, 0, 107, 1, 1]), (20, [2], [60, 3, 4, 363, 5, 107, 100, 2, 102, 108, 109]), (20, [2, 5, 11], [60, 2, 2, 388, 5, 100, 2, 102]), (20, [12, 2, 4], [50, 2, 1, 1100, 1005, 1002, 1, 2, 1, 0, 4, 11, 5, 3, 2, 1, 100, 3, 1, 2, 2, 1, 5, 1, 2])], [], [(6, 10, 0, 4294967296)])
theorem oo_Mo_list_4 {kA : Nat → ClassId} : or_ok PRD kA GG o_Mo_list_4 := by
  intro A ta ws vs hD hth hl hk hds hf
  have hl : vs.length = 12 := hl
  have hk : ∀ q ∈ ([(0, (2, 0, 0, [150])), (2, (2, 0, 0, [150])), (4, (0, 0, 47, [])), (5, (0, 0, 74, [])), (6, (0, 1, 76, [])), (8, (2, 0, 0, [220])), (9, (0, 0, 23, [])), (10, (0, 0, 75, [])), (11, (0, 0, 23, []))] : List (Nat × tv_T)), tv_ok ta q.2 (n_v vs q.1) := hk
  obtain ⟨t0, hk⟩ := List.forall_mem_cons.mp hk
  have t0 : tv_ok ta (2, 0, 0, [150]) (n_v vs 0) := t0
  have r0 : ta (v_ad (n_v vs 0)) = some 150 := tv_rg t0
  obtain ⟨t2, hk⟩ := List.forall_mem_cons.mp hk
  have t2 : tv_ok ta (2, 0, 0, [150]) (n_v vs 2) := t2
  have r2 : ta (v_ad (n_v vs 2)) = some 150 := tv_rg t2
  obtain ⟨t4, hk⟩ := List.forall_mem_cons.mp hk
  have t4 : tv_ok ta (0, 0, 47, []) (n_v vs 4) := t4
  have k4 : 0 ≤ v_iv (n_v vs 4) ∧ v_iv (n_v vs 4) ≤ 47 := tv_rng t4
  obtain ⟨t5, hk⟩ := List.forall_mem_cons.mp hk
  have t5 : tv_ok ta (0, 0, 74, []) (n_v vs 5) := t5
  have k5 : 0 ≤ v_iv (n_v vs 5) ∧ v_iv (n_v vs 5) ≤ 74 := tv_rng t5
  obtain ⟨t6, hk⟩ := List.forall_mem_cons.mp hk
  have t6 : tv_ok ta (0, 1, 76, []) (n_v vs 6) := t6
  have k6 : 1 ≤ v_iv (n_v vs 6) ∧ v_iv (n_v vs 6) ≤ 76 := tv_rng t6
  obtain ⟨t8, hk⟩ := List.forall_mem_cons.mp hk
  have t8 : tv_ok ta (2, 0, 0, [220]) (n_v vs 8) := t8
  have r8 : ta (v_ad (n_v vs 8)) = some 220 := tv_rg t8
  obtain ⟨t9, hk⟩ := List.forall_mem_cons.mp hk
  have t9 : tv_ok ta (0, 0, 23, []) (n_v vs 9) := t9
  have k9 : 0 ≤ v_iv (n_v vs 9) ∧ v_iv (n_v vs 9) ≤ 23 := tv_rng t9
  obtain ⟨t10, hk⟩ := List.forall_mem_cons.mp hk
  have t10 : tv_ok ta (0, 0, 75, []) (n_v vs 10) := t10
  have k10 : 0 ≤ v_iv (n_v vs 10) ∧ v_iv (n_v vs 10) ≤ 75 := tv_rng t10
  obtain ⟨t11, hk⟩ := List.forall_mem_cons.mp hk
  have t11 : tv_ok ta (0, 0, 23, []) (n_v vs 11) := t11
  have k11 : 0 ≤ v_iv (n_v vs 11) ∧ v_iv (n_v vs 11) ≤ 23 := tv_rng t11
  have hds : ∀ q ∈ ([(6, 10, 0, 4294967296)] : List of_T), n_iv vs q.2.1 + q.2.2.1 ≤ n_iv vs q.1 ∧ n_iv vs q.1 ≤ n_iv vs q.2.1 + q.2.2.2 := hds
  obtain ⟨d0, hds⟩ := List.forall_mem_cons.mp hds
  have d0 : v_iv (n_v vs 10) + 0 ≤ v_iv (n_v vs 6) ∧ v_iv (n_v vs 6) ≤ v_iv (n_v vs 10) + 4294967296 := d0
  have hf : fc_ok PRD [(20, [2, 4, 11], [60, 1, 2, 357, 5, 2, 95]), (7, [6, 10], [3]), (10, [10, 8, 9], []), (20, [2, 4, 9], [60, 1, 2, 357, 5, 2, 95]), (9, [8, 2], [102]), (20, [2, 4, 5, 6], [60, 2, 4, 366, 5, 100, 2, 95, 102, 104]), (20, [2], [60, 3, 4, 363, 5, 107, 100, 2, 102, 108, 109]), (20, [4, 2], [50, 1, 1, 1005, 1002, 0, 6, 4, 2, 1, 0, 0, 1, 3, 1, 2, 4, 3, 2, 1, 5, 0, 1]), (20, [2, 4], [50, 3, 1, 107, 100, 5, 2, 1, 3, 2, 0, 107, 4, 11, 5, 3, 2, 0, 100, 3, 0, 2, 2, 0, 5, 1, 1]), (20, [2], [50, 1, 1, 5, 2, 0, 2, 0, 0, 3, 0, 2, 2, 0, 5]), (24, [0, 2], [])] ta ws vs := hf
  obtain ⟨f0, hf⟩ := fc_un (show (20 : Nat) < 100 from by decide) hf
  have f0 : TOO (w_fi ws (n_v vs 2) 5) (w_ei ws (w_ar ws (n_v vs 2) 2)) (w_ei ws (w_ar ws (n_v vs 2) 95)) (v_iv (n_v vs 4)) (v_iv (n_v vs 11)) := f0
  obtain ⟨f1, hf⟩ := fc_un (show (7 : Nat) < 100 from by decide) hf
  have f1 : v_iv (n_v vs 10) ≤ v_iv (n_v vs 6) := f1
  obtain ⟨f2, hf⟩ := fc_un (show (10 : Nat) < 100 from by decide) hf
  have f2 : v_iv (n_v vs 10) = w_el ws (v_ad (n_v vs 8)) (v_iv (n_v vs 9)).toNat := f2
  obtain ⟨f3, hf⟩ := fc_un (show (20 : Nat) < 100 from by decide) hf
  have f3 : TOO (w_fi ws (n_v vs 2) 5) (w_ei ws (w_ar ws (n_v vs 2) 2)) (w_ei ws (w_ar ws (n_v vs 2) 95)) (v_iv (n_v vs 4)) (v_iv (n_v vs 9)) := f3
  obtain ⟨f4, hf⟩ := fc_un (show (9 : Nat) < 100 from by decide) hf
  have f4 : n_v vs 8 = w_fd ws (v_ad (n_v vs 2)) 102 := f4
  obtain ⟨f5, hf⟩ := fc_un (show (20 : Nat) < 100 from by decide) hf
  have f5 : LID (w_fi ws (n_v vs 2) 5) (w_fi ws (n_v vs 2) 100) (w_ei ws (w_ar ws (n_v vs 2) 2)) (w_ei ws (w_ar ws (n_v vs 2) 95)) (w_ei ws (w_ar ws (n_v vs 2) 102)) (w_ei ws (w_ar ws (n_v vs 2) 104)) (v_iv (n_v vs 4)) (v_iv (n_v vs 5)) (v_iv (n_v vs 6)) := f5
  obtain ⟨f6, hf⟩ := fc_un (show (20 : Nat) < 100 from by decide) hf
  have f6 : LNP (w_fi ws (n_v vs 2) 5) (w_fi ws (n_v vs 2) 107) (w_fi ws (n_v vs 2) 100) (w_ei ws (w_ar ws (n_v vs 2) 2)) (w_ei ws (w_ar ws (n_v vs 2) 102)) (w_ei ws (w_ar ws (n_v vs 2) 108)) (w_ei ws (w_ar ws (n_v vs 2) 109)) := f6
  obtain ⟨f7, hf⟩ := fc_un (show (20 : Nat) < 100 from by decide) hf
  have f7 : (v_iv (n_v vs 4) + 1) ≤ w_ei ws (w_ar ws (n_v vs 2) 2) ((w_fi ws (n_v vs 2) 5 + 1)) := f7
  obtain ⟨f8, hf⟩ := fc_un (show (20 : Nat) < 100 from by decide) hf
  have f8 : w_fi ws (n_v vs 2) 107 = ((w_fi ws (n_v vs 2) 100 - w_ei ws (w_ar ws (n_v vs 2) 2) (w_fi ws (n_v vs 2) 5)) + v_iv (n_v vs 4)) := f8
  obtain ⟨f9, hf⟩ := fc_un (show (20 : Nat) < 100 from by decide) hf
  have f9 : 0 ≤ w_ei ws (w_ar ws (n_v vs 2) 2) (w_fi ws (n_v vs 2) 5) := f9
  obtain ⟨f10, hf⟩ := fc_un (show (24 : Nat) < 100 from by decide) hf
  have f10 : n_v vs 0 = n_v vs 2 := f10
  have q2 : n_v vs 2 = n_v vs 0 := f10.symm
  rw [q2] at f0
  rw [q2] at f3
  rw [q2] at f4
  rw [q2] at f5
  rw [q2] at f6
  rw [q2] at f7
  rw [q2] at f8
  rw [q2] at f9
  have cr_0_2 : ta (w_ar ws (n_v vs 0) 2) = some 152 := tv_rg (th_fd hD hth r0 (g := GG_150) rfl (k := 2) (t := (2, 0, 0, [152])) rfl rfl)
  have cr_0_95 : ta (w_ar ws (n_v vs 0) 95) = some 216 := tv_rg (th_fd hD hth r0 (g := GG_150) rfl (k := 95) (t := (2, 0, 0, [216])) rfl rfl)
  have cr_0_102 : ta (w_ar ws (n_v vs 0) 102) = some 220 := tv_rg (th_fd hD hth r0 (g := GG_150) rfl (k := 102) (t := (2, 0, 0, [220])) rfl rfl)
  have cr_0_104 : ta (w_ar ws (n_v vs 0) 104) = some 222 := tv_rg (th_fd hD hth r0 (g := GG_150) rfl (k := 104) (t := (2, 0, 0, [222])) rfl rfl)
  have cr_0_108 : ta (w_ar ws (n_v vs 0) 108) = some 225 := tv_rg (th_fd hD hth r0 (g := GG_150) rfl (k := 108) (t := (2, 0, 0, [225])) rfl rfl)
  have cr_0_109 : ta (w_ar ws (n_v vs 0) 109) = some 226 := tv_rg (th_fd hD hth r0 (g := GG_150) rfl (k := 109) (t := (2, 0, 0, [226])) rfl rfl)
  have ad_8 : v_ad (n_v vs 8) = w_ar ws (n_v vs 0) 102 := congrArg v_ad f4
  rw [ad_8] at f2
  have h2 : v_iv (n_v vs 10) = w_ei ws (w_ar ws (n_v vs 0) 102) (v_iv (n_v vs 9)) := f2
  have hK_0_95 : ∀ j : Int, 0 ≤ j → j < 48 → 0 ≤ w_ei ws (w_ar ws (n_v vs 0) 95) j ∧ w_ei ws (w_ar ws (n_v vs 0) 95) j ≤ 1 := fun j h0 h1 => th_el hD hth cr_0_95 (kd := 2) (n := 48) (m := 48) (lo := 0) (hi := 1) (rs := []) (L := []) rfl (by decide) (j := j.toNat) (by omega)
  have hK_0_102 : ∀ j : Int, 0 ≤ j → j < 76 → 0 ≤ w_ei ws (w_ar ws (n_v vs 0) 102) j ∧ w_ei ws (w_ar ws (n_v vs 0) 102) j ≤ 75 := fun j h0 h1 => th_el hD hth cr_0_102 (kd := 0) (n := 76) (m := 76) (lo := 0) (hi := 75) (rs := []) (L := []) rfl (by decide) (j := j.toNat) (by omega)
  have hK_0_104 : ∀ j : Int, 0 ≤ j → j < 48 → 0 ≤ w_ei ws (w_ar ws (n_v vs 0) 104) j ∧ w_ei ws (w_ar ws (n_v vs 0) 104) j ≤ 76 := fun j h0 h1 => th_el hD hth cr_0_104 (kd := 0) (n := 48) (m := 48) (lo := 0) (hi := 76) (rs := []) (L := []) rfl (by decide) (j := j.toNat) (by omega)
  have hK_0_108 : ∀ j : Int, 0 ≤ j → j < 130 → 0 ≤ w_ei ws (w_ar ws (n_v vs 0) 108) j ∧ w_ei ws (w_ar ws (n_v vs 0) 108) j ≤ 75 := fun j h0 h1 => th_el hD hth cr_0_108 (kd := 0) (n := 130) (m := 130) (lo := 0) (hi := 75) (rs := []) (L := []) rfl (by decide) (j := j.toNat) (by omega)
  have hK_0_109 : ∀ j : Int, 0 ≤ j → j < 130 → 0 ≤ w_ei ws (w_ar ws (n_v vs 0) 109) j ∧ w_ei ws (w_ar ws (n_v vs 0) 109) j ≤ 75 := fun j h0 h1 => th_el hD hth cr_0_109 (kd := 0) (n := 130) (m := 130) (lo := 0) (hi := 75) (rs := []) (L := []) rfl (by decide) (j := j.toNat) (by omega)
  have kz_0_100 : 0 ≤ w_fi ws (n_v vs 0) 100 ∧ w_fi ws (n_v vs 0) 100 ≤ 76 := tv_rng (th_fd hD hth r0 (g := GG_150) rfl (k := 100) (t := (0, 0, 76, [])) rfl rfl)
  have kz_0_107 : 0 ≤ w_fi ws (n_v vs 0) 107 ∧ w_fi ws (n_v vs 0) 107 ≤ 130 := tv_rng (th_fd hD hth r0 (g := GG_150) rfl (k := 107) (t := (0, 0, 130, [])) rfl rfl)
  have kv0 : 0 ≤ w_fi ws (n_v vs 0) 107 ∧ w_fi ws (n_v vs 0) 107 ≤ 130 := tv_rng (th_fd hD hth r0 (g := GG_150) rfl (k := 107) (t := (0, 0, 130, [])) rfl rfl)
  obtain ⟨x, ex, hx⟩ := iv_ex (ta := ta) (lo := 0) (hi := 129) (z := w_fi ws (n_v vs 0) 107) (by omega) (by omega) (by omega) (by omega)
  have ex2 : v_iv (Value.int x) = w_fi ws (n_v vs 0) 107 := ex
  have ex3 : 0 ≤ v_iv (Value.int x) ∧ v_iv (Value.int x) ≤ 129 := tv_rng hx
  have e_2 : n_v (vs ++ [Value.int x]) 2 = n_v vs 2 := n_v_old (by rw [hl]; decide)
  have e_4 : n_v (vs ++ [Value.int x]) 4 = n_v vs 4 := n_v_old (by rw [hl]; decide)
  have e_5 : n_v (vs ++ [Value.int x]) 5 = n_v vs 5 := n_v_old (by rw [hl]; decide)
  have e_6 : n_v (vs ++ [Value.int x]) 6 = n_v vs 6 := n_v_old (by rw [hl]; decide)
  have e_11 : n_v (vs ++ [Value.int x]) 11 = n_v vs 11 := n_v_old (by rw [hl]; decide)
  have e_12 : n_v (vs ++ [Value.int x]) 12 = Value.int x := n_v_new hl
  have nf0 : fc_1 PRD (20, [2, 4, 5, 6], [60, 2, 4, 387, 5, 100, 2, 95, 102, 104]) ws (vs ++ [Value.int x]) := by
    refine ⟨fun n hn => ?_, ?_⟩
    · have hn : n ∈ [2, 4, 5, 6] := hn
      rw [List.length_append, hl]
      simp only [List.mem_cons, List.not_mem_nil, or_false] at hn
      show n < 12 + 1; omega
    · show LIG (w_fi ws (n_v (vs ++ [Value.int x]) 2) 5) (w_fi ws (n_v (vs ++ [Value.int x]) 2) 100) (w_ei ws (w_ar ws (n_v (vs ++ [Value.int x]) 2) 2)) (w_ei ws (w_ar ws (n_v (vs ++ [Value.int x]) 2) 95)) (w_ei ws (w_ar ws (n_v (vs ++ [Value.int x]) 2) 102)) (w_ei ws (w_ar ws (n_v (vs ++ [Value.int x]) 2) 104)) (v_iv (n_v (vs ++ [Value.int x]) 4)) (v_iv (n_v (vs ++ [Value.int x]) 5)) (v_iv (n_v (vs ++ [Value.int x]) 6))
      rw [e_2]
      rw [e_4]
      rw [e_5]
      rw [e_6]
      rw [q2]
      exact vc_Mo_list_4_0 (v_iv (n_v vs 4)) (v_iv (n_v vs 5)) (v_iv (n_v vs 6)) (v_iv (n_v vs 9)) (v_iv (n_v vs 10)) (v_iv (n_v vs 11)) (w_ei ws (w_ar ws (n_v vs 0) 2)) (w_ei ws (w_ar ws (n_v vs 0) 95)) (w_fi ws (n_v vs 0) 5) (w_ei ws (w_ar ws (n_v vs 0) 102)) (w_ei ws (w_ar ws (n_v vs 0) 104)) (w_fi ws (n_v vs 0) 100) (w_ei ws (w_ar ws (n_v vs 0) 108)) (w_ei ws (w_ar ws (n_v vs 0) 109)) (w_fi ws (n_v vs 0) 107) (v_iv (Value.int x)) k4 k5 k6 k9 k10 k11 d0 f0 f1 h2 f3 f5 f6 f7 f8 f9 hK_0_95 hK_0_102 hK_0_104 hK_0_108 hK_0_109 kz_0_100 kz_0_107 ex2 ex3
  have nf1 : fc_1 PRD (20, [2, 12], [50, 1, 0, 107, 1, 3, 2, 0, 107, 1, 1]) ws (vs ++ [Value.int x]) := by
    refine ⟨fun n hn => ?_, ?_⟩
    · have hn : n ∈ [2, 12] := hn
      rw [List.length_append, hl]
      simp only [List.mem_cons, List.not_mem_nil, or_false] at hn
      show n < 12 + 1; omega
    · show w_fi ws (n_v (vs ++ [Value.int x]) 2) 107 = v_iv (n_v (vs ++ [Value.int x]) 12)
      rw [e_2]
      rw [e_12]
      rw [q2]
      exact vc_Mo_list_4_1 (v_iv (n_v vs 4)) (v_iv (n_v vs 5)) (v_iv (n_v vs 6)) (v_iv (n_v vs 9)) (v_iv (n_v vs 10)) (v_iv (n_v vs 11)) (w_ei ws (w_ar ws (n_v vs 0) 2)) (w_ei ws (w_ar ws (n_v vs 0) 95)) (w_fi ws (n_v vs 0) 5) (w_ei ws (w_ar ws (n_v vs 0) 102)) (w_ei ws (w_ar ws (n_v vs 0) 104)) (w_fi ws (n_v vs 0) 100) (w_ei ws (w_ar ws (n_v vs 0) 108)) (w_ei ws (w_ar ws (n_v vs 0) 109)) (w_fi ws (n_v vs 0) 107) (v_iv (Value.int x)) k4 k5 k6 k9 k10 k11 d0 f0 f1 h2 f3 f5 f6 f7 f8 f9 hK_0_95 hK_0_102 hK_0_104 hK_0_108 hK_0_109 kz_0_100 kz_0_107 ex2 ex3
  have nf2 : fc_1 PRD (20, [2], [60, 3, 4, 363, 5, 107, 100, 2, 102, 108, 109]) ws (vs ++ [Value.int x]) := by
    refine ⟨fun n hn => ?_, ?_⟩
    · have hn : n ∈ [2] := hn
      rw [List.length_append, hl]
      simp only [List.mem_cons, List.not_mem_nil, or_false] at hn
      show n < 12 + 1; omega
    · show LNP (w_fi ws (n_v (vs ++ [Value.int x]) 2) 5) (w_fi ws (n_v (vs ++ [Value.int x]) 2) 107) (w_fi ws (n_v (vs ++ [Value.int x]) 2) 100) (w_ei ws (w_ar ws (n_v (vs ++ [Value.int x]) 2) 2)) (w_ei ws (w_ar ws (n_v (vs ++ [Value.int x]) 2) 102)) (w_ei ws (w_ar ws (n_v (vs ++ [Value.int x]) 2) 108)) (w_ei ws (w_ar ws (n_v (vs ++ [Value.int x]) 2) 109))
      rw [e_2]
      rw [q2]
      exact vc_Mo_list_4_2 (v_iv (n_v vs 4)) (v_iv (n_v vs 5)) (v_iv (n_v vs 6)) (v_iv (n_v vs 9)) (v_iv (n_v vs 10)) (v_iv (n_v vs 11)) (w_ei ws (w_ar ws (n_v vs 0) 2)) (w_ei ws (w_ar ws (n_v vs 0) 95)) (w_fi ws (n_v vs 0) 5) (w_ei ws (w_ar ws (n_v vs 0) 102)) (w_ei ws (w_ar ws (n_v vs 0) 104)) (w_fi ws (n_v vs 0) 100) (w_ei ws (w_ar ws (n_v vs 0) 108)) (w_ei ws (w_ar ws (n_v vs 0) 109)) (w_fi ws (n_v vs 0) 107) (v_iv (Value.int x)) k4 k5 k6 k9 k10 k11 d0 f0 f1 h2 f3 f5 f6 f7 f8 f9 hK_0_95 hK_0_102 hK_0_104 hK_0_108 hK_0_109 kz_0_100 kz_0_107 ex2 ex3
  have nf3 : fc_1 PRD (20, [2, 5, 11], [60, 2, 2, 388, 5, 100, 2, 102]) ws (vs ++ [Value.int x]) := by
    refine ⟨fun n hn => ?_, ?_⟩
    · have hn : n ∈ [2, 5, 11] := hn
      rw [List.length_append, hl]
      simp only [List.mem_cons, List.not_mem_nil, or_false] at hn
      show n < 12 + 1; omega
    · show LNK (w_fi ws (n_v (vs ++ [Value.int x]) 2) 5) (w_fi ws (n_v (vs ++ [Value.int x]) 2) 100) (w_ei ws (w_ar ws (n_v (vs ++ [Value.int x]) 2) 2)) (w_ei ws (w_ar ws (n_v (vs ++ [Value.int x]) 2) 102)) (v_iv (n_v (vs ++ [Value.int x]) 5)) (v_iv (n_v (vs ++ [Value.int x]) 11))
      rw [e_2]
      rw [e_5]
      rw [e_11]
      rw [q2]
      exact vc_Mo_list_4_3 (v_iv (n_v vs 4)) (v_iv (n_v vs 5)) (v_iv (n_v vs 6)) (v_iv (n_v vs 9)) (v_iv (n_v vs 10)) (v_iv (n_v vs 11)) (w_ei ws (w_ar ws (n_v vs 0) 2)) (w_ei ws (w_ar ws (n_v vs 0) 95)) (w_fi ws (n_v vs 0) 5) (w_ei ws (w_ar ws (n_v vs 0) 102)) (w_ei ws (w_ar ws (n_v vs 0) 104)) (w_fi ws (n_v vs 0) 100) (w_ei ws (w_ar ws (n_v vs 0) 108)) (w_ei ws (w_ar ws (n_v vs 0) 109)) (w_fi ws (n_v vs 0) 107) (v_iv (Value.int x)) k4 k5 k6 k9 k10 k11 d0 f0 f1 h2 f3 f5 f6 f7 f8 f9 hK_0_95 hK_0_102 hK_0_104 hK_0_108 hK_0_109 kz_0_100 kz_0_107 ex2 ex3
  have nf4 : fc_1 PRD (20, [12, 2, 4], [50, 2, 1, 1100, 1005, 1002, 1, 2, 1, 0, 4, 11, 5, 3, 2, 1, 100, 3, 1, 2, 2, 1, 5, 1, 2]) ws (vs ++ [Value.int x]) := by
    refine ⟨fun n hn => ?_, ?_⟩
    · have hn : n ∈ [12, 2, 4] := hn
      rw [List.length_append, hl]
      simp only [List.mem_cons, List.not_mem_nil, or_false] at hn
      show n < 12 + 1; omega
    · show v_iv (n_v (vs ++ [Value.int x]) 12) = ((w_fi ws (n_v (vs ++ [Value.int x]) 2) 100 - w_ei ws (w_ar ws (n_v (vs ++ [Value.int x]) 2) 2) (w_fi ws (n_v (vs ++ [Value.int x]) 2) 5)) + v_iv (n_v (vs ++ [Value.int x]) 4))
      rw [e_2]
      rw [e_4]
      rw [e_12]
      rw [q2]
      exact vc_Mo_list_4_4 (v_iv (n_v vs 4)) (v_iv (n_v vs 5)) (v_iv (n_v vs 6)) (v_iv (n_v vs 9)) (v_iv (n_v vs 10)) (v_iv (n_v vs 11)) (w_ei ws (w_ar ws (n_v vs 0) 2)) (w_ei ws (w_ar ws (n_v vs 0) 95)) (w_fi ws (n_v vs 0) 5) (w_ei ws (w_ar ws (n_v vs 0) 102)) (w_ei ws (w_ar ws (n_v vs 0) 104)) (w_fi ws (n_v vs 0) 100) (w_ei ws (w_ar ws (n_v vs 0) 108)) (w_ei ws (w_ar ws (n_v vs 0) 109)) (w_fi ws (n_v vs 0) 107) (v_iv (Value.int x)) k4 k5 k6 k9 k10 k11 d0 f0 f1 h2 f3 f5 f6 f7 f8 f9 hK_0_95 hK_0_102 hK_0_104 hK_0_108 hK_0_109 kz_0_100 kz_0_107 ex2 ex3
  exact ⟨(fun _ h => (by cases h)), [Value.int x], ag_one hx, List.forall_mem_cons.mpr ⟨⟨show (20 : Nat) < 100 from by decide, nf0⟩, List.forall_mem_cons.mpr ⟨⟨show (20 : Nat) < 100 from by decide, nf1⟩, List.forall_mem_cons.mpr ⟨⟨show (20 : Nat) < 100 from by decide, nf2⟩, List.forall_mem_cons.mpr ⟨⟨show (20 : Nat) < 100 from by decide, nf3⟩, List.forall_mem_cons.mpr ⟨⟨show (20 : Nat) < 100 from by decide, nf4⟩, (fun _ h => (by cases h))⟩⟩⟩⟩⟩, (fun _ h => (by cases h))⟩
set_option maxHeartbeats 4000000 in
theorem vc_Mo_list_5_0 (x4 : Int) (x5 : Int) (x6 : Int) (x9 : Int) (x10 : Int) (x11 : Int) (x12 : Int) (x13 : Int) (all_0 : Int → Int) (turned_0 : Int → Int) (itemLayer_0 : Int → Int) (firstJoint_0 : Int → Int) (r_0 : Int) (items_0 : Int) (lines_0 : Int) (lineA_0 : Int → Int) (lineB_0 : Int → Int) (k4 : 0 ≤ x4 ∧ x4 ≤ 47) (k5 : 0 ≤ x5 ∧ x5 ≤ 74) (k6 : 1 ≤ x6 ∧ x6 ≤ 76) (k9 : 0 ≤ x9 ∧ x9 ≤ 23) (k10 : 0 ≤ x10 ∧ x10 ≤ 75) (k11 : 0 ≤ x11 ∧ x11 ≤ 23) (k12 : 0 ≤ x12 ∧ x12 ≤ 129) (k13 : 1 ≤ x13 ∧ x13 ≤ 48) (d0 : x4 + 1 ≤ x13 ∧ x13 ≤ x4 + 1) (d1 : x10 + 0 ≤ x6 ∧ x6 ≤ x10 + 4294967296) (f0 : x13 = x4 + 1) (f1 : LIG (r_0) (items_0) (all_0) (turned_0) (itemLayer_0) (firstJoint_0) (x4) (x5) (x6)) (f2 : LNK (r_0) (items_0) (all_0) (itemLayer_0) (x5) (x11)) (f3 : x12 = ((items_0 - all_0 (r_0)) + x4)) (f4 : TOO (r_0) (all_0) (turned_0) (x4) (x11)) (f5 : TOO (r_0) (all_0) (turned_0) (x4) (x9)) (f6 : LID (r_0) (items_0) (all_0) (turned_0) (itemLayer_0) (firstJoint_0) (x4) (x5) (x6)) (f7 : (x4 + 1) ≤ all_0 ((r_0 + 1))) (f8 : 0 ≤ all_0 (r_0)) (f10 : lines_0 = (x12 + 1)) (f11 : LNP (r_0) (lines_0) (items_0) (all_0) (itemLayer_0) (lineA_0) (lineB_0)) (f13 : x10 ≤ x6) (hK_0_95 : ∀ j : Int, 0 ≤ j → j < 48 → 0 ≤ turned_0 j ∧ turned_0 j ≤ 1) (hK_0_102 : ∀ j : Int, 0 ≤ j → j < 76 → 0 ≤ itemLayer_0 j ∧ itemLayer_0 j ≤ 75) (hK_0_104 : ∀ j : Int, 0 ≤ j → j < 48 → 0 ≤ firstJoint_0 j ∧ firstJoint_0 j ≤ 76) (hK_0_108 : ∀ j : Int, 0 ≤ j → j < 130 → 0 ≤ lineA_0 j ∧ lineA_0 j ≤ 75) (hK_0_109 : ∀ j : Int, 0 ≤ j → j < 130 → 0 ≤ lineB_0 j ∧ lineB_0 j ≤ 75) (kz_0_100 : 0 ≤ items_0 ∧ items_0 ≤ 76) (kz_0_107 : 0 ≤ lines_0 ∧ lines_0 ≤ 130) : LIC (r_0) (items_0) (all_0) (turned_0) (itemLayer_0) (firstJoint_0) (x13) := by
  try simp only [Int.add_zero] at *
  first
    | exact lic_zero ‹LYJ _ _ _ _› (by omega) (by omega)
    | exact lig_next ‹LIG _ _ _ _ _ _ _ _ _› (by assumption)
set_option maxHeartbeats 4000000 in
theorem vc_Mo_list_5_1 (x4 : Int) (x5 : Int) (x6 : Int) (x9 : Int) (x10 : Int) (x11 : Int) (x12 : Int) (x13 : Int) (all_0 : Int → Int) (turned_0 : Int → Int) (itemLayer_0 : Int → Int) (firstJoint_0 : Int → Int) (r_0 : Int) (items_0 : Int) (lines_0 : Int) (lineA_0 : Int → Int) (lineB_0 : Int → Int) (k4 : 0 ≤ x4 ∧ x4 ≤ 47) (k5 : 0 ≤ x5 ∧ x5 ≤ 74) (k6 : 1 ≤ x6 ∧ x6 ≤ 76) (k9 : 0 ≤ x9 ∧ x9 ≤ 23) (k10 : 0 ≤ x10 ∧ x10 ≤ 75) (k11 : 0 ≤ x11 ∧ x11 ≤ 23) (k12 : 0 ≤ x12 ∧ x12 ≤ 129) (k13 : 1 ≤ x13 ∧ x13 ≤ 48) (d0 : x4 + 1 ≤ x13 ∧ x13 ≤ x4 + 1) (d1 : x10 + 0 ≤ x6 ∧ x6 ≤ x10 + 4294967296) (f0 : x13 = x4 + 1) (f1 : LIG (r_0) (items_0) (all_0) (turned_0) (itemLayer_0) (firstJoint_0) (x4) (x5) (x6)) (f2 : LNK (r_0) (items_0) (all_0) (itemLayer_0) (x5) (x11)) (f3 : x12 = ((items_0 - all_0 (r_0)) + x4)) (f4 : TOO (r_0) (all_0) (turned_0) (x4) (x11)) (f5 : TOO (r_0) (all_0) (turned_0) (x4) (x9)) (f6 : LID (r_0) (items_0) (all_0) (turned_0) (itemLayer_0) (firstJoint_0) (x4) (x5) (x6)) (f7 : (x4 + 1) ≤ all_0 ((r_0 + 1))) (f8 : 0 ≤ all_0 (r_0)) (f10 : lines_0 = (x12 + 1)) (f11 : LNP (r_0) (lines_0) (items_0) (all_0) (itemLayer_0) (lineA_0) (lineB_0)) (f13 : x10 ≤ x6) (hK_0_95 : ∀ j : Int, 0 ≤ j → j < 48 → 0 ≤ turned_0 j ∧ turned_0 j ≤ 1) (hK_0_102 : ∀ j : Int, 0 ≤ j → j < 76 → 0 ≤ itemLayer_0 j ∧ itemLayer_0 j ≤ 75) (hK_0_104 : ∀ j : Int, 0 ≤ j → j < 48 → 0 ≤ firstJoint_0 j ∧ firstJoint_0 j ≤ 76) (hK_0_108 : ∀ j : Int, 0 ≤ j → j < 130 → 0 ≤ lineA_0 j ∧ lineA_0 j ≤ 75) (hK_0_109 : ∀ j : Int, 0 ≤ j → j < 130 → 0 ≤ lineB_0 j ∧ lineB_0 j ≤ 75) (kz_0_100 : 0 ≤ items_0 ∧ items_0 ≤ 76) (kz_0_107 : 0 ≤ lines_0 ∧ lines_0 ≤ 130) : lines_0 = ((items_0 - all_0 (r_0)) + x13) := by
  try simp only [Int.add_zero] at *
  first
    | omega
    | (have h := lid_bd ‹LID _ _ _ _ _ _ _ _ _›; omega)
    | (have h := ‹LYJ _ _ _ _›.1.1.1; omega)
    | (have h := (lic_bd ‹LIC _ _ _ _ _ _ _›).1; omega)
    | (have h := (lic_bd ‹LIF _ _ _ _ _ _›).1; omega)
    | (have h := ‹LSA _ _ _ _ _ _ _ _ _ _›.2.1; omega)
    | (have h := lli_bd ‹LLI _ _ _ _ _ _›; have h2 := ‹LSA _ _ _ _ _ _ _ _ _ _›.2.1; omega)
set_option maxHeartbeats 4000000 in
theorem vc_Mo_list_5_2 (x4 : Int) (x5 : Int) (x6 : Int) (x9 : Int) (x10 : Int) (x11 : Int) (x12 : Int) (x13 : Int) (all_0 : Int → Int) (turned_0 : Int → Int) (itemLayer_0 : Int → Int) (firstJoint_0 : Int → Int) (r_0 : Int) (items_0 : Int) (lines_0 : Int) (lineA_0 : Int → Int) (lineB_0 : Int → Int) (k4 : 0 ≤ x4 ∧ x4 ≤ 47) (k5 : 0 ≤ x5 ∧ x5 ≤ 74) (k6 : 1 ≤ x6 ∧ x6 ≤ 76) (k9 : 0 ≤ x9 ∧ x9 ≤ 23) (k10 : 0 ≤ x10 ∧ x10 ≤ 75) (k11 : 0 ≤ x11 ∧ x11 ≤ 23) (k12 : 0 ≤ x12 ∧ x12 ≤ 129) (k13 : 1 ≤ x13 ∧ x13 ≤ 48) (d0 : x4 + 1 ≤ x13 ∧ x13 ≤ x4 + 1) (d1 : x10 + 0 ≤ x6 ∧ x6 ≤ x10 + 4294967296) (f0 : x13 = x4 + 1) (f1 : LIG (r_0) (items_0) (all_0) (turned_0) (itemLayer_0) (firstJoint_0) (x4) (x5) (x6)) (f2 : LNK (r_0) (items_0) (all_0) (itemLayer_0) (x5) (x11)) (f3 : x12 = ((items_0 - all_0 (r_0)) + x4)) (f4 : TOO (r_0) (all_0) (turned_0) (x4) (x11)) (f5 : TOO (r_0) (all_0) (turned_0) (x4) (x9)) (f6 : LID (r_0) (items_0) (all_0) (turned_0) (itemLayer_0) (firstJoint_0) (x4) (x5) (x6)) (f7 : (x4 + 1) ≤ all_0 ((r_0 + 1))) (f8 : 0 ≤ all_0 (r_0)) (f10 : lines_0 = (x12 + 1)) (f11 : LNP (r_0) (lines_0) (items_0) (all_0) (itemLayer_0) (lineA_0) (lineB_0)) (f13 : x10 ≤ x6) (hK_0_95 : ∀ j : Int, 0 ≤ j → j < 48 → 0 ≤ turned_0 j ∧ turned_0 j ≤ 1) (hK_0_102 : ∀ j : Int, 0 ≤ j → j < 76 → 0 ≤ itemLayer_0 j ∧ itemLayer_0 j ≤ 75) (hK_0_104 : ∀ j : Int, 0 ≤ j → j < 48 → 0 ≤ firstJoint_0 j ∧ firstJoint_0 j ≤ 76) (hK_0_108 : ∀ j : Int, 0 ≤ j → j < 130 → 0 ≤ lineA_0 j ∧ lineA_0 j ≤ 75) (hK_0_109 : ∀ j : Int, 0 ≤ j → j < 130 → 0 ≤ lineB_0 j ∧ lineB_0 j ≤ 75) (kz_0_100 : 0 ≤ items_0 ∧ items_0 ≤ 76) (kz_0_107 : 0 ≤ lines_0 ∧ lines_0 ≤ 130) : x13 ≤ all_0 ((r_0 + 1)) := by
  try simp only [Int.add_zero] at *
  first
    | omega
    | (have h := lid_bd ‹LID _ _ _ _ _ _ _ _ _›; omega)
    | (have h := ‹LYJ _ _ _ _›.1.1.1; omega)
    | (have h := (lic_bd ‹LIC _ _ _ _ _ _ _›).1; omega)
    | (have h := (lic_bd ‹LIF _ _ _ _ _ _›).1; omega)
    | (have h := ‹LSA _ _ _ _ _ _ _ _ _ _›.2.1; omega)
    | (have h := lli_bd ‹LLI _ _ _ _ _ _›; have h2 := ‹LSA _ _ _ _ _ _ _ _ _ _›.2.1; omega)
def o_Mo_list_5 : or_T := (12, 14, [(0, (2, 0, 0, [150])), (2, (2, 0, 0, [150])), (4, (0, 0, 47, [])), (5, (0, 0, 74, [])), (6, (0, 1, 76, [])), (9, (0, 0, 23, [])), (10, (0, 0, 75, [])), (11, (0, 0, 23, [])), (12, (0, 0, 129, [])), (13, (0, 1, 48, []))], [(6, [13, 4], [1]), (20, [2, 4, 5, 6], [60, 2, 4, 387, 5, 100, 2, 95, 102, 104]), (20, [2, 5, 11], [60, 2, 2, 388, 5, 100, 2, 102]), (20, [12, 2, 4], [50, 2, 1, 1100, 1005, 1002, 1, 2, 1, 0, 4, 11, 5, 3, 2, 1, 100, 3, 1, 2, 2, 1, 5, 1, 2]), (20, [2, 4, 11], [60, 1, 2, 357, 5, 2, 95]), (20, [2, 4, 9], [60, 1, 2, 357, 5, 2, 95]), (20, [2, 4, 5, 6], [60, 2, 4, 366, 5, 100, 2, 95, 102, 104]), (20, [4, 2], [50, 1, 1, 1005, 1002, 0, 6, 4, 2, 1, 0, 0, 1, 3, 1, 2, 4, 3, 2, 1, 5, 0, 1]), (20, [2], [50, 1, 1, 5, 2, 0, 2, 0, 0, 3, 0, 2, 2, 0, 5]), (24, [0, 2], []), (20, [2, 12], [50, 1, 0, 107, 1, 3, 2, 0, 107, 4, 2, 1, 1, 0, 1]), (20, [2], [60, 3, 4, 363, 5, 107, 100, 2, 102, 108, 109]), (102, [12], [161759680002903838768002090522117784041822866535243434886621661495296, 13107]), (7, [6, 10], [3])], [], [], [(20, [2, 13], [60, 2, 4, 365, 5, 100, 2, 95, 102, 104]), (20, [2, 13], [50, 3, 1, 107, 100, 5, 2, 1, 3, 2, 0, 107, 4, 11, 5, 3, 2, 0, 100, 3, 0, 2, 2, 0, 5, 1, 1]), (20, [13, 2], [50, 1, 1, 1005, 1002, 0, 2, 1, 0, 3, 1, 2, 4, 3, 2, 1, 5, 0, 1])], [], [(13, 4, 1, 1), (6, 10, 0, 4294967296)])
theorem oo_Mo_list_5 {kA : Nat → ClassId} : or_ok PRD kA GG o_Mo_list_5 := by
  intro A ta ws vs hD hth hl hk hds hf
  have hl : vs.length = 14 := hl
  have hk : ∀ q ∈ ([(0, (2, 0, 0, [150])), (2, (2, 0, 0, [150])), (4, (0, 0, 47, [])), (5, (0, 0, 74, [])), (6, (0, 1, 76, [])), (9, (0, 0, 23, [])), (10, (0, 0, 75, [])), (11, (0, 0, 23, [])), (12, (0, 0, 129, [])), (13, (0, 1, 48, []))] : List (Nat × tv_T)), tv_ok ta q.2 (n_v vs q.1) := hk
  obtain ⟨t0, hk⟩ := List.forall_mem_cons.mp hk
  have t0 : tv_ok ta (2, 0, 0, [150]) (n_v vs 0) := t0
  have r0 : ta (v_ad (n_v vs 0)) = some 150 := tv_rg t0
  obtain ⟨t2, hk⟩ := List.forall_mem_cons.mp hk
  have t2 : tv_ok ta (2, 0, 0, [150]) (n_v vs 2) := t2
  have r2 : ta (v_ad (n_v vs 2)) = some 150 := tv_rg t2
  obtain ⟨t4, hk⟩ := List.forall_mem_cons.mp hk
  have t4 : tv_ok ta (0, 0, 47, []) (n_v vs 4) := t4
  have k4 : 0 ≤ v_iv (n_v vs 4) ∧ v_iv (n_v vs 4) ≤ 47 := tv_rng t4
  obtain ⟨t5, hk⟩ := List.forall_mem_cons.mp hk
  have t5 : tv_ok ta (0, 0, 74, []) (n_v vs 5) := t5
  have k5 : 0 ≤ v_iv (n_v vs 5) ∧ v_iv (n_v vs 5) ≤ 74 := tv_rng t5
  obtain ⟨t6, hk⟩ := List.forall_mem_cons.mp hk
  have t6 : tv_ok ta (0, 1, 76, []) (n_v vs 6) := t6
  have k6 : 1 ≤ v_iv (n_v vs 6) ∧ v_iv (n_v vs 6) ≤ 76 := tv_rng t6
  obtain ⟨t9, hk⟩ := List.forall_mem_cons.mp hk
  have t9 : tv_ok ta (0, 0, 23, []) (n_v vs 9) := t9
  have k9 : 0 ≤ v_iv (n_v vs 9) ∧ v_iv (n_v vs 9) ≤ 23 := tv_rng t9
  obtain ⟨t10, hk⟩ := List.forall_mem_cons.mp hk
  have t10 : tv_ok ta (0, 0, 75, []) (n_v vs 10) := t10
  have k10 : 0 ≤ v_iv (n_v vs 10) ∧ v_iv (n_v vs 10) ≤ 75 := tv_rng t10
  obtain ⟨t11, hk⟩ := List.forall_mem_cons.mp hk
  have t11 : tv_ok ta (0, 0, 23, []) (n_v vs 11) := t11
  have k11 : 0 ≤ v_iv (n_v vs 11) ∧ v_iv (n_v vs 11) ≤ 23 := tv_rng t11
  obtain ⟨t12, hk⟩ := List.forall_mem_cons.mp hk
  have t12 : tv_ok ta (0, 0, 129, []) (n_v vs 12) := t12
  have k12 : 0 ≤ v_iv (n_v vs 12) ∧ v_iv (n_v vs 12) ≤ 129 := tv_rng t12
  obtain ⟨t13, hk⟩ := List.forall_mem_cons.mp hk
  have t13 : tv_ok ta (0, 1, 48, []) (n_v vs 13) := t13
  have k13 : 1 ≤ v_iv (n_v vs 13) ∧ v_iv (n_v vs 13) ≤ 48 := tv_rng t13
  have hds : ∀ q ∈ ([(13, 4, 1, 1), (6, 10, 0, 4294967296)] : List of_T), n_iv vs q.2.1 + q.2.2.1 ≤ n_iv vs q.1 ∧ n_iv vs q.1 ≤ n_iv vs q.2.1 + q.2.2.2 := hds
  obtain ⟨d0, hds⟩ := List.forall_mem_cons.mp hds
  have d0 : v_iv (n_v vs 4) + 1 ≤ v_iv (n_v vs 13) ∧ v_iv (n_v vs 13) ≤ v_iv (n_v vs 4) + 1 := d0
  obtain ⟨d1, hds⟩ := List.forall_mem_cons.mp hds
  have d1 : v_iv (n_v vs 10) + 0 ≤ v_iv (n_v vs 6) ∧ v_iv (n_v vs 6) ≤ v_iv (n_v vs 10) + 4294967296 := d1
  have hf : fc_ok PRD [(6, [13, 4], [1]), (20, [2, 4, 5, 6], [60, 2, 4, 387, 5, 100, 2, 95, 102, 104]), (20, [2, 5, 11], [60, 2, 2, 388, 5, 100, 2, 102]), (20, [12, 2, 4], [50, 2, 1, 1100, 1005, 1002, 1, 2, 1, 0, 4, 11, 5, 3, 2, 1, 100, 3, 1, 2, 2, 1, 5, 1, 2]), (20, [2, 4, 11], [60, 1, 2, 357, 5, 2, 95]), (20, [2, 4, 9], [60, 1, 2, 357, 5, 2, 95]), (20, [2, 4, 5, 6], [60, 2, 4, 366, 5, 100, 2, 95, 102, 104]), (20, [4, 2], [50, 1, 1, 1005, 1002, 0, 6, 4, 2, 1, 0, 0, 1, 3, 1, 2, 4, 3, 2, 1, 5, 0, 1]), (20, [2], [50, 1, 1, 5, 2, 0, 2, 0, 0, 3, 0, 2, 2, 0, 5]), (24, [0, 2], []), (20, [2, 12], [50, 1, 0, 107, 1, 3, 2, 0, 107, 4, 2, 1, 1, 0, 1]), (20, [2], [60, 3, 4, 363, 5, 107, 100, 2, 102, 108, 109]), (102, [12], [161759680002903838768002090522117784041822866535243434886621661495296, 13107]), (7, [6, 10], [3])] ta ws vs := hf
  obtain ⟨f0, hf⟩ := fc_un (show (6 : Nat) < 100 from by decide) hf
  have f0 : v_iv (n_v vs 13) = v_iv (n_v vs 4) + 1 := f0
  obtain ⟨f1, hf⟩ := fc_un (show (20 : Nat) < 100 from by decide) hf
  have f1 : LIG (w_fi ws (n_v vs 2) 5) (w_fi ws (n_v vs 2) 100) (w_ei ws (w_ar ws (n_v vs 2) 2)) (w_ei ws (w_ar ws (n_v vs 2) 95)) (w_ei ws (w_ar ws (n_v vs 2) 102)) (w_ei ws (w_ar ws (n_v vs 2) 104)) (v_iv (n_v vs 4)) (v_iv (n_v vs 5)) (v_iv (n_v vs 6)) := f1
  obtain ⟨f2, hf⟩ := fc_un (show (20 : Nat) < 100 from by decide) hf
  have f2 : LNK (w_fi ws (n_v vs 2) 5) (w_fi ws (n_v vs 2) 100) (w_ei ws (w_ar ws (n_v vs 2) 2)) (w_ei ws (w_ar ws (n_v vs 2) 102)) (v_iv (n_v vs 5)) (v_iv (n_v vs 11)) := f2
  obtain ⟨f3, hf⟩ := fc_un (show (20 : Nat) < 100 from by decide) hf
  have f3 : v_iv (n_v vs 12) = ((w_fi ws (n_v vs 2) 100 - w_ei ws (w_ar ws (n_v vs 2) 2) (w_fi ws (n_v vs 2) 5)) + v_iv (n_v vs 4)) := f3
  obtain ⟨f4, hf⟩ := fc_un (show (20 : Nat) < 100 from by decide) hf
  have f4 : TOO (w_fi ws (n_v vs 2) 5) (w_ei ws (w_ar ws (n_v vs 2) 2)) (w_ei ws (w_ar ws (n_v vs 2) 95)) (v_iv (n_v vs 4)) (v_iv (n_v vs 11)) := f4
  obtain ⟨f5, hf⟩ := fc_un (show (20 : Nat) < 100 from by decide) hf
  have f5 : TOO (w_fi ws (n_v vs 2) 5) (w_ei ws (w_ar ws (n_v vs 2) 2)) (w_ei ws (w_ar ws (n_v vs 2) 95)) (v_iv (n_v vs 4)) (v_iv (n_v vs 9)) := f5
  obtain ⟨f6, hf⟩ := fc_un (show (20 : Nat) < 100 from by decide) hf
  have f6 : LID (w_fi ws (n_v vs 2) 5) (w_fi ws (n_v vs 2) 100) (w_ei ws (w_ar ws (n_v vs 2) 2)) (w_ei ws (w_ar ws (n_v vs 2) 95)) (w_ei ws (w_ar ws (n_v vs 2) 102)) (w_ei ws (w_ar ws (n_v vs 2) 104)) (v_iv (n_v vs 4)) (v_iv (n_v vs 5)) (v_iv (n_v vs 6)) := f6
  obtain ⟨f7, hf⟩ := fc_un (show (20 : Nat) < 100 from by decide) hf
  have f7 : (v_iv (n_v vs 4) + 1) ≤ w_ei ws (w_ar ws (n_v vs 2) 2) ((w_fi ws (n_v vs 2) 5 + 1)) := f7
  obtain ⟨f8, hf⟩ := fc_un (show (20 : Nat) < 100 from by decide) hf
  have f8 : 0 ≤ w_ei ws (w_ar ws (n_v vs 2) 2) (w_fi ws (n_v vs 2) 5) := f8
  obtain ⟨f9, hf⟩ := fc_un (show (24 : Nat) < 100 from by decide) hf
  have f9 : n_v vs 0 = n_v vs 2 := f9
  obtain ⟨f10, hf⟩ := fc_un (show (20 : Nat) < 100 from by decide) hf
  have f10 : w_fi ws (n_v vs 2) 107 = (v_iv (n_v vs 12) + 1) := f10
  obtain ⟨f11, hf⟩ := fc_un (show (20 : Nat) < 100 from by decide) hf
  have f11 : LNP (w_fi ws (n_v vs 2) 5) (w_fi ws (n_v vs 2) 107) (w_fi ws (n_v vs 2) 100) (w_ei ws (w_ar ws (n_v vs 2) 2)) (w_ei ws (w_ar ws (n_v vs 2) 102)) (w_ei ws (w_ar ws (n_v vs 2) 108)) (w_ei ws (w_ar ws (n_v vs 2) 109)) := f11
  obtain ⟨ta1, w1, le1, ⟨_, s1⟩, hf⟩ := fc_us (show ¬ (102 : Nat) < 100 from by decide) hf
  obtain ⟨f13, hf⟩ := fc_un (show (7 : Nat) < 100 from by decide) hf
  have f13 : v_iv (n_v vs 10) ≤ v_iv (n_v vs 6) := f13
  have q2 : n_v vs 2 = n_v vs 0 := f9.symm
  rw [q2] at f1
  rw [q2] at f2
  rw [q2] at f3
  rw [q2] at f4
  rw [q2] at f5
  rw [q2] at f6
  rw [q2] at f7
  rw [q2] at f8
  rw [q2] at f10
  rw [q2] at f11
  have cr_0_2 : ta (w_ar ws (n_v vs 0) 2) = some 152 := tv_rg (th_fd hD hth r0 (g := GG_150) rfl (k := 2) (t := (2, 0, 0, [152])) rfl rfl)
  have cr_0_95 : ta (w_ar ws (n_v vs 0) 95) = some 216 := tv_rg (th_fd hD hth r0 (g := GG_150) rfl (k := 95) (t := (2, 0, 0, [216])) rfl rfl)
  have cr_0_102 : ta (w_ar ws (n_v vs 0) 102) = some 220 := tv_rg (th_fd hD hth r0 (g := GG_150) rfl (k := 102) (t := (2, 0, 0, [220])) rfl rfl)
  have cr_0_104 : ta (w_ar ws (n_v vs 0) 104) = some 222 := tv_rg (th_fd hD hth r0 (g := GG_150) rfl (k := 104) (t := (2, 0, 0, [222])) rfl rfl)
  have cr_0_108 : ta (w_ar ws (n_v vs 0) 108) = some 225 := tv_rg (th_fd hD hth r0 (g := GG_150) rfl (k := 108) (t := (2, 0, 0, [225])) rfl rfl)
  have cr_0_109 : ta (w_ar ws (n_v vs 0) 109) = some 226 := tv_rg (th_fd hD hth r0 (g := GG_150) rfl (k := 109) (t := (2, 0, 0, [226])) rfl rfl)
  have hK_0_95 : ∀ j : Int, 0 ≤ j → j < 48 → 0 ≤ w_ei ws (w_ar ws (n_v vs 0) 95) j ∧ w_ei ws (w_ar ws (n_v vs 0) 95) j ≤ 1 := fun j h0 h1 => th_el hD hth cr_0_95 (kd := 2) (n := 48) (m := 48) (lo := 0) (hi := 1) (rs := []) (L := []) rfl (by decide) (j := j.toNat) (by omega)
  have hK_0_102 : ∀ j : Int, 0 ≤ j → j < 76 → 0 ≤ w_ei ws (w_ar ws (n_v vs 0) 102) j ∧ w_ei ws (w_ar ws (n_v vs 0) 102) j ≤ 75 := fun j h0 h1 => th_el hD hth cr_0_102 (kd := 0) (n := 76) (m := 76) (lo := 0) (hi := 75) (rs := []) (L := []) rfl (by decide) (j := j.toNat) (by omega)
  have hK_0_104 : ∀ j : Int, 0 ≤ j → j < 48 → 0 ≤ w_ei ws (w_ar ws (n_v vs 0) 104) j ∧ w_ei ws (w_ar ws (n_v vs 0) 104) j ≤ 76 := fun j h0 h1 => th_el hD hth cr_0_104 (kd := 0) (n := 48) (m := 48) (lo := 0) (hi := 76) (rs := []) (L := []) rfl (by decide) (j := j.toNat) (by omega)
  have hK_0_108 : ∀ j : Int, 0 ≤ j → j < 130 → 0 ≤ w_ei ws (w_ar ws (n_v vs 0) 108) j ∧ w_ei ws (w_ar ws (n_v vs 0) 108) j ≤ 75 := fun j h0 h1 => th_el hD hth cr_0_108 (kd := 0) (n := 130) (m := 130) (lo := 0) (hi := 75) (rs := []) (L := []) rfl (by decide) (j := j.toNat) (by omega)
  have hK_0_109 : ∀ j : Int, 0 ≤ j → j < 130 → 0 ≤ w_ei ws (w_ar ws (n_v vs 0) 109) j ∧ w_ei ws (w_ar ws (n_v vs 0) 109) j ≤ 75 := fun j h0 h1 => th_el hD hth cr_0_109 (kd := 0) (n := 130) (m := 130) (lo := 0) (hi := 75) (rs := []) (L := []) rfl (by decide) (j := j.toNat) (by omega)
  have kz_0_100 : 0 ≤ w_fi ws (n_v vs 0) 100 ∧ w_fi ws (n_v vs 0) 100 ≤ 76 := tv_rng (th_fd hD hth r0 (g := GG_150) rfl (k := 100) (t := (0, 0, 76, [])) rfl rfl)
  have kz_0_107 : 0 ≤ w_fi ws (n_v vs 0) 107 ∧ w_fi ws (n_v vs 0) 107 ≤ 130 := tv_rng (th_fd hD hth r0 (g := GG_150) rfl (k := 107) (t := (0, 0, 130, [])) rfl rfl)
  have nf0 : fc_1 PRD (20, [2, 13], [60, 2, 4, 365, 5, 100, 2, 95, 102, 104]) ws (vs) := by
    refine ⟨fun n hn => ?_, ?_⟩
    · have hn : n ∈ [2, 13] := hn
      rw [hl]
      simp only [List.mem_cons, List.not_mem_nil, or_false] at hn
      show n < 14; omega
    · show LIC (w_fi ws (n_v vs 2) 5) (w_fi ws (n_v vs 2) 100) (w_ei ws (w_ar ws (n_v vs 2) 2)) (w_ei ws (w_ar ws (n_v vs 2) 95)) (w_ei ws (w_ar ws (n_v vs 2) 102)) (w_ei ws (w_ar ws (n_v vs 2) 104)) (v_iv (n_v vs 13))
      rw [q2]
      exact vc_Mo_list_5_0 (v_iv (n_v vs 4)) (v_iv (n_v vs 5)) (v_iv (n_v vs 6)) (v_iv (n_v vs 9)) (v_iv (n_v vs 10)) (v_iv (n_v vs 11)) (v_iv (n_v vs 12)) (v_iv (n_v vs 13)) (w_ei ws (w_ar ws (n_v vs 0) 2)) (w_ei ws (w_ar ws (n_v vs 0) 95)) (w_ei ws (w_ar ws (n_v vs 0) 102)) (w_ei ws (w_ar ws (n_v vs 0) 104)) (w_fi ws (n_v vs 0) 5) (w_fi ws (n_v vs 0) 100) (w_fi ws (n_v vs 0) 107) (w_ei ws (w_ar ws (n_v vs 0) 108)) (w_ei ws (w_ar ws (n_v vs 0) 109)) k4 k5 k6 k9 k10 k11 k12 k13 d0 d1 f0 f1 f2 f3 f4 f5 f6 f7 f8 f10 f11 f13 hK_0_95 hK_0_102 hK_0_104 hK_0_108 hK_0_109 kz_0_100 kz_0_107
  have nf1 : fc_1 PRD (20, [2, 13], [50, 3, 1, 107, 100, 5, 2, 1, 3, 2, 0, 107, 4, 11, 5, 3, 2, 0, 100, 3, 0, 2, 2, 0, 5, 1, 1]) ws (vs) := by
    refine ⟨fun n hn => ?_, ?_⟩
    · have hn : n ∈ [2, 13] := hn
      rw [hl]
      simp only [List.mem_cons, List.not_mem_nil, or_false] at hn
      show n < 14; omega
    · show w_fi ws (n_v vs 2) 107 = ((w_fi ws (n_v vs 2) 100 - w_ei ws (w_ar ws (n_v vs 2) 2) (w_fi ws (n_v vs 2) 5)) + v_iv (n_v vs 13))
      rw [q2]
      exact vc_Mo_list_5_1 (v_iv (n_v vs 4)) (v_iv (n_v vs 5)) (v_iv (n_v vs 6)) (v_iv (n_v vs 9)) (v_iv (n_v vs 10)) (v_iv (n_v vs 11)) (v_iv (n_v vs 12)) (v_iv (n_v vs 13)) (w_ei ws (w_ar ws (n_v vs 0) 2)) (w_ei ws (w_ar ws (n_v vs 0) 95)) (w_ei ws (w_ar ws (n_v vs 0) 102)) (w_ei ws (w_ar ws (n_v vs 0) 104)) (w_fi ws (n_v vs 0) 5) (w_fi ws (n_v vs 0) 100) (w_fi ws (n_v vs 0) 107) (w_ei ws (w_ar ws (n_v vs 0) 108)) (w_ei ws (w_ar ws (n_v vs 0) 109)) k4 k5 k6 k9 k10 k11 k12 k13 d0 d1 f0 f1 f2 f3 f4 f5 f6 f7 f8 f10 f11 f13 hK_0_95 hK_0_102 hK_0_104 hK_0_108 hK_0_109 kz_0_100 kz_0_107
  have nf2 : fc_1 PRD (20, [13, 2], [50, 1, 1, 1005, 1002, 0, 2, 1, 0, 3, 1, 2, 4, 3, 2, 1, 5, 0, 1]) ws (vs) := by
    refine ⟨fun n hn => ?_, ?_⟩
    · have hn : n ∈ [13, 2] := hn
      rw [hl]
      simp only [List.mem_cons, List.not_mem_nil, or_false] at hn
      show n < 14; omega
    · show v_iv (n_v vs 13) ≤ w_ei ws (w_ar ws (n_v vs 2) 2) ((w_fi ws (n_v vs 2) 5 + 1))
      rw [q2]
      exact vc_Mo_list_5_2 (v_iv (n_v vs 4)) (v_iv (n_v vs 5)) (v_iv (n_v vs 6)) (v_iv (n_v vs 9)) (v_iv (n_v vs 10)) (v_iv (n_v vs 11)) (v_iv (n_v vs 12)) (v_iv (n_v vs 13)) (w_ei ws (w_ar ws (n_v vs 0) 2)) (w_ei ws (w_ar ws (n_v vs 0) 95)) (w_ei ws (w_ar ws (n_v vs 0) 102)) (w_ei ws (w_ar ws (n_v vs 0) 104)) (w_fi ws (n_v vs 0) 5) (w_fi ws (n_v vs 0) 100) (w_fi ws (n_v vs 0) 107) (w_ei ws (w_ar ws (n_v vs 0) 108)) (w_ei ws (w_ar ws (n_v vs 0) 109)) k4 k5 k6 k9 k10 k11 k12 k13 d0 d1 f0 f1 f2 f3 f4 f5 f6 f7 f8 f10 f11 f13 hK_0_95 hK_0_102 hK_0_104 hK_0_108 hK_0_109 kz_0_100 kz_0_107
  refine ⟨(fun _ h => (by cases h)), [], trivial, ?_, (fun _ h => (by cases h))⟩
  rw [List.append_nil]
  exact List.forall_mem_cons.mpr ⟨⟨show (20 : Nat) < 100 from by decide, nf0⟩, List.forall_mem_cons.mpr ⟨⟨show (20 : Nat) < 100 from by decide, nf1⟩, List.forall_mem_cons.mpr ⟨⟨show (20 : Nat) < 100 from by decide, nf2⟩, (fun _ h => (by cases h))⟩⟩⟩
set_option maxHeartbeats 4000000 in
theorem vc_Mo_list_6_r0 (x4 : Int) (x5 : Int) (x6 : Int) (x7 : Int) (x9 : Int) (x10 : Int) (items_0 : Int) (itemLayer_0 : Int → Int) (all_0 : Int → Int) (turned_0 : Int → Int) (r_0 : Int) (firstJoint_0 : Int → Int) (lineA_0 : Int → Int) (lineB_0 : Int → Int) (lines_0 : Int) (k4 : 0 ≤ x4 ∧ x4 ≤ 47) (k5 : 0 ≤ x5 ∧ x5 ≤ 74) (k6 : 1 ≤ x6 ∧ x6 ≤ 74) (k7 : 0 ≤ x7 ∧ x7 ≤ 75) (k9 : 0 ≤ x9 ∧ x9 ≤ 23) (k10 : 2 ≤ x10 ∧ x10 ≤ 75) (d0 : x10 + (-4294967296) ≤ x6 ∧ x6 ≤ x10 + (-1)) (d1 : x7 + (-4294967296) ≤ x5 ∧ x5 ≤ x7 + 23) (g0 : x7 = items_0) (f2 : x6 < x10) (h3 : x10 = itemLayer_0 (x9)) (f4 : TOO (r_0) (all_0) (turned_0) (x4) (x9)) (f5 : LID (r_0) (items_0) (all_0) (turned_0) (itemLayer_0) (firstJoint_0) (x4) (x5) (x6)) (f6 : LNP (r_0) (lines_0) (items_0) (all_0) (itemLayer_0) (lineA_0) (lineB_0)) (f7 : (x4 + 1) ≤ all_0 ((r_0 + 1))) (f8 : lines_0 = ((items_0 - all_0 (r_0)) + x4)) (f9 : 0 ≤ all_0 (r_0)) (hK_0_95 : ∀ j : Int, 0 ≤ j → j < 48 → 0 ≤ turned_0 j ∧ turned_0 j ≤ 1) (hK_0_102 : ∀ j : Int, 0 ≤ j → j < 76 → 0 ≤ itemLayer_0 j ∧ itemLayer_0 j ≤ 75) (hK_0_104 : ∀ j : Int, 0 ≤ j → j < 48 → 0 ≤ firstJoint_0 j ∧ firstJoint_0 j ≤ 76) (hK_0_108 : ∀ j : Int, 0 ≤ j → j < 130 → 0 ≤ lineA_0 j ∧ lineA_0 j ≤ 75) (hK_0_109 : ∀ j : Int, 0 ≤ j → j < 130 → 0 ≤ lineB_0 j ∧ lineB_0 j ≤ 75) (kz_0_100 : 0 ≤ items_0 ∧ items_0 ≤ 76) (kz_0_107 : 0 ≤ lines_0 ∧ lines_0 ≤ 130) : 0 ≤ x7 ∧ x7 ≤ 74 := by
  try simp only [Int.add_zero] at *
  first
    | omega
    | (have h := lid_bd ‹LID _ _ _ _ _ _ _ _ _›; omega)
    | (have h := ‹LYJ _ _ _ _›.1.1.1; omega)
    | (have h := (lic_bd ‹LIC _ _ _ _ _ _ _›).1; omega)
    | (have h := (lic_bd ‹LIF _ _ _ _ _ _›).1; omega)
    | (have h := ‹LSA _ _ _ _ _ _ _ _ _ _›.2.1; omega)
    | (have h := lli_bd ‹LLI _ _ _ _ _ _›; have h2 := ‹LSA _ _ _ _ _ _ _ _ _ _›.2.1; omega)
set_option maxHeartbeats 4000000 in
theorem vc_Mo_list_6_r1 (x4 : Int) (x5 : Int) (x6 : Int) (x7 : Int) (x9 : Int) (x10 : Int) (items_0 : Int) (itemLayer_0 : Int → Int) (all_0 : Int → Int) (turned_0 : Int → Int) (r_0 : Int) (firstJoint_0 : Int → Int) (lineA_0 : Int → Int) (lineB_0 : Int → Int) (lines_0 : Int) (k4 : 0 ≤ x4 ∧ x4 ≤ 47) (k5 : 0 ≤ x5 ∧ x5 ≤ 74) (k6 : 1 ≤ x6 ∧ x6 ≤ 74) (k7 : 0 ≤ x7 ∧ x7 ≤ 75) (k9 : 0 ≤ x9 ∧ x9 ≤ 23) (k10 : 2 ≤ x10 ∧ x10 ≤ 75) (d0 : x10 + (-4294967296) ≤ x6 ∧ x6 ≤ x10 + (-1)) (d1 : x7 + (-4294967296) ≤ x5 ∧ x5 ≤ x7 + 23) (g0 : x7 = items_0) (f2 : x6 < x10) (h3 : x10 = itemLayer_0 (x9)) (f4 : TOO (r_0) (all_0) (turned_0) (x4) (x9)) (f5 : LID (r_0) (items_0) (all_0) (turned_0) (itemLayer_0) (firstJoint_0) (x4) (x5) (x6)) (f6 : LNP (r_0) (lines_0) (items_0) (all_0) (itemLayer_0) (lineA_0) (lineB_0)) (f7 : (x4 + 1) ≤ all_0 ((r_0 + 1))) (f8 : lines_0 = ((items_0 - all_0 (r_0)) + x4)) (f9 : 0 ≤ all_0 (r_0)) (hK_0_95 : ∀ j : Int, 0 ≤ j → j < 48 → 0 ≤ turned_0 j ∧ turned_0 j ≤ 1) (hK_0_102 : ∀ j : Int, 0 ≤ j → j < 76 → 0 ≤ itemLayer_0 j ∧ itemLayer_0 j ≤ 75) (hK_0_104 : ∀ j : Int, 0 ≤ j → j < 48 → 0 ≤ firstJoint_0 j ∧ firstJoint_0 j ≤ 76) (hK_0_108 : ∀ j : Int, 0 ≤ j → j < 130 → 0 ≤ lineA_0 j ∧ lineA_0 j ≤ 75) (hK_0_109 : ∀ j : Int, 0 ≤ j → j < 130 → 0 ≤ lineB_0 j ∧ lineB_0 j ≤ 75) (kz_0_100 : 0 ≤ items_0 ∧ items_0 ≤ 76) (kz_0_107 : 0 ≤ lines_0 ∧ lines_0 ≤ 130) : 1 ≤ x6 ∧ x6 ≤ 23 := by
  try simp only [Int.add_zero] at *
  first
    | omega
    | (have h := lid_bd ‹LID _ _ _ _ _ _ _ _ _›; omega)
    | (have h := ‹LYJ _ _ _ _›.1.1.1; omega)
    | (have h := (lic_bd ‹LIC _ _ _ _ _ _ _›).1; omega)
    | (have h := (lic_bd ‹LIF _ _ _ _ _ _›).1; omega)
    | (have h := ‹LSA _ _ _ _ _ _ _ _ _ _›.2.1; omega)
    | (have h := lli_bd ‹LLI _ _ _ _ _ _›; have h2 := ‹LSA _ _ _ _ _ _ _ _ _ _›.2.1; omega)
def o_Mo_list_6 : or_T := (75, 11, [(0, (2, 0, 0, [150])), (2, (2, 0, 0, [150])), (4, (0, 0, 47, [])), (5, (0, 0, 74, [])), (6, (0, 1, 74, [])), (7, (0, 0, 75, [])), (8, (2, 0, 0, [220])), (9, (0, 0, 23, [])), (10, (0, 2, 75, []))], [(9, [7, 2], [100]), (9, [8, 2], [102]), (7, [6, 10], [2]), (10, [10, 8, 9], []), (20, [2, 4, 9], [60, 1, 2, 357, 5, 2, 95]), (20, [2, 4, 5, 6], [60, 2, 4, 366, 5, 100, 2, 95, 102, 104]), (20, [2], [60, 3, 4, 363, 5, 107, 100, 2, 102, 108, 109]), (20, [4, 2], [50, 1, 1, 1005, 1002, 0, 6, 4, 2, 1, 0, 0, 1, 3, 1, 2, 4, 3, 2, 1, 5, 0, 1]), (20, [2, 4], [50, 3, 1, 107, 100, 5, 2, 1, 3, 2, 0, 107, 4, 11, 5, 3, 2, 0, 100, 3, 0, 2, 2, 0, 5, 1, 1]), (20, [2], [50, 1, 1, 5, 2, 0, 2, 0, 0, 3, 0, 2, 2, 0, 5]), (24, [0, 2], [])], [(7, (0, 0, 74, [])), (6, (0, 1, 23, []))], [], [], [], [(6, 10, -4294967296, -1), (5, 7, -4294967296, 23)])
theorem oo_Mo_list_6 {kA : Nat → ClassId} : or_ok PRD kA GG o_Mo_list_6 := by
  intro A ta ws vs hD hth hl hk hds hf
  have hl : vs.length = 11 := hl
  have hk : ∀ q ∈ ([(0, (2, 0, 0, [150])), (2, (2, 0, 0, [150])), (4, (0, 0, 47, [])), (5, (0, 0, 74, [])), (6, (0, 1, 74, [])), (7, (0, 0, 75, [])), (8, (2, 0, 0, [220])), (9, (0, 0, 23, [])), (10, (0, 2, 75, []))] : List (Nat × tv_T)), tv_ok ta q.2 (n_v vs q.1) := hk
  obtain ⟨t0, hk⟩ := List.forall_mem_cons.mp hk
  have t0 : tv_ok ta (2, 0, 0, [150]) (n_v vs 0) := t0
  have r0 : ta (v_ad (n_v vs 0)) = some 150 := tv_rg t0
  obtain ⟨t2, hk⟩ := List.forall_mem_cons.mp hk
  have t2 : tv_ok ta (2, 0, 0, [150]) (n_v vs 2) := t2
  have r2 : ta (v_ad (n_v vs 2)) = some 150 := tv_rg t2
  obtain ⟨t4, hk⟩ := List.forall_mem_cons.mp hk
  have t4 : tv_ok ta (0, 0, 47, []) (n_v vs 4) := t4
  have k4 : 0 ≤ v_iv (n_v vs 4) ∧ v_iv (n_v vs 4) ≤ 47 := tv_rng t4
  obtain ⟨t5, hk⟩ := List.forall_mem_cons.mp hk
  have t5 : tv_ok ta (0, 0, 74, []) (n_v vs 5) := t5
  have k5 : 0 ≤ v_iv (n_v vs 5) ∧ v_iv (n_v vs 5) ≤ 74 := tv_rng t5
  obtain ⟨t6, hk⟩ := List.forall_mem_cons.mp hk
  have t6 : tv_ok ta (0, 1, 74, []) (n_v vs 6) := t6
  have k6 : 1 ≤ v_iv (n_v vs 6) ∧ v_iv (n_v vs 6) ≤ 74 := tv_rng t6
  obtain ⟨t7, hk⟩ := List.forall_mem_cons.mp hk
  have t7 : tv_ok ta (0, 0, 75, []) (n_v vs 7) := t7
  have k7 : 0 ≤ v_iv (n_v vs 7) ∧ v_iv (n_v vs 7) ≤ 75 := tv_rng t7
  obtain ⟨t8, hk⟩ := List.forall_mem_cons.mp hk
  have t8 : tv_ok ta (2, 0, 0, [220]) (n_v vs 8) := t8
  have r8 : ta (v_ad (n_v vs 8)) = some 220 := tv_rg t8
  obtain ⟨t9, hk⟩ := List.forall_mem_cons.mp hk
  have t9 : tv_ok ta (0, 0, 23, []) (n_v vs 9) := t9
  have k9 : 0 ≤ v_iv (n_v vs 9) ∧ v_iv (n_v vs 9) ≤ 23 := tv_rng t9
  obtain ⟨t10, hk⟩ := List.forall_mem_cons.mp hk
  have t10 : tv_ok ta (0, 2, 75, []) (n_v vs 10) := t10
  have k10 : 2 ≤ v_iv (n_v vs 10) ∧ v_iv (n_v vs 10) ≤ 75 := tv_rng t10
  have hds : ∀ q ∈ ([(6, 10, -4294967296, -1), (5, 7, -4294967296, 23)] : List of_T), n_iv vs q.2.1 + q.2.2.1 ≤ n_iv vs q.1 ∧ n_iv vs q.1 ≤ n_iv vs q.2.1 + q.2.2.2 := hds
  obtain ⟨d0, hds⟩ := List.forall_mem_cons.mp hds
  have d0 : v_iv (n_v vs 10) + (-4294967296) ≤ v_iv (n_v vs 6) ∧ v_iv (n_v vs 6) ≤ v_iv (n_v vs 10) + (-1) := d0
  obtain ⟨d1, hds⟩ := List.forall_mem_cons.mp hds
  have d1 : v_iv (n_v vs 7) + (-4294967296) ≤ v_iv (n_v vs 5) ∧ v_iv (n_v vs 5) ≤ v_iv (n_v vs 7) + 23 := d1
  have hf : fc_ok PRD [(9, [7, 2], [100]), (9, [8, 2], [102]), (7, [6, 10], [2]), (10, [10, 8, 9], []), (20, [2, 4, 9], [60, 1, 2, 357, 5, 2, 95]), (20, [2, 4, 5, 6], [60, 2, 4, 366, 5, 100, 2, 95, 102, 104]), (20, [2], [60, 3, 4, 363, 5, 107, 100, 2, 102, 108, 109]), (20, [4, 2], [50, 1, 1, 1005, 1002, 0, 6, 4, 2, 1, 0, 0, 1, 3, 1, 2, 4, 3, 2, 1, 5, 0, 1]), (20, [2, 4], [50, 3, 1, 107, 100, 5, 2, 1, 3, 2, 0, 107, 4, 11, 5, 3, 2, 0, 100, 3, 0, 2, 2, 0, 5, 1, 1]), (20, [2], [50, 1, 1, 5, 2, 0, 2, 0, 0, 3, 0, 2, 2, 0, 5]), (24, [0, 2], [])] ta ws vs := hf
  obtain ⟨f0, hf⟩ := fc_un (show (9 : Nat) < 100 from by decide) hf
  have f0 : n_v vs 7 = w_fd ws (v_ad (n_v vs 2)) 100 := f0
  obtain ⟨f1, hf⟩ := fc_un (show (9 : Nat) < 100 from by decide) hf
  have f1 : n_v vs 8 = w_fd ws (v_ad (n_v vs 2)) 102 := f1
  obtain ⟨f2, hf⟩ := fc_un (show (7 : Nat) < 100 from by decide) hf
  have f2 : v_iv (n_v vs 6) < v_iv (n_v vs 10) := f2
  obtain ⟨f3, hf⟩ := fc_un (show (10 : Nat) < 100 from by decide) hf
  have f3 : v_iv (n_v vs 10) = w_el ws (v_ad (n_v vs 8)) (v_iv (n_v vs 9)).toNat := f3
  obtain ⟨f4, hf⟩ := fc_un (show (20 : Nat) < 100 from by decide) hf
  have f4 : TOO (w_fi ws (n_v vs 2) 5) (w_ei ws (w_ar ws (n_v vs 2) 2)) (w_ei ws (w_ar ws (n_v vs 2) 95)) (v_iv (n_v vs 4)) (v_iv (n_v vs 9)) := f4
  obtain ⟨f5, hf⟩ := fc_un (show (20 : Nat) < 100 from by decide) hf
  have f5 : LID (w_fi ws (n_v vs 2) 5) (w_fi ws (n_v vs 2) 100) (w_ei ws (w_ar ws (n_v vs 2) 2)) (w_ei ws (w_ar ws (n_v vs 2) 95)) (w_ei ws (w_ar ws (n_v vs 2) 102)) (w_ei ws (w_ar ws (n_v vs 2) 104)) (v_iv (n_v vs 4)) (v_iv (n_v vs 5)) (v_iv (n_v vs 6)) := f5
  obtain ⟨f6, hf⟩ := fc_un (show (20 : Nat) < 100 from by decide) hf
  have f6 : LNP (w_fi ws (n_v vs 2) 5) (w_fi ws (n_v vs 2) 107) (w_fi ws (n_v vs 2) 100) (w_ei ws (w_ar ws (n_v vs 2) 2)) (w_ei ws (w_ar ws (n_v vs 2) 102)) (w_ei ws (w_ar ws (n_v vs 2) 108)) (w_ei ws (w_ar ws (n_v vs 2) 109)) := f6
  obtain ⟨f7, hf⟩ := fc_un (show (20 : Nat) < 100 from by decide) hf
  have f7 : (v_iv (n_v vs 4) + 1) ≤ w_ei ws (w_ar ws (n_v vs 2) 2) ((w_fi ws (n_v vs 2) 5 + 1)) := f7
  obtain ⟨f8, hf⟩ := fc_un (show (20 : Nat) < 100 from by decide) hf
  have f8 : w_fi ws (n_v vs 2) 107 = ((w_fi ws (n_v vs 2) 100 - w_ei ws (w_ar ws (n_v vs 2) 2) (w_fi ws (n_v vs 2) 5)) + v_iv (n_v vs 4)) := f8
  obtain ⟨f9, hf⟩ := fc_un (show (20 : Nat) < 100 from by decide) hf
  have f9 : 0 ≤ w_ei ws (w_ar ws (n_v vs 2) 2) (w_fi ws (n_v vs 2) 5) := f9
  obtain ⟨f10, hf⟩ := fc_un (show (24 : Nat) < 100 from by decide) hf
  have f10 : n_v vs 0 = n_v vs 2 := f10
  have q2 : n_v vs 2 = n_v vs 0 := f10.symm
  rw [q2] at f0
  rw [q2] at f1
  rw [q2] at f4
  rw [q2] at f5
  rw [q2] at f6
  rw [q2] at f7
  rw [q2] at f8
  rw [q2] at f9
  have cr_0_2 : ta (w_ar ws (n_v vs 0) 2) = some 152 := tv_rg (th_fd hD hth r0 (g := GG_150) rfl (k := 2) (t := (2, 0, 0, [152])) rfl rfl)
  have cr_0_95 : ta (w_ar ws (n_v vs 0) 95) = some 216 := tv_rg (th_fd hD hth r0 (g := GG_150) rfl (k := 95) (t := (2, 0, 0, [216])) rfl rfl)
  have cr_0_102 : ta (w_ar ws (n_v vs 0) 102) = some 220 := tv_rg (th_fd hD hth r0 (g := GG_150) rfl (k := 102) (t := (2, 0, 0, [220])) rfl rfl)
  have cr_0_104 : ta (w_ar ws (n_v vs 0) 104) = some 222 := tv_rg (th_fd hD hth r0 (g := GG_150) rfl (k := 104) (t := (2, 0, 0, [222])) rfl rfl)
  have cr_0_108 : ta (w_ar ws (n_v vs 0) 108) = some 225 := tv_rg (th_fd hD hth r0 (g := GG_150) rfl (k := 108) (t := (2, 0, 0, [225])) rfl rfl)
  have cr_0_109 : ta (w_ar ws (n_v vs 0) 109) = some 226 := tv_rg (th_fd hD hth r0 (g := GG_150) rfl (k := 109) (t := (2, 0, 0, [226])) rfl rfl)
  have ad_8 : v_ad (n_v vs 8) = w_ar ws (n_v vs 0) 102 := congrArg v_ad f1
  have g0 : v_iv (n_v vs 7) = w_fi ws (n_v vs 0) 100 := congrArg v_iv f0
  rw [ad_8] at f3
  have h3 : v_iv (n_v vs 10) = w_ei ws (w_ar ws (n_v vs 0) 102) (v_iv (n_v vs 9)) := f3
  have hK_0_95 : ∀ j : Int, 0 ≤ j → j < 48 → 0 ≤ w_ei ws (w_ar ws (n_v vs 0) 95) j ∧ w_ei ws (w_ar ws (n_v vs 0) 95) j ≤ 1 := fun j h0 h1 => th_el hD hth cr_0_95 (kd := 2) (n := 48) (m := 48) (lo := 0) (hi := 1) (rs := []) (L := []) rfl (by decide) (j := j.toNat) (by omega)
  have hK_0_102 : ∀ j : Int, 0 ≤ j → j < 76 → 0 ≤ w_ei ws (w_ar ws (n_v vs 0) 102) j ∧ w_ei ws (w_ar ws (n_v vs 0) 102) j ≤ 75 := fun j h0 h1 => th_el hD hth cr_0_102 (kd := 0) (n := 76) (m := 76) (lo := 0) (hi := 75) (rs := []) (L := []) rfl (by decide) (j := j.toNat) (by omega)
  have hK_0_104 : ∀ j : Int, 0 ≤ j → j < 48 → 0 ≤ w_ei ws (w_ar ws (n_v vs 0) 104) j ∧ w_ei ws (w_ar ws (n_v vs 0) 104) j ≤ 76 := fun j h0 h1 => th_el hD hth cr_0_104 (kd := 0) (n := 48) (m := 48) (lo := 0) (hi := 76) (rs := []) (L := []) rfl (by decide) (j := j.toNat) (by omega)
  have hK_0_108 : ∀ j : Int, 0 ≤ j → j < 130 → 0 ≤ w_ei ws (w_ar ws (n_v vs 0) 108) j ∧ w_ei ws (w_ar ws (n_v vs 0) 108) j ≤ 75 := fun j h0 h1 => th_el hD hth cr_0_108 (kd := 0) (n := 130) (m := 130) (lo := 0) (hi := 75) (rs := []) (L := []) rfl (by decide) (j := j.toNat) (by omega)
  have hK_0_109 : ∀ j : Int, 0 ≤ j → j < 130 → 0 ≤ w_ei ws (w_ar ws (n_v vs 0) 109) j ∧ w_ei ws (w_ar ws (n_v vs 0) 109) j ≤ 75 := fun j h0 h1 => th_el hD hth cr_0_109 (kd := 0) (n := 130) (m := 130) (lo := 0) (hi := 75) (rs := []) (L := []) rfl (by decide) (j := j.toNat) (by omega)
  have kz_0_100 : 0 ≤ w_fi ws (n_v vs 0) 100 ∧ w_fi ws (n_v vs 0) 100 ≤ 76 := tv_rng (th_fd hD hth r0 (g := GG_150) rfl (k := 100) (t := (0, 0, 76, [])) rfl rfl)
  have kz_0_107 : 0 ≤ w_fi ws (n_v vs 0) 107 ∧ w_fi ws (n_v vs 0) 107 ≤ 130 := tv_rng (th_fd hD hth r0 (g := GG_150) rfl (k := 107) (t := (0, 0, 130, [])) rfl rfl)
  have hrf0 : 0 ≤ v_iv (n_v vs 7) ∧ v_iv (n_v vs 7) ≤ 74 := vc_Mo_list_6_r0 (v_iv (n_v vs 4)) (v_iv (n_v vs 5)) (v_iv (n_v vs 6)) (v_iv (n_v vs 7)) (v_iv (n_v vs 9)) (v_iv (n_v vs 10)) (w_fi ws (n_v vs 0) 100) (w_ei ws (w_ar ws (n_v vs 0) 102)) (w_ei ws (w_ar ws (n_v vs 0) 2)) (w_ei ws (w_ar ws (n_v vs 0) 95)) (w_fi ws (n_v vs 0) 5) (w_ei ws (w_ar ws (n_v vs 0) 104)) (w_ei ws (w_ar ws (n_v vs 0) 108)) (w_ei ws (w_ar ws (n_v vs 0) 109)) (w_fi ws (n_v vs 0) 107) k4 k5 k6 k7 k9 k10 d0 d1 g0 f2 h3 f4 f5 f6 f7 f8 f9 hK_0_95 hK_0_102 hK_0_104 hK_0_108 hK_0_109 kz_0_100 kz_0_107
  have hrf1 : 1 ≤ v_iv (n_v vs 6) ∧ v_iv (n_v vs 6) ≤ 23 := vc_Mo_list_6_r1 (v_iv (n_v vs 4)) (v_iv (n_v vs 5)) (v_iv (n_v vs 6)) (v_iv (n_v vs 7)) (v_iv (n_v vs 9)) (v_iv (n_v vs 10)) (w_fi ws (n_v vs 0) 100) (w_ei ws (w_ar ws (n_v vs 0) 102)) (w_ei ws (w_ar ws (n_v vs 0) 2)) (w_ei ws (w_ar ws (n_v vs 0) 95)) (w_fi ws (n_v vs 0) 5) (w_ei ws (w_ar ws (n_v vs 0) 104)) (w_ei ws (w_ar ws (n_v vs 0) 108)) (w_ei ws (w_ar ws (n_v vs 0) 109)) (w_fi ws (n_v vs 0) 107) k4 k5 k6 k7 k9 k10 d0 d1 g0 f2 h3 f4 f5 f6 f7 f8 f9 hK_0_95 hK_0_102 hK_0_104 hK_0_108 hK_0_109 kz_0_100 kz_0_107
  have rf7 : tv_ok ta (0, 0, 74, []) (n_v vs 7) := tv_in t7 (by first | omega | grind) (by first | omega | grind)
  have rf6 : tv_ok ta (0, 1, 23, []) (n_v vs 6) := tv_in t6 (by first | omega | grind) (by first | omega | grind)
  refine ⟨List.forall_mem_cons.mpr ⟨rf7, List.forall_mem_cons.mpr ⟨rf6, (fun _ h => (by cases h))⟩⟩, [], trivial, ?_, (fun _ h => (by cases h))⟩
  rw [List.append_nil]
  exact (fun _ h => (by cases h))
set_option maxHeartbeats 4000000 in
theorem vc_Mo_list_7_0 (x4 : Int) (x5 : Int) (x6 : Int) (x7 : Int) (x9 : Int) (x10 : Int) (items_0 : Int) (all_0 : Int → Int) (turned_0 : Int → Int) (r_0 : Int) (lines_0 : Int) (all_1 : Int → Int) (turned_1 : Int → Int) (r_1 : Int) (lines_1 : Int) (items_1 : Int) (itemLayer_2 : Int → Int) (all_2 : Int → Int) (turned_2 : Int → Int) (r_2 : Int) (firstJoint_2 : Int → Int) (items_2 : Int) (lineA_2 : Int → Int) (lineB_2 : Int → Int) (lines_2 : Int) (itemLayer_0 : Int → Int) (itemLayer_1 : Int → Int) (itemEdge_0 : Int → Int) (itemEdge_1 : Int → Int) (itemEdge_2 : Int → Int) (firstJoint_0 : Int → Int) (firstJoint_1 : Int → Int) (lineA_0 : Int → Int) (lineA_1 : Int → Int) (lineB_0 : Int → Int) (lineB_1 : Int → Int) (gx : Int) (k4 : 0 ≤ x4 ∧ x4 ≤ 47) (k5 : 0 ≤ x5 ∧ x5 ≤ 74) (k6 : 1 ≤ x6 ∧ x6 ≤ 23) (k7 : 0 ≤ x7 ∧ x7 ≤ 74) (k9 : 0 ≤ x9 ∧ x9 ≤ 23) (k10 : 2 ≤ x10 ∧ x10 ≤ 75) (d0 : x10 + (-4294967296) ≤ x6 ∧ x6 ≤ x10 + (-1)) (d1 : x7 + (-4294967296) ≤ x5 ∧ x5 ≤ x7 + 23) (g0 : x7 = items_0) (f1 : TOO (r_0) (all_0) (turned_0) (x4) (x9)) (f2 : (x4 + 1) ≤ all_0 ((r_0 + 1))) (f3 : lines_0 = ((items_0 - all_0 (r_0)) + x4)) (f4 : 0 ≤ all_0 (r_0)) (f8 : TOO (r_1) (all_1) (turned_1) (x4) (x9)) (f9 : (x4 + 1) ≤ all_1 ((r_1 + 1))) (f10 : lines_1 = ((items_1 - all_1 (r_1)) + x4)) (f11 : 0 ≤ all_1 (r_1)) (f14 : x6 < x10) (h15 : x10 = itemLayer_2 (x9)) (f16 : TOO (r_2) (all_2) (turned_2) (x4) (x9)) (f17 : LID (r_2) (items_2) (all_2) (turned_2) (itemLayer_2) (firstJoint_2) (x4) (x5) (x6)) (f18 : LNP (r_2) (lines_2) (items_2) (all_2) (itemLayer_2) (lineA_2) (lineB_2)) (f19 : (x4 + 1) ≤ all_2 ((r_2 + 1))) (f20 : lines_2 = ((items_2 - all_2 (r_2)) + x4)) (f21 : 0 ≤ all_2 (r_2)) (fe_0_5_1 : r_0 = r_1) (fe_0_100_1 : items_0 = items_1) (fe_0_107_1 : lines_0 = lines_1) (fe_0_5_2 : r_1 = r_2) (fe_0_100_2 : items_1 = items_2) (fe_0_107_2 : lines_1 = lines_2) (hE_0_2_1 : ∀ j : Int, all_0 j = all_1 j) (hE_0_2_2 : ∀ j : Int, all_1 j = all_2 j) (hE_0_95_1 : ∀ j : Int, turned_0 j = turned_1 j) (hE_0_95_2 : ∀ j : Int, turned_1 j = turned_2 j) (hK_0_95 : ∀ j : Int, 0 ≤ j → j < 48 → 0 ≤ turned_0 j ∧ turned_0 j ≤ 1) (hE_0_102_1 : ∀ j : Int, itemLayer_0 j = itemLayer_1 j) (hE_0_102_2 : ∀ j : Int, 0 ≤ j → (j = x7 → itemLayer_1 j = x6) ∧ (j ≠ x7 → itemLayer_1 j = itemLayer_2 j)) (hK_0_102 : ∀ j : Int, 0 ≤ j → j < 76 → 0 ≤ itemLayer_0 j ∧ itemLayer_0 j ≤ 75) (hE_0_103_1 : ∀ j : Int, 0 ≤ j → (j = x7 → itemEdge_0 j = x4) ∧ (j ≠ x7 → itemEdge_0 j = itemEdge_1 j)) (hE_0_103_2 : ∀ j : Int, itemEdge_1 j = itemEdge_2 j) (hK_0_103 : ∀ j : Int, 0 ≤ j → j < 76 → 0 ≤ itemEdge_0 j ∧ itemEdge_0 j ≤ 47) (hE_0_104_1 : ∀ j : Int, firstJoint_0 j = firstJoint_1 j) (hE_0_104_2 : ∀ j : Int, firstJoint_1 j = firstJoint_2 j) (hK_0_104 : ∀ j : Int, 0 ≤ j → j < 48 → 0 ≤ firstJoint_0 j ∧ firstJoint_0 j ≤ 76) (hE_0_108_1 : ∀ j : Int, lineA_0 j = lineA_1 j) (hE_0_108_2 : ∀ j : Int, lineA_1 j = lineA_2 j) (hK_0_108 : ∀ j : Int, 0 ≤ j → j < 130 → 0 ≤ lineA_0 j ∧ lineA_0 j ≤ 75) (hE_0_109_1 : ∀ j : Int, lineB_0 j = lineB_1 j) (hE_0_109_2 : ∀ j : Int, lineB_1 j = lineB_2 j) (hK_0_109 : ∀ j : Int, 0 ≤ j → j < 130 → 0 ≤ lineB_0 j ∧ lineB_0 j ≤ 75) (kz_0_100 : 0 ≤ items_0 ∧ items_0 ≤ 76) (kz_0_107 : 0 ≤ lines_0 ∧ lines_0 ≤ 130) (ex2 : gx = lines_0) (ex3 : 0 ≤ gx ∧ gx ≤ 129) : LIE (r_0) (items_0) (all_0) (turned_0) (itemLayer_0) (firstJoint_0) (x4) (x5) (x6) := by
  subst fe_0_5_1
  subst fe_0_100_1
  subst fe_0_107_1
  subst fe_0_5_2
  subst fe_0_100_2
  subst fe_0_107_2
  have e_hE_0_2_1 := funext hE_0_2_1; subst e_hE_0_2_1
  have e_hE_0_2_2 := funext hE_0_2_2; subst e_hE_0_2_2
  have e_hE_0_95_1 := funext hE_0_95_1; subst e_hE_0_95_1
  have e_hE_0_95_2 := funext hE_0_95_2; subst e_hE_0_95_2
  have e_hE_0_102_1 := funext hE_0_102_1; subst e_hE_0_102_1
  have e_hE_0_103_2 := funext hE_0_103_2; subst e_hE_0_103_2
  have e_hE_0_104_1 := funext hE_0_104_1; subst e_hE_0_104_1
  have e_hE_0_104_2 := funext hE_0_104_2; subst e_hE_0_104_2
  have e_hE_0_108_1 := funext hE_0_108_1; subst e_hE_0_108_1
  have e_hE_0_108_2 := funext hE_0_108_2; subst e_hE_0_108_2
  have e_hE_0_109_1 := funext hE_0_109_1; subst e_hE_0_109_1
  have e_hE_0_109_2 := funext hE_0_109_2; subst e_hE_0_109_2
  (have h9 : TOO r_0 all_0 turned_0 x4 x9 := by assumption
   unfold TOO at h9
   refine ⟨_, ‹LID _ _ _ _ _ _ _ _ _›, by rw [← h9]; omega, ?_⟩
   rw [show items_0 = x7 by omega]; assumption)
set_option maxHeartbeats 4000000 in
theorem vc_Mo_list_7_1 (x4 : Int) (x5 : Int) (x6 : Int) (x7 : Int) (x9 : Int) (x10 : Int) (items_0 : Int) (all_0 : Int → Int) (turned_0 : Int → Int) (r_0 : Int) (lines_0 : Int) (all_1 : Int → Int) (turned_1 : Int → Int) (r_1 : Int) (lines_1 : Int) (items_1 : Int) (itemLayer_2 : Int → Int) (all_2 : Int → Int) (turned_2 : Int → Int) (r_2 : Int) (firstJoint_2 : Int → Int) (items_2 : Int) (lineA_2 : Int → Int) (lineB_2 : Int → Int) (lines_2 : Int) (itemLayer_0 : Int → Int) (itemLayer_1 : Int → Int) (itemEdge_0 : Int → Int) (itemEdge_1 : Int → Int) (itemEdge_2 : Int → Int) (firstJoint_0 : Int → Int) (firstJoint_1 : Int → Int) (lineA_0 : Int → Int) (lineA_1 : Int → Int) (lineB_0 : Int → Int) (lineB_1 : Int → Int) (gx : Int) (k4 : 0 ≤ x4 ∧ x4 ≤ 47) (k5 : 0 ≤ x5 ∧ x5 ≤ 74) (k6 : 1 ≤ x6 ∧ x6 ≤ 23) (k7 : 0 ≤ x7 ∧ x7 ≤ 74) (k9 : 0 ≤ x9 ∧ x9 ≤ 23) (k10 : 2 ≤ x10 ∧ x10 ≤ 75) (d0 : x10 + (-4294967296) ≤ x6 ∧ x6 ≤ x10 + (-1)) (d1 : x7 + (-4294967296) ≤ x5 ∧ x5 ≤ x7 + 23) (g0 : x7 = items_0) (f1 : TOO (r_0) (all_0) (turned_0) (x4) (x9)) (f2 : (x4 + 1) ≤ all_0 ((r_0 + 1))) (f3 : lines_0 = ((items_0 - all_0 (r_0)) + x4)) (f4 : 0 ≤ all_0 (r_0)) (f8 : TOO (r_1) (all_1) (turned_1) (x4) (x9)) (f9 : (x4 + 1) ≤ all_1 ((r_1 + 1))) (f10 : lines_1 = ((items_1 - all_1 (r_1)) + x4)) (f11 : 0 ≤ all_1 (r_1)) (f14 : x6 < x10) (h15 : x10 = itemLayer_2 (x9)) (f16 : TOO (r_2) (all_2) (turned_2) (x4) (x9)) (f17 : LID (r_2) (items_2) (all_2) (turned_2) (itemLayer_2) (firstJoint_2) (x4) (x5) (x6)) (f18 : LNP (r_2) (lines_2) (items_2) (all_2) (itemLayer_2) (lineA_2) (lineB_2)) (f19 : (x4 + 1) ≤ all_2 ((r_2 + 1))) (f20 : lines_2 = ((items_2 - all_2 (r_2)) + x4)) (f21 : 0 ≤ all_2 (r_2)) (fe_0_5_1 : r_0 = r_1) (fe_0_100_1 : items_0 = items_1) (fe_0_107_1 : lines_0 = lines_1) (fe_0_5_2 : r_1 = r_2) (fe_0_100_2 : items_1 = items_2) (fe_0_107_2 : lines_1 = lines_2) (hE_0_2_1 : ∀ j : Int, all_0 j = all_1 j) (hE_0_2_2 : ∀ j : Int, all_1 j = all_2 j) (hE_0_95_1 : ∀ j : Int, turned_0 j = turned_1 j) (hE_0_95_2 : ∀ j : Int, turned_1 j = turned_2 j) (hK_0_95 : ∀ j : Int, 0 ≤ j → j < 48 → 0 ≤ turned_0 j ∧ turned_0 j ≤ 1) (hE_0_102_1 : ∀ j : Int, itemLayer_0 j = itemLayer_1 j) (hE_0_102_2 : ∀ j : Int, 0 ≤ j → (j = x7 → itemLayer_1 j = x6) ∧ (j ≠ x7 → itemLayer_1 j = itemLayer_2 j)) (hK_0_102 : ∀ j : Int, 0 ≤ j → j < 76 → 0 ≤ itemLayer_0 j ∧ itemLayer_0 j ≤ 75) (hE_0_103_1 : ∀ j : Int, 0 ≤ j → (j = x7 → itemEdge_0 j = x4) ∧ (j ≠ x7 → itemEdge_0 j = itemEdge_1 j)) (hE_0_103_2 : ∀ j : Int, itemEdge_1 j = itemEdge_2 j) (hK_0_103 : ∀ j : Int, 0 ≤ j → j < 76 → 0 ≤ itemEdge_0 j ∧ itemEdge_0 j ≤ 47) (hE_0_104_1 : ∀ j : Int, firstJoint_0 j = firstJoint_1 j) (hE_0_104_2 : ∀ j : Int, firstJoint_1 j = firstJoint_2 j) (hK_0_104 : ∀ j : Int, 0 ≤ j → j < 48 → 0 ≤ firstJoint_0 j ∧ firstJoint_0 j ≤ 76) (hE_0_108_1 : ∀ j : Int, lineA_0 j = lineA_1 j) (hE_0_108_2 : ∀ j : Int, lineA_1 j = lineA_2 j) (hK_0_108 : ∀ j : Int, 0 ≤ j → j < 130 → 0 ≤ lineA_0 j ∧ lineA_0 j ≤ 75) (hE_0_109_1 : ∀ j : Int, lineB_0 j = lineB_1 j) (hE_0_109_2 : ∀ j : Int, lineB_1 j = lineB_2 j) (hK_0_109 : ∀ j : Int, 0 ≤ j → j < 130 → 0 ≤ lineB_0 j ∧ lineB_0 j ≤ 75) (kz_0_100 : 0 ≤ items_0 ∧ items_0 ≤ 76) (kz_0_107 : 0 ≤ lines_0 ∧ lines_0 ≤ 130) (ex2 : gx = lines_0) (ex3 : 0 ≤ gx ∧ gx ≤ 129) : lines_0 = gx := by
  subst fe_0_5_1
  subst fe_0_100_1
  subst fe_0_107_1
  subst fe_0_5_2
  subst fe_0_100_2
  subst fe_0_107_2
  have e_hE_0_2_1 := funext hE_0_2_1; subst e_hE_0_2_1
  have e_hE_0_2_2 := funext hE_0_2_2; subst e_hE_0_2_2
  have e_hE_0_95_1 := funext hE_0_95_1; subst e_hE_0_95_1
  have e_hE_0_95_2 := funext hE_0_95_2; subst e_hE_0_95_2
  have e_hE_0_102_1 := funext hE_0_102_1; subst e_hE_0_102_1
  have e_hE_0_103_2 := funext hE_0_103_2; subst e_hE_0_103_2
  have e_hE_0_104_1 := funext hE_0_104_1; subst e_hE_0_104_1
  have e_hE_0_104_2 := funext hE_0_104_2; subst e_hE_0_104_2
  have e_hE_0_108_1 := funext hE_0_108_1; subst e_hE_0_108_1
  have e_hE_0_108_2 := funext hE_0_108_2; subst e_hE_0_108_2
  have e_hE_0_109_1 := funext hE_0_109_1; subst e_hE_0_109_1
  have e_hE_0_109_2 := funext hE_0_109_2; subst e_hE_0_109_2
  try simp only [Int.add_zero] at *
  first
    | omega
    | (have h := lid_bd ‹LID _ _ _ _ _ _ _ _ _›; omega)
    | (have h := ‹LYJ _ _ _ _›.1.1.1; omega)
    | (have h := (lic_bd ‹LIC _ _ _ _ _ _ _›).1; omega)
    | (have h := (lic_bd ‹LIF _ _ _ _ _ _›).1; omega)
    | (have h := ‹LSA _ _ _ _ _ _ _ _ _ _›.2.1; omega)
    | (have h := lli_bd ‹LLI _ _ _ _ _ _›; have h2 := ‹LSA _ _ _ _ _ _ _ _ _ _›.2.1; omega)
set_option maxHeartbeats 4000000 in
theorem vc_Mo_list_7_2 (x4 : Int) (x5 : Int) (x6 : Int) (x7 : Int) (x9 : Int) (x10 : Int) (items_0 : Int) (all_0 : Int → Int) (turned_0 : Int → Int) (r_0 : Int) (lines_0 : Int) (all_1 : Int → Int) (turned_1 : Int → Int) (r_1 : Int) (lines_1 : Int) (items_1 : Int) (itemLayer_2 : Int → Int) (all_2 : Int → Int) (turned_2 : Int → Int) (r_2 : Int) (firstJoint_2 : Int → Int) (items_2 : Int) (lineA_2 : Int → Int) (lineB_2 : Int → Int) (lines_2 : Int) (itemLayer_0 : Int → Int) (itemLayer_1 : Int → Int) (itemEdge_0 : Int → Int) (itemEdge_1 : Int → Int) (itemEdge_2 : Int → Int) (firstJoint_0 : Int → Int) (firstJoint_1 : Int → Int) (lineA_0 : Int → Int) (lineA_1 : Int → Int) (lineB_0 : Int → Int) (lineB_1 : Int → Int) (gx : Int) (k4 : 0 ≤ x4 ∧ x4 ≤ 47) (k5 : 0 ≤ x5 ∧ x5 ≤ 74) (k6 : 1 ≤ x6 ∧ x6 ≤ 23) (k7 : 0 ≤ x7 ∧ x7 ≤ 74) (k9 : 0 ≤ x9 ∧ x9 ≤ 23) (k10 : 2 ≤ x10 ∧ x10 ≤ 75) (d0 : x10 + (-4294967296) ≤ x6 ∧ x6 ≤ x10 + (-1)) (d1 : x7 + (-4294967296) ≤ x5 ∧ x5 ≤ x7 + 23) (g0 : x7 = items_0) (f1 : TOO (r_0) (all_0) (turned_0) (x4) (x9)) (f2 : (x4 + 1) ≤ all_0 ((r_0 + 1))) (f3 : lines_0 = ((items_0 - all_0 (r_0)) + x4)) (f4 : 0 ≤ all_0 (r_0)) (f8 : TOO (r_1) (all_1) (turned_1) (x4) (x9)) (f9 : (x4 + 1) ≤ all_1 ((r_1 + 1))) (f10 : lines_1 = ((items_1 - all_1 (r_1)) + x4)) (f11 : 0 ≤ all_1 (r_1)) (f14 : x6 < x10) (h15 : x10 = itemLayer_2 (x9)) (f16 : TOO (r_2) (all_2) (turned_2) (x4) (x9)) (f17 : LID (r_2) (items_2) (all_2) (turned_2) (itemLayer_2) (firstJoint_2) (x4) (x5) (x6)) (f18 : LNP (r_2) (lines_2) (items_2) (all_2) (itemLayer_2) (lineA_2) (lineB_2)) (f19 : (x4 + 1) ≤ all_2 ((r_2 + 1))) (f20 : lines_2 = ((items_2 - all_2 (r_2)) + x4)) (f21 : 0 ≤ all_2 (r_2)) (fe_0_5_1 : r_0 = r_1) (fe_0_100_1 : items_0 = items_1) (fe_0_107_1 : lines_0 = lines_1) (fe_0_5_2 : r_1 = r_2) (fe_0_100_2 : items_1 = items_2) (fe_0_107_2 : lines_1 = lines_2) (hE_0_2_1 : ∀ j : Int, all_0 j = all_1 j) (hE_0_2_2 : ∀ j : Int, all_1 j = all_2 j) (hE_0_95_1 : ∀ j : Int, turned_0 j = turned_1 j) (hE_0_95_2 : ∀ j : Int, turned_1 j = turned_2 j) (hK_0_95 : ∀ j : Int, 0 ≤ j → j < 48 → 0 ≤ turned_0 j ∧ turned_0 j ≤ 1) (hE_0_102_1 : ∀ j : Int, itemLayer_0 j = itemLayer_1 j) (hE_0_102_2 : ∀ j : Int, 0 ≤ j → (j = x7 → itemLayer_1 j = x6) ∧ (j ≠ x7 → itemLayer_1 j = itemLayer_2 j)) (hK_0_102 : ∀ j : Int, 0 ≤ j → j < 76 → 0 ≤ itemLayer_0 j ∧ itemLayer_0 j ≤ 75) (hE_0_103_1 : ∀ j : Int, 0 ≤ j → (j = x7 → itemEdge_0 j = x4) ∧ (j ≠ x7 → itemEdge_0 j = itemEdge_1 j)) (hE_0_103_2 : ∀ j : Int, itemEdge_1 j = itemEdge_2 j) (hK_0_103 : ∀ j : Int, 0 ≤ j → j < 76 → 0 ≤ itemEdge_0 j ∧ itemEdge_0 j ≤ 47) (hE_0_104_1 : ∀ j : Int, firstJoint_0 j = firstJoint_1 j) (hE_0_104_2 : ∀ j : Int, firstJoint_1 j = firstJoint_2 j) (hK_0_104 : ∀ j : Int, 0 ≤ j → j < 48 → 0 ≤ firstJoint_0 j ∧ firstJoint_0 j ≤ 76) (hE_0_108_1 : ∀ j : Int, lineA_0 j = lineA_1 j) (hE_0_108_2 : ∀ j : Int, lineA_1 j = lineA_2 j) (hK_0_108 : ∀ j : Int, 0 ≤ j → j < 130 → 0 ≤ lineA_0 j ∧ lineA_0 j ≤ 75) (hE_0_109_1 : ∀ j : Int, lineB_0 j = lineB_1 j) (hE_0_109_2 : ∀ j : Int, lineB_1 j = lineB_2 j) (hK_0_109 : ∀ j : Int, 0 ≤ j → j < 130 → 0 ≤ lineB_0 j ∧ lineB_0 j ≤ 75) (kz_0_100 : 0 ≤ items_0 ∧ items_0 ≤ 76) (kz_0_107 : 0 ≤ lines_0 ∧ lines_0 ≤ 130) (ex2 : gx = lines_0) (ex3 : 0 ≤ gx ∧ gx ≤ 129) : LNP (r_0) (lines_0) (items_0) (all_0) (itemLayer_0) (lineA_0) (lineB_0) := by
  subst fe_0_5_1
  subst fe_0_100_1
  subst fe_0_107_1
  subst fe_0_5_2
  subst fe_0_100_2
  subst fe_0_107_2
  have e_hE_0_2_1 := funext hE_0_2_1; subst e_hE_0_2_1
  have e_hE_0_2_2 := funext hE_0_2_2; subst e_hE_0_2_2
  have e_hE_0_95_1 := funext hE_0_95_1; subst e_hE_0_95_1
  have e_hE_0_95_2 := funext hE_0_95_2; subst e_hE_0_95_2
  have e_hE_0_102_1 := funext hE_0_102_1; subst e_hE_0_102_1
  have e_hE_0_103_2 := funext hE_0_103_2; subst e_hE_0_103_2
  have e_hE_0_104_1 := funext hE_0_104_1; subst e_hE_0_104_1
  have e_hE_0_104_2 := funext hE_0_104_2; subst e_hE_0_104_2
  have e_hE_0_108_1 := funext hE_0_108_1; subst e_hE_0_108_1
  have e_hE_0_108_2 := funext hE_0_108_2; subst e_hE_0_108_2
  have e_hE_0_109_1 := funext hE_0_109_1; subst e_hE_0_109_1
  have e_hE_0_109_2 := funext hE_0_109_2; subst e_hE_0_109_2
  first
    | assumption
    | exact lnp_il ‹LNP _ _ _ _ _ _ _› (by assumption) (by omega)
set_option maxHeartbeats 4000000 in
theorem vc_Mo_list_7_3 (x4 : Int) (x5 : Int) (x6 : Int) (x7 : Int) (x9 : Int) (x10 : Int) (items_0 : Int) (all_0 : Int → Int) (turned_0 : Int → Int) (r_0 : Int) (lines_0 : Int) (all_1 : Int → Int) (turned_1 : Int → Int) (r_1 : Int) (lines_1 : Int) (items_1 : Int) (itemLayer_2 : Int → Int) (all_2 : Int → Int) (turned_2 : Int → Int) (r_2 : Int) (firstJoint_2 : Int → Int) (items_2 : Int) (lineA_2 : Int → Int) (lineB_2 : Int → Int) (lines_2 : Int) (itemLayer_0 : Int → Int) (itemLayer_1 : Int → Int) (itemEdge_0 : Int → Int) (itemEdge_1 : Int → Int) (itemEdge_2 : Int → Int) (firstJoint_0 : Int → Int) (firstJoint_1 : Int → Int) (lineA_0 : Int → Int) (lineA_1 : Int → Int) (lineB_0 : Int → Int) (lineB_1 : Int → Int) (gx : Int) (k4 : 0 ≤ x4 ∧ x4 ≤ 47) (k5 : 0 ≤ x5 ∧ x5 ≤ 74) (k6 : 1 ≤ x6 ∧ x6 ≤ 23) (k7 : 0 ≤ x7 ∧ x7 ≤ 74) (k9 : 0 ≤ x9 ∧ x9 ≤ 23) (k10 : 2 ≤ x10 ∧ x10 ≤ 75) (d0 : x10 + (-4294967296) ≤ x6 ∧ x6 ≤ x10 + (-1)) (d1 : x7 + (-4294967296) ≤ x5 ∧ x5 ≤ x7 + 23) (g0 : x7 = items_0) (f1 : TOO (r_0) (all_0) (turned_0) (x4) (x9)) (f2 : (x4 + 1) ≤ all_0 ((r_0 + 1))) (f3 : lines_0 = ((items_0 - all_0 (r_0)) + x4)) (f4 : 0 ≤ all_0 (r_0)) (f8 : TOO (r_1) (all_1) (turned_1) (x4) (x9)) (f9 : (x4 + 1) ≤ all_1 ((r_1 + 1))) (f10 : lines_1 = ((items_1 - all_1 (r_1)) + x4)) (f11 : 0 ≤ all_1 (r_1)) (f14 : x6 < x10) (h15 : x10 = itemLayer_2 (x9)) (f16 : TOO (r_2) (all_2) (turned_2) (x4) (x9)) (f17 : LID (r_2) (items_2) (all_2) (turned_2) (itemLayer_2) (firstJoint_2) (x4) (x5) (x6)) (f18 : LNP (r_2) (lines_2) (items_2) (all_2) (itemLayer_2) (lineA_2) (lineB_2)) (f19 : (x4 + 1) ≤ all_2 ((r_2 + 1))) (f20 : lines_2 = ((items_2 - all_2 (r_2)) + x4)) (f21 : 0 ≤ all_2 (r_2)) (fe_0_5_1 : r_0 = r_1) (fe_0_100_1 : items_0 = items_1) (fe_0_107_1 : lines_0 = lines_1) (fe_0_5_2 : r_1 = r_2) (fe_0_100_2 : items_1 = items_2) (fe_0_107_2 : lines_1 = lines_2) (hE_0_2_1 : ∀ j : Int, all_0 j = all_1 j) (hE_0_2_2 : ∀ j : Int, all_1 j = all_2 j) (hE_0_95_1 : ∀ j : Int, turned_0 j = turned_1 j) (hE_0_95_2 : ∀ j : Int, turned_1 j = turned_2 j) (hK_0_95 : ∀ j : Int, 0 ≤ j → j < 48 → 0 ≤ turned_0 j ∧ turned_0 j ≤ 1) (hE_0_102_1 : ∀ j : Int, itemLayer_0 j = itemLayer_1 j) (hE_0_102_2 : ∀ j : Int, 0 ≤ j → (j = x7 → itemLayer_1 j = x6) ∧ (j ≠ x7 → itemLayer_1 j = itemLayer_2 j)) (hK_0_102 : ∀ j : Int, 0 ≤ j → j < 76 → 0 ≤ itemLayer_0 j ∧ itemLayer_0 j ≤ 75) (hE_0_103_1 : ∀ j : Int, 0 ≤ j → (j = x7 → itemEdge_0 j = x4) ∧ (j ≠ x7 → itemEdge_0 j = itemEdge_1 j)) (hE_0_103_2 : ∀ j : Int, itemEdge_1 j = itemEdge_2 j) (hK_0_103 : ∀ j : Int, 0 ≤ j → j < 76 → 0 ≤ itemEdge_0 j ∧ itemEdge_0 j ≤ 47) (hE_0_104_1 : ∀ j : Int, firstJoint_0 j = firstJoint_1 j) (hE_0_104_2 : ∀ j : Int, firstJoint_1 j = firstJoint_2 j) (hK_0_104 : ∀ j : Int, 0 ≤ j → j < 48 → 0 ≤ firstJoint_0 j ∧ firstJoint_0 j ≤ 76) (hE_0_108_1 : ∀ j : Int, lineA_0 j = lineA_1 j) (hE_0_108_2 : ∀ j : Int, lineA_1 j = lineA_2 j) (hK_0_108 : ∀ j : Int, 0 ≤ j → j < 130 → 0 ≤ lineA_0 j ∧ lineA_0 j ≤ 75) (hE_0_109_1 : ∀ j : Int, lineB_0 j = lineB_1 j) (hE_0_109_2 : ∀ j : Int, lineB_1 j = lineB_2 j) (hK_0_109 : ∀ j : Int, 0 ≤ j → j < 130 → 0 ≤ lineB_0 j ∧ lineB_0 j ≤ 75) (kz_0_100 : 0 ≤ items_0 ∧ items_0 ≤ 76) (kz_0_107 : 0 ≤ lines_0 ∧ lines_0 ≤ 130) (ex2 : gx = lines_0) (ex3 : 0 ≤ gx ∧ gx ≤ 129) : LNM (r_0) (items_0) (all_0) (itemLayer_0) (x5) (x7) := by
  subst fe_0_5_1
  subst fe_0_100_1
  subst fe_0_107_1
  subst fe_0_5_2
  subst fe_0_100_2
  subst fe_0_107_2
  have e_hE_0_2_1 := funext hE_0_2_1; subst e_hE_0_2_1
  have e_hE_0_2_2 := funext hE_0_2_2; subst e_hE_0_2_2
  have e_hE_0_95_1 := funext hE_0_95_1; subst e_hE_0_95_1
  have e_hE_0_95_2 := funext hE_0_95_2; subst e_hE_0_95_2
  have e_hE_0_102_1 := funext hE_0_102_1; subst e_hE_0_102_1
  have e_hE_0_103_2 := funext hE_0_103_2; subst e_hE_0_103_2
  have e_hE_0_104_1 := funext hE_0_104_1; subst e_hE_0_104_1
  have e_hE_0_104_2 := funext hE_0_104_2; subst e_hE_0_104_2
  have e_hE_0_108_1 := funext hE_0_108_1; subst e_hE_0_108_1
  have e_hE_0_108_2 := funext hE_0_108_2; subst e_hE_0_108_2
  have e_hE_0_109_1 := funext hE_0_109_1; subst e_hE_0_109_1
  have e_hE_0_109_2 := funext hE_0_109_2; subst e_hE_0_109_2
  rw [show x7 = items_0 by omega]
  exact lid_ln1 ‹LID _ _ _ _ _ _ _ _ _› (by assumption) (by omega) (by omega)
set_option maxHeartbeats 4000000 in
theorem vc_Mo_list_7_4 (x4 : Int) (x5 : Int) (x6 : Int) (x7 : Int) (x9 : Int) (x10 : Int) (items_0 : Int) (all_0 : Int → Int) (turned_0 : Int → Int) (r_0 : Int) (lines_0 : Int) (all_1 : Int → Int) (turned_1 : Int → Int) (r_1 : Int) (lines_1 : Int) (items_1 : Int) (itemLayer_2 : Int → Int) (all_2 : Int → Int) (turned_2 : Int → Int) (r_2 : Int) (firstJoint_2 : Int → Int) (items_2 : Int) (lineA_2 : Int → Int) (lineB_2 : Int → Int) (lines_2 : Int) (itemLayer_0 : Int → Int) (itemLayer_1 : Int → Int) (itemEdge_0 : Int → Int) (itemEdge_1 : Int → Int) (itemEdge_2 : Int → Int) (firstJoint_0 : Int → Int) (firstJoint_1 : Int → Int) (lineA_0 : Int → Int) (lineA_1 : Int → Int) (lineB_0 : Int → Int) (lineB_1 : Int → Int) (gx : Int) (k4 : 0 ≤ x4 ∧ x4 ≤ 47) (k5 : 0 ≤ x5 ∧ x5 ≤ 74) (k6 : 1 ≤ x6 ∧ x6 ≤ 23) (k7 : 0 ≤ x7 ∧ x7 ≤ 74) (k9 : 0 ≤ x9 ∧ x9 ≤ 23) (k10 : 2 ≤ x10 ∧ x10 ≤ 75) (d0 : x10 + (-4294967296) ≤ x6 ∧ x6 ≤ x10 + (-1)) (d1 : x7 + (-4294967296) ≤ x5 ∧ x5 ≤ x7 + 23) (g0 : x7 = items_0) (f1 : TOO (r_0) (all_0) (turned_0) (x4) (x9)) (f2 : (x4 + 1) ≤ all_0 ((r_0 + 1))) (f3 : lines_0 = ((items_0 - all_0 (r_0)) + x4)) (f4 : 0 ≤ all_0 (r_0)) (f8 : TOO (r_1) (all_1) (turned_1) (x4) (x9)) (f9 : (x4 + 1) ≤ all_1 ((r_1 + 1))) (f10 : lines_1 = ((items_1 - all_1 (r_1)) + x4)) (f11 : 0 ≤ all_1 (r_1)) (f14 : x6 < x10) (h15 : x10 = itemLayer_2 (x9)) (f16 : TOO (r_2) (all_2) (turned_2) (x4) (x9)) (f17 : LID (r_2) (items_2) (all_2) (turned_2) (itemLayer_2) (firstJoint_2) (x4) (x5) (x6)) (f18 : LNP (r_2) (lines_2) (items_2) (all_2) (itemLayer_2) (lineA_2) (lineB_2)) (f19 : (x4 + 1) ≤ all_2 ((r_2 + 1))) (f20 : lines_2 = ((items_2 - all_2 (r_2)) + x4)) (f21 : 0 ≤ all_2 (r_2)) (fe_0_5_1 : r_0 = r_1) (fe_0_100_1 : items_0 = items_1) (fe_0_107_1 : lines_0 = lines_1) (fe_0_5_2 : r_1 = r_2) (fe_0_100_2 : items_1 = items_2) (fe_0_107_2 : lines_1 = lines_2) (hE_0_2_1 : ∀ j : Int, all_0 j = all_1 j) (hE_0_2_2 : ∀ j : Int, all_1 j = all_2 j) (hE_0_95_1 : ∀ j : Int, turned_0 j = turned_1 j) (hE_0_95_2 : ∀ j : Int, turned_1 j = turned_2 j) (hK_0_95 : ∀ j : Int, 0 ≤ j → j < 48 → 0 ≤ turned_0 j ∧ turned_0 j ≤ 1) (hE_0_102_1 : ∀ j : Int, itemLayer_0 j = itemLayer_1 j) (hE_0_102_2 : ∀ j : Int, 0 ≤ j → (j = x7 → itemLayer_1 j = x6) ∧ (j ≠ x7 → itemLayer_1 j = itemLayer_2 j)) (hK_0_102 : ∀ j : Int, 0 ≤ j → j < 76 → 0 ≤ itemLayer_0 j ∧ itemLayer_0 j ≤ 75) (hE_0_103_1 : ∀ j : Int, 0 ≤ j → (j = x7 → itemEdge_0 j = x4) ∧ (j ≠ x7 → itemEdge_0 j = itemEdge_1 j)) (hE_0_103_2 : ∀ j : Int, itemEdge_1 j = itemEdge_2 j) (hK_0_103 : ∀ j : Int, 0 ≤ j → j < 76 → 0 ≤ itemEdge_0 j ∧ itemEdge_0 j ≤ 47) (hE_0_104_1 : ∀ j : Int, firstJoint_0 j = firstJoint_1 j) (hE_0_104_2 : ∀ j : Int, firstJoint_1 j = firstJoint_2 j) (hK_0_104 : ∀ j : Int, 0 ≤ j → j < 48 → 0 ≤ firstJoint_0 j ∧ firstJoint_0 j ≤ 76) (hE_0_108_1 : ∀ j : Int, lineA_0 j = lineA_1 j) (hE_0_108_2 : ∀ j : Int, lineA_1 j = lineA_2 j) (hK_0_108 : ∀ j : Int, 0 ≤ j → j < 130 → 0 ≤ lineA_0 j ∧ lineA_0 j ≤ 75) (hE_0_109_1 : ∀ j : Int, lineB_0 j = lineB_1 j) (hE_0_109_2 : ∀ j : Int, lineB_1 j = lineB_2 j) (hK_0_109 : ∀ j : Int, 0 ≤ j → j < 130 → 0 ≤ lineB_0 j ∧ lineB_0 j ≤ 75) (kz_0_100 : 0 ≤ items_0 ∧ items_0 ≤ 76) (kz_0_107 : 0 ≤ lines_0 ∧ lines_0 ≤ 130) (ex2 : gx = lines_0) (ex3 : 0 ≤ gx ∧ gx ≤ 129) : gx = ((items_0 - all_0 (r_0)) + x4) := by
  subst fe_0_5_1
  subst fe_0_100_1
  subst fe_0_107_1
  subst fe_0_5_2
  subst fe_0_100_2
  subst fe_0_107_2
  have e_hE_0_2_1 := funext hE_0_2_1; subst e_hE_0_2_1
  have e_hE_0_2_2 := funext hE_0_2_2; subst e_hE_0_2_2
  have e_hE_0_95_1 := funext hE_0_95_1; subst e_hE_0_95_1
  have e_hE_0_95_2 := funext hE_0_95_2; subst e_hE_0_95_2
  have e_hE_0_102_1 := funext hE_0_102_1; subst e_hE_0_102_1
  have e_hE_0_103_2 := funext hE_0_103_2; subst e_hE_0_103_2
  have e_hE_0_104_1 := funext hE_0_104_1; subst e_hE_0_104_1
  have e_hE_0_104_2 := funext hE_0_104_2; subst e_hE_0_104_2
  have e_hE_0_108_1 := funext hE_0_108_1; subst e_hE_0_108_1
  have e_hE_0_108_2 := funext hE_0_108_2; subst e_hE_0_108_2
  have e_hE_0_109_1 := funext hE_0_109_1; subst e_hE_0_109_1
  have e_hE_0_109_2 := funext hE_0_109_2; subst e_hE_0_109_2
  try simp only [Int.add_zero] at *
  first
    | omega
    | (have h := lid_bd ‹LID _ _ _ _ _ _ _ _ _›; omega)
    | (have h := ‹LYJ _ _ _ _›.1.1.1; omega)
    | (have h := (lic_bd ‹LIC _ _ _ _ _ _ _›).1; omega)
    | (have h := (lic_bd ‹LIF _ _ _ _ _ _›).1; omega)
    | (have h := ‹LSA _ _ _ _ _ _ _ _ _ _›.2.1; omega)
    | (have h := lli_bd ‹LLI _ _ _ _ _ _›; have h2 := ‹LSA _ _ _ _ _ _ _ _ _ _›.2.1; omega)
def o_Mo_list_7 : or_T := (92, 12, [(0, (2, 0, 0, [150])), (2, (2, 0, 0, [150])), (4, (0, 0, 47, [])), (5, (0, 0, 74, [])), (6, (0, 1, 23, [])), (7, (0, 0, 74, [])), (8, (2, 0, 0, [220])), (9, (0, 0, 23, [])), (10, (0, 2, 75, [])), (11, (2, 0, 0, [221]))], [(9, [7, 2], [100]), (20, [2, 4, 9], [60, 1, 2, 357, 5, 2, 95]), (20, [4, 2], [50, 1, 1, 1005, 1002, 0, 6, 4, 2, 1, 0, 0, 1, 3, 1, 2, 4, 3, 2, 1, 5, 0, 1]), (20, [2, 4], [50, 3, 1, 107, 100, 5, 2, 1, 3, 2, 0, 107, 4, 11, 5, 3, 2, 0, 100, 3, 0, 2, 2, 0, 5, 1, 1]), (20, [2], [50, 1, 1, 5, 2, 0, 2, 0, 0, 3, 0, 2, 2, 0, 5]), (24, [0, 2], []), (100, [11, 7, 4], []), (9, [11, 2], [103]), (20, [2, 4, 9], [60, 1, 2, 357, 5, 2, 95]), (20, [4, 2], [50, 1, 1, 1005, 1002, 0, 6, 4, 2, 1, 0, 0, 1, 3, 1, 2, 4, 3, 2, 1, 5, 0, 1]), (20, [2, 4], [50, 3, 1, 107, 100, 5, 2, 1, 3, 2, 0, 107, 4, 11, 5, 3, 2, 0, 100, 3, 0, 2, 2, 0, 5, 1, 1]), (20, [2], [50, 1, 1, 5, 2, 0, 2, 0, 0, 3, 0, 2, 2, 0, 5]), (100, [8, 7, 6], []), (9, [8, 2], [102]), (7, [6, 10], [2]), (10, [10, 8, 9], []), (20, [2, 4, 9], [60, 1, 2, 357, 5, 2, 95]), (20, [2, 4, 5, 6], [60, 2, 4, 366, 5, 100, 2, 95, 102, 104]), (20, [2], [60, 3, 4, 363, 5, 107, 100, 2, 102, 108, 109]), (20, [4, 2], [50, 1, 1, 1005, 1002, 0, 6, 4, 2, 1, 0, 0, 1, 3, 1, 2, 4, 3, 2, 1, 5, 0, 1]), (20, [2, 4], [50, 3, 1, 107, 100, 5, 2, 1, 3, 2, 0, 107, 4, 11, 5, 3, 2, 0, 100, 3, 0, 2, 2, 0, 5, 1, 1]), (20, [2], [50, 1, 1, 5, 2, 0, 2, 0, 0, 3, 0, 2, 2, 0, 5])], [], [(0, 0, 129, [])], [(20, [2, 4, 5, 6], [60, 2, 4, 386, 5, 100, 2, 95, 102, 104]), (20, [2, 12], [50, 1, 0, 107, 1, 3, 2, 0, 107, 1, 1]), (20, [2], [60, 3, 4, 363, 5, 107, 100, 2, 102, 108, 109]), (20, [2, 5, 7], [60, 2, 2, 389, 5, 100, 2, 102]), (20, [12, 2, 4], [50, 2, 1, 1100, 1005, 1002, 1, 2, 1, 0, 4, 11, 5, 3, 2, 1, 100, 3, 1, 2, 2, 1, 5, 1, 2])], [], [(6, 10, -4294967296, -1), (5, 7, -4294967296, 23)])
theorem oo_Mo_list_7 {kA : Nat → ClassId} : or_ok PRD kA GG o_Mo_list_7 := by
  intro A ta ws vs hD hth hl hk hds hf
  have hl : vs.length = 12 := hl
  have hk : ∀ q ∈ ([(0, (2, 0, 0, [150])), (2, (2, 0, 0, [150])), (4, (0, 0, 47, [])), (5, (0, 0, 74, [])), (6, (0, 1, 23, [])), (7, (0, 0, 74, [])), (8, (2, 0, 0, [220])), (9, (0, 0, 23, [])), (10, (0, 2, 75, [])), (11, (2, 0, 0, [221]))] : List (Nat × tv_T)), tv_ok ta q.2 (n_v vs q.1) := hk
  obtain ⟨t0, hk⟩ := List.forall_mem_cons.mp hk
  have t0 : tv_ok ta (2, 0, 0, [150]) (n_v vs 0) := t0
  have r0 : ta (v_ad (n_v vs 0)) = some 150 := tv_rg t0
  obtain ⟨t2, hk⟩ := List.forall_mem_cons.mp hk
  have t2 : tv_ok ta (2, 0, 0, [150]) (n_v vs 2) := t2
  have r2 : ta (v_ad (n_v vs 2)) = some 150 := tv_rg t2
  obtain ⟨t4, hk⟩ := List.forall_mem_cons.mp hk
  have t4 : tv_ok ta (0, 0, 47, []) (n_v vs 4) := t4
  have k4 : 0 ≤ v_iv (n_v vs 4) ∧ v_iv (n_v vs 4) ≤ 47 := tv_rng t4
  obtain ⟨t5, hk⟩ := List.forall_mem_cons.mp hk
  have t5 : tv_ok ta (0, 0, 74, []) (n_v vs 5) := t5
  have k5 : 0 ≤ v_iv (n_v vs 5) ∧ v_iv (n_v vs 5) ≤ 74 := tv_rng t5
  obtain ⟨t6, hk⟩ := List.forall_mem_cons.mp hk
  have t6 : tv_ok ta (0, 1, 23, []) (n_v vs 6) := t6
  have k6 : 1 ≤ v_iv (n_v vs 6) ∧ v_iv (n_v vs 6) ≤ 23 := tv_rng t6
  obtain ⟨t7, hk⟩ := List.forall_mem_cons.mp hk
  have t7 : tv_ok ta (0, 0, 74, []) (n_v vs 7) := t7
  have k7 : 0 ≤ v_iv (n_v vs 7) ∧ v_iv (n_v vs 7) ≤ 74 := tv_rng t7
  obtain ⟨t8, hk⟩ := List.forall_mem_cons.mp hk
  have t8 : tv_ok ta (2, 0, 0, [220]) (n_v vs 8) := t8
  have r8 : ta (v_ad (n_v vs 8)) = some 220 := tv_rg t8
  obtain ⟨t9, hk⟩ := List.forall_mem_cons.mp hk
  have t9 : tv_ok ta (0, 0, 23, []) (n_v vs 9) := t9
  have k9 : 0 ≤ v_iv (n_v vs 9) ∧ v_iv (n_v vs 9) ≤ 23 := tv_rng t9
  obtain ⟨t10, hk⟩ := List.forall_mem_cons.mp hk
  have t10 : tv_ok ta (0, 2, 75, []) (n_v vs 10) := t10
  have k10 : 2 ≤ v_iv (n_v vs 10) ∧ v_iv (n_v vs 10) ≤ 75 := tv_rng t10
  obtain ⟨t11, hk⟩ := List.forall_mem_cons.mp hk
  have t11 : tv_ok ta (2, 0, 0, [221]) (n_v vs 11) := t11
  have r11 : ta (v_ad (n_v vs 11)) = some 221 := tv_rg t11
  have hds : ∀ q ∈ ([(6, 10, -4294967296, -1), (5, 7, -4294967296, 23)] : List of_T), n_iv vs q.2.1 + q.2.2.1 ≤ n_iv vs q.1 ∧ n_iv vs q.1 ≤ n_iv vs q.2.1 + q.2.2.2 := hds
  obtain ⟨d0, hds⟩ := List.forall_mem_cons.mp hds
  have d0 : v_iv (n_v vs 10) + (-4294967296) ≤ v_iv (n_v vs 6) ∧ v_iv (n_v vs 6) ≤ v_iv (n_v vs 10) + (-1) := d0
  obtain ⟨d1, hds⟩ := List.forall_mem_cons.mp hds
  have d1 : v_iv (n_v vs 7) + (-4294967296) ≤ v_iv (n_v vs 5) ∧ v_iv (n_v vs 5) ≤ v_iv (n_v vs 7) + 23 := d1
  have hf : fc_ok PRD [(9, [7, 2], [100]), (20, [2, 4, 9], [60, 1, 2, 357, 5, 2, 95]), (20, [4, 2], [50, 1, 1, 1005, 1002, 0, 6, 4, 2, 1, 0, 0, 1, 3, 1, 2, 4, 3, 2, 1, 5, 0, 1]), (20, [2, 4], [50, 3, 1, 107, 100, 5, 2, 1, 3, 2, 0, 107, 4, 11, 5, 3, 2, 0, 100, 3, 0, 2, 2, 0, 5, 1, 1]), (20, [2], [50, 1, 1, 5, 2, 0, 2, 0, 0, 3, 0, 2, 2, 0, 5]), (24, [0, 2], []), (100, [11, 7, 4], []), (9, [11, 2], [103]), (20, [2, 4, 9], [60, 1, 2, 357, 5, 2, 95]), (20, [4, 2], [50, 1, 1, 1005, 1002, 0, 6, 4, 2, 1, 0, 0, 1, 3, 1, 2, 4, 3, 2, 1, 5, 0, 1]), (20, [2, 4], [50, 3, 1, 107, 100, 5, 2, 1, 3, 2, 0, 107, 4, 11, 5, 3, 2, 0, 100, 3, 0, 2, 2, 0, 5, 1, 1]), (20, [2], [50, 1, 1, 5, 2, 0, 2, 0, 0, 3, 0, 2, 2, 0, 5]), (100, [8, 7, 6], []), (9, [8, 2], [102]), (7, [6, 10], [2]), (10, [10, 8, 9], []), (20, [2, 4, 9], [60, 1, 2, 357, 5, 2, 95]), (20, [2, 4, 5, 6], [60, 2, 4, 366, 5, 100, 2, 95, 102, 104]), (20, [2], [60, 3, 4, 363, 5, 107, 100, 2, 102, 108, 109]), (20, [4, 2], [50, 1, 1, 1005, 1002, 0, 6, 4, 2, 1, 0, 0, 1, 3, 1, 2, 4, 3, 2, 1, 5, 0, 1]), (20, [2, 4], [50, 3, 1, 107, 100, 5, 2, 1, 3, 2, 0, 107, 4, 11, 5, 3, 2, 0, 100, 3, 0, 2, 2, 0, 5, 1, 1]), (20, [2], [50, 1, 1, 5, 2, 0, 2, 0, 0, 3, 0, 2, 2, 0, 5])] ta ws vs := hf
  obtain ⟨f0, hf⟩ := fc_un (show (9 : Nat) < 100 from by decide) hf
  have f0 : n_v vs 7 = w_fd ws (v_ad (n_v vs 2)) 100 := f0
  obtain ⟨f1, hf⟩ := fc_un (show (20 : Nat) < 100 from by decide) hf
  have f1 : TOO (w_fi ws (n_v vs 2) 5) (w_ei ws (w_ar ws (n_v vs 2) 2)) (w_ei ws (w_ar ws (n_v vs 2) 95)) (v_iv (n_v vs 4)) (v_iv (n_v vs 9)) := f1
  obtain ⟨f2, hf⟩ := fc_un (show (20 : Nat) < 100 from by decide) hf
  have f2 : (v_iv (n_v vs 4) + 1) ≤ w_ei ws (w_ar ws (n_v vs 2) 2) ((w_fi ws (n_v vs 2) 5 + 1)) := f2
  obtain ⟨f3, hf⟩ := fc_un (show (20 : Nat) < 100 from by decide) hf
  have f3 : w_fi ws (n_v vs 2) 107 = ((w_fi ws (n_v vs 2) 100 - w_ei ws (w_ar ws (n_v vs 2) 2) (w_fi ws (n_v vs 2) 5)) + v_iv (n_v vs 4)) := f3
  obtain ⟨f4, hf⟩ := fc_un (show (20 : Nat) < 100 from by decide) hf
  have f4 : 0 ≤ w_ei ws (w_ar ws (n_v vs 2) 2) (w_fi ws (n_v vs 2) 5) := f4
  obtain ⟨f5, hf⟩ := fc_un (show (24 : Nat) < 100 from by decide) hf
  have f5 : n_v vs 0 = n_v vs 2 := f5
  obtain ⟨ta1, w1, le1, ⟨_, s1⟩, hf⟩ := fc_us (show ¬ (100 : Nat) < 100 from by decide) hf
  have s1 : (∀ b j, w_el ws b j = if b = v_ad (n_v vs 11) ∧ j = (v_iv (n_v vs 7)).toNat then v_iv (n_v vs 4) else w_el w1 b j) ∧ ∀ b k, w_fd ws b k = w_fd w1 b k := s1
  obtain ⟨f7, hf⟩ := fc_un (show (9 : Nat) < 100 from by decide) hf
  have f7 : n_v vs 11 = w_fd w1 (v_ad (n_v vs 2)) 103 := f7
  obtain ⟨f8, hf⟩ := fc_un (show (20 : Nat) < 100 from by decide) hf
  have f8 : TOO (w_fi w1 (n_v vs 2) 5) (w_ei w1 (w_ar w1 (n_v vs 2) 2)) (w_ei w1 (w_ar w1 (n_v vs 2) 95)) (v_iv (n_v vs 4)) (v_iv (n_v vs 9)) := f8
  obtain ⟨f9, hf⟩ := fc_un (show (20 : Nat) < 100 from by decide) hf
  have f9 : (v_iv (n_v vs 4) + 1) ≤ w_ei w1 (w_ar w1 (n_v vs 2) 2) ((w_fi w1 (n_v vs 2) 5 + 1)) := f9
  obtain ⟨f10, hf⟩ := fc_un (show (20 : Nat) < 100 from by decide) hf
  have f10 : w_fi w1 (n_v vs 2) 107 = ((w_fi w1 (n_v vs 2) 100 - w_ei w1 (w_ar w1 (n_v vs 2) 2) (w_fi w1 (n_v vs 2) 5)) + v_iv (n_v vs 4)) := f10
  obtain ⟨f11, hf⟩ := fc_un (show (20 : Nat) < 100 from by decide) hf
  have f11 : 0 ≤ w_ei w1 (w_ar w1 (n_v vs 2) 2) (w_fi w1 (n_v vs 2) 5) := f11
  obtain ⟨ta2, w2, le2, ⟨_, s2⟩, hf⟩ := fc_us (show ¬ (100 : Nat) < 100 from by decide) hf
  have s2 : (∀ b j, w_el w1 b j = if b = v_ad (n_v vs 8) ∧ j = (v_iv (n_v vs 7)).toNat then v_iv (n_v vs 6) else w_el w2 b j) ∧ ∀ b k, w_fd w1 b k = w_fd w2 b k := s2
  obtain ⟨f13, hf⟩ := fc_un (show (9 : Nat) < 100 from by decide) hf
  have f13 : n_v vs 8 = w_fd w2 (v_ad (n_v vs 2)) 102 := f13
  obtain ⟨f14, hf⟩ := fc_un (show (7 : Nat) < 100 from by decide) hf
  have f14 : v_iv (n_v vs 6) < v_iv (n_v vs 10) := f14
  obtain ⟨f15, hf⟩ := fc_un (show (10 : Nat) < 100 from by decide) hf
  have f15 : v_iv (n_v vs 10) = w_el w2 (v_ad (n_v vs 8)) (v_iv (n_v vs 9)).toNat := f15
  obtain ⟨f16, hf⟩ := fc_un (show (20 : Nat) < 100 from by decide) hf
  have f16 : TOO (w_fi w2 (n_v vs 2) 5) (w_ei w2 (w_ar w2 (n_v vs 2) 2)) (w_ei w2 (w_ar w2 (n_v vs 2) 95)) (v_iv (n_v vs 4)) (v_iv (n_v vs 9)) := f16
  obtain ⟨f17, hf⟩ := fc_un (show (20 : Nat) < 100 from by decide) hf
  have f17 : LID (w_fi w2 (n_v vs 2) 5) (w_fi w2 (n_v vs 2) 100) (w_ei w2 (w_ar w2 (n_v vs 2) 2)) (w_ei w2 (w_ar w2 (n_v vs 2) 95)) (w_ei w2 (w_ar w2 (n_v vs 2) 102)) (w_ei w2 (w_ar w2 (n_v vs 2) 104)) (v_iv (n_v vs 4)) (v_iv (n_v vs 5)) (v_iv (n_v vs 6)) := f17
  obtain ⟨f18, hf⟩ := fc_un (show (20 : Nat) < 100 from by decide) hf
  have f18 : LNP (w_fi w2 (n_v vs 2) 5) (w_fi w2 (n_v vs 2) 107) (w_fi w2 (n_v vs 2) 100) (w_ei w2 (w_ar w2 (n_v vs 2) 2)) (w_ei w2 (w_ar w2 (n_v vs 2) 102)) (w_ei w2 (w_ar w2 (n_v vs 2) 108)) (w_ei w2 (w_ar w2 (n_v vs 2) 109)) := f18
  obtain ⟨f19, hf⟩ := fc_un (show (20 : Nat) < 100 from by decide) hf
  have f19 : (v_iv (n_v vs 4) + 1) ≤ w_ei w2 (w_ar w2 (n_v vs 2) 2) ((w_fi w2 (n_v vs 2) 5 + 1)) := f19
  obtain ⟨f20, hf⟩ := fc_un (show (20 : Nat) < 100 from by decide) hf
  have f20 : w_fi w2 (n_v vs 2) 107 = ((w_fi w2 (n_v vs 2) 100 - w_ei w2 (w_ar w2 (n_v vs 2) 2) (w_fi w2 (n_v vs 2) 5)) + v_iv (n_v vs 4)) := f20
  obtain ⟨f21, hf⟩ := fc_un (show (20 : Nat) < 100 from by decide) hf
  have f21 : 0 ≤ w_ei w2 (w_ar w2 (n_v vs 2) 2) (w_fi w2 (n_v vs 2) 5) := f21
  have q2 : n_v vs 2 = n_v vs 0 := f5.symm
  rw [q2] at f0
  rw [q2] at f1
  rw [q2] at f2
  rw [q2] at f3
  rw [q2] at f4
  rw [q2] at f7
  rw [q2] at f8
  rw [q2] at f9
  rw [q2] at f10
  rw [q2] at f11
  rw [q2] at f13
  rw [q2] at f16
  rw [q2] at f17
  rw [q2] at f18
  rw [q2] at f19
  rw [q2] at f20
  rw [q2] at f21
  have ar_0_2_1 : w_ar w1 (n_v vs 0) 2 = w_ar ws (n_v vs 0) 2 := by show v_ad (w_fd w1 _ _) = v_ad (w_fd ws _ _); rw [s1.2]
  have ar_0_2_2 : w_ar w2 (n_v vs 0) 2 = w_ar ws (n_v vs 0) 2 := by rw [← ar_0_2_1]; show v_ad (w_fd w2 _ _) = v_ad (w_fd w1 _ _); rw [s2.2]
  have cr_0_2 : ta (w_ar ws (n_v vs 0) 2) = some 152 := tv_rg (th_fd hD hth r0 (g := GG_150) rfl (k := 2) (t := (2, 0, 0, [152])) rfl rfl)
  have ar_0_95_1 : w_ar w1 (n_v vs 0) 95 = w_ar ws (n_v vs 0) 95 := by show v_ad (w_fd w1 _ _) = v_ad (w_fd ws _ _); rw [s1.2]
  have ar_0_95_2 : w_ar w2 (n_v vs 0) 95 = w_ar ws (n_v vs 0) 95 := by rw [← ar_0_95_1]; show v_ad (w_fd w2 _ _) = v_ad (w_fd w1 _ _); rw [s2.2]
  have cr_0_95 : ta (w_ar ws (n_v vs 0) 95) = some 216 := tv_rg (th_fd hD hth r0 (g := GG_150) rfl (k := 95) (t := (2, 0, 0, [216])) rfl rfl)
  have ar_0_102_1 : w_ar w1 (n_v vs 0) 102 = w_ar ws (n_v vs 0) 102 := by show v_ad (w_fd w1 _ _) = v_ad (w_fd ws _ _); rw [s1.2]
  have ar_0_102_2 : w_ar w2 (n_v vs 0) 102 = w_ar ws (n_v vs 0) 102 := by rw [← ar_0_102_1]; show v_ad (w_fd w2 _ _) = v_ad (w_fd w1 _ _); rw [s2.2]
  have cr_0_102 : ta (w_ar ws (n_v vs 0) 102) = some 220 := tv_rg (th_fd hD hth r0 (g := GG_150) rfl (k := 102) (t := (2, 0, 0, [220])) rfl rfl)
  have ar_0_103_1 : w_ar w1 (n_v vs 0) 103 = w_ar ws (n_v vs 0) 103 := by show v_ad (w_fd w1 _ _) = v_ad (w_fd ws _ _); rw [s1.2]
  have ar_0_103_2 : w_ar w2 (n_v vs 0) 103 = w_ar ws (n_v vs 0) 103 := by rw [← ar_0_103_1]; show v_ad (w_fd w2 _ _) = v_ad (w_fd w1 _ _); rw [s2.2]
  have cr_0_103 : ta (w_ar ws (n_v vs 0) 103) = some 221 := tv_rg (th_fd hD hth r0 (g := GG_150) rfl (k := 103) (t := (2, 0, 0, [221])) rfl rfl)
  have ar_0_104_1 : w_ar w1 (n_v vs 0) 104 = w_ar ws (n_v vs 0) 104 := by show v_ad (w_fd w1 _ _) = v_ad (w_fd ws _ _); rw [s1.2]
  have ar_0_104_2 : w_ar w2 (n_v vs 0) 104 = w_ar ws (n_v vs 0) 104 := by rw [← ar_0_104_1]; show v_ad (w_fd w2 _ _) = v_ad (w_fd w1 _ _); rw [s2.2]
  have cr_0_104 : ta (w_ar ws (n_v vs 0) 104) = some 222 := tv_rg (th_fd hD hth r0 (g := GG_150) rfl (k := 104) (t := (2, 0, 0, [222])) rfl rfl)
  have ar_0_108_1 : w_ar w1 (n_v vs 0) 108 = w_ar ws (n_v vs 0) 108 := by show v_ad (w_fd w1 _ _) = v_ad (w_fd ws _ _); rw [s1.2]
  have ar_0_108_2 : w_ar w2 (n_v vs 0) 108 = w_ar ws (n_v vs 0) 108 := by rw [← ar_0_108_1]; show v_ad (w_fd w2 _ _) = v_ad (w_fd w1 _ _); rw [s2.2]
  have cr_0_108 : ta (w_ar ws (n_v vs 0) 108) = some 225 := tv_rg (th_fd hD hth r0 (g := GG_150) rfl (k := 108) (t := (2, 0, 0, [225])) rfl rfl)
  have ar_0_109_1 : w_ar w1 (n_v vs 0) 109 = w_ar ws (n_v vs 0) 109 := by show v_ad (w_fd w1 _ _) = v_ad (w_fd ws _ _); rw [s1.2]
  have ar_0_109_2 : w_ar w2 (n_v vs 0) 109 = w_ar ws (n_v vs 0) 109 := by rw [← ar_0_109_1]; show v_ad (w_fd w2 _ _) = v_ad (w_fd w1 _ _); rw [s2.2]
  have cr_0_109 : ta (w_ar ws (n_v vs 0) 109) = some 226 := tv_rg (th_fd hD hth r0 (g := GG_150) rfl (k := 109) (t := (2, 0, 0, [226])) rfl rfl)
  have ad_11 : v_ad (n_v vs 11) = w_ar ws (n_v vs 0) 103 := (congrArg v_ad f7).trans ar_0_103_1
  have ad_8 : v_ad (n_v vs 8) = w_ar ws (n_v vs 0) 102 := (congrArg v_ad f13).trans ar_0_102_2
  have g0 : v_iv (n_v vs 7) = w_fi ws (n_v vs 0) 100 := congrArg v_iv f0
  rw [ar_0_2_1] at f8
  rw [ar_0_95_1] at f8
  rw [ar_0_2_1] at f9
  rw [ar_0_2_1] at f10
  rw [ar_0_2_1] at f11
  rw [ad_8] at f15
  have h15 : v_iv (n_v vs 10) = w_ei w2 (w_ar ws (n_v vs 0) 102) (v_iv (n_v vs 9)) := f15
  rw [ar_0_2_2] at f16
  rw [ar_0_95_2] at f16
  rw [ar_0_2_2] at f17
  rw [ar_0_95_2] at f17
  rw [ar_0_102_2] at f17
  rw [ar_0_104_2] at f17
  rw [ar_0_2_2] at f18
  rw [ar_0_102_2] at f18
  rw [ar_0_108_2] at f18
  rw [ar_0_109_2] at f18
  rw [ar_0_2_2] at f19
  rw [ar_0_2_2] at f20
  rw [ar_0_2_2] at f21
  have fe_0_5_1 : w_fi ws (n_v vs 0) 5 = w_fi w1 (n_v vs 0) 5 := congrArg v_iv (s1.2 _ _)
  have fe_0_100_1 : w_fi ws (n_v vs 0) 100 = w_fi w1 (n_v vs 0) 100 := congrArg v_iv (s1.2 _ _)
  have fe_0_107_1 : w_fi ws (n_v vs 0) 107 = w_fi w1 (n_v vs 0) 107 := congrArg v_iv (s1.2 _ _)
  have fe_0_5_2 : w_fi w1 (n_v vs 0) 5 = w_fi w2 (n_v vs 0) 5 := congrArg v_iv (s2.2 _ _)
  have fe_0_100_2 : w_fi w1 (n_v vs 0) 100 = w_fi w2 (n_v vs 0) 100 := congrArg v_iv (s2.2 _ _)
  have fe_0_107_2 : w_fi w1 (n_v vs 0) 107 = w_fi w2 (n_v vs 0) 107 := congrArg v_iv (s2.2 _ _)
  have hE_0_2_1 : ∀ j : Int, w_ei ws (w_ar ws (n_v vs 0) 2) j = w_ei w1 (w_ar ws (n_v vs 0) 2) j := fun j => by unfold w_ei; rw [s1.1, if_neg (fun e => by have e1 := e.1; rw [← e1] at r11; rw [cr_0_2] at r11; exact absurd (Option.some.inj r11) (by decide))]
  have hE_0_2_2 : ∀ j : Int, w_ei w1 (w_ar ws (n_v vs 0) 2) j = w_ei w2 (w_ar ws (n_v vs 0) 2) j := fun j => by unfold w_ei; rw [s2.1, if_neg (fun e => by have e1 := e.1; rw [← e1] at r8; rw [cr_0_2] at r8; exact absurd (Option.some.inj r8) (by decide))]
  have hE_0_95_1 : ∀ j : Int, w_ei ws (w_ar ws (n_v vs 0) 95) j = w_ei w1 (w_ar ws (n_v vs 0) 95) j := fun j => by unfold w_ei; rw [s1.1, if_neg (fun e => by have e1 := e.1; rw [← e1] at r11; rw [cr_0_95] at r11; exact absurd (Option.some.inj r11) (by decide))]
  have hE_0_95_2 : ∀ j : Int, w_ei w1 (w_ar ws (n_v vs 0) 95) j = w_ei w2 (w_ar ws (n_v vs 0) 95) j := fun j => by unfold w_ei; rw [s2.1, if_neg (fun e => by have e1 := e.1; rw [← e1] at r8; rw [cr_0_95] at r8; exact absurd (Option.some.inj r8) (by decide))]
  have hK_0_95 : ∀ j : Int, 0 ≤ j → j < 48 → 0 ≤ w_ei ws (w_ar ws (n_v vs 0) 95) j ∧ w_ei ws (w_ar ws (n_v vs 0) 95) j ≤ 1 := fun j h0 h1 => th_el hD hth cr_0_95 (kd := 2) (n := 48) (m := 48) (lo := 0) (hi := 1) (rs := []) (L := []) rfl (by decide) (j := j.toNat) (by omega)
  have hE_0_102_1 : ∀ j : Int, w_ei ws (w_ar ws (n_v vs 0) 102) j = w_ei w1 (w_ar ws (n_v vs 0) 102) j := fun j => by unfold w_ei; rw [s1.1, if_neg (fun e => by have e1 := e.1; rw [← e1] at r11; rw [cr_0_102] at r11; exact absurd (Option.some.inj r11) (by decide))]
  have hE_0_102_2 : ∀ j : Int, 0 ≤ j → (j = v_iv (n_v vs 7) → w_ei w1 (w_ar ws (n_v vs 0) 102) j = v_iv (n_v vs 6)) ∧ (j ≠ v_iv (n_v vs 7) → w_ei w1 (w_ar ws (n_v vs 0) 102) j = w_ei w2 (w_ar ws (n_v vs 0) 102) j) := fun j hj => ⟨fun h => by unfold w_ei; rw [s2.1, if_pos ⟨ad_8.symm, by rw [h]⟩], fun h => by unfold w_ei; rw [s2.1, if_neg (fun e => h (by have := e.2; omega))]⟩
  have hK_0_102 : ∀ j : Int, 0 ≤ j → j < 76 → 0 ≤ w_ei ws (w_ar ws (n_v vs 0) 102) j ∧ w_ei ws (w_ar ws (n_v vs 0) 102) j ≤ 75 := fun j h0 h1 => th_el hD hth cr_0_102 (kd := 0) (n := 76) (m := 76) (lo := 0) (hi := 75) (rs := []) (L := []) rfl (by decide) (j := j.toNat) (by omega)
  have hE_0_103_1 : ∀ j : Int, 0 ≤ j → (j = v_iv (n_v vs 7) → w_ei ws (w_ar ws (n_v vs 0) 103) j = v_iv (n_v vs 4)) ∧ (j ≠ v_iv (n_v vs 7) → w_ei ws (w_ar ws (n_v vs 0) 103) j = w_ei w1 (w_ar ws (n_v vs 0) 103) j) := fun j hj => ⟨fun h => by unfold w_ei; rw [s1.1, if_pos ⟨ad_11.symm, by rw [h]⟩], fun h => by unfold w_ei; rw [s1.1, if_neg (fun e => h (by have := e.2; omega))]⟩
  have hE_0_103_2 : ∀ j : Int, w_ei w1 (w_ar ws (n_v vs 0) 103) j = w_ei w2 (w_ar ws (n_v vs 0) 103) j := fun j => by unfold w_ei; rw [s2.1, if_neg (fun e => by have e1 := e.1; rw [← e1] at r8; rw [cr_0_103] at r8; exact absurd (Option.some.inj r8) (by decide))]
  have hK_0_103 : ∀ j : Int, 0 ≤ j → j < 76 → 0 ≤ w_ei ws (w_ar ws (n_v vs 0) 103) j ∧ w_ei ws (w_ar ws (n_v vs 0) 103) j ≤ 47 := fun j h0 h1 => th_el hD hth cr_0_103 (kd := 0) (n := 76) (m := 76) (lo := 0) (hi := 47) (rs := []) (L := []) rfl (by decide) (j := j.toNat) (by omega)
  have hE_0_104_1 : ∀ j : Int, w_ei ws (w_ar ws (n_v vs 0) 104) j = w_ei w1 (w_ar ws (n_v vs 0) 104) j := fun j => by unfold w_ei; rw [s1.1, if_neg (fun e => by have e1 := e.1; rw [← e1] at r11; rw [cr_0_104] at r11; exact absurd (Option.some.inj r11) (by decide))]
  have hE_0_104_2 : ∀ j : Int, w_ei w1 (w_ar ws (n_v vs 0) 104) j = w_ei w2 (w_ar ws (n_v vs 0) 104) j := fun j => by unfold w_ei; rw [s2.1, if_neg (fun e => by have e1 := e.1; rw [← e1] at r8; rw [cr_0_104] at r8; exact absurd (Option.some.inj r8) (by decide))]
  have hK_0_104 : ∀ j : Int, 0 ≤ j → j < 48 → 0 ≤ w_ei ws (w_ar ws (n_v vs 0) 104) j ∧ w_ei ws (w_ar ws (n_v vs 0) 104) j ≤ 76 := fun j h0 h1 => th_el hD hth cr_0_104 (kd := 0) (n := 48) (m := 48) (lo := 0) (hi := 76) (rs := []) (L := []) rfl (by decide) (j := j.toNat) (by omega)
  have hE_0_108_1 : ∀ j : Int, w_ei ws (w_ar ws (n_v vs 0) 108) j = w_ei w1 (w_ar ws (n_v vs 0) 108) j := fun j => by unfold w_ei; rw [s1.1, if_neg (fun e => by have e1 := e.1; rw [← e1] at r11; rw [cr_0_108] at r11; exact absurd (Option.some.inj r11) (by decide))]
  have hE_0_108_2 : ∀ j : Int, w_ei w1 (w_ar ws (n_v vs 0) 108) j = w_ei w2 (w_ar ws (n_v vs 0) 108) j := fun j => by unfold w_ei; rw [s2.1, if_neg (fun e => by have e1 := e.1; rw [← e1] at r8; rw [cr_0_108] at r8; exact absurd (Option.some.inj r8) (by decide))]
  have hK_0_108 : ∀ j : Int, 0 ≤ j → j < 130 → 0 ≤ w_ei ws (w_ar ws (n_v vs 0) 108) j ∧ w_ei ws (w_ar ws (n_v vs 0) 108) j ≤ 75 := fun j h0 h1 => th_el hD hth cr_0_108 (kd := 0) (n := 130) (m := 130) (lo := 0) (hi := 75) (rs := []) (L := []) rfl (by decide) (j := j.toNat) (by omega)
  have hE_0_109_1 : ∀ j : Int, w_ei ws (w_ar ws (n_v vs 0) 109) j = w_ei w1 (w_ar ws (n_v vs 0) 109) j := fun j => by unfold w_ei; rw [s1.1, if_neg (fun e => by have e1 := e.1; rw [← e1] at r11; rw [cr_0_109] at r11; exact absurd (Option.some.inj r11) (by decide))]
  have hE_0_109_2 : ∀ j : Int, w_ei w1 (w_ar ws (n_v vs 0) 109) j = w_ei w2 (w_ar ws (n_v vs 0) 109) j := fun j => by unfold w_ei; rw [s2.1, if_neg (fun e => by have e1 := e.1; rw [← e1] at r8; rw [cr_0_109] at r8; exact absurd (Option.some.inj r8) (by decide))]
  have hK_0_109 : ∀ j : Int, 0 ≤ j → j < 130 → 0 ≤ w_ei ws (w_ar ws (n_v vs 0) 109) j ∧ w_ei ws (w_ar ws (n_v vs 0) 109) j ≤ 75 := fun j h0 h1 => th_el hD hth cr_0_109 (kd := 0) (n := 130) (m := 130) (lo := 0) (hi := 75) (rs := []) (L := []) rfl (by decide) (j := j.toNat) (by omega)
  have kz_0_100 : 0 ≤ w_fi ws (n_v vs 0) 100 ∧ w_fi ws (n_v vs 0) 100 ≤ 76 := tv_rng (th_fd hD hth r0 (g := GG_150) rfl (k := 100) (t := (0, 0, 76, [])) rfl rfl)
  have kz_0_107 : 0 ≤ w_fi ws (n_v vs 0) 107 ∧ w_fi ws (n_v vs 0) 107 ≤ 130 := tv_rng (th_fd hD hth r0 (g := GG_150) rfl (k := 107) (t := (0, 0, 130, [])) rfl rfl)
  have kv0 : 0 ≤ w_fi ws (n_v vs 0) 107 ∧ w_fi ws (n_v vs 0) 107 ≤ 130 := tv_rng (th_fd hD hth r0 (g := GG_150) rfl (k := 107) (t := (0, 0, 130, [])) rfl rfl)
  obtain ⟨x, ex, hx⟩ := iv_ex (ta := ta) (lo := 0) (hi := 129) (z := w_fi ws (n_v vs 0) 107) (by omega) (by omega) (by omega) (by omega)
  have ex2 : v_iv (Value.int x) = w_fi ws (n_v vs 0) 107 := ex
  have ex3 : 0 ≤ v_iv (Value.int x) ∧ v_iv (Value.int x) ≤ 129 := tv_rng hx
  have e_2 : n_v (vs ++ [Value.int x]) 2 = n_v vs 2 := n_v_old (by rw [hl]; decide)
  have e_4 : n_v (vs ++ [Value.int x]) 4 = n_v vs 4 := n_v_old (by rw [hl]; decide)
  have e_5 : n_v (vs ++ [Value.int x]) 5 = n_v vs 5 := n_v_old (by rw [hl]; decide)
  have e_6 : n_v (vs ++ [Value.int x]) 6 = n_v vs 6 := n_v_old (by rw [hl]; decide)
  have e_7 : n_v (vs ++ [Value.int x]) 7 = n_v vs 7 := n_v_old (by rw [hl]; decide)
  have e_12 : n_v (vs ++ [Value.int x]) 12 = Value.int x := n_v_new hl
  have nf0 : fc_1 PRD (20, [2, 4, 5, 6], [60, 2, 4, 386, 5, 100, 2, 95, 102, 104]) ws (vs ++ [Value.int x]) := by
    refine ⟨fun n hn => ?_, ?_⟩
    · have hn : n ∈ [2, 4, 5, 6] := hn
      rw [List.length_append, hl]
      simp only [List.mem_cons, List.not_mem_nil, or_false] at hn
      show n < 12 + 1; omega
    · show LIE (w_fi ws (n_v (vs ++ [Value.int x]) 2) 5) (w_fi ws (n_v (vs ++ [Value.int x]) 2) 100) (w_ei ws (w_ar ws (n_v (vs ++ [Value.int x]) 2) 2)) (w_ei ws (w_ar ws (n_v (vs ++ [Value.int x]) 2) 95)) (w_ei ws (w_ar ws (n_v (vs ++ [Value.int x]) 2) 102)) (w_ei ws (w_ar ws (n_v (vs ++ [Value.int x]) 2) 104)) (v_iv (n_v (vs ++ [Value.int x]) 4)) (v_iv (n_v (vs ++ [Value.int x]) 5)) (v_iv (n_v (vs ++ [Value.int x]) 6))
      rw [e_2]
      rw [e_4]
      rw [e_5]
      rw [e_6]
      rw [q2]
      exact vc_Mo_list_7_0 (v_iv (n_v vs 4)) (v_iv (n_v vs 5)) (v_iv (n_v vs 6)) (v_iv (n_v vs 7)) (v_iv (n_v vs 9)) (v_iv (n_v vs 10)) (w_fi ws (n_v vs 0) 100) (w_ei ws (w_ar ws (n_v vs 0) 2)) (w_ei ws (w_ar ws (n_v vs 0) 95)) (w_fi ws (n_v vs 0) 5) (w_fi ws (n_v vs 0) 107) (w_ei w1 (w_ar ws (n_v vs 0) 2)) (w_ei w1 (w_ar ws (n_v vs 0) 95)) (w_fi w1 (n_v vs 0) 5) (w_fi w1 (n_v vs 0) 107) (w_fi w1 (n_v vs 0) 100) (w_ei w2 (w_ar ws (n_v vs 0) 102)) (w_ei w2 (w_ar ws (n_v vs 0) 2)) (w_ei w2 (w_ar ws (n_v vs 0) 95)) (w_fi w2 (n_v vs 0) 5) (w_ei w2 (w_ar ws (n_v vs 0) 104)) (w_fi w2 (n_v vs 0) 100) (w_ei w2 (w_ar ws (n_v vs 0) 108)) (w_ei w2 (w_ar ws (n_v vs 0) 109)) (w_fi w2 (n_v vs 0) 107) (w_ei ws (w_ar ws (n_v vs 0) 102)) (w_ei w1 (w_ar ws (n_v vs 0) 102)) (w_ei ws (w_ar ws (n_v vs 0) 103)) (w_ei w1 (w_ar ws (n_v vs 0) 103)) (w_ei w2 (w_ar ws (n_v vs 0) 103)) (w_ei ws (w_ar ws (n_v vs 0) 104)) (w_ei w1 (w_ar ws (n_v vs 0) 104)) (w_ei ws (w_ar ws (n_v vs 0) 108)) (w_ei w1 (w_ar ws (n_v vs 0) 108)) (w_ei ws (w_ar ws (n_v vs 0) 109)) (w_ei w1 (w_ar ws (n_v vs 0) 109)) (v_iv (Value.int x)) k4 k5 k6 k7 k9 k10 d0 d1 g0 f1 f2 f3 f4 f8 f9 f10 f11 f14 h15 f16 f17 f18 f19 f20 f21 fe_0_5_1 fe_0_100_1 fe_0_107_1 fe_0_5_2 fe_0_100_2 fe_0_107_2 hE_0_2_1 hE_0_2_2 hE_0_95_1 hE_0_95_2 hK_0_95 hE_0_102_1 hE_0_102_2 hK_0_102 hE_0_103_1 hE_0_103_2 hK_0_103 hE_0_104_1 hE_0_104_2 hK_0_104 hE_0_108_1 hE_0_108_2 hK_0_108 hE_0_109_1 hE_0_109_2 hK_0_109 kz_0_100 kz_0_107 ex2 ex3
  have nf1 : fc_1 PRD (20, [2, 12], [50, 1, 0, 107, 1, 3, 2, 0, 107, 1, 1]) ws (vs ++ [Value.int x]) := by
    refine ⟨fun n hn => ?_, ?_⟩
    · have hn : n ∈ [2, 12] := hn
      rw [List.length_append, hl]
      simp only [List.mem_cons, List.not_mem_nil, or_false] at hn
      show n < 12 + 1; omega
    · show w_fi ws (n_v (vs ++ [Value.int x]) 2) 107 = v_iv (n_v (vs ++ [Value.int x]) 12)
      rw [e_2]
      rw [e_12]
      rw [q2]
      exact vc_Mo_list_7_1 (v_iv (n_v vs 4)) (v_iv (n_v vs 5)) (v_iv (n_v vs 6)) (v_iv (n_v vs 7)) (v_iv (n_v vs 9)) (v_iv (n_v vs 10)) (w_fi ws (n_v vs 0) 100) (w_ei ws (w_ar ws (n_v vs 0) 2)) (w_ei ws (w_ar ws (n_v vs 0) 95)) (w_fi ws (n_v vs 0) 5) (w_fi ws (n_v vs 0) 107) (w_ei w1 (w_ar ws (n_v vs 0) 2)) (w_ei w1 (w_ar ws (n_v vs 0) 95)) (w_fi w1 (n_v vs 0) 5) (w_fi w1 (n_v vs 0) 107) (w_fi w1 (n_v vs 0) 100) (w_ei w2 (w_ar ws (n_v vs 0) 102)) (w_ei w2 (w_ar ws (n_v vs 0) 2)) (w_ei w2 (w_ar ws (n_v vs 0) 95)) (w_fi w2 (n_v vs 0) 5) (w_ei w2 (w_ar ws (n_v vs 0) 104)) (w_fi w2 (n_v vs 0) 100) (w_ei w2 (w_ar ws (n_v vs 0) 108)) (w_ei w2 (w_ar ws (n_v vs 0) 109)) (w_fi w2 (n_v vs 0) 107) (w_ei ws (w_ar ws (n_v vs 0) 102)) (w_ei w1 (w_ar ws (n_v vs 0) 102)) (w_ei ws (w_ar ws (n_v vs 0) 103)) (w_ei w1 (w_ar ws (n_v vs 0) 103)) (w_ei w2 (w_ar ws (n_v vs 0) 103)) (w_ei ws (w_ar ws (n_v vs 0) 104)) (w_ei w1 (w_ar ws (n_v vs 0) 104)) (w_ei ws (w_ar ws (n_v vs 0) 108)) (w_ei w1 (w_ar ws (n_v vs 0) 108)) (w_ei ws (w_ar ws (n_v vs 0) 109)) (w_ei w1 (w_ar ws (n_v vs 0) 109)) (v_iv (Value.int x)) k4 k5 k6 k7 k9 k10 d0 d1 g0 f1 f2 f3 f4 f8 f9 f10 f11 f14 h15 f16 f17 f18 f19 f20 f21 fe_0_5_1 fe_0_100_1 fe_0_107_1 fe_0_5_2 fe_0_100_2 fe_0_107_2 hE_0_2_1 hE_0_2_2 hE_0_95_1 hE_0_95_2 hK_0_95 hE_0_102_1 hE_0_102_2 hK_0_102 hE_0_103_1 hE_0_103_2 hK_0_103 hE_0_104_1 hE_0_104_2 hK_0_104 hE_0_108_1 hE_0_108_2 hK_0_108 hE_0_109_1 hE_0_109_2 hK_0_109 kz_0_100 kz_0_107 ex2 ex3
  have nf2 : fc_1 PRD (20, [2], [60, 3, 4, 363, 5, 107, 100, 2, 102, 108, 109]) ws (vs ++ [Value.int x]) := by
    refine ⟨fun n hn => ?_, ?_⟩
    · have hn : n ∈ [2] := hn
      rw [List.length_append, hl]
      simp only [List.mem_cons, List.not_mem_nil, or_false] at hn
      show n < 12 + 1; omega
    · show LNP (w_fi ws (n_v (vs ++ [Value.int x]) 2) 5) (w_fi ws (n_v (vs ++ [Value.int x]) 2) 107) (w_fi ws (n_v (vs ++ [Value.int x]) 2) 100) (w_ei ws (w_ar ws (n_v (vs ++ [Value.int x]) 2) 2)) (w_ei ws (w_ar ws (n_v (vs ++ [Value.int x]) 2) 102)) (w_ei ws (w_ar ws (n_v (vs ++ [Value.int x]) 2) 108)) (w_ei ws (w_ar ws (n_v (vs ++ [Value.int x]) 2) 109))
      rw [e_2]
      rw [q2]
      exact vc_Mo_list_7_2 (v_iv (n_v vs 4)) (v_iv (n_v vs 5)) (v_iv (n_v vs 6)) (v_iv (n_v vs 7)) (v_iv (n_v vs 9)) (v_iv (n_v vs 10)) (w_fi ws (n_v vs 0) 100) (w_ei ws (w_ar ws (n_v vs 0) 2)) (w_ei ws (w_ar ws (n_v vs 0) 95)) (w_fi ws (n_v vs 0) 5) (w_fi ws (n_v vs 0) 107) (w_ei w1 (w_ar ws (n_v vs 0) 2)) (w_ei w1 (w_ar ws (n_v vs 0) 95)) (w_fi w1 (n_v vs 0) 5) (w_fi w1 (n_v vs 0) 107) (w_fi w1 (n_v vs 0) 100) (w_ei w2 (w_ar ws (n_v vs 0) 102)) (w_ei w2 (w_ar ws (n_v vs 0) 2)) (w_ei w2 (w_ar ws (n_v vs 0) 95)) (w_fi w2 (n_v vs 0) 5) (w_ei w2 (w_ar ws (n_v vs 0) 104)) (w_fi w2 (n_v vs 0) 100) (w_ei w2 (w_ar ws (n_v vs 0) 108)) (w_ei w2 (w_ar ws (n_v vs 0) 109)) (w_fi w2 (n_v vs 0) 107) (w_ei ws (w_ar ws (n_v vs 0) 102)) (w_ei w1 (w_ar ws (n_v vs 0) 102)) (w_ei ws (w_ar ws (n_v vs 0) 103)) (w_ei w1 (w_ar ws (n_v vs 0) 103)) (w_ei w2 (w_ar ws (n_v vs 0) 103)) (w_ei ws (w_ar ws (n_v vs 0) 104)) (w_ei w1 (w_ar ws (n_v vs 0) 104)) (w_ei ws (w_ar ws (n_v vs 0) 108)) (w_ei w1 (w_ar ws (n_v vs 0) 108)) (w_ei ws (w_ar ws (n_v vs 0) 109)) (w_ei w1 (w_ar ws (n_v vs 0) 109)) (v_iv (Value.int x)) k4 k5 k6 k7 k9 k10 d0 d1 g0 f1 f2 f3 f4 f8 f9 f10 f11 f14 h15 f16 f17 f18 f19 f20 f21 fe_0_5_1 fe_0_100_1 fe_0_107_1 fe_0_5_2 fe_0_100_2 fe_0_107_2 hE_0_2_1 hE_0_2_2 hE_0_95_1 hE_0_95_2 hK_0_95 hE_0_102_1 hE_0_102_2 hK_0_102 hE_0_103_1 hE_0_103_2 hK_0_103 hE_0_104_1 hE_0_104_2 hK_0_104 hE_0_108_1 hE_0_108_2 hK_0_108 hE_0_109_1 hE_0_109_2 hK_0_109 kz_0_100 kz_0_107 ex2 ex3
  have nf3 : fc_1 PRD (20, [2, 5, 7], [60, 2, 2, 389, 5, 100, 2, 102]) ws (vs ++ [Value.int x]) := by
    refine ⟨fun n hn => ?_, ?_⟩
    · have hn : n ∈ [2, 5, 7] := hn
      rw [List.length_append, hl]
      simp only [List.mem_cons, List.not_mem_nil, or_false] at hn
      show n < 12 + 1; omega
    · show LNM (w_fi ws (n_v (vs ++ [Value.int x]) 2) 5) (w_fi ws (n_v (vs ++ [Value.int x]) 2) 100) (w_ei ws (w_ar ws (n_v (vs ++ [Value.int x]) 2) 2)) (w_ei ws (w_ar ws (n_v (vs ++ [Value.int x]) 2) 102)) (v_iv (n_v (vs ++ [Value.int x]) 5)) (v_iv (n_v (vs ++ [Value.int x]) 7))
      rw [e_2]
      rw [e_5]
      rw [e_7]
      rw [q2]
      exact vc_Mo_list_7_3 (v_iv (n_v vs 4)) (v_iv (n_v vs 5)) (v_iv (n_v vs 6)) (v_iv (n_v vs 7)) (v_iv (n_v vs 9)) (v_iv (n_v vs 10)) (w_fi ws (n_v vs 0) 100) (w_ei ws (w_ar ws (n_v vs 0) 2)) (w_ei ws (w_ar ws (n_v vs 0) 95)) (w_fi ws (n_v vs 0) 5) (w_fi ws (n_v vs 0) 107) (w_ei w1 (w_ar ws (n_v vs 0) 2)) (w_ei w1 (w_ar ws (n_v vs 0) 95)) (w_fi w1 (n_v vs 0) 5) (w_fi w1 (n_v vs 0) 107) (w_fi w1 (n_v vs 0) 100) (w_ei w2 (w_ar ws (n_v vs 0) 102)) (w_ei w2 (w_ar ws (n_v vs 0) 2)) (w_ei w2 (w_ar ws (n_v vs 0) 95)) (w_fi w2 (n_v vs 0) 5) (w_ei w2 (w_ar ws (n_v vs 0) 104)) (w_fi w2 (n_v vs 0) 100) (w_ei w2 (w_ar ws (n_v vs 0) 108)) (w_ei w2 (w_ar ws (n_v vs 0) 109)) (w_fi w2 (n_v vs 0) 107) (w_ei ws (w_ar ws (n_v vs 0) 102)) (w_ei w1 (w_ar ws (n_v vs 0) 102)) (w_ei ws (w_ar ws (n_v vs 0) 103)) (w_ei w1 (w_ar ws (n_v vs 0) 103)) (w_ei w2 (w_ar ws (n_v vs 0) 103)) (w_ei ws (w_ar ws (n_v vs 0) 104)) (w_ei w1 (w_ar ws (n_v vs 0) 104)) (w_ei ws (w_ar ws (n_v vs 0) 108)) (w_ei w1 (w_ar ws (n_v vs 0) 108)) (w_ei ws (w_ar ws (n_v vs 0) 109)) (w_ei w1 (w_ar ws (n_v vs 0) 109)) (v_iv (Value.int x)) k4 k5 k6 k7 k9 k10 d0 d1 g0 f1 f2 f3 f4 f8 f9 f10 f11 f14 h15 f16 f17 f18 f19 f20 f21 fe_0_5_1 fe_0_100_1 fe_0_107_1 fe_0_5_2 fe_0_100_2 fe_0_107_2 hE_0_2_1 hE_0_2_2 hE_0_95_1 hE_0_95_2 hK_0_95 hE_0_102_1 hE_0_102_2 hK_0_102 hE_0_103_1 hE_0_103_2 hK_0_103 hE_0_104_1 hE_0_104_2 hK_0_104 hE_0_108_1 hE_0_108_2 hK_0_108 hE_0_109_1 hE_0_109_2 hK_0_109 kz_0_100 kz_0_107 ex2 ex3
  have nf4 : fc_1 PRD (20, [12, 2, 4], [50, 2, 1, 1100, 1005, 1002, 1, 2, 1, 0, 4, 11, 5, 3, 2, 1, 100, 3, 1, 2, 2, 1, 5, 1, 2]) ws (vs ++ [Value.int x]) := by
    refine ⟨fun n hn => ?_, ?_⟩
    · have hn : n ∈ [12, 2, 4] := hn
      rw [List.length_append, hl]
      simp only [List.mem_cons, List.not_mem_nil, or_false] at hn
      show n < 12 + 1; omega
    · show v_iv (n_v (vs ++ [Value.int x]) 12) = ((w_fi ws (n_v (vs ++ [Value.int x]) 2) 100 - w_ei ws (w_ar ws (n_v (vs ++ [Value.int x]) 2) 2) (w_fi ws (n_v (vs ++ [Value.int x]) 2) 5)) + v_iv (n_v (vs ++ [Value.int x]) 4))
      rw [e_2]
      rw [e_4]
      rw [e_12]
      rw [q2]
      exact vc_Mo_list_7_4 (v_iv (n_v vs 4)) (v_iv (n_v vs 5)) (v_iv (n_v vs 6)) (v_iv (n_v vs 7)) (v_iv (n_v vs 9)) (v_iv (n_v vs 10)) (w_fi ws (n_v vs 0) 100) (w_ei ws (w_ar ws (n_v vs 0) 2)) (w_ei ws (w_ar ws (n_v vs 0) 95)) (w_fi ws (n_v vs 0) 5) (w_fi ws (n_v vs 0) 107) (w_ei w1 (w_ar ws (n_v vs 0) 2)) (w_ei w1 (w_ar ws (n_v vs 0) 95)) (w_fi w1 (n_v vs 0) 5) (w_fi w1 (n_v vs 0) 107) (w_fi w1 (n_v vs 0) 100) (w_ei w2 (w_ar ws (n_v vs 0) 102)) (w_ei w2 (w_ar ws (n_v vs 0) 2)) (w_ei w2 (w_ar ws (n_v vs 0) 95)) (w_fi w2 (n_v vs 0) 5) (w_ei w2 (w_ar ws (n_v vs 0) 104)) (w_fi w2 (n_v vs 0) 100) (w_ei w2 (w_ar ws (n_v vs 0) 108)) (w_ei w2 (w_ar ws (n_v vs 0) 109)) (w_fi w2 (n_v vs 0) 107) (w_ei ws (w_ar ws (n_v vs 0) 102)) (w_ei w1 (w_ar ws (n_v vs 0) 102)) (w_ei ws (w_ar ws (n_v vs 0) 103)) (w_ei w1 (w_ar ws (n_v vs 0) 103)) (w_ei w2 (w_ar ws (n_v vs 0) 103)) (w_ei ws (w_ar ws (n_v vs 0) 104)) (w_ei w1 (w_ar ws (n_v vs 0) 104)) (w_ei ws (w_ar ws (n_v vs 0) 108)) (w_ei w1 (w_ar ws (n_v vs 0) 108)) (w_ei ws (w_ar ws (n_v vs 0) 109)) (w_ei w1 (w_ar ws (n_v vs 0) 109)) (v_iv (Value.int x)) k4 k5 k6 k7 k9 k10 d0 d1 g0 f1 f2 f3 f4 f8 f9 f10 f11 f14 h15 f16 f17 f18 f19 f20 f21 fe_0_5_1 fe_0_100_1 fe_0_107_1 fe_0_5_2 fe_0_100_2 fe_0_107_2 hE_0_2_1 hE_0_2_2 hE_0_95_1 hE_0_95_2 hK_0_95 hE_0_102_1 hE_0_102_2 hK_0_102 hE_0_103_1 hE_0_103_2 hK_0_103 hE_0_104_1 hE_0_104_2 hK_0_104 hE_0_108_1 hE_0_108_2 hK_0_108 hE_0_109_1 hE_0_109_2 hK_0_109 kz_0_100 kz_0_107 ex2 ex3
  exact ⟨(fun _ h => (by cases h)), [Value.int x], ag_one hx, List.forall_mem_cons.mpr ⟨⟨show (20 : Nat) < 100 from by decide, nf0⟩, List.forall_mem_cons.mpr ⟨⟨show (20 : Nat) < 100 from by decide, nf1⟩, List.forall_mem_cons.mpr ⟨⟨show (20 : Nat) < 100 from by decide, nf2⟩, List.forall_mem_cons.mpr ⟨⟨show (20 : Nat) < 100 from by decide, nf3⟩, List.forall_mem_cons.mpr ⟨⟨show (20 : Nat) < 100 from by decide, nf4⟩, (fun _ h => (by cases h))⟩⟩⟩⟩⟩, (fun _ h => (by cases h))⟩
set_option maxHeartbeats 4000000 in
theorem vc_Mo_list_8_0 (x4 : Int) (x5 : Int) (x6 : Int) (x7 : Int) (x9 : Int) (x10 : Int) (x12 : Int) (x13 : Int) (x14 : Int) (x15 : Int) (all_0 : Int → Int) (turned_0 : Int → Int) (r_0 : Int) (lines_0 : Int) (items_1 : Int) (all_1 : Int → Int) (turned_1 : Int → Int) (itemLayer_1 : Int → Int) (firstJoint_1 : Int → Int) (r_1 : Int) (lines_1 : Int) (lineA_1 : Int → Int) (lineB_1 : Int → Int) (items_0 : Int) (itemLayer_0 : Int → Int) (firstJoint_0 : Int → Int) (lineA_0 : Int → Int) (lineB_0 : Int → Int) (k4 : 0 ≤ x4 ∧ x4 ≤ 47) (k5 : 0 ≤ x5 ∧ x5 ≤ 74) (k6 : 1 ≤ x6 ∧ x6 ≤ 23) (k7 : 0 ≤ x7 ∧ x7 ≤ 74) (k9 : 0 ≤ x9 ∧ x9 ≤ 23) (k10 : 2 ≤ x10 ∧ x10 ≤ 75) (k12 : 0 ≤ x12 ∧ x12 ≤ 129) (k13 : 1 ≤ x13 ∧ x13 ≤ 1) (k14 : 1 ≤ x14 ∧ x14 ≤ 75) (k15 : 2 ≤ x15 ∧ x15 ≤ 24) (d0 : x6 + 1 ≤ x15 ∧ x15 ≤ x6 + 1) (d1 : x10 + (-4294967296) ≤ x15 ∧ x15 ≤ x10 + 0) (d2 : x7 + 1 ≤ x14 ∧ x14 ≤ x7 + 1) (d3 : x10 + (-4294967296) ≤ x6 ∧ x6 ≤ x10 + (-1)) (d4 : x7 + (-4294967296) ≤ x5 ∧ x5 ≤ x7 + 23) (f0 : x15 = x6 + 1) (f1 : TOO (r_0) (all_0) (turned_0) (x4) (x9)) (f2 : (x4 + 1) ≤ all_0 ((r_0 + 1))) (f3 : 0 ≤ all_0 (r_0)) (f5 : lines_0 = (x12 + 1)) (f7 : x14 = x7 + x13) (g8 : x7 = items_1) (f9 : LIE (r_1) (items_1) (all_1) (turned_1) (itemLayer_1) (firstJoint_1) (x4) (x5) (x6)) (f10 : LNM (r_1) (items_1) (all_1) (itemLayer_1) (x5) (x7)) (f11 : x12 = ((items_1 - all_1 (r_1)) + x4)) (f12 : TOO (r_1) (all_1) (turned_1) (x4) (x9)) (f13 : (x4 + 1) ≤ all_1 ((r_1 + 1))) (f14 : 0 ≤ all_1 (r_1)) (f15 : lines_1 = (x12 + 1)) (f16 : LNX (r_1) (lines_1) (items_1) (all_1) (itemLayer_1) (lineA_1) (lineB_1)) (f20 : x6 < x10) (fe_0_5_1 : r_0 = r_1) (fe_0_100_1 : items_0 = x14) (fe_0_107_1 : lines_0 = lines_1) (hE_0_2_1 : ∀ j : Int, all_0 j = all_1 j) (hE_0_95_1 : ∀ j : Int, turned_0 j = turned_1 j) (hK_0_95 : ∀ j : Int, 0 ≤ j → j < 48 → 0 ≤ turned_0 j ∧ turned_0 j ≤ 1) (hE_0_102_1 : ∀ j : Int, itemLayer_0 j = itemLayer_1 j) (hK_0_102 : ∀ j : Int, 0 ≤ j → j < 76 → 0 ≤ itemLayer_0 j ∧ itemLayer_0 j ≤ 75) (hE_0_104_1 : ∀ j : Int, firstJoint_0 j = firstJoint_1 j) (hK_0_104 : ∀ j : Int, 0 ≤ j → j < 48 → 0 ≤ firstJoint_0 j ∧ firstJoint_0 j ≤ 76) (hE_0_108_1 : ∀ j : Int, lineA_0 j = lineA_1 j) (hK_0_108 : ∀ j : Int, 0 ≤ j → j < 130 → 0 ≤ lineA_0 j ∧ lineA_0 j ≤ 75) (hE_0_109_1 : ∀ j : Int, lineB_0 j = lineB_1 j) (hK_0_109 : ∀ j : Int, 0 ≤ j → j < 130 → 0 ≤ lineB_0 j ∧ lineB_0 j ≤ 75) (kz_0_100 : 0 ≤ items_0 ∧ items_0 ≤ 76) (kz_0_107 : 0 ≤ lines_0 ∧ lines_0 ≤ 130) : LID (r_0) (items_0) (all_0) (turned_0) (itemLayer_0) (firstJoint_0) (x4) (x7) (x15) := by
  subst fe_0_5_1
  subst fe_0_107_1
  have e_hE_0_2_1 := funext hE_0_2_1; subst e_hE_0_2_1
  have e_hE_0_95_1 := funext hE_0_95_1; subst e_hE_0_95_1
  have e_hE_0_102_1 := funext hE_0_102_1; subst e_hE_0_102_1
  have e_hE_0_104_1 := funext hE_0_104_1; subst e_hE_0_104_1
  have e_hE_0_108_1 := funext hE_0_108_1; subst e_hE_0_108_1
  have e_hE_0_109_1 := funext hE_0_109_1; subst e_hE_0_109_1
  first
    | exact lid_start (a := x10) ‹LIC _ _ _ _ _ _ _› (by omega) (by assumption) rfl (by omega) (by assumption) (by assumption) (by assumption) (by omega)
    | exact lie_next ‹LIE _ _ _ _ _ _ _ _ _› (by omega) (by omega) (by omega)
set_option maxHeartbeats 4000000 in
theorem vc_Mo_list_8_1 (x4 : Int) (x5 : Int) (x6 : Int) (x7 : Int) (x9 : Int) (x10 : Int) (x12 : Int) (x13 : Int) (x14 : Int) (x15 : Int) (all_0 : Int → Int) (turned_0 : Int → Int) (r_0 : Int) (lines_0 : Int) (items_1 : Int) (all_1 : Int → Int) (turned_1 : Int → Int) (itemLayer_1 : Int → Int) (firstJoint_1 : Int → Int) (r_1 : Int) (lines_1 : Int) (lineA_1 : Int → Int) (lineB_1 : Int → Int) (items_0 : Int) (itemLayer_0 : Int → Int) (firstJoint_0 : Int → Int) (lineA_0 : Int → Int) (lineB_0 : Int → Int) (k4 : 0 ≤ x4 ∧ x4 ≤ 47) (k5 : 0 ≤ x5 ∧ x5 ≤ 74) (k6 : 1 ≤ x6 ∧ x6 ≤ 23) (k7 : 0 ≤ x7 ∧ x7 ≤ 74) (k9 : 0 ≤ x9 ∧ x9 ≤ 23) (k10 : 2 ≤ x10 ∧ x10 ≤ 75) (k12 : 0 ≤ x12 ∧ x12 ≤ 129) (k13 : 1 ≤ x13 ∧ x13 ≤ 1) (k14 : 1 ≤ x14 ∧ x14 ≤ 75) (k15 : 2 ≤ x15 ∧ x15 ≤ 24) (d0 : x6 + 1 ≤ x15 ∧ x15 ≤ x6 + 1) (d1 : x10 + (-4294967296) ≤ x15 ∧ x15 ≤ x10 + 0) (d2 : x7 + 1 ≤ x14 ∧ x14 ≤ x7 + 1) (d3 : x10 + (-4294967296) ≤ x6 ∧ x6 ≤ x10 + (-1)) (d4 : x7 + (-4294967296) ≤ x5 ∧ x5 ≤ x7 + 23) (f0 : x15 = x6 + 1) (f1 : TOO (r_0) (all_0) (turned_0) (x4) (x9)) (f2 : (x4 + 1) ≤ all_0 ((r_0 + 1))) (f3 : 0 ≤ all_0 (r_0)) (f5 : lines_0 = (x12 + 1)) (f7 : x14 = x7 + x13) (g8 : x7 = items_1) (f9 : LIE (r_1) (items_1) (all_1) (turned_1) (itemLayer_1) (firstJoint_1) (x4) (x5) (x6)) (f10 : LNM (r_1) (items_1) (all_1) (itemLayer_1) (x5) (x7)) (f11 : x12 = ((items_1 - all_1 (r_1)) + x4)) (f12 : TOO (r_1) (all_1) (turned_1) (x4) (x9)) (f13 : (x4 + 1) ≤ all_1 ((r_1 + 1))) (f14 : 0 ≤ all_1 (r_1)) (f15 : lines_1 = (x12 + 1)) (f16 : LNX (r_1) (lines_1) (items_1) (all_1) (itemLayer_1) (lineA_1) (lineB_1)) (f20 : x6 < x10) (fe_0_5_1 : r_0 = r_1) (fe_0_100_1 : items_0 = x14) (fe_0_107_1 : lines_0 = lines_1) (hE_0_2_1 : ∀ j : Int, all_0 j = all_1 j) (hE_0_95_1 : ∀ j : Int, turned_0 j = turned_1 j) (hK_0_95 : ∀ j : Int, 0 ≤ j → j < 48 → 0 ≤ turned_0 j ∧ turned_0 j ≤ 1) (hE_0_102_1 : ∀ j : Int, itemLayer_0 j = itemLayer_1 j) (hK_0_102 : ∀ j : Int, 0 ≤ j → j < 76 → 0 ≤ itemLayer_0 j ∧ itemLayer_0 j ≤ 75) (hE_0_104_1 : ∀ j : Int, firstJoint_0 j = firstJoint_1 j) (hK_0_104 : ∀ j : Int, 0 ≤ j → j < 48 → 0 ≤ firstJoint_0 j ∧ firstJoint_0 j ≤ 76) (hE_0_108_1 : ∀ j : Int, lineA_0 j = lineA_1 j) (hK_0_108 : ∀ j : Int, 0 ≤ j → j < 130 → 0 ≤ lineA_0 j ∧ lineA_0 j ≤ 75) (hE_0_109_1 : ∀ j : Int, lineB_0 j = lineB_1 j) (hK_0_109 : ∀ j : Int, 0 ≤ j → j < 130 → 0 ≤ lineB_0 j ∧ lineB_0 j ≤ 75) (kz_0_100 : 0 ≤ items_0 ∧ items_0 ≤ 76) (kz_0_107 : 0 ≤ lines_0 ∧ lines_0 ≤ 130) : LNP (r_0) (lines_0) (items_0) (all_0) (itemLayer_0) (lineA_0) (lineB_0) := by
  subst fe_0_5_1
  subst fe_0_107_1
  have e_hE_0_2_1 := funext hE_0_2_1; subst e_hE_0_2_1
  have e_hE_0_95_1 := funext hE_0_95_1; subst e_hE_0_95_1
  have e_hE_0_102_1 := funext hE_0_102_1; subst e_hE_0_102_1
  have e_hE_0_104_1 := funext hE_0_104_1; subst e_hE_0_104_1
  have e_hE_0_108_1 := funext hE_0_108_1; subst e_hE_0_108_1
  have e_hE_0_109_1 := funext hE_0_109_1; subst e_hE_0_109_1
  first
    | assumption
    | (have h := ‹LNX _ _ _ _ _ _ _›
       unfold LNX at h
       rw [show items_0 = items_1 + 1 by omega]
       exact h)
set_option maxHeartbeats 4000000 in
theorem vc_Mo_list_8_2 (x4 : Int) (x5 : Int) (x6 : Int) (x7 : Int) (x9 : Int) (x10 : Int) (x12 : Int) (x13 : Int) (x14 : Int) (x15 : Int) (all_0 : Int → Int) (turned_0 : Int → Int) (r_0 : Int) (lines_0 : Int) (items_1 : Int) (all_1 : Int → Int) (turned_1 : Int → Int) (itemLayer_1 : Int → Int) (firstJoint_1 : Int → Int) (r_1 : Int) (lines_1 : Int) (lineA_1 : Int → Int) (lineB_1 : Int → Int) (items_0 : Int) (itemLayer_0 : Int → Int) (firstJoint_0 : Int → Int) (lineA_0 : Int → Int) (lineB_0 : Int → Int) (k4 : 0 ≤ x4 ∧ x4 ≤ 47) (k5 : 0 ≤ x5 ∧ x5 ≤ 74) (k6 : 1 ≤ x6 ∧ x6 ≤ 23) (k7 : 0 ≤ x7 ∧ x7 ≤ 74) (k9 : 0 ≤ x9 ∧ x9 ≤ 23) (k10 : 2 ≤ x10 ∧ x10 ≤ 75) (k12 : 0 ≤ x12 ∧ x12 ≤ 129) (k13 : 1 ≤ x13 ∧ x13 ≤ 1) (k14 : 1 ≤ x14 ∧ x14 ≤ 75) (k15 : 2 ≤ x15 ∧ x15 ≤ 24) (d0 : x6 + 1 ≤ x15 ∧ x15 ≤ x6 + 1) (d1 : x10 + (-4294967296) ≤ x15 ∧ x15 ≤ x10 + 0) (d2 : x7 + 1 ≤ x14 ∧ x14 ≤ x7 + 1) (d3 : x10 + (-4294967296) ≤ x6 ∧ x6 ≤ x10 + (-1)) (d4 : x7 + (-4294967296) ≤ x5 ∧ x5 ≤ x7 + 23) (f0 : x15 = x6 + 1) (f1 : TOO (r_0) (all_0) (turned_0) (x4) (x9)) (f2 : (x4 + 1) ≤ all_0 ((r_0 + 1))) (f3 : 0 ≤ all_0 (r_0)) (f5 : lines_0 = (x12 + 1)) (f7 : x14 = x7 + x13) (g8 : x7 = items_1) (f9 : LIE (r_1) (items_1) (all_1) (turned_1) (itemLayer_1) (firstJoint_1) (x4) (x5) (x6)) (f10 : LNM (r_1) (items_1) (all_1) (itemLayer_1) (x5) (x7)) (f11 : x12 = ((items_1 - all_1 (r_1)) + x4)) (f12 : TOO (r_1) (all_1) (turned_1) (x4) (x9)) (f13 : (x4 + 1) ≤ all_1 ((r_1 + 1))) (f14 : 0 ≤ all_1 (r_1)) (f15 : lines_1 = (x12 + 1)) (f16 : LNX (r_1) (lines_1) (items_1) (all_1) (itemLayer_1) (lineA_1) (lineB_1)) (f20 : x6 < x10) (fe_0_5_1 : r_0 = r_1) (fe_0_100_1 : items_0 = x14) (fe_0_107_1 : lines_0 = lines_1) (hE_0_2_1 : ∀ j : Int, all_0 j = all_1 j) (hE_0_95_1 : ∀ j : Int, turned_0 j = turned_1 j) (hK_0_95 : ∀ j : Int, 0 ≤ j → j < 48 → 0 ≤ turned_0 j ∧ turned_0 j ≤ 1) (hE_0_102_1 : ∀ j : Int, itemLayer_0 j = itemLayer_1 j) (hK_0_102 : ∀ j : Int, 0 ≤ j → j < 76 → 0 ≤ itemLayer_0 j ∧ itemLayer_0 j ≤ 75) (hE_0_104_1 : ∀ j : Int, firstJoint_0 j = firstJoint_1 j) (hK_0_104 : ∀ j : Int, 0 ≤ j → j < 48 → 0 ≤ firstJoint_0 j ∧ firstJoint_0 j ≤ 76) (hE_0_108_1 : ∀ j : Int, lineA_0 j = lineA_1 j) (hK_0_108 : ∀ j : Int, 0 ≤ j → j < 130 → 0 ≤ lineA_0 j ∧ lineA_0 j ≤ 75) (hE_0_109_1 : ∀ j : Int, lineB_0 j = lineB_1 j) (hK_0_109 : ∀ j : Int, 0 ≤ j → j < 130 → 0 ≤ lineB_0 j ∧ lineB_0 j ≤ 75) (kz_0_100 : 0 ≤ items_0 ∧ items_0 ≤ 76) (kz_0_107 : 0 ≤ lines_0 ∧ lines_0 ≤ 130) : lines_0 = ((items_0 - all_0 (r_0)) + x4) := by
  subst fe_0_5_1
  subst fe_0_107_1
  have e_hE_0_2_1 := funext hE_0_2_1; subst e_hE_0_2_1
  have e_hE_0_95_1 := funext hE_0_95_1; subst e_hE_0_95_1
  have e_hE_0_102_1 := funext hE_0_102_1; subst e_hE_0_102_1
  have e_hE_0_104_1 := funext hE_0_104_1; subst e_hE_0_104_1
  have e_hE_0_108_1 := funext hE_0_108_1; subst e_hE_0_108_1
  have e_hE_0_109_1 := funext hE_0_109_1; subst e_hE_0_109_1
  try simp only [Int.add_zero] at *
  first
    | omega
    | (have h := lid_bd ‹LID _ _ _ _ _ _ _ _ _›; omega)
    | (have h := ‹LYJ _ _ _ _›.1.1.1; omega)
    | (have h := (lic_bd ‹LIC _ _ _ _ _ _ _›).1; omega)
    | (have h := (lic_bd ‹LIF _ _ _ _ _ _›).1; omega)
    | (have h := ‹LSA _ _ _ _ _ _ _ _ _ _›.2.1; omega)
    | (have h := lli_bd ‹LLI _ _ _ _ _ _›; have h2 := ‹LSA _ _ _ _ _ _ _ _ _ _›.2.1; omega)
def o_Mo_list_8 : or_T := (50, 16, [(0, (2, 0, 0, [150])), (2, (2, 0, 0, [150])), (4, (0, 0, 47, [])), (5, (0, 0, 74, [])), (6, (0, 1, 23, [])), (7, (0, 0, 74, [])), (8, (2, 0, 0, [220])), (9, (0, 0, 23, [])), (10, (0, 2, 75, [])), (11, (2, 0, 0, [221])), (12, (0, 0, 129, [])), (13, (0, 1, 1, [])), (14, (0, 1, 75, [])), (15, (0, 2, 24, []))], [(6, [15, 6], [1]), (20, [2, 4, 9], [60, 1, 2, 357, 5, 2, 95]), (20, [4, 2], [50, 1, 1, 1005, 1002, 0, 6, 4, 2, 1, 0, 0, 1, 3, 1, 2, 4, 3, 2, 1, 5, 0, 1]), (20, [2], [50, 1, 1, 5, 2, 0, 2, 0, 0, 3, 0, 2, 2, 0, 5]), (24, [0, 2], []), (20, [2, 12], [50, 1, 0, 107, 1, 3, 2, 0, 107, 4, 2, 1, 1, 0, 1]), (101, [2, 14], [100]), (1, [14, 7, 13], []), (9, [7, 2], [100]), (20, [2, 4, 5, 6], [60, 2, 4, 386, 5, 100, 2, 95, 102, 104]), (20, [2, 5, 7], [60, 2, 2, 389, 5, 100, 2, 102]), (20, [12, 2, 4], [50, 2, 1, 1100, 1005, 1002, 1, 2, 1, 0, 4, 11, 5, 3, 2, 1, 100, 3, 1, 2, 2, 1, 5, 1, 2]), (20, [2, 4, 9], [60, 1, 2, 357, 5, 2, 95]), (20, [4, 2], [50, 1, 1, 1005, 1002, 0, 6, 4, 2, 1, 0, 0, 1, 3, 1, 2, 4, 3, 2, 1, 5, 0, 1]), (20, [2], [50, 1, 1, 5, 2, 0, 2, 0, 0, 3, 0, 2, 2, 0, 5]), (20, [2, 12], [50, 1, 0, 107, 1, 3, 2, 0, 107, 4, 2, 1, 1, 0, 1]), (20, [2], [60, 3, 4, 364, 5, 107, 100, 2, 102, 108, 109]), (102, [12], [161759680002903838768002090522117784041822866535243434886621661495296, 13107]), (100, [11, 7, 4], []), (100, [8, 7, 6], []), (7, [6, 10], [2])], [], [], [(20, [2, 4, 7, 15], [60, 2, 4, 366, 5, 100, 2, 95, 102, 104]), (20, [2], [60, 3, 4, 363, 5, 107, 100, 2, 102, 108, 109]), (20, [2, 4], [50, 3, 1, 107, 100, 5, 2, 1, 3, 2, 0, 107, 4, 11, 5, 3, 2, 0, 100, 3, 0, 2, 2, 0, 5, 1, 1])], [], [(15, 6, 1, 1), (15, 10, -4294967296, 0), (14, 7, 1, 1), (6, 10, -4294967296, -1), (5, 7, -4294967296, 23)])
theorem oo_Mo_list_8 {kA : Nat → ClassId} : or_ok PRD kA GG o_Mo_list_8 := by
  intro A ta ws vs hD hth hl hk hds hf
  have hl : vs.length = 16 := hl
  have hk : ∀ q ∈ ([(0, (2, 0, 0, [150])), (2, (2, 0, 0, [150])), (4, (0, 0, 47, [])), (5, (0, 0, 74, [])), (6, (0, 1, 23, [])), (7, (0, 0, 74, [])), (8, (2, 0, 0, [220])), (9, (0, 0, 23, [])), (10, (0, 2, 75, [])), (11, (2, 0, 0, [221])), (12, (0, 0, 129, [])), (13, (0, 1, 1, [])), (14, (0, 1, 75, [])), (15, (0, 2, 24, []))] : List (Nat × tv_T)), tv_ok ta q.2 (n_v vs q.1) := hk
  obtain ⟨t0, hk⟩ := List.forall_mem_cons.mp hk
  have t0 : tv_ok ta (2, 0, 0, [150]) (n_v vs 0) := t0
  have r0 : ta (v_ad (n_v vs 0)) = some 150 := tv_rg t0
  obtain ⟨t2, hk⟩ := List.forall_mem_cons.mp hk
  have t2 : tv_ok ta (2, 0, 0, [150]) (n_v vs 2) := t2
  have r2 : ta (v_ad (n_v vs 2)) = some 150 := tv_rg t2
  obtain ⟨t4, hk⟩ := List.forall_mem_cons.mp hk
  have t4 : tv_ok ta (0, 0, 47, []) (n_v vs 4) := t4
  have k4 : 0 ≤ v_iv (n_v vs 4) ∧ v_iv (n_v vs 4) ≤ 47 := tv_rng t4
  obtain ⟨t5, hk⟩ := List.forall_mem_cons.mp hk
  have t5 : tv_ok ta (0, 0, 74, []) (n_v vs 5) := t5
  have k5 : 0 ≤ v_iv (n_v vs 5) ∧ v_iv (n_v vs 5) ≤ 74 := tv_rng t5
  obtain ⟨t6, hk⟩ := List.forall_mem_cons.mp hk
  have t6 : tv_ok ta (0, 1, 23, []) (n_v vs 6) := t6
  have k6 : 1 ≤ v_iv (n_v vs 6) ∧ v_iv (n_v vs 6) ≤ 23 := tv_rng t6
  obtain ⟨t7, hk⟩ := List.forall_mem_cons.mp hk
  have t7 : tv_ok ta (0, 0, 74, []) (n_v vs 7) := t7
  have k7 : 0 ≤ v_iv (n_v vs 7) ∧ v_iv (n_v vs 7) ≤ 74 := tv_rng t7
  obtain ⟨t8, hk⟩ := List.forall_mem_cons.mp hk
  have t8 : tv_ok ta (2, 0, 0, [220]) (n_v vs 8) := t8
  have r8 : ta (v_ad (n_v vs 8)) = some 220 := tv_rg t8
  obtain ⟨t9, hk⟩ := List.forall_mem_cons.mp hk
  have t9 : tv_ok ta (0, 0, 23, []) (n_v vs 9) := t9
  have k9 : 0 ≤ v_iv (n_v vs 9) ∧ v_iv (n_v vs 9) ≤ 23 := tv_rng t9
  obtain ⟨t10, hk⟩ := List.forall_mem_cons.mp hk
  have t10 : tv_ok ta (0, 2, 75, []) (n_v vs 10) := t10
  have k10 : 2 ≤ v_iv (n_v vs 10) ∧ v_iv (n_v vs 10) ≤ 75 := tv_rng t10
  obtain ⟨t11, hk⟩ := List.forall_mem_cons.mp hk
  have t11 : tv_ok ta (2, 0, 0, [221]) (n_v vs 11) := t11
  have r11 : ta (v_ad (n_v vs 11)) = some 221 := tv_rg t11
  obtain ⟨t12, hk⟩ := List.forall_mem_cons.mp hk
  have t12 : tv_ok ta (0, 0, 129, []) (n_v vs 12) := t12
  have k12 : 0 ≤ v_iv (n_v vs 12) ∧ v_iv (n_v vs 12) ≤ 129 := tv_rng t12
  obtain ⟨t13, hk⟩ := List.forall_mem_cons.mp hk
  have t13 : tv_ok ta (0, 1, 1, []) (n_v vs 13) := t13
  have k13 : 1 ≤ v_iv (n_v vs 13) ∧ v_iv (n_v vs 13) ≤ 1 := tv_rng t13
  obtain ⟨t14, hk⟩ := List.forall_mem_cons.mp hk
  have t14 : tv_ok ta (0, 1, 75, []) (n_v vs 14) := t14
  have k14 : 1 ≤ v_iv (n_v vs 14) ∧ v_iv (n_v vs 14) ≤ 75 := tv_rng t14
  obtain ⟨t15, hk⟩ := List.forall_mem_cons.mp hk
  have t15 : tv_ok ta (0, 2, 24, []) (n_v vs 15) := t15
  have k15 : 2 ≤ v_iv (n_v vs 15) ∧ v_iv (n_v vs 15) ≤ 24 := tv_rng t15
  have hds : ∀ q ∈ ([(15, 6, 1, 1), (15, 10, -4294967296, 0), (14, 7, 1, 1), (6, 10, -4294967296, -1), (5, 7, -4294967296, 23)] : List of_T), n_iv vs q.2.1 + q.2.2.1 ≤ n_iv vs q.1 ∧ n_iv vs q.1 ≤ n_iv vs q.2.1 + q.2.2.2 := hds
  obtain ⟨d0, hds⟩ := List.forall_mem_cons.mp hds
  have d0 : v_iv (n_v vs 6) + 1 ≤ v_iv (n_v vs 15) ∧ v_iv (n_v vs 15) ≤ v_iv (n_v vs 6) + 1 := d0
  obtain ⟨d1, hds⟩ := List.forall_mem_cons.mp hds
  have d1 : v_iv (n_v vs 10) + (-4294967296) ≤ v_iv (n_v vs 15) ∧ v_iv (n_v vs 15) ≤ v_iv (n_v vs 10) + 0 := d1
  obtain ⟨d2, hds⟩ := List.forall_mem_cons.mp hds
  have d2 : v_iv (n_v vs 7) + 1 ≤ v_iv (n_v vs 14) ∧ v_iv (n_v vs 14) ≤ v_iv (n_v vs 7) + 1 := d2
  obtain ⟨d3, hds⟩ := List.forall_mem_cons.mp hds
  have d3 : v_iv (n_v vs 10) + (-4294967296) ≤ v_iv (n_v vs 6) ∧ v_iv (n_v vs 6) ≤ v_iv (n_v vs 10) + (-1) := d3
  obtain ⟨d4, hds⟩ := List.forall_mem_cons.mp hds
  have d4 : v_iv (n_v vs 7) + (-4294967296) ≤ v_iv (n_v vs 5) ∧ v_iv (n_v vs 5) ≤ v_iv (n_v vs 7) + 23 := d4
  have hf : fc_ok PRD [(6, [15, 6], [1]), (20, [2, 4, 9], [60, 1, 2, 357, 5, 2, 95]), (20, [4, 2], [50, 1, 1, 1005, 1002, 0, 6, 4, 2, 1, 0, 0, 1, 3, 1, 2, 4, 3, 2, 1, 5, 0, 1]), (20, [2], [50, 1, 1, 5, 2, 0, 2, 0, 0, 3, 0, 2, 2, 0, 5]), (24, [0, 2], []), (20, [2, 12], [50, 1, 0, 107, 1, 3, 2, 0, 107, 4, 2, 1, 1, 0, 1]), (101, [2, 14], [100]), (1, [14, 7, 13], []), (9, [7, 2], [100]), (20, [2, 4, 5, 6], [60, 2, 4, 386, 5, 100, 2, 95, 102, 104]), (20, [2, 5, 7], [60, 2, 2, 389, 5, 100, 2, 102]), (20, [12, 2, 4], [50, 2, 1, 1100, 1005, 1002, 1, 2, 1, 0, 4, 11, 5, 3, 2, 1, 100, 3, 1, 2, 2, 1, 5, 1, 2]), (20, [2, 4, 9], [60, 1, 2, 357, 5, 2, 95]), (20, [4, 2], [50, 1, 1, 1005, 1002, 0, 6, 4, 2, 1, 0, 0, 1, 3, 1, 2, 4, 3, 2, 1, 5, 0, 1]), (20, [2], [50, 1, 1, 5, 2, 0, 2, 0, 0, 3, 0, 2, 2, 0, 5]), (20, [2, 12], [50, 1, 0, 107, 1, 3, 2, 0, 107, 4, 2, 1, 1, 0, 1]), (20, [2], [60, 3, 4, 364, 5, 107, 100, 2, 102, 108, 109]), (102, [12], [161759680002903838768002090522117784041822866535243434886621661495296, 13107]), (100, [11, 7, 4], []), (100, [8, 7, 6], []), (7, [6, 10], [2])] ta ws vs := hf
  obtain ⟨f0, hf⟩ := fc_un (show (6 : Nat) < 100 from by decide) hf
  have f0 : v_iv (n_v vs 15) = v_iv (n_v vs 6) + 1 := f0
  obtain ⟨f1, hf⟩ := fc_un (show (20 : Nat) < 100 from by decide) hf
  have f1 : TOO (w_fi ws (n_v vs 2) 5) (w_ei ws (w_ar ws (n_v vs 2) 2)) (w_ei ws (w_ar ws (n_v vs 2) 95)) (v_iv (n_v vs 4)) (v_iv (n_v vs 9)) := f1
  obtain ⟨f2, hf⟩ := fc_un (show (20 : Nat) < 100 from by decide) hf
  have f2 : (v_iv (n_v vs 4) + 1) ≤ w_ei ws (w_ar ws (n_v vs 2) 2) ((w_fi ws (n_v vs 2) 5 + 1)) := f2
  obtain ⟨f3, hf⟩ := fc_un (show (20 : Nat) < 100 from by decide) hf
  have f3 : 0 ≤ w_ei ws (w_ar ws (n_v vs 2) 2) (w_fi ws (n_v vs 2) 5) := f3
  obtain ⟨f4, hf⟩ := fc_un (show (24 : Nat) < 100 from by decide) hf
  have f4 : n_v vs 0 = n_v vs 2 := f4
  obtain ⟨f5, hf⟩ := fc_un (show (20 : Nat) < 100 from by decide) hf
  have f5 : w_fi ws (n_v vs 2) 107 = (v_iv (n_v vs 12) + 1) := f5
  obtain ⟨ta1, w1, le1, ⟨_, s1⟩, hf⟩ := fc_us (show ¬ (101 : Nat) < 100 from by decide) hf
  have s1 : (∀ b j, w_el ws b j = w_el w1 b j) ∧ ∀ b j, w_fd ws b j = if b = v_ad (n_v vs 2) ∧ j = 100 then n_v vs 14 else w_fd w1 b j := s1
  obtain ⟨f7, hf⟩ := fc_un (show (1 : Nat) < 100 from by decide) hf
  have f7 : v_iv (n_v vs 14) = v_iv (n_v vs 7) + v_iv (n_v vs 13) := f7
  obtain ⟨f8, hf⟩ := fc_un (show (9 : Nat) < 100 from by decide) hf
  have f8 : n_v vs 7 = w_fd w1 (v_ad (n_v vs 2)) 100 := f8
  obtain ⟨f9, hf⟩ := fc_un (show (20 : Nat) < 100 from by decide) hf
  have f9 : LIE (w_fi w1 (n_v vs 2) 5) (w_fi w1 (n_v vs 2) 100) (w_ei w1 (w_ar w1 (n_v vs 2) 2)) (w_ei w1 (w_ar w1 (n_v vs 2) 95)) (w_ei w1 (w_ar w1 (n_v vs 2) 102)) (w_ei w1 (w_ar w1 (n_v vs 2) 104)) (v_iv (n_v vs 4)) (v_iv (n_v vs 5)) (v_iv (n_v vs 6)) := f9
  obtain ⟨f10, hf⟩ := fc_un (show (20 : Nat) < 100 from by decide) hf
  have f10 : LNM (w_fi w1 (n_v vs 2) 5) (w_fi w1 (n_v vs 2) 100) (w_ei w1 (w_ar w1 (n_v vs 2) 2)) (w_ei w1 (w_ar w1 (n_v vs 2) 102)) (v_iv (n_v vs 5)) (v_iv (n_v vs 7)) := f10
  obtain ⟨f11, hf⟩ := fc_un (show (20 : Nat) < 100 from by decide) hf
  have f11 : v_iv (n_v vs 12) = ((w_fi w1 (n_v vs 2) 100 - w_ei w1 (w_ar w1 (n_v vs 2) 2) (w_fi w1 (n_v vs 2) 5)) + v_iv (n_v vs 4)) := f11
  obtain ⟨f12, hf⟩ := fc_un (show (20 : Nat) < 100 from by decide) hf
  have f12 : TOO (w_fi w1 (n_v vs 2) 5) (w_ei w1 (w_ar w1 (n_v vs 2) 2)) (w_ei w1 (w_ar w1 (n_v vs 2) 95)) (v_iv (n_v vs 4)) (v_iv (n_v vs 9)) := f12
  obtain ⟨f13, hf⟩ := fc_un (show (20 : Nat) < 100 from by decide) hf
  have f13 : (v_iv (n_v vs 4) + 1) ≤ w_ei w1 (w_ar w1 (n_v vs 2) 2) ((w_fi w1 (n_v vs 2) 5 + 1)) := f13
  obtain ⟨f14, hf⟩ := fc_un (show (20 : Nat) < 100 from by decide) hf
  have f14 : 0 ≤ w_ei w1 (w_ar w1 (n_v vs 2) 2) (w_fi w1 (n_v vs 2) 5) := f14
  obtain ⟨f15, hf⟩ := fc_un (show (20 : Nat) < 100 from by decide) hf
  have f15 : w_fi w1 (n_v vs 2) 107 = (v_iv (n_v vs 12) + 1) := f15
  obtain ⟨f16, hf⟩ := fc_un (show (20 : Nat) < 100 from by decide) hf
  have f16 : LNX (w_fi w1 (n_v vs 2) 5) (w_fi w1 (n_v vs 2) 107) (w_fi w1 (n_v vs 2) 100) (w_ei w1 (w_ar w1 (n_v vs 2) 2)) (w_ei w1 (w_ar w1 (n_v vs 2) 102)) (w_ei w1 (w_ar w1 (n_v vs 2) 108)) (w_ei w1 (w_ar w1 (n_v vs 2) 109)) := f16
  obtain ⟨ta2, w2, le2, ⟨_, s2⟩, hf⟩ := fc_us (show ¬ (102 : Nat) < 100 from by decide) hf
  obtain ⟨ta3, w3, le3, ⟨_, s3⟩, hf⟩ := fc_us (show ¬ (100 : Nat) < 100 from by decide) hf
  have s3 : (∀ b j, w_el w2 b j = if b = v_ad (n_v vs 11) ∧ j = (v_iv (n_v vs 7)).toNat then v_iv (n_v vs 4) else w_el w3 b j) ∧ ∀ b k, w_fd w2 b k = w_fd w3 b k := s3
  obtain ⟨ta4, w4, le4, ⟨_, s4⟩, hf⟩ := fc_us (show ¬ (100 : Nat) < 100 from by decide) hf
  have s4 : (∀ b j, w_el w3 b j = if b = v_ad (n_v vs 8) ∧ j = (v_iv (n_v vs 7)).toNat then v_iv (n_v vs 6) else w_el w4 b j) ∧ ∀ b k, w_fd w3 b k = w_fd w4 b k := s4
  obtain ⟨f20, hf⟩ := fc_un (show (7 : Nat) < 100 from by decide) hf
  have f20 : v_iv (n_v vs 6) < v_iv (n_v vs 10) := f20
  have q2 : n_v vs 2 = n_v vs 0 := f4.symm
  rw [q2] at f1
  rw [q2] at f2
  rw [q2] at f3
  rw [q2] at f5
  rw [q2] at s1
  rw [q2] at f8
  rw [q2] at f9
  rw [q2] at f10
  rw [q2] at f11
  rw [q2] at f12
  rw [q2] at f13
  rw [q2] at f14
  rw [q2] at f15
  rw [q2] at f16
  have ar_0_2_1 : w_ar w1 (n_v vs 0) 2 = w_ar ws (n_v vs 0) 2 := by show v_ad (w_fd w1 _ _) = v_ad (w_fd ws _ _); rw [s1.2, if_neg (fun e => absurd e.2 (by decide))]
  have cr_0_2 : ta (w_ar ws (n_v vs 0) 2) = some 152 := tv_rg (th_fd hD hth r0 (g := GG_150) rfl (k := 2) (t := (2, 0, 0, [152])) rfl rfl)
  have ar_0_95_1 : w_ar w1 (n_v vs 0) 95 = w_ar ws (n_v vs 0) 95 := by show v_ad (w_fd w1 _ _) = v_ad (w_fd ws _ _); rw [s1.2, if_neg (fun e => absurd e.2 (by decide))]
  have cr_0_95 : ta (w_ar ws (n_v vs 0) 95) = some 216 := tv_rg (th_fd hD hth r0 (g := GG_150) rfl (k := 95) (t := (2, 0, 0, [216])) rfl rfl)
  have ar_0_102_1 : w_ar w1 (n_v vs 0) 102 = w_ar ws (n_v vs 0) 102 := by show v_ad (w_fd w1 _ _) = v_ad (w_fd ws _ _); rw [s1.2, if_neg (fun e => absurd e.2 (by decide))]
  have cr_0_102 : ta (w_ar ws (n_v vs 0) 102) = some 220 := tv_rg (th_fd hD hth r0 (g := GG_150) rfl (k := 102) (t := (2, 0, 0, [220])) rfl rfl)
  have ar_0_104_1 : w_ar w1 (n_v vs 0) 104 = w_ar ws (n_v vs 0) 104 := by show v_ad (w_fd w1 _ _) = v_ad (w_fd ws _ _); rw [s1.2, if_neg (fun e => absurd e.2 (by decide))]
  have cr_0_104 : ta (w_ar ws (n_v vs 0) 104) = some 222 := tv_rg (th_fd hD hth r0 (g := GG_150) rfl (k := 104) (t := (2, 0, 0, [222])) rfl rfl)
  have ar_0_108_1 : w_ar w1 (n_v vs 0) 108 = w_ar ws (n_v vs 0) 108 := by show v_ad (w_fd w1 _ _) = v_ad (w_fd ws _ _); rw [s1.2, if_neg (fun e => absurd e.2 (by decide))]
  have cr_0_108 : ta (w_ar ws (n_v vs 0) 108) = some 225 := tv_rg (th_fd hD hth r0 (g := GG_150) rfl (k := 108) (t := (2, 0, 0, [225])) rfl rfl)
  have ar_0_109_1 : w_ar w1 (n_v vs 0) 109 = w_ar ws (n_v vs 0) 109 := by show v_ad (w_fd w1 _ _) = v_ad (w_fd ws _ _); rw [s1.2, if_neg (fun e => absurd e.2 (by decide))]
  have cr_0_109 : ta (w_ar ws (n_v vs 0) 109) = some 226 := tv_rg (th_fd hD hth r0 (g := GG_150) rfl (k := 109) (t := (2, 0, 0, [226])) rfl rfl)
  have g8 : v_iv (n_v vs 7) = w_fi w1 (n_v vs 0) 100 := congrArg v_iv f8
  rw [ar_0_2_1] at f9
  rw [ar_0_95_1] at f9
  rw [ar_0_102_1] at f9
  rw [ar_0_104_1] at f9
  rw [ar_0_2_1] at f10
  rw [ar_0_102_1] at f10
  rw [ar_0_2_1] at f11
  rw [ar_0_2_1] at f12
  rw [ar_0_95_1] at f12
  rw [ar_0_2_1] at f13
  rw [ar_0_2_1] at f14
  rw [ar_0_2_1] at f16
  rw [ar_0_102_1] at f16
  rw [ar_0_108_1] at f16
  rw [ar_0_109_1] at f16
  have fe_0_5_1 : w_fi ws (n_v vs 0) 5 = w_fi w1 (n_v vs 0) 5 := by show v_iv (w_fd _ _ _) = v_iv (w_fd _ _ _); rw [s1.2, if_neg (fun e => absurd e.2 (by decide))]
  have fe_0_100_1 : w_fi ws (n_v vs 0) 100 = v_iv (n_v vs 14) := by show v_iv (w_fd _ _ _) = _; rw [s1.2, if_pos ⟨rfl, rfl⟩]
  have fe_0_107_1 : w_fi ws (n_v vs 0) 107 = w_fi w1 (n_v vs 0) 107 := by show v_iv (w_fd _ _ _) = v_iv (w_fd _ _ _); rw [s1.2, if_neg (fun e => absurd e.2 (by decide))]
  have hE_0_2_1 : ∀ j : Int, w_ei ws (w_ar ws (n_v vs 0) 2) j = w_ei w1 (w_ar ws (n_v vs 0) 2) j := fun j => s1.1 _ _
  have hE_0_95_1 : ∀ j : Int, w_ei ws (w_ar ws (n_v vs 0) 95) j = w_ei w1 (w_ar ws (n_v vs 0) 95) j := fun j => s1.1 _ _
  have hK_0_95 : ∀ j : Int, 0 ≤ j → j < 48 → 0 ≤ w_ei ws (w_ar ws (n_v vs 0) 95) j ∧ w_ei ws (w_ar ws (n_v vs 0) 95) j ≤ 1 := fun j h0 h1 => th_el hD hth cr_0_95 (kd := 2) (n := 48) (m := 48) (lo := 0) (hi := 1) (rs := []) (L := []) rfl (by decide) (j := j.toNat) (by omega)
  have hE_0_102_1 : ∀ j : Int, w_ei ws (w_ar ws (n_v vs 0) 102) j = w_ei w1 (w_ar ws (n_v vs 0) 102) j := fun j => s1.1 _ _
  have hK_0_102 : ∀ j : Int, 0 ≤ j → j < 76 → 0 ≤ w_ei ws (w_ar ws (n_v vs 0) 102) j ∧ w_ei ws (w_ar ws (n_v vs 0) 102) j ≤ 75 := fun j h0 h1 => th_el hD hth cr_0_102 (kd := 0) (n := 76) (m := 76) (lo := 0) (hi := 75) (rs := []) (L := []) rfl (by decide) (j := j.toNat) (by omega)
  have hE_0_104_1 : ∀ j : Int, w_ei ws (w_ar ws (n_v vs 0) 104) j = w_ei w1 (w_ar ws (n_v vs 0) 104) j := fun j => s1.1 _ _
  have hK_0_104 : ∀ j : Int, 0 ≤ j → j < 48 → 0 ≤ w_ei ws (w_ar ws (n_v vs 0) 104) j ∧ w_ei ws (w_ar ws (n_v vs 0) 104) j ≤ 76 := fun j h0 h1 => th_el hD hth cr_0_104 (kd := 0) (n := 48) (m := 48) (lo := 0) (hi := 76) (rs := []) (L := []) rfl (by decide) (j := j.toNat) (by omega)
  have hE_0_108_1 : ∀ j : Int, w_ei ws (w_ar ws (n_v vs 0) 108) j = w_ei w1 (w_ar ws (n_v vs 0) 108) j := fun j => s1.1 _ _
  have hK_0_108 : ∀ j : Int, 0 ≤ j → j < 130 → 0 ≤ w_ei ws (w_ar ws (n_v vs 0) 108) j ∧ w_ei ws (w_ar ws (n_v vs 0) 108) j ≤ 75 := fun j h0 h1 => th_el hD hth cr_0_108 (kd := 0) (n := 130) (m := 130) (lo := 0) (hi := 75) (rs := []) (L := []) rfl (by decide) (j := j.toNat) (by omega)
  have hE_0_109_1 : ∀ j : Int, w_ei ws (w_ar ws (n_v vs 0) 109) j = w_ei w1 (w_ar ws (n_v vs 0) 109) j := fun j => s1.1 _ _
  have hK_0_109 : ∀ j : Int, 0 ≤ j → j < 130 → 0 ≤ w_ei ws (w_ar ws (n_v vs 0) 109) j ∧ w_ei ws (w_ar ws (n_v vs 0) 109) j ≤ 75 := fun j h0 h1 => th_el hD hth cr_0_109 (kd := 0) (n := 130) (m := 130) (lo := 0) (hi := 75) (rs := []) (L := []) rfl (by decide) (j := j.toNat) (by omega)
  have kz_0_100 : 0 ≤ w_fi ws (n_v vs 0) 100 ∧ w_fi ws (n_v vs 0) 100 ≤ 76 := tv_rng (th_fd hD hth r0 (g := GG_150) rfl (k := 100) (t := (0, 0, 76, [])) rfl rfl)
  have kz_0_107 : 0 ≤ w_fi ws (n_v vs 0) 107 ∧ w_fi ws (n_v vs 0) 107 ≤ 130 := tv_rng (th_fd hD hth r0 (g := GG_150) rfl (k := 107) (t := (0, 0, 130, [])) rfl rfl)
  have nf0 : fc_1 PRD (20, [2, 4, 7, 15], [60, 2, 4, 366, 5, 100, 2, 95, 102, 104]) ws (vs) := by
    refine ⟨fun n hn => ?_, ?_⟩
    · have hn : n ∈ [2, 4, 7, 15] := hn
      rw [hl]
      simp only [List.mem_cons, List.not_mem_nil, or_false] at hn
      show n < 16; omega
    · show LID (w_fi ws (n_v vs 2) 5) (w_fi ws (n_v vs 2) 100) (w_ei ws (w_ar ws (n_v vs 2) 2)) (w_ei ws (w_ar ws (n_v vs 2) 95)) (w_ei ws (w_ar ws (n_v vs 2) 102)) (w_ei ws (w_ar ws (n_v vs 2) 104)) (v_iv (n_v vs 4)) (v_iv (n_v vs 7)) (v_iv (n_v vs 15))
      rw [q2]
      exact vc_Mo_list_8_0 (v_iv (n_v vs 4)) (v_iv (n_v vs 5)) (v_iv (n_v vs 6)) (v_iv (n_v vs 7)) (v_iv (n_v vs 9)) (v_iv (n_v vs 10)) (v_iv (n_v vs 12)) (v_iv (n_v vs 13)) (v_iv (n_v vs 14)) (v_iv (n_v vs 15)) (w_ei ws (w_ar ws (n_v vs 0) 2)) (w_ei ws (w_ar ws (n_v vs 0) 95)) (w_fi ws (n_v vs 0) 5) (w_fi ws (n_v vs 0) 107) (w_fi w1 (n_v vs 0) 100) (w_ei w1 (w_ar ws (n_v vs 0) 2)) (w_ei w1 (w_ar ws (n_v vs 0) 95)) (w_ei w1 (w_ar ws (n_v vs 0) 102)) (w_ei w1 (w_ar ws (n_v vs 0) 104)) (w_fi w1 (n_v vs 0) 5) (w_fi w1 (n_v vs 0) 107) (w_ei w1 (w_ar ws (n_v vs 0) 108)) (w_ei w1 (w_ar ws (n_v vs 0) 109)) (w_fi ws (n_v vs 0) 100) (w_ei ws (w_ar ws (n_v vs 0) 102)) (w_ei ws (w_ar ws (n_v vs 0) 104)) (w_ei ws (w_ar ws (n_v vs 0) 108)) (w_ei ws (w_ar ws (n_v vs 0) 109)) k4 k5 k6 k7 k9 k10 k12 k13 k14 k15 d0 d1 d2 d3 d4 f0 f1 f2 f3 f5 f7 g8 f9 f10 f11 f12 f13 f14 f15 f16 f20 fe_0_5_1 fe_0_100_1 fe_0_107_1 hE_0_2_1 hE_0_95_1 hK_0_95 hE_0_102_1 hK_0_102 hE_0_104_1 hK_0_104 hE_0_108_1 hK_0_108 hE_0_109_1 hK_0_109 kz_0_100 kz_0_107
  have nf1 : fc_1 PRD (20, [2], [60, 3, 4, 363, 5, 107, 100, 2, 102, 108, 109]) ws (vs) := by
    refine ⟨fun n hn => ?_, ?_⟩
    · have hn : n ∈ [2] := hn
      rw [hl]
      simp only [List.mem_cons, List.not_mem_nil, or_false] at hn
      show n < 16; omega
    · show LNP (w_fi ws (n_v vs 2) 5) (w_fi ws (n_v vs 2) 107) (w_fi ws (n_v vs 2) 100) (w_ei ws (w_ar ws (n_v vs 2) 2)) (w_ei ws (w_ar ws (n_v vs 2) 102)) (w_ei ws (w_ar ws (n_v vs 2) 108)) (w_ei ws (w_ar ws (n_v vs 2) 109))
      rw [q2]
      exact vc_Mo_list_8_1 (v_iv (n_v vs 4)) (v_iv (n_v vs 5)) (v_iv (n_v vs 6)) (v_iv (n_v vs 7)) (v_iv (n_v vs 9)) (v_iv (n_v vs 10)) (v_iv (n_v vs 12)) (v_iv (n_v vs 13)) (v_iv (n_v vs 14)) (v_iv (n_v vs 15)) (w_ei ws (w_ar ws (n_v vs 0) 2)) (w_ei ws (w_ar ws (n_v vs 0) 95)) (w_fi ws (n_v vs 0) 5) (w_fi ws (n_v vs 0) 107) (w_fi w1 (n_v vs 0) 100) (w_ei w1 (w_ar ws (n_v vs 0) 2)) (w_ei w1 (w_ar ws (n_v vs 0) 95)) (w_ei w1 (w_ar ws (n_v vs 0) 102)) (w_ei w1 (w_ar ws (n_v vs 0) 104)) (w_fi w1 (n_v vs 0) 5) (w_fi w1 (n_v vs 0) 107) (w_ei w1 (w_ar ws (n_v vs 0) 108)) (w_ei w1 (w_ar ws (n_v vs 0) 109)) (w_fi ws (n_v vs 0) 100) (w_ei ws (w_ar ws (n_v vs 0) 102)) (w_ei ws (w_ar ws (n_v vs 0) 104)) (w_ei ws (w_ar ws (n_v vs 0) 108)) (w_ei ws (w_ar ws (n_v vs 0) 109)) k4 k5 k6 k7 k9 k10 k12 k13 k14 k15 d0 d1 d2 d3 d4 f0 f1 f2 f3 f5 f7 g8 f9 f10 f11 f12 f13 f14 f15 f16 f20 fe_0_5_1 fe_0_100_1 fe_0_107_1 hE_0_2_1 hE_0_95_1 hK_0_95 hE_0_102_1 hK_0_102 hE_0_104_1 hK_0_104 hE_0_108_1 hK_0_108 hE_0_109_1 hK_0_109 kz_0_100 kz_0_107
  have nf2 : fc_1 PRD (20, [2, 4], [50, 3, 1, 107, 100, 5, 2, 1, 3, 2, 0, 107, 4, 11, 5, 3, 2, 0, 100, 3, 0, 2, 2, 0, 5, 1, 1]) ws (vs) := by
    refine ⟨fun n hn => ?_, ?_⟩
    · have hn : n ∈ [2, 4] := hn
      rw [hl]
      simp only [List.mem_cons, List.not_mem_nil, or_false] at hn
      show n < 16; omega
    · show w_fi ws (n_v vs 2) 107 = ((w_fi ws (n_v vs 2) 100 - w_ei ws (w_ar ws (n_v vs 2) 2) (w_fi ws (n_v vs 2) 5)) + v_iv (n_v vs 4))
      rw [q2]
      exact vc_Mo_list_8_2 (v_iv (n_v vs 4)) (v_iv (n_v vs 5)) (v_iv (n_v vs 6)) (v_iv (n_v vs 7)) (v_iv (n_v vs 9)) (v_iv (n_v vs 10)) (v_iv (n_v vs 12)) (v_iv (n_v vs 13)) (v_iv (n_v vs 14)) (v_iv (n_v vs 15)) (w_ei ws (w_ar ws (n_v vs 0) 2)) (w_ei ws (w_ar ws (n_v vs 0) 95)) (w_fi ws (n_v vs 0) 5) (w_fi ws (n_v vs 0) 107) (w_fi w1 (n_v vs 0) 100) (w_ei w1 (w_ar ws (n_v vs 0) 2)) (w_ei w1 (w_ar ws (n_v vs 0) 95)) (w_ei w1 (w_ar ws (n_v vs 0) 102)) (w_ei w1 (w_ar ws (n_v vs 0) 104)) (w_fi w1 (n_v vs 0) 5) (w_fi w1 (n_v vs 0) 107) (w_ei w1 (w_ar ws (n_v vs 0) 108)) (w_ei w1 (w_ar ws (n_v vs 0) 109)) (w_fi ws (n_v vs 0) 100) (w_ei ws (w_ar ws (n_v vs 0) 102)) (w_ei ws (w_ar ws (n_v vs 0) 104)) (w_ei ws (w_ar ws (n_v vs 0) 108)) (w_ei ws (w_ar ws (n_v vs 0) 109)) k4 k5 k6 k7 k9 k10 k12 k13 k14 k15 d0 d1 d2 d3 d4 f0 f1 f2 f3 f5 f7 g8 f9 f10 f11 f12 f13 f14 f15 f16 f20 fe_0_5_1 fe_0_100_1 fe_0_107_1 hE_0_2_1 hE_0_95_1 hK_0_95 hE_0_102_1 hK_0_102 hE_0_104_1 hK_0_104 hE_0_108_1 hK_0_108 hE_0_109_1 hK_0_109 kz_0_100 kz_0_107
  refine ⟨(fun _ h => (by cases h)), [], trivial, ?_, (fun _ h => (by cases h))⟩
  rw [List.append_nil]
  exact List.forall_mem_cons.mpr ⟨⟨show (20 : Nat) < 100 from by decide, nf0⟩, List.forall_mem_cons.mpr ⟨⟨show (20 : Nat) < 100 from by decide, nf1⟩, List.forall_mem_cons.mpr ⟨⟨show (20 : Nat) < 100 from by decide, nf2⟩, (fun _ h => (by cases h))⟩⟩⟩
set_option maxHeartbeats 4000000 in
theorem vc_Mo_list_9_0 (x4 : Int) (x6 : Int) (x7 : Int) (items_0 : Int) (all_0 : Int → Int) (turned_0 : Int → Int) (itemLayer_0 : Int → Int) (firstJoint_0 : Int → Int) (r_0 : Int) (lineA_0 : Int → Int) (lineB_0 : Int → Int) (lines_0 : Int) (layerMany_0 : Int) (layerSize_0 : Int → Int) (layerItem_0 : Int → Int) (k4 : 0 ≤ x4 ∧ x4 ≤ 76) (k6 : 0 ≤ x6 ∧ x6 ≤ 76) (k7 : 0 ≤ x7 ∧ x7 ≤ 0) (d0 : x6 + 0 ≤ x4 ∧ x4 ≤ x6 + 4294967296) (f0 : x6 ≤ x4) (g1 : x6 = items_0) (f2 : LIF (r_0) (items_0) (all_0) (turned_0) (itemLayer_0) (firstJoint_0)) (f3 : LNP (r_0) (lines_0) (items_0) (all_0) (itemLayer_0) (lineA_0) (lineB_0)) (f4 : LMF (layerMany_0) (itemLayer_0) (x4)) (f5 : lines_0 = ((items_0 - all_0 (r_0)) + all_0 ((r_0 + 1)))) (hK_0_95 : ∀ j : Int, 0 ≤ j → j < 48 → 0 ≤ turned_0 j ∧ turned_0 j ≤ 1) (hK_0_102 : ∀ j : Int, 0 ≤ j → j < 76 → 0 ≤ itemLayer_0 j ∧ itemLayer_0 j ≤ 75) (hK_0_104 : ∀ j : Int, 0 ≤ j → j < 48 → 0 ≤ firstJoint_0 j ∧ firstJoint_0 j ≤ 76) (hK_0_105 : ∀ j : Int, 0 ≤ j → j < 76 → 0 ≤ layerSize_0 j ∧ layerSize_0 j ≤ 76) (hK_0_106 : ∀ j : Int, 0 ≤ j → j < 5776 → 0 ≤ layerItem_0 j ∧ layerItem_0 j ≤ 75) (hK_0_108 : ∀ j : Int, 0 ≤ j → j < 130 → 0 ≤ lineA_0 j ∧ lineA_0 j ≤ 75) (hK_0_109 : ∀ j : Int, 0 ≤ j → j < 130 → 0 ≤ lineB_0 j ∧ lineB_0 j ≤ 75) (kz_0_100 : 0 ≤ items_0 ∧ items_0 ≤ 76) (kz_0_101 : 0 ≤ layerMany_0 ∧ layerMany_0 ≤ 76) (kz_0_107 : 0 ≤ lines_0 ∧ lines_0 ≤ 130) : LSA (r_0) (items_0) (layerMany_0) (lines_0) (all_0) (turned_0) (itemLayer_0) (firstJoint_0) (lineA_0) (lineB_0) := by
  first
    | assumption
    | exact lsa_of ‹LIF _ _ _ _ _ _› ‹LNP _ _ _ _ _ _ _› ‹LMF _ _ _› (by omega) (by have b := (lic_bd ‹LIF _ _ _ _ _ _›).1; have n := ‹LIF _ _ _ _ _ _›.1.1.1.1; omega)
set_option maxHeartbeats 4000000 in
theorem vc_Mo_list_9_1 (x4 : Int) (x6 : Int) (x7 : Int) (items_0 : Int) (all_0 : Int → Int) (turned_0 : Int → Int) (itemLayer_0 : Int → Int) (firstJoint_0 : Int → Int) (r_0 : Int) (lineA_0 : Int → Int) (lineB_0 : Int → Int) (lines_0 : Int) (layerMany_0 : Int) (layerSize_0 : Int → Int) (layerItem_0 : Int → Int) (k4 : 0 ≤ x4 ∧ x4 ≤ 76) (k6 : 0 ≤ x6 ∧ x6 ≤ 76) (k7 : 0 ≤ x7 ∧ x7 ≤ 0) (d0 : x6 + 0 ≤ x4 ∧ x4 ≤ x6 + 4294967296) (f0 : x6 ≤ x4) (g1 : x6 = items_0) (f2 : LIF (r_0) (items_0) (all_0) (turned_0) (itemLayer_0) (firstJoint_0)) (f3 : LNP (r_0) (lines_0) (items_0) (all_0) (itemLayer_0) (lineA_0) (lineB_0)) (f4 : LMF (layerMany_0) (itemLayer_0) (x4)) (f5 : lines_0 = ((items_0 - all_0 (r_0)) + all_0 ((r_0 + 1)))) (hK_0_95 : ∀ j : Int, 0 ≤ j → j < 48 → 0 ≤ turned_0 j ∧ turned_0 j ≤ 1) (hK_0_102 : ∀ j : Int, 0 ≤ j → j < 76 → 0 ≤ itemLayer_0 j ∧ itemLayer_0 j ≤ 75) (hK_0_104 : ∀ j : Int, 0 ≤ j → j < 48 → 0 ≤ firstJoint_0 j ∧ firstJoint_0 j ≤ 76) (hK_0_105 : ∀ j : Int, 0 ≤ j → j < 76 → 0 ≤ layerSize_0 j ∧ layerSize_0 j ≤ 76) (hK_0_106 : ∀ j : Int, 0 ≤ j → j < 5776 → 0 ≤ layerItem_0 j ∧ layerItem_0 j ≤ 75) (hK_0_108 : ∀ j : Int, 0 ≤ j → j < 130 → 0 ≤ lineA_0 j ∧ lineA_0 j ≤ 75) (hK_0_109 : ∀ j : Int, 0 ≤ j → j < 130 → 0 ≤ lineB_0 j ∧ lineB_0 j ≤ 75) (kz_0_100 : 0 ≤ items_0 ∧ items_0 ≤ 76) (kz_0_101 : 0 ≤ layerMany_0 ∧ layerMany_0 ≤ 76) (kz_0_107 : 0 ≤ lines_0 ∧ lines_0 ≤ 130) : LLS (items_0) (itemLayer_0) (layerSize_0) (layerItem_0) (x7) := by
  first
    | (intro m a b; exfalso; omega)
    | exact lli_end ‹LLI _ _ _ _ _ _› (by omega) (by omega)
def o_Mo_list_9 : or_T := (174, 8, [(0, (2, 0, 0, [150])), (2, (2, 0, 0, [150])), (4, (0, 0, 76, [])), (6, (0, 0, 76, [])), (7, (0, 0, 0, []))], [(7, [4, 6], [3]), (9, [6, 2], [100]), (20, [2], [60, 2, 4, 367, 5, 100, 2, 95, 102, 104]), (20, [2], [60, 3, 4, 363, 5, 107, 100, 2, 102, 108, 109]), (20, [2, 4], [60, 1, 1, 368, 101, 102]), (20, [2], [50, 3, 1, 107, 100, 5, 2, 1, 3, 2, 0, 107, 4, 11, 5, 3, 2, 0, 100, 3, 0, 2, 2, 0, 5, 3, 0, 2, 4, 3, 2, 0, 5, 0, 1]), (24, [0, 2], [])], [], [], [(20, [2], [60, 4, 6, 369, 5, 100, 101, 107, 2, 95, 102, 104, 108, 109]), (20, [2, 7], [60, 1, 3, 370, 100, 102, 105, 106])], [], [(4, 6, 0, 4294967296)])
theorem oo_Mo_list_9 {kA : Nat → ClassId} : or_ok PRD kA GG o_Mo_list_9 := by
  intro A ta ws vs hD hth hl hk hds hf
  have hl : vs.length = 8 := hl
  have hk : ∀ q ∈ ([(0, (2, 0, 0, [150])), (2, (2, 0, 0, [150])), (4, (0, 0, 76, [])), (6, (0, 0, 76, [])), (7, (0, 0, 0, []))] : List (Nat × tv_T)), tv_ok ta q.2 (n_v vs q.1) := hk
  obtain ⟨t0, hk⟩ := List.forall_mem_cons.mp hk
  have t0 : tv_ok ta (2, 0, 0, [150]) (n_v vs 0) := t0
  have r0 : ta (v_ad (n_v vs 0)) = some 150 := tv_rg t0
  obtain ⟨t2, hk⟩ := List.forall_mem_cons.mp hk
  have t2 : tv_ok ta (2, 0, 0, [150]) (n_v vs 2) := t2
  have r2 : ta (v_ad (n_v vs 2)) = some 150 := tv_rg t2
  obtain ⟨t4, hk⟩ := List.forall_mem_cons.mp hk
  have t4 : tv_ok ta (0, 0, 76, []) (n_v vs 4) := t4
  have k4 : 0 ≤ v_iv (n_v vs 4) ∧ v_iv (n_v vs 4) ≤ 76 := tv_rng t4
  obtain ⟨t6, hk⟩ := List.forall_mem_cons.mp hk
  have t6 : tv_ok ta (0, 0, 76, []) (n_v vs 6) := t6
  have k6 : 0 ≤ v_iv (n_v vs 6) ∧ v_iv (n_v vs 6) ≤ 76 := tv_rng t6
  obtain ⟨t7, hk⟩ := List.forall_mem_cons.mp hk
  have t7 : tv_ok ta (0, 0, 0, []) (n_v vs 7) := t7
  have k7 : 0 ≤ v_iv (n_v vs 7) ∧ v_iv (n_v vs 7) ≤ 0 := tv_rng t7
  have hds : ∀ q ∈ ([(4, 6, 0, 4294967296)] : List of_T), n_iv vs q.2.1 + q.2.2.1 ≤ n_iv vs q.1 ∧ n_iv vs q.1 ≤ n_iv vs q.2.1 + q.2.2.2 := hds
  obtain ⟨d0, hds⟩ := List.forall_mem_cons.mp hds
  have d0 : v_iv (n_v vs 6) + 0 ≤ v_iv (n_v vs 4) ∧ v_iv (n_v vs 4) ≤ v_iv (n_v vs 6) + 4294967296 := d0
  have hf : fc_ok PRD [(7, [4, 6], [3]), (9, [6, 2], [100]), (20, [2], [60, 2, 4, 367, 5, 100, 2, 95, 102, 104]), (20, [2], [60, 3, 4, 363, 5, 107, 100, 2, 102, 108, 109]), (20, [2, 4], [60, 1, 1, 368, 101, 102]), (20, [2], [50, 3, 1, 107, 100, 5, 2, 1, 3, 2, 0, 107, 4, 11, 5, 3, 2, 0, 100, 3, 0, 2, 2, 0, 5, 3, 0, 2, 4, 3, 2, 0, 5, 0, 1]), (24, [0, 2], [])] ta ws vs := hf
  obtain ⟨f0, hf⟩ := fc_un (show (7 : Nat) < 100 from by decide) hf
  have f0 : v_iv (n_v vs 6) ≤ v_iv (n_v vs 4) := f0
  obtain ⟨f1, hf⟩ := fc_un (show (9 : Nat) < 100 from by decide) hf
  have f1 : n_v vs 6 = w_fd ws (v_ad (n_v vs 2)) 100 := f1
  obtain ⟨f2, hf⟩ := fc_un (show (20 : Nat) < 100 from by decide) hf
  have f2 : LIF (w_fi ws (n_v vs 2) 5) (w_fi ws (n_v vs 2) 100) (w_ei ws (w_ar ws (n_v vs 2) 2)) (w_ei ws (w_ar ws (n_v vs 2) 95)) (w_ei ws (w_ar ws (n_v vs 2) 102)) (w_ei ws (w_ar ws (n_v vs 2) 104)) := f2
  obtain ⟨f3, hf⟩ := fc_un (show (20 : Nat) < 100 from by decide) hf
  have f3 : LNP (w_fi ws (n_v vs 2) 5) (w_fi ws (n_v vs 2) 107) (w_fi ws (n_v vs 2) 100) (w_ei ws (w_ar ws (n_v vs 2) 2)) (w_ei ws (w_ar ws (n_v vs 2) 102)) (w_ei ws (w_ar ws (n_v vs 2) 108)) (w_ei ws (w_ar ws (n_v vs 2) 109)) := f3
  obtain ⟨f4, hf⟩ := fc_un (show (20 : Nat) < 100 from by decide) hf
  have f4 : LMF (w_fi ws (n_v vs 2) 101) (w_ei ws (w_ar ws (n_v vs 2) 102)) (v_iv (n_v vs 4)) := f4
  obtain ⟨f5, hf⟩ := fc_un (show (20 : Nat) < 100 from by decide) hf
  have f5 : w_fi ws (n_v vs 2) 107 = ((w_fi ws (n_v vs 2) 100 - w_ei ws (w_ar ws (n_v vs 2) 2) (w_fi ws (n_v vs 2) 5)) + w_ei ws (w_ar ws (n_v vs 2) 2) ((w_fi ws (n_v vs 2) 5 + 1))) := f5
  obtain ⟨f6, hf⟩ := fc_un (show (24 : Nat) < 100 from by decide) hf
  have f6 : n_v vs 0 = n_v vs 2 := f6
  have q2 : n_v vs 2 = n_v vs 0 := f6.symm
  rw [q2] at f1
  rw [q2] at f2
  rw [q2] at f3
  rw [q2] at f4
  rw [q2] at f5
  have cr_0_2 : ta (w_ar ws (n_v vs 0) 2) = some 152 := tv_rg (th_fd hD hth r0 (g := GG_150) rfl (k := 2) (t := (2, 0, 0, [152])) rfl rfl)
  have cr_0_95 : ta (w_ar ws (n_v vs 0) 95) = some 216 := tv_rg (th_fd hD hth r0 (g := GG_150) rfl (k := 95) (t := (2, 0, 0, [216])) rfl rfl)
  have cr_0_102 : ta (w_ar ws (n_v vs 0) 102) = some 220 := tv_rg (th_fd hD hth r0 (g := GG_150) rfl (k := 102) (t := (2, 0, 0, [220])) rfl rfl)
  have cr_0_104 : ta (w_ar ws (n_v vs 0) 104) = some 222 := tv_rg (th_fd hD hth r0 (g := GG_150) rfl (k := 104) (t := (2, 0, 0, [222])) rfl rfl)
  have cr_0_105 : ta (w_ar ws (n_v vs 0) 105) = some 223 := tv_rg (th_fd hD hth r0 (g := GG_150) rfl (k := 105) (t := (2, 0, 0, [223])) rfl rfl)
  have cr_0_106 : ta (w_ar ws (n_v vs 0) 106) = some 224 := tv_rg (th_fd hD hth r0 (g := GG_150) rfl (k := 106) (t := (2, 0, 0, [224])) rfl rfl)
  have cr_0_108 : ta (w_ar ws (n_v vs 0) 108) = some 225 := tv_rg (th_fd hD hth r0 (g := GG_150) rfl (k := 108) (t := (2, 0, 0, [225])) rfl rfl)
  have cr_0_109 : ta (w_ar ws (n_v vs 0) 109) = some 226 := tv_rg (th_fd hD hth r0 (g := GG_150) rfl (k := 109) (t := (2, 0, 0, [226])) rfl rfl)
  have g1 : v_iv (n_v vs 6) = w_fi ws (n_v vs 0) 100 := congrArg v_iv f1
  have hK_0_95 : ∀ j : Int, 0 ≤ j → j < 48 → 0 ≤ w_ei ws (w_ar ws (n_v vs 0) 95) j ∧ w_ei ws (w_ar ws (n_v vs 0) 95) j ≤ 1 := fun j h0 h1 => th_el hD hth cr_0_95 (kd := 2) (n := 48) (m := 48) (lo := 0) (hi := 1) (rs := []) (L := []) rfl (by decide) (j := j.toNat) (by omega)
  have hK_0_102 : ∀ j : Int, 0 ≤ j → j < 76 → 0 ≤ w_ei ws (w_ar ws (n_v vs 0) 102) j ∧ w_ei ws (w_ar ws (n_v vs 0) 102) j ≤ 75 := fun j h0 h1 => th_el hD hth cr_0_102 (kd := 0) (n := 76) (m := 76) (lo := 0) (hi := 75) (rs := []) (L := []) rfl (by decide) (j := j.toNat) (by omega)
  have hK_0_104 : ∀ j : Int, 0 ≤ j → j < 48 → 0 ≤ w_ei ws (w_ar ws (n_v vs 0) 104) j ∧ w_ei ws (w_ar ws (n_v vs 0) 104) j ≤ 76 := fun j h0 h1 => th_el hD hth cr_0_104 (kd := 0) (n := 48) (m := 48) (lo := 0) (hi := 76) (rs := []) (L := []) rfl (by decide) (j := j.toNat) (by omega)
  have hK_0_105 : ∀ j : Int, 0 ≤ j → j < 76 → 0 ≤ w_ei ws (w_ar ws (n_v vs 0) 105) j ∧ w_ei ws (w_ar ws (n_v vs 0) 105) j ≤ 76 := fun j h0 h1 => th_el hD hth cr_0_105 (kd := 0) (n := 76) (m := 76) (lo := 0) (hi := 76) (rs := []) (L := []) rfl (by decide) (j := j.toNat) (by omega)
  have hK_0_106 : ∀ j : Int, 0 ≤ j → j < 5776 → 0 ≤ w_ei ws (w_ar ws (n_v vs 0) 106) j ∧ w_ei ws (w_ar ws (n_v vs 0) 106) j ≤ 75 := fun j h0 h1 => th_el hD hth cr_0_106 (kd := 0) (n := 5776) (m := 5776) (lo := 0) (hi := 75) (rs := []) (L := []) rfl (by decide) (j := j.toNat) (by omega)
  have hK_0_108 : ∀ j : Int, 0 ≤ j → j < 130 → 0 ≤ w_ei ws (w_ar ws (n_v vs 0) 108) j ∧ w_ei ws (w_ar ws (n_v vs 0) 108) j ≤ 75 := fun j h0 h1 => th_el hD hth cr_0_108 (kd := 0) (n := 130) (m := 130) (lo := 0) (hi := 75) (rs := []) (L := []) rfl (by decide) (j := j.toNat) (by omega)
  have hK_0_109 : ∀ j : Int, 0 ≤ j → j < 130 → 0 ≤ w_ei ws (w_ar ws (n_v vs 0) 109) j ∧ w_ei ws (w_ar ws (n_v vs 0) 109) j ≤ 75 := fun j h0 h1 => th_el hD hth cr_0_109 (kd := 0) (n := 130) (m := 130) (lo := 0) (hi := 75) (rs := []) (L := []) rfl (by decide) (j := j.toNat) (by omega)
  have kz_0_100 : 0 ≤ w_fi ws (n_v vs 0) 100 ∧ w_fi ws (n_v vs 0) 100 ≤ 76 := tv_rng (th_fd hD hth r0 (g := GG_150) rfl (k := 100) (t := (0, 0, 76, [])) rfl rfl)
  have kz_0_101 : 0 ≤ w_fi ws (n_v vs 0) 101 ∧ w_fi ws (n_v vs 0) 101 ≤ 76 := tv_rng (th_fd hD hth r0 (g := GG_150) rfl (k := 101) (t := (0, 0, 76, [])) rfl rfl)
  have kz_0_107 : 0 ≤ w_fi ws (n_v vs 0) 107 ∧ w_fi ws (n_v vs 0) 107 ≤ 130 := tv_rng (th_fd hD hth r0 (g := GG_150) rfl (k := 107) (t := (0, 0, 130, [])) rfl rfl)
  have nf0 : fc_1 PRD (20, [2], [60, 4, 6, 369, 5, 100, 101, 107, 2, 95, 102, 104, 108, 109]) ws (vs) := by
    refine ⟨fun n hn => ?_, ?_⟩
    · have hn : n ∈ [2] := hn
      rw [hl]
      simp only [List.mem_cons, List.not_mem_nil, or_false] at hn
      show n < 8; omega
    · show LSA (w_fi ws (n_v vs 2) 5) (w_fi ws (n_v vs 2) 100) (w_fi ws (n_v vs 2) 101) (w_fi ws (n_v vs 2) 107) (w_ei ws (w_ar ws (n_v vs 2) 2)) (w_ei ws (w_ar ws (n_v vs 2) 95)) (w_ei ws (w_ar ws (n_v vs 2) 102)) (w_ei ws (w_ar ws (n_v vs 2) 104)) (w_ei ws (w_ar ws (n_v vs 2) 108)) (w_ei ws (w_ar ws (n_v vs 2) 109))
      rw [q2]
      exact vc_Mo_list_9_0 (v_iv (n_v vs 4)) (v_iv (n_v vs 6)) (v_iv (n_v vs 7)) (w_fi ws (n_v vs 0) 100) (w_ei ws (w_ar ws (n_v vs 0) 2)) (w_ei ws (w_ar ws (n_v vs 0) 95)) (w_ei ws (w_ar ws (n_v vs 0) 102)) (w_ei ws (w_ar ws (n_v vs 0) 104)) (w_fi ws (n_v vs 0) 5) (w_ei ws (w_ar ws (n_v vs 0) 108)) (w_ei ws (w_ar ws (n_v vs 0) 109)) (w_fi ws (n_v vs 0) 107) (w_fi ws (n_v vs 0) 101) (w_ei ws (w_ar ws (n_v vs 0) 105)) (w_ei ws (w_ar ws (n_v vs 0) 106)) k4 k6 k7 d0 f0 g1 f2 f3 f4 f5 hK_0_95 hK_0_102 hK_0_104 hK_0_105 hK_0_106 hK_0_108 hK_0_109 kz_0_100 kz_0_101 kz_0_107
  have nf1 : fc_1 PRD (20, [2, 7], [60, 1, 3, 370, 100, 102, 105, 106]) ws (vs) := by
    refine ⟨fun n hn => ?_, ?_⟩
    · have hn : n ∈ [2, 7] := hn
      rw [hl]
      simp only [List.mem_cons, List.not_mem_nil, or_false] at hn
      show n < 8; omega
    · show LLS (w_fi ws (n_v vs 2) 100) (w_ei ws (w_ar ws (n_v vs 2) 102)) (w_ei ws (w_ar ws (n_v vs 2) 105)) (w_ei ws (w_ar ws (n_v vs 2) 106)) (v_iv (n_v vs 7))
      rw [q2]
      exact vc_Mo_list_9_1 (v_iv (n_v vs 4)) (v_iv (n_v vs 6)) (v_iv (n_v vs 7)) (w_fi ws (n_v vs 0) 100) (w_ei ws (w_ar ws (n_v vs 0) 2)) (w_ei ws (w_ar ws (n_v vs 0) 95)) (w_ei ws (w_ar ws (n_v vs 0) 102)) (w_ei ws (w_ar ws (n_v vs 0) 104)) (w_fi ws (n_v vs 0) 5) (w_ei ws (w_ar ws (n_v vs 0) 108)) (w_ei ws (w_ar ws (n_v vs 0) 109)) (w_fi ws (n_v vs 0) 107) (w_fi ws (n_v vs 0) 101) (w_ei ws (w_ar ws (n_v vs 0) 105)) (w_ei ws (w_ar ws (n_v vs 0) 106)) k4 k6 k7 d0 f0 g1 f2 f3 f4 f5 hK_0_95 hK_0_102 hK_0_104 hK_0_105 hK_0_106 hK_0_108 hK_0_109 kz_0_100 kz_0_101 kz_0_107
  refine ⟨(fun _ h => (by cases h)), [], trivial, ?_, (fun _ h => (by cases h))⟩
  rw [List.append_nil]
  exact List.forall_mem_cons.mpr ⟨⟨show (20 : Nat) < 100 from by decide, nf0⟩, List.forall_mem_cons.mpr ⟨⟨show (20 : Nat) < 100 from by decide, nf1⟩, (fun _ h => (by cases h))⟩⟩
set_option maxHeartbeats 4000000 in
theorem vc_Mo_list_10_r0 (x4 : Int) (x5 : Int) (x6 : Int) (x8 : Int) (x9 : Int) (x10 : Int) (itemLayer_0 : Int → Int) (layerMany_0 : Int) (items_0 : Int) (all_0 : Int → Int) (turned_0 : Int → Int) (firstJoint_0 : Int → Int) (r_0 : Int) (lineA_0 : Int → Int) (lineB_0 : Int → Int) (lines_0 : Int) (k4 : 0 ≤ x4 ∧ x4 ≤ 75) (k5 : 0 ≤ x5 ∧ x5 ≤ 24) (k6 : 1 ≤ x6 ∧ x6 ≤ 76) (k8 : 0 ≤ x8 ∧ x8 ≤ 75) (k9 : 1 ≤ x9 ∧ x9 ≤ 1) (k10 : 1 ≤ x10 ∧ x10 ≤ 76) (d0 : x10 + (-4294967296) ≤ x5 ∧ x5 ≤ x10 + 0) (d1 : x8 + 1 ≤ x10 ∧ x10 ≤ x8 + 1) (d2 : x6 + (-4294967296) ≤ x4 ∧ x4 ≤ x6 + (-1)) (d3 : x4 + (-4294967296) ≤ x5 ∧ x5 ≤ x4 + 23) (f0 : x5 ≤ x10) (f1 : x10 ≤ x10) (f2 : x10 = x8 + x9) (h3 : x8 = itemLayer_0 (x4)) (g5 : x5 = layerMany_0) (f6 : x4 < x6) (g7 : x6 = items_0) (f8 : LIF (r_0) (items_0) (all_0) (turned_0) (itemLayer_0) (firstJoint_0)) (f9 : LNP (r_0) (lines_0) (items_0) (all_0) (itemLayer_0) (lineA_0) (lineB_0)) (f10 : LMF (layerMany_0) (itemLayer_0) (x4)) (f11 : lines_0 = ((items_0 - all_0 (r_0)) + all_0 ((r_0 + 1)))) (hK_0_95 : ∀ j : Int, 0 ≤ j → j < 48 → 0 ≤ turned_0 j ∧ turned_0 j ≤ 1) (hK_0_102 : ∀ j : Int, 0 ≤ j → j < 76 → 0 ≤ itemLayer_0 j ∧ itemLayer_0 j ≤ 75) (hK_0_104 : ∀ j : Int, 0 ≤ j → j < 48 → 0 ≤ firstJoint_0 j ∧ firstJoint_0 j ≤ 76) (hK_0_108 : ∀ j : Int, 0 ≤ j → j < 130 → 0 ≤ lineA_0 j ∧ lineA_0 j ≤ 75) (hK_0_109 : ∀ j : Int, 0 ≤ j → j < 130 → 0 ≤ lineB_0 j ∧ lineB_0 j ≤ 75) (kz_0_100 : 0 ≤ items_0 ∧ items_0 ≤ 76) (kz_0_101 : 0 ≤ layerMany_0 ∧ layerMany_0 ≤ 76) (kz_0_107 : 0 ≤ lines_0 ∧ lines_0 ≤ 130) : 1 ≤ x10 ∧ x10 ≤ 24 := by
  have h := lif_il (i := x4) ‹LIF _ _ _ _ _ _› (by omega) (by omega)
  have h2 := ‹LMF _ _ _›.1
  omega
def o_Mo_list_10 : or_T := (163, 11, [(0, (2, 0, 0, [150])), (2, (2, 0, 0, [150])), (4, (0, 0, 75, [])), (5, (0, 0, 24, [])), (6, (0, 1, 76, [])), (7, (2, 0, 0, [220])), (8, (0, 0, 75, [])), (9, (0, 1, 1, [])), (10, (0, 1, 76, []))], [(7, [5, 10], [5]), (7, [10, 10], [5]), (1, [10, 8, 9], []), (10, [8, 7, 4], []), (9, [7, 2], [102]), (9, [5, 2], [101]), (7, [4, 6], [2]), (9, [6, 2], [100]), (20, [2], [60, 2, 4, 367, 5, 100, 2, 95, 102, 104]), (20, [2], [60, 3, 4, 363, 5, 107, 100, 2, 102, 108, 109]), (20, [2, 4], [60, 1, 1, 368, 101, 102]), (20, [2], [50, 3, 1, 107, 100, 5, 2, 1, 3, 2, 0, 107, 4, 11, 5, 3, 2, 0, 100, 3, 0, 2, 2, 0, 5, 3, 0, 2, 4, 3, 2, 0, 5, 0, 1]), (24, [0, 2], [])], [(10, (0, 1, 24, []))], [], [], [], [(5, 10, -4294967296, 0), (10, 8, 1, 1), (4, 6, -4294967296, -1), (5, 4, -4294967296, 23)])
theorem oo_Mo_list_10 {kA : Nat → ClassId} : or_ok PRD kA GG o_Mo_list_10 := by
  intro A ta ws vs hD hth hl hk hds hf
  have hl : vs.length = 11 := hl
  have hk : ∀ q ∈ ([(0, (2, 0, 0, [150])), (2, (2, 0, 0, [150])), (4, (0, 0, 75, [])), (5, (0, 0, 24, [])), (6, (0, 1, 76, [])), (7, (2, 0, 0, [220])), (8, (0, 0, 75, [])), (9, (0, 1, 1, [])), (10, (0, 1, 76, []))] : List (Nat × tv_T)), tv_ok ta q.2 (n_v vs q.1) := hk
  obtain ⟨t0, hk⟩ := List.forall_mem_cons.mp hk
  have t0 : tv_ok ta (2, 0, 0, [150]) (n_v vs 0) := t0
  have r0 : ta (v_ad (n_v vs 0)) = some 150 := tv_rg t0
  obtain ⟨t2, hk⟩ := List.forall_mem_cons.mp hk
  have t2 : tv_ok ta (2, 0, 0, [150]) (n_v vs 2) := t2
  have r2 : ta (v_ad (n_v vs 2)) = some 150 := tv_rg t2
  obtain ⟨t4, hk⟩ := List.forall_mem_cons.mp hk
  have t4 : tv_ok ta (0, 0, 75, []) (n_v vs 4) := t4
  have k4 : 0 ≤ v_iv (n_v vs 4) ∧ v_iv (n_v vs 4) ≤ 75 := tv_rng t4
  obtain ⟨t5, hk⟩ := List.forall_mem_cons.mp hk
  have t5 : tv_ok ta (0, 0, 24, []) (n_v vs 5) := t5
  have k5 : 0 ≤ v_iv (n_v vs 5) ∧ v_iv (n_v vs 5) ≤ 24 := tv_rng t5
  obtain ⟨t6, hk⟩ := List.forall_mem_cons.mp hk
  have t6 : tv_ok ta (0, 1, 76, []) (n_v vs 6) := t6
  have k6 : 1 ≤ v_iv (n_v vs 6) ∧ v_iv (n_v vs 6) ≤ 76 := tv_rng t6
  obtain ⟨t7, hk⟩ := List.forall_mem_cons.mp hk
  have t7 : tv_ok ta (2, 0, 0, [220]) (n_v vs 7) := t7
  have r7 : ta (v_ad (n_v vs 7)) = some 220 := tv_rg t7
  obtain ⟨t8, hk⟩ := List.forall_mem_cons.mp hk
  have t8 : tv_ok ta (0, 0, 75, []) (n_v vs 8) := t8
  have k8 : 0 ≤ v_iv (n_v vs 8) ∧ v_iv (n_v vs 8) ≤ 75 := tv_rng t8
  obtain ⟨t9, hk⟩ := List.forall_mem_cons.mp hk
  have t9 : tv_ok ta (0, 1, 1, []) (n_v vs 9) := t9
  have k9 : 1 ≤ v_iv (n_v vs 9) ∧ v_iv (n_v vs 9) ≤ 1 := tv_rng t9
  obtain ⟨t10, hk⟩ := List.forall_mem_cons.mp hk
  have t10 : tv_ok ta (0, 1, 76, []) (n_v vs 10) := t10
  have k10 : 1 ≤ v_iv (n_v vs 10) ∧ v_iv (n_v vs 10) ≤ 76 := tv_rng t10
  have hds : ∀ q ∈ ([(5, 10, -4294967296, 0), (10, 8, 1, 1), (4, 6, -4294967296, -1), (5, 4, -4294967296, 23)] : List of_T), n_iv vs q.2.1 + q.2.2.1 ≤ n_iv vs q.1 ∧ n_iv vs q.1 ≤ n_iv vs q.2.1 + q.2.2.2 := hds
  obtain ⟨d0, hds⟩ := List.forall_mem_cons.mp hds
  have d0 : v_iv (n_v vs 10) + (-4294967296) ≤ v_iv (n_v vs 5) ∧ v_iv (n_v vs 5) ≤ v_iv (n_v vs 10) + 0 := d0
  obtain ⟨d1, hds⟩ := List.forall_mem_cons.mp hds
  have d1 : v_iv (n_v vs 8) + 1 ≤ v_iv (n_v vs 10) ∧ v_iv (n_v vs 10) ≤ v_iv (n_v vs 8) + 1 := d1
  obtain ⟨d2, hds⟩ := List.forall_mem_cons.mp hds
  have d2 : v_iv (n_v vs 6) + (-4294967296) ≤ v_iv (n_v vs 4) ∧ v_iv (n_v vs 4) ≤ v_iv (n_v vs 6) + (-1) := d2
  obtain ⟨d3, hds⟩ := List.forall_mem_cons.mp hds
  have d3 : v_iv (n_v vs 4) + (-4294967296) ≤ v_iv (n_v vs 5) ∧ v_iv (n_v vs 5) ≤ v_iv (n_v vs 4) + 23 := d3
  have hf : fc_ok PRD [(7, [5, 10], [5]), (7, [10, 10], [5]), (1, [10, 8, 9], []), (10, [8, 7, 4], []), (9, [7, 2], [102]), (9, [5, 2], [101]), (7, [4, 6], [2]), (9, [6, 2], [100]), (20, [2], [60, 2, 4, 367, 5, 100, 2, 95, 102, 104]), (20, [2], [60, 3, 4, 363, 5, 107, 100, 2, 102, 108, 109]), (20, [2, 4], [60, 1, 1, 368, 101, 102]), (20, [2], [50, 3, 1, 107, 100, 5, 2, 1, 3, 2, 0, 107, 4, 11, 5, 3, 2, 0, 100, 3, 0, 2, 2, 0, 5, 3, 0, 2, 4, 3, 2, 0, 5, 0, 1]), (24, [0, 2], [])] ta ws vs := hf
  obtain ⟨f0, hf⟩ := fc_un (show (7 : Nat) < 100 from by decide) hf
  have f0 : v_iv (n_v vs 5) ≤ v_iv (n_v vs 10) := f0
  obtain ⟨f1, hf⟩ := fc_un (show (7 : Nat) < 100 from by decide) hf
  have f1 : v_iv (n_v vs 10) ≤ v_iv (n_v vs 10) := f1
  obtain ⟨f2, hf⟩ := fc_un (show (1 : Nat) < 100 from by decide) hf
  have f2 : v_iv (n_v vs 10) = v_iv (n_v vs 8) + v_iv (n_v vs 9) := f2
  obtain ⟨f3, hf⟩ := fc_un (show (10 : Nat) < 100 from by decide) hf
  have f3 : v_iv (n_v vs 8) = w_el ws (v_ad (n_v vs 7)) (v_iv (n_v vs 4)).toNat := f3
  obtain ⟨f4, hf⟩ := fc_un (show (9 : Nat) < 100 from by decide) hf
  have f4 : n_v vs 7 = w_fd ws (v_ad (n_v vs 2)) 102 := f4
  obtain ⟨f5, hf⟩ := fc_un (show (9 : Nat) < 100 from by decide) hf
  have f5 : n_v vs 5 = w_fd ws (v_ad (n_v vs 2)) 101 := f5
  obtain ⟨f6, hf⟩ := fc_un (show (7 : Nat) < 100 from by decide) hf
  have f6 : v_iv (n_v vs 4) < v_iv (n_v vs 6) := f6
  obtain ⟨f7, hf⟩ := fc_un (show (9 : Nat) < 100 from by decide) hf
  have f7 : n_v vs 6 = w_fd ws (v_ad (n_v vs 2)) 100 := f7
  obtain ⟨f8, hf⟩ := fc_un (show (20 : Nat) < 100 from by decide) hf
  have f8 : LIF (w_fi ws (n_v vs 2) 5) (w_fi ws (n_v vs 2) 100) (w_ei ws (w_ar ws (n_v vs 2) 2)) (w_ei ws (w_ar ws (n_v vs 2) 95)) (w_ei ws (w_ar ws (n_v vs 2) 102)) (w_ei ws (w_ar ws (n_v vs 2) 104)) := f8
  obtain ⟨f9, hf⟩ := fc_un (show (20 : Nat) < 100 from by decide) hf
  have f9 : LNP (w_fi ws (n_v vs 2) 5) (w_fi ws (n_v vs 2) 107) (w_fi ws (n_v vs 2) 100) (w_ei ws (w_ar ws (n_v vs 2) 2)) (w_ei ws (w_ar ws (n_v vs 2) 102)) (w_ei ws (w_ar ws (n_v vs 2) 108)) (w_ei ws (w_ar ws (n_v vs 2) 109)) := f9
  obtain ⟨f10, hf⟩ := fc_un (show (20 : Nat) < 100 from by decide) hf
  have f10 : LMF (w_fi ws (n_v vs 2) 101) (w_ei ws (w_ar ws (n_v vs 2) 102)) (v_iv (n_v vs 4)) := f10
  obtain ⟨f11, hf⟩ := fc_un (show (20 : Nat) < 100 from by decide) hf
  have f11 : w_fi ws (n_v vs 2) 107 = ((w_fi ws (n_v vs 2) 100 - w_ei ws (w_ar ws (n_v vs 2) 2) (w_fi ws (n_v vs 2) 5)) + w_ei ws (w_ar ws (n_v vs 2) 2) ((w_fi ws (n_v vs 2) 5 + 1))) := f11
  obtain ⟨f12, hf⟩ := fc_un (show (24 : Nat) < 100 from by decide) hf
  have f12 : n_v vs 0 = n_v vs 2 := f12
  have q2 : n_v vs 2 = n_v vs 0 := f12.symm
  rw [q2] at f4
  rw [q2] at f5
  rw [q2] at f7
  rw [q2] at f8
  rw [q2] at f9
  rw [q2] at f10
  rw [q2] at f11
  have cr_0_2 : ta (w_ar ws (n_v vs 0) 2) = some 152 := tv_rg (th_fd hD hth r0 (g := GG_150) rfl (k := 2) (t := (2, 0, 0, [152])) rfl rfl)
  have cr_0_95 : ta (w_ar ws (n_v vs 0) 95) = some 216 := tv_rg (th_fd hD hth r0 (g := GG_150) rfl (k := 95) (t := (2, 0, 0, [216])) rfl rfl)
  have cr_0_102 : ta (w_ar ws (n_v vs 0) 102) = some 220 := tv_rg (th_fd hD hth r0 (g := GG_150) rfl (k := 102) (t := (2, 0, 0, [220])) rfl rfl)
  have cr_0_104 : ta (w_ar ws (n_v vs 0) 104) = some 222 := tv_rg (th_fd hD hth r0 (g := GG_150) rfl (k := 104) (t := (2, 0, 0, [222])) rfl rfl)
  have cr_0_108 : ta (w_ar ws (n_v vs 0) 108) = some 225 := tv_rg (th_fd hD hth r0 (g := GG_150) rfl (k := 108) (t := (2, 0, 0, [225])) rfl rfl)
  have cr_0_109 : ta (w_ar ws (n_v vs 0) 109) = some 226 := tv_rg (th_fd hD hth r0 (g := GG_150) rfl (k := 109) (t := (2, 0, 0, [226])) rfl rfl)
  have ad_7 : v_ad (n_v vs 7) = w_ar ws (n_v vs 0) 102 := congrArg v_ad f4
  rw [ad_7] at f3
  have h3 : v_iv (n_v vs 8) = w_ei ws (w_ar ws (n_v vs 0) 102) (v_iv (n_v vs 4)) := f3
  have g5 : v_iv (n_v vs 5) = w_fi ws (n_v vs 0) 101 := congrArg v_iv f5
  have g7 : v_iv (n_v vs 6) = w_fi ws (n_v vs 0) 100 := congrArg v_iv f7
  have hK_0_95 : ∀ j : Int, 0 ≤ j → j < 48 → 0 ≤ w_ei ws (w_ar ws (n_v vs 0) 95) j ∧ w_ei ws (w_ar ws (n_v vs 0) 95) j ≤ 1 := fun j h0 h1 => th_el hD hth cr_0_95 (kd := 2) (n := 48) (m := 48) (lo := 0) (hi := 1) (rs := []) (L := []) rfl (by decide) (j := j.toNat) (by omega)
  have hK_0_102 : ∀ j : Int, 0 ≤ j → j < 76 → 0 ≤ w_ei ws (w_ar ws (n_v vs 0) 102) j ∧ w_ei ws (w_ar ws (n_v vs 0) 102) j ≤ 75 := fun j h0 h1 => th_el hD hth cr_0_102 (kd := 0) (n := 76) (m := 76) (lo := 0) (hi := 75) (rs := []) (L := []) rfl (by decide) (j := j.toNat) (by omega)
  have hK_0_104 : ∀ j : Int, 0 ≤ j → j < 48 → 0 ≤ w_ei ws (w_ar ws (n_v vs 0) 104) j ∧ w_ei ws (w_ar ws (n_v vs 0) 104) j ≤ 76 := fun j h0 h1 => th_el hD hth cr_0_104 (kd := 0) (n := 48) (m := 48) (lo := 0) (hi := 76) (rs := []) (L := []) rfl (by decide) (j := j.toNat) (by omega)
  have hK_0_108 : ∀ j : Int, 0 ≤ j → j < 130 → 0 ≤ w_ei ws (w_ar ws (n_v vs 0) 108) j ∧ w_ei ws (w_ar ws (n_v vs 0) 108) j ≤ 75 := fun j h0 h1 => th_el hD hth cr_0_108 (kd := 0) (n := 130) (m := 130) (lo := 0) (hi := 75) (rs := []) (L := []) rfl (by decide) (j := j.toNat) (by omega)
  have hK_0_109 : ∀ j : Int, 0 ≤ j → j < 130 → 0 ≤ w_ei ws (w_ar ws (n_v vs 0) 109) j ∧ w_ei ws (w_ar ws (n_v vs 0) 109) j ≤ 75 := fun j h0 h1 => th_el hD hth cr_0_109 (kd := 0) (n := 130) (m := 130) (lo := 0) (hi := 75) (rs := []) (L := []) rfl (by decide) (j := j.toNat) (by omega)
  have kz_0_100 : 0 ≤ w_fi ws (n_v vs 0) 100 ∧ w_fi ws (n_v vs 0) 100 ≤ 76 := tv_rng (th_fd hD hth r0 (g := GG_150) rfl (k := 100) (t := (0, 0, 76, [])) rfl rfl)
  have kz_0_101 : 0 ≤ w_fi ws (n_v vs 0) 101 ∧ w_fi ws (n_v vs 0) 101 ≤ 76 := tv_rng (th_fd hD hth r0 (g := GG_150) rfl (k := 101) (t := (0, 0, 76, [])) rfl rfl)
  have kz_0_107 : 0 ≤ w_fi ws (n_v vs 0) 107 ∧ w_fi ws (n_v vs 0) 107 ≤ 130 := tv_rng (th_fd hD hth r0 (g := GG_150) rfl (k := 107) (t := (0, 0, 130, [])) rfl rfl)
  have hrf0 : 1 ≤ v_iv (n_v vs 10) ∧ v_iv (n_v vs 10) ≤ 24 := vc_Mo_list_10_r0 (v_iv (n_v vs 4)) (v_iv (n_v vs 5)) (v_iv (n_v vs 6)) (v_iv (n_v vs 8)) (v_iv (n_v vs 9)) (v_iv (n_v vs 10)) (w_ei ws (w_ar ws (n_v vs 0) 102)) (w_fi ws (n_v vs 0) 101) (w_fi ws (n_v vs 0) 100) (w_ei ws (w_ar ws (n_v vs 0) 2)) (w_ei ws (w_ar ws (n_v vs 0) 95)) (w_ei ws (w_ar ws (n_v vs 0) 104)) (w_fi ws (n_v vs 0) 5) (w_ei ws (w_ar ws (n_v vs 0) 108)) (w_ei ws (w_ar ws (n_v vs 0) 109)) (w_fi ws (n_v vs 0) 107) k4 k5 k6 k8 k9 k10 d0 d1 d2 d3 f0 f1 f2 h3 g5 f6 g7 f8 f9 f10 f11 hK_0_95 hK_0_102 hK_0_104 hK_0_108 hK_0_109 kz_0_100 kz_0_101 kz_0_107
  have rf10 : tv_ok ta (0, 1, 24, []) (n_v vs 10) := tv_in t10 (by first | omega | grind) (by first | omega | grind)
  refine ⟨List.forall_mem_cons.mpr ⟨rf10, (fun _ h => (by cases h))⟩, [], trivial, ?_, (fun _ h => (by cases h))⟩
  rw [List.append_nil]
  exact (fun _ h => (by cases h))
set_option maxHeartbeats 4000000 in
theorem vc_Mo_list_11_0 (x4 : Int) (x5 : Int) (x6 : Int) (x8 : Int) (x9 : Int) (x10 : Int) (x11 : Int) (all_0 : Int → Int) (turned_0 : Int → Int) (itemLayer_0 : Int → Int) (firstJoint_0 : Int → Int) (r_0 : Int) (items_0 : Int) (lineA_0 : Int → Int) (lineB_0 : Int → Int) (lines_0 : Int) (itemLayer_1 : Int → Int) (layerMany_1 : Int) (items_1 : Int) (all_1 : Int → Int) (turned_1 : Int → Int) (firstJoint_1 : Int → Int) (r_1 : Int) (lineA_1 : Int → Int) (lineB_1 : Int → Int) (lines_1 : Int) (layerMany_0 : Int) (k4 : 0 ≤ x4 ∧ x4 ≤ 75) (k5 : 0 ≤ x5 ∧ x5 ≤ 24) (k6 : 1 ≤ x6 ∧ x6 ≤ 76) (k8 : 0 ≤ x8 ∧ x8 ≤ 75) (k9 : 1 ≤ x9 ∧ x9 ≤ 1) (k10 : 1 ≤ x10 ∧ x10 ≤ 24) (k11 : 1 ≤ x11 ∧ x11 ≤ 76) (d0 : x4 + 1 ≤ x11 ∧ x11 ≤ x4 + 1) (d1 : x6 + (-4294967296) ≤ x11 ∧ x11 ≤ x6 + 0) (d2 : x10 + (-4294967296) ≤ x5 ∧ x5 ≤ x10 + 0) (d3 : x8 + 1 ≤ x10 ∧ x10 ≤ x8 + 1) (d4 : x6 + (-4294967296) ≤ x4 ∧ x4 ≤ x6 + (-1)) (d5 : x4 + (-4294967296) ≤ x5 ∧ x5 ≤ x4 + 23) (f0 : x11 = x4 + 1) (f1 : LIF (r_0) (items_0) (all_0) (turned_0) (itemLayer_0) (firstJoint_0)) (f2 : LNP (r_0) (lines_0) (items_0) (all_0) (itemLayer_0) (lineA_0) (lineB_0)) (f3 : lines_0 = ((items_0 - all_0 (r_0)) + all_0 ((r_0 + 1)))) (f6 : x5 ≤ x10) (f7 : x10 ≤ x10) (f8 : x10 = x8 + x9) (h9 : x8 = itemLayer_1 (x4)) (g11 : x5 = layerMany_1) (f12 : x4 < x6) (g13 : x6 = items_1) (f14 : LIF (r_1) (items_1) (all_1) (turned_1) (itemLayer_1) (firstJoint_1)) (f15 : LNP (r_1) (lines_1) (items_1) (all_1) (itemLayer_1) (lineA_1) (lineB_1)) (f16 : LMF (layerMany_1) (itemLayer_1) (x4)) (f17 : lines_1 = ((items_1 - all_1 (r_1)) + all_1 ((r_1 + 1)))) (fe_0_5_1 : r_0 = r_1) (fe_0_100_1 : items_0 = items_1) (fe_0_101_1 : layerMany_0 = x10) (fe_0_107_1 : lines_0 = lines_1) (hE_0_2_1 : ∀ j : Int, all_0 j = all_1 j) (hE_0_95_1 : ∀ j : Int, turned_0 j = turned_1 j) (hK_0_95 : ∀ j : Int, 0 ≤ j → j < 48 → 0 ≤ turned_0 j ∧ turned_0 j ≤ 1) (hE_0_102_1 : ∀ j : Int, itemLayer_0 j = itemLayer_1 j) (hK_0_102 : ∀ j : Int, 0 ≤ j → j < 76 → 0 ≤ itemLayer_0 j ∧ itemLayer_0 j ≤ 75) (hE_0_104_1 : ∀ j : Int, firstJoint_0 j = firstJoint_1 j) (hK_0_104 : ∀ j : Int, 0 ≤ j → j < 48 → 0 ≤ firstJoint_0 j ∧ firstJoint_0 j ≤ 76) (hE_0_108_1 : ∀ j : Int, lineA_0 j = lineA_1 j) (hK_0_108 : ∀ j : Int, 0 ≤ j → j < 130 → 0 ≤ lineA_0 j ∧ lineA_0 j ≤ 75) (hE_0_109_1 : ∀ j : Int, lineB_0 j = lineB_1 j) (hK_0_109 : ∀ j : Int, 0 ≤ j → j < 130 → 0 ≤ lineB_0 j ∧ lineB_0 j ≤ 75) (kz_0_100 : 0 ≤ items_0 ∧ items_0 ≤ 76) (kz_0_101 : 0 ≤ layerMany_0 ∧ layerMany_0 ≤ 76) (kz_0_107 : 0 ≤ lines_0 ∧ lines_0 ≤ 130) : LMF (layerMany_0) (itemLayer_0) (x11) := by
  subst fe_0_5_1
  subst fe_0_100_1
  subst fe_0_107_1
  have e_hE_0_2_1 := funext hE_0_2_1; subst e_hE_0_2_1
  have e_hE_0_95_1 := funext hE_0_95_1; subst e_hE_0_95_1
  have e_hE_0_102_1 := funext hE_0_102_1; subst e_hE_0_102_1
  have e_hE_0_104_1 := funext hE_0_104_1; subst e_hE_0_104_1
  have e_hE_0_108_1 := funext hE_0_108_1; subst e_hE_0_108_1
  have e_hE_0_109_1 := funext hE_0_109_1; subst e_hE_0_109_1
  first
    | exact ⟨by omega, fun j a b => by exfalso; omega⟩
    | exact lm1_step ‹LMF _ _ _› ‹LIF _ _ _ _ _ _› (by omega) (by omega) (by assumption) (by assumption) (by omega)
def o_Mo_list_11 : or_T := (139, 12, [(0, (2, 0, 0, [150])), (2, (2, 0, 0, [150])), (4, (0, 0, 75, [])), (5, (0, 0, 24, [])), (6, (0, 1, 76, [])), (7, (2, 0, 0, [220])), (8, (0, 0, 75, [])), (9, (0, 1, 1, [])), (10, (0, 1, 24, [])), (11, (0, 1, 76, []))], [(6, [11, 4], [1]), (20, [2], [60, 2, 4, 367, 5, 100, 2, 95, 102, 104]), (20, [2], [60, 3, 4, 363, 5, 107, 100, 2, 102, 108, 109]), (20, [2], [50, 3, 1, 107, 100, 5, 2, 1, 3, 2, 0, 107, 4, 11, 5, 3, 2, 0, 100, 3, 0, 2, 2, 0, 5, 3, 0, 2, 4, 3, 2, 0, 5, 0, 1]), (24, [0, 2], []), (101, [2, 10], [101]), (7, [5, 10], [5]), (7, [10, 10], [5]), (1, [10, 8, 9], []), (10, [8, 7, 4], []), (9, [7, 2], [102]), (9, [5, 2], [101]), (7, [4, 6], [2]), (9, [6, 2], [100]), (20, [2], [60, 2, 4, 367, 5, 100, 2, 95, 102, 104]), (20, [2], [60, 3, 4, 363, 5, 107, 100, 2, 102, 108, 109]), (20, [2, 4], [60, 1, 1, 368, 101, 102]), (20, [2], [50, 3, 1, 107, 100, 5, 2, 1, 3, 2, 0, 107, 4, 11, 5, 3, 2, 0, 100, 3, 0, 2, 2, 0, 5, 3, 0, 2, 4, 3, 2, 0, 5, 0, 1])], [], [], [(20, [2, 11], [60, 1, 1, 368, 101, 102])], [], [(11, 4, 1, 1), (11, 6, -4294967296, 0), (5, 10, -4294967296, 0), (10, 8, 1, 1), (4, 6, -4294967296, -1), (5, 4, -4294967296, 23)])
theorem oo_Mo_list_11 {kA : Nat → ClassId} : or_ok PRD kA GG o_Mo_list_11 := by
  intro A ta ws vs hD hth hl hk hds hf
  have hl : vs.length = 12 := hl
  have hk : ∀ q ∈ ([(0, (2, 0, 0, [150])), (2, (2, 0, 0, [150])), (4, (0, 0, 75, [])), (5, (0, 0, 24, [])), (6, (0, 1, 76, [])), (7, (2, 0, 0, [220])), (8, (0, 0, 75, [])), (9, (0, 1, 1, [])), (10, (0, 1, 24, [])), (11, (0, 1, 76, []))] : List (Nat × tv_T)), tv_ok ta q.2 (n_v vs q.1) := hk
  obtain ⟨t0, hk⟩ := List.forall_mem_cons.mp hk
  have t0 : tv_ok ta (2, 0, 0, [150]) (n_v vs 0) := t0
  have r0 : ta (v_ad (n_v vs 0)) = some 150 := tv_rg t0
  obtain ⟨t2, hk⟩ := List.forall_mem_cons.mp hk
  have t2 : tv_ok ta (2, 0, 0, [150]) (n_v vs 2) := t2
  have r2 : ta (v_ad (n_v vs 2)) = some 150 := tv_rg t2
  obtain ⟨t4, hk⟩ := List.forall_mem_cons.mp hk
  have t4 : tv_ok ta (0, 0, 75, []) (n_v vs 4) := t4
  have k4 : 0 ≤ v_iv (n_v vs 4) ∧ v_iv (n_v vs 4) ≤ 75 := tv_rng t4
  obtain ⟨t5, hk⟩ := List.forall_mem_cons.mp hk
  have t5 : tv_ok ta (0, 0, 24, []) (n_v vs 5) := t5
  have k5 : 0 ≤ v_iv (n_v vs 5) ∧ v_iv (n_v vs 5) ≤ 24 := tv_rng t5
  obtain ⟨t6, hk⟩ := List.forall_mem_cons.mp hk
  have t6 : tv_ok ta (0, 1, 76, []) (n_v vs 6) := t6
  have k6 : 1 ≤ v_iv (n_v vs 6) ∧ v_iv (n_v vs 6) ≤ 76 := tv_rng t6
  obtain ⟨t7, hk⟩ := List.forall_mem_cons.mp hk
  have t7 : tv_ok ta (2, 0, 0, [220]) (n_v vs 7) := t7
  have r7 : ta (v_ad (n_v vs 7)) = some 220 := tv_rg t7
  obtain ⟨t8, hk⟩ := List.forall_mem_cons.mp hk
  have t8 : tv_ok ta (0, 0, 75, []) (n_v vs 8) := t8
  have k8 : 0 ≤ v_iv (n_v vs 8) ∧ v_iv (n_v vs 8) ≤ 75 := tv_rng t8
  obtain ⟨t9, hk⟩ := List.forall_mem_cons.mp hk
  have t9 : tv_ok ta (0, 1, 1, []) (n_v vs 9) := t9
  have k9 : 1 ≤ v_iv (n_v vs 9) ∧ v_iv (n_v vs 9) ≤ 1 := tv_rng t9
  obtain ⟨t10, hk⟩ := List.forall_mem_cons.mp hk
  have t10 : tv_ok ta (0, 1, 24, []) (n_v vs 10) := t10
  have k10 : 1 ≤ v_iv (n_v vs 10) ∧ v_iv (n_v vs 10) ≤ 24 := tv_rng t10
  obtain ⟨t11, hk⟩ := List.forall_mem_cons.mp hk
  have t11 : tv_ok ta (0, 1, 76, []) (n_v vs 11) := t11
  have k11 : 1 ≤ v_iv (n_v vs 11) ∧ v_iv (n_v vs 11) ≤ 76 := tv_rng t11
  have hds : ∀ q ∈ ([(11, 4, 1, 1), (11, 6, -4294967296, 0), (5, 10, -4294967296, 0), (10, 8, 1, 1), (4, 6, -4294967296, -1), (5, 4, -4294967296, 23)] : List of_T), n_iv vs q.2.1 + q.2.2.1 ≤ n_iv vs q.1 ∧ n_iv vs q.1 ≤ n_iv vs q.2.1 + q.2.2.2 := hds
  obtain ⟨d0, hds⟩ := List.forall_mem_cons.mp hds
  have d0 : v_iv (n_v vs 4) + 1 ≤ v_iv (n_v vs 11) ∧ v_iv (n_v vs 11) ≤ v_iv (n_v vs 4) + 1 := d0
  obtain ⟨d1, hds⟩ := List.forall_mem_cons.mp hds
  have d1 : v_iv (n_v vs 6) + (-4294967296) ≤ v_iv (n_v vs 11) ∧ v_iv (n_v vs 11) ≤ v_iv (n_v vs 6) + 0 := d1
  obtain ⟨d2, hds⟩ := List.forall_mem_cons.mp hds
  have d2 : v_iv (n_v vs 10) + (-4294967296) ≤ v_iv (n_v vs 5) ∧ v_iv (n_v vs 5) ≤ v_iv (n_v vs 10) + 0 := d2
  obtain ⟨d3, hds⟩ := List.forall_mem_cons.mp hds
  have d3 : v_iv (n_v vs 8) + 1 ≤ v_iv (n_v vs 10) ∧ v_iv (n_v vs 10) ≤ v_iv (n_v vs 8) + 1 := d3
  obtain ⟨d4, hds⟩ := List.forall_mem_cons.mp hds
  have d4 : v_iv (n_v vs 6) + (-4294967296) ≤ v_iv (n_v vs 4) ∧ v_iv (n_v vs 4) ≤ v_iv (n_v vs 6) + (-1) := d4
  obtain ⟨d5, hds⟩ := List.forall_mem_cons.mp hds
  have d5 : v_iv (n_v vs 4) + (-4294967296) ≤ v_iv (n_v vs 5) ∧ v_iv (n_v vs 5) ≤ v_iv (n_v vs 4) + 23 := d5
  have hf : fc_ok PRD [(6, [11, 4], [1]), (20, [2], [60, 2, 4, 367, 5, 100, 2, 95, 102, 104]), (20, [2], [60, 3, 4, 363, 5, 107, 100, 2, 102, 108, 109]), (20, [2], [50, 3, 1, 107, 100, 5, 2, 1, 3, 2, 0, 107, 4, 11, 5, 3, 2, 0, 100, 3, 0, 2, 2, 0, 5, 3, 0, 2, 4, 3, 2, 0, 5, 0, 1]), (24, [0, 2], []), (101, [2, 10], [101]), (7, [5, 10], [5]), (7, [10, 10], [5]), (1, [10, 8, 9], []), (10, [8, 7, 4], []), (9, [7, 2], [102]), (9, [5, 2], [101]), (7, [4, 6], [2]), (9, [6, 2], [100]), (20, [2], [60, 2, 4, 367, 5, 100, 2, 95, 102, 104]), (20, [2], [60, 3, 4, 363, 5, 107, 100, 2, 102, 108, 109]), (20, [2, 4], [60, 1, 1, 368, 101, 102]), (20, [2], [50, 3, 1, 107, 100, 5, 2, 1, 3, 2, 0, 107, 4, 11, 5, 3, 2, 0, 100, 3, 0, 2, 2, 0, 5, 3, 0, 2, 4, 3, 2, 0, 5, 0, 1])] ta ws vs := hf
  obtain ⟨f0, hf⟩ := fc_un (show (6 : Nat) < 100 from by decide) hf
  have f0 : v_iv (n_v vs 11) = v_iv (n_v vs 4) + 1 := f0
  obtain ⟨f1, hf⟩ := fc_un (show (20 : Nat) < 100 from by decide) hf
  have f1 : LIF (w_fi ws (n_v vs 2) 5) (w_fi ws (n_v vs 2) 100) (w_ei ws (w_ar ws (n_v vs 2) 2)) (w_ei ws (w_ar ws (n_v vs 2) 95)) (w_ei ws (w_ar ws (n_v vs 2) 102)) (w_ei ws (w_ar ws (n_v vs 2) 104)) := f1
  obtain ⟨f2, hf⟩ := fc_un (show (20 : Nat) < 100 from by decide) hf
  have f2 : LNP (w_fi ws (n_v vs 2) 5) (w_fi ws (n_v vs 2) 107) (w_fi ws (n_v vs 2) 100) (w_ei ws (w_ar ws (n_v vs 2) 2)) (w_ei ws (w_ar ws (n_v vs 2) 102)) (w_ei ws (w_ar ws (n_v vs 2) 108)) (w_ei ws (w_ar ws (n_v vs 2) 109)) := f2
  obtain ⟨f3, hf⟩ := fc_un (show (20 : Nat) < 100 from by decide) hf
  have f3 : w_fi ws (n_v vs 2) 107 = ((w_fi ws (n_v vs 2) 100 - w_ei ws (w_ar ws (n_v vs 2) 2) (w_fi ws (n_v vs 2) 5)) + w_ei ws (w_ar ws (n_v vs 2) 2) ((w_fi ws (n_v vs 2) 5 + 1))) := f3
  obtain ⟨f4, hf⟩ := fc_un (show (24 : Nat) < 100 from by decide) hf
  have f4 : n_v vs 0 = n_v vs 2 := f4
  obtain ⟨ta1, w1, le1, ⟨_, s1⟩, hf⟩ := fc_us (show ¬ (101 : Nat) < 100 from by decide) hf
  have s1 : (∀ b j, w_el ws b j = w_el w1 b j) ∧ ∀ b j, w_fd ws b j = if b = v_ad (n_v vs 2) ∧ j = 101 then n_v vs 10 else w_fd w1 b j := s1
  obtain ⟨f6, hf⟩ := fc_un (show (7 : Nat) < 100 from by decide) hf
  have f6 : v_iv (n_v vs 5) ≤ v_iv (n_v vs 10) := f6
  obtain ⟨f7, hf⟩ := fc_un (show (7 : Nat) < 100 from by decide) hf
  have f7 : v_iv (n_v vs 10) ≤ v_iv (n_v vs 10) := f7
  obtain ⟨f8, hf⟩ := fc_un (show (1 : Nat) < 100 from by decide) hf
  have f8 : v_iv (n_v vs 10) = v_iv (n_v vs 8) + v_iv (n_v vs 9) := f8
  obtain ⟨f9, hf⟩ := fc_un (show (10 : Nat) < 100 from by decide) hf
  have f9 : v_iv (n_v vs 8) = w_el w1 (v_ad (n_v vs 7)) (v_iv (n_v vs 4)).toNat := f9
  obtain ⟨f10, hf⟩ := fc_un (show (9 : Nat) < 100 from by decide) hf
  have f10 : n_v vs 7 = w_fd w1 (v_ad (n_v vs 2)) 102 := f10
  obtain ⟨f11, hf⟩ := fc_un (show (9 : Nat) < 100 from by decide) hf
  have f11 : n_v vs 5 = w_fd w1 (v_ad (n_v vs 2)) 101 := f11
  obtain ⟨f12, hf⟩ := fc_un (show (7 : Nat) < 100 from by decide) hf
  have f12 : v_iv (n_v vs 4) < v_iv (n_v vs 6) := f12
  obtain ⟨f13, hf⟩ := fc_un (show (9 : Nat) < 100 from by decide) hf
  have f13 : n_v vs 6 = w_fd w1 (v_ad (n_v vs 2)) 100 := f13
  obtain ⟨f14, hf⟩ := fc_un (show (20 : Nat) < 100 from by decide) hf
  have f14 : LIF (w_fi w1 (n_v vs 2) 5) (w_fi w1 (n_v vs 2) 100) (w_ei w1 (w_ar w1 (n_v vs 2) 2)) (w_ei w1 (w_ar w1 (n_v vs 2) 95)) (w_ei w1 (w_ar w1 (n_v vs 2) 102)) (w_ei w1 (w_ar w1 (n_v vs 2) 104)) := f14
  obtain ⟨f15, hf⟩ := fc_un (show (20 : Nat) < 100 from by decide) hf
  have f15 : LNP (w_fi w1 (n_v vs 2) 5) (w_fi w1 (n_v vs 2) 107) (w_fi w1 (n_v vs 2) 100) (w_ei w1 (w_ar w1 (n_v vs 2) 2)) (w_ei w1 (w_ar w1 (n_v vs 2) 102)) (w_ei w1 (w_ar w1 (n_v vs 2) 108)) (w_ei w1 (w_ar w1 (n_v vs 2) 109)) := f15
  obtain ⟨f16, hf⟩ := fc_un (show (20 : Nat) < 100 from by decide) hf
  have f16 : LMF (w_fi w1 (n_v vs 2) 101) (w_ei w1 (w_ar w1 (n_v vs 2) 102)) (v_iv (n_v vs 4)) := f16
  obtain ⟨f17, hf⟩ := fc_un (show (20 : Nat) < 100 from by decide) hf
  have f17 : w_fi w1 (n_v vs 2) 107 = ((w_fi w1 (n_v vs 2) 100 - w_ei w1 (w_ar w1 (n_v vs 2) 2) (w_fi w1 (n_v vs 2) 5)) + w_ei w1 (w_ar w1 (n_v vs 2) 2) ((w_fi w1 (n_v vs 2) 5 + 1))) := f17
  have q2 : n_v vs 2 = n_v vs 0 := f4.symm
  rw [q2] at f1
  rw [q2] at f2
  rw [q2] at f3
  rw [q2] at s1
  rw [q2] at f10
  rw [q2] at f11
  rw [q2] at f13
  rw [q2] at f14
  rw [q2] at f15
  rw [q2] at f16
  rw [q2] at f17
  have ar_0_2_1 : w_ar w1 (n_v vs 0) 2 = w_ar ws (n_v vs 0) 2 := by show v_ad (w_fd w1 _ _) = v_ad (w_fd ws _ _); rw [s1.2, if_neg (fun e => absurd e.2 (by decide))]
  have cr_0_2 : ta (w_ar ws (n_v vs 0) 2) = some 152 := tv_rg (th_fd hD hth r0 (g := GG_150) rfl (k := 2) (t := (2, 0, 0, [152])) rfl rfl)
  have ar_0_95_1 : w_ar w1 (n_v vs 0) 95 = w_ar ws (n_v vs 0) 95 := by show v_ad (w_fd w1 _ _) = v_ad (w_fd ws _ _); rw [s1.2, if_neg (fun e => absurd e.2 (by decide))]
  have cr_0_95 : ta (w_ar ws (n_v vs 0) 95) = some 216 := tv_rg (th_fd hD hth r0 (g := GG_150) rfl (k := 95) (t := (2, 0, 0, [216])) rfl rfl)
  have ar_0_102_1 : w_ar w1 (n_v vs 0) 102 = w_ar ws (n_v vs 0) 102 := by show v_ad (w_fd w1 _ _) = v_ad (w_fd ws _ _); rw [s1.2, if_neg (fun e => absurd e.2 (by decide))]
  have cr_0_102 : ta (w_ar ws (n_v vs 0) 102) = some 220 := tv_rg (th_fd hD hth r0 (g := GG_150) rfl (k := 102) (t := (2, 0, 0, [220])) rfl rfl)
  have ar_0_104_1 : w_ar w1 (n_v vs 0) 104 = w_ar ws (n_v vs 0) 104 := by show v_ad (w_fd w1 _ _) = v_ad (w_fd ws _ _); rw [s1.2, if_neg (fun e => absurd e.2 (by decide))]
  have cr_0_104 : ta (w_ar ws (n_v vs 0) 104) = some 222 := tv_rg (th_fd hD hth r0 (g := GG_150) rfl (k := 104) (t := (2, 0, 0, [222])) rfl rfl)
  have ar_0_108_1 : w_ar w1 (n_v vs 0) 108 = w_ar ws (n_v vs 0) 108 := by show v_ad (w_fd w1 _ _) = v_ad (w_fd ws _ _); rw [s1.2, if_neg (fun e => absurd e.2 (by decide))]
  have cr_0_108 : ta (w_ar ws (n_v vs 0) 108) = some 225 := tv_rg (th_fd hD hth r0 (g := GG_150) rfl (k := 108) (t := (2, 0, 0, [225])) rfl rfl)
  have ar_0_109_1 : w_ar w1 (n_v vs 0) 109 = w_ar ws (n_v vs 0) 109 := by show v_ad (w_fd w1 _ _) = v_ad (w_fd ws _ _); rw [s1.2, if_neg (fun e => absurd e.2 (by decide))]
  have cr_0_109 : ta (w_ar ws (n_v vs 0) 109) = some 226 := tv_rg (th_fd hD hth r0 (g := GG_150) rfl (k := 109) (t := (2, 0, 0, [226])) rfl rfl)
  have ad_7 : v_ad (n_v vs 7) = w_ar ws (n_v vs 0) 102 := (congrArg v_ad f10).trans ar_0_102_1
  rw [ad_7] at f9
  have h9 : v_iv (n_v vs 8) = w_ei w1 (w_ar ws (n_v vs 0) 102) (v_iv (n_v vs 4)) := f9
  have g11 : v_iv (n_v vs 5) = w_fi w1 (n_v vs 0) 101 := congrArg v_iv f11
  have g13 : v_iv (n_v vs 6) = w_fi w1 (n_v vs 0) 100 := congrArg v_iv f13
  rw [ar_0_2_1] at f14
  rw [ar_0_95_1] at f14
  rw [ar_0_102_1] at f14
  rw [ar_0_104_1] at f14
  rw [ar_0_2_1] at f15
  rw [ar_0_102_1] at f15
  rw [ar_0_108_1] at f15
  rw [ar_0_109_1] at f15
  rw [ar_0_102_1] at f16
  rw [ar_0_2_1] at f17
  have fe_0_5_1 : w_fi ws (n_v vs 0) 5 = w_fi w1 (n_v vs 0) 5 := by show v_iv (w_fd _ _ _) = v_iv (w_fd _ _ _); rw [s1.2, if_neg (fun e => absurd e.2 (by decide))]
  have fe_0_100_1 : w_fi ws (n_v vs 0) 100 = w_fi w1 (n_v vs 0) 100 := by show v_iv (w_fd _ _ _) = v_iv (w_fd _ _ _); rw [s1.2, if_neg (fun e => absurd e.2 (by decide))]
  have fe_0_101_1 : w_fi ws (n_v vs 0) 101 = v_iv (n_v vs 10) := by show v_iv (w_fd _ _ _) = _; rw [s1.2, if_pos ⟨rfl, rfl⟩]
  have fe_0_107_1 : w_fi ws (n_v vs 0) 107 = w_fi w1 (n_v vs 0) 107 := by show v_iv (w_fd _ _ _) = v_iv (w_fd _ _ _); rw [s1.2, if_neg (fun e => absurd e.2 (by decide))]
  have hE_0_2_1 : ∀ j : Int, w_ei ws (w_ar ws (n_v vs 0) 2) j = w_ei w1 (w_ar ws (n_v vs 0) 2) j := fun j => s1.1 _ _
  have hE_0_95_1 : ∀ j : Int, w_ei ws (w_ar ws (n_v vs 0) 95) j = w_ei w1 (w_ar ws (n_v vs 0) 95) j := fun j => s1.1 _ _
  have hK_0_95 : ∀ j : Int, 0 ≤ j → j < 48 → 0 ≤ w_ei ws (w_ar ws (n_v vs 0) 95) j ∧ w_ei ws (w_ar ws (n_v vs 0) 95) j ≤ 1 := fun j h0 h1 => th_el hD hth cr_0_95 (kd := 2) (n := 48) (m := 48) (lo := 0) (hi := 1) (rs := []) (L := []) rfl (by decide) (j := j.toNat) (by omega)
  have hE_0_102_1 : ∀ j : Int, w_ei ws (w_ar ws (n_v vs 0) 102) j = w_ei w1 (w_ar ws (n_v vs 0) 102) j := fun j => s1.1 _ _
  have hK_0_102 : ∀ j : Int, 0 ≤ j → j < 76 → 0 ≤ w_ei ws (w_ar ws (n_v vs 0) 102) j ∧ w_ei ws (w_ar ws (n_v vs 0) 102) j ≤ 75 := fun j h0 h1 => th_el hD hth cr_0_102 (kd := 0) (n := 76) (m := 76) (lo := 0) (hi := 75) (rs := []) (L := []) rfl (by decide) (j := j.toNat) (by omega)
  have hE_0_104_1 : ∀ j : Int, w_ei ws (w_ar ws (n_v vs 0) 104) j = w_ei w1 (w_ar ws (n_v vs 0) 104) j := fun j => s1.1 _ _
  have hK_0_104 : ∀ j : Int, 0 ≤ j → j < 48 → 0 ≤ w_ei ws (w_ar ws (n_v vs 0) 104) j ∧ w_ei ws (w_ar ws (n_v vs 0) 104) j ≤ 76 := fun j h0 h1 => th_el hD hth cr_0_104 (kd := 0) (n := 48) (m := 48) (lo := 0) (hi := 76) (rs := []) (L := []) rfl (by decide) (j := j.toNat) (by omega)
  have hE_0_108_1 : ∀ j : Int, w_ei ws (w_ar ws (n_v vs 0) 108) j = w_ei w1 (w_ar ws (n_v vs 0) 108) j := fun j => s1.1 _ _
  have hK_0_108 : ∀ j : Int, 0 ≤ j → j < 130 → 0 ≤ w_ei ws (w_ar ws (n_v vs 0) 108) j ∧ w_ei ws (w_ar ws (n_v vs 0) 108) j ≤ 75 := fun j h0 h1 => th_el hD hth cr_0_108 (kd := 0) (n := 130) (m := 130) (lo := 0) (hi := 75) (rs := []) (L := []) rfl (by decide) (j := j.toNat) (by omega)
  have hE_0_109_1 : ∀ j : Int, w_ei ws (w_ar ws (n_v vs 0) 109) j = w_ei w1 (w_ar ws (n_v vs 0) 109) j := fun j => s1.1 _ _
  have hK_0_109 : ∀ j : Int, 0 ≤ j → j < 130 → 0 ≤ w_ei ws (w_ar ws (n_v vs 0) 109) j ∧ w_ei ws (w_ar ws (n_v vs 0) 109) j ≤ 75 := fun j h0 h1 => th_el hD hth cr_0_109 (kd := 0) (n := 130) (m := 130) (lo := 0) (hi := 75) (rs := []) (L := []) rfl (by decide) (j := j.toNat) (by omega)
  have kz_0_100 : 0 ≤ w_fi ws (n_v vs 0) 100 ∧ w_fi ws (n_v vs 0) 100 ≤ 76 := tv_rng (th_fd hD hth r0 (g := GG_150) rfl (k := 100) (t := (0, 0, 76, [])) rfl rfl)
  have kz_0_101 : 0 ≤ w_fi ws (n_v vs 0) 101 ∧ w_fi ws (n_v vs 0) 101 ≤ 76 := tv_rng (th_fd hD hth r0 (g := GG_150) rfl (k := 101) (t := (0, 0, 76, [])) rfl rfl)
  have kz_0_107 : 0 ≤ w_fi ws (n_v vs 0) 107 ∧ w_fi ws (n_v vs 0) 107 ≤ 130 := tv_rng (th_fd hD hth r0 (g := GG_150) rfl (k := 107) (t := (0, 0, 130, [])) rfl rfl)
  have nf0 : fc_1 PRD (20, [2, 11], [60, 1, 1, 368, 101, 102]) ws (vs) := by
    refine ⟨fun n hn => ?_, ?_⟩
    · have hn : n ∈ [2, 11] := hn
      rw [hl]
      simp only [List.mem_cons, List.not_mem_nil, or_false] at hn
      show n < 12; omega
    · show LMF (w_fi ws (n_v vs 2) 101) (w_ei ws (w_ar ws (n_v vs 2) 102)) (v_iv (n_v vs 11))
      rw [q2]
      exact vc_Mo_list_11_0 (v_iv (n_v vs 4)) (v_iv (n_v vs 5)) (v_iv (n_v vs 6)) (v_iv (n_v vs 8)) (v_iv (n_v vs 9)) (v_iv (n_v vs 10)) (v_iv (n_v vs 11)) (w_ei ws (w_ar ws (n_v vs 0) 2)) (w_ei ws (w_ar ws (n_v vs 0) 95)) (w_ei ws (w_ar ws (n_v vs 0) 102)) (w_ei ws (w_ar ws (n_v vs 0) 104)) (w_fi ws (n_v vs 0) 5) (w_fi ws (n_v vs 0) 100) (w_ei ws (w_ar ws (n_v vs 0) 108)) (w_ei ws (w_ar ws (n_v vs 0) 109)) (w_fi ws (n_v vs 0) 107) (w_ei w1 (w_ar ws (n_v vs 0) 102)) (w_fi w1 (n_v vs 0) 101) (w_fi w1 (n_v vs 0) 100) (w_ei w1 (w_ar ws (n_v vs 0) 2)) (w_ei w1 (w_ar ws (n_v vs 0) 95)) (w_ei w1 (w_ar ws (n_v vs 0) 104)) (w_fi w1 (n_v vs 0) 5) (w_ei w1 (w_ar ws (n_v vs 0) 108)) (w_ei w1 (w_ar ws (n_v vs 0) 109)) (w_fi w1 (n_v vs 0) 107) (w_fi ws (n_v vs 0) 101) k4 k5 k6 k8 k9 k10 k11 d0 d1 d2 d3 d4 d5 f0 f1 f2 f3 f6 f7 f8 h9 g11 f12 g13 f14 f15 f16 f17 fe_0_5_1 fe_0_100_1 fe_0_101_1 fe_0_107_1 hE_0_2_1 hE_0_95_1 hK_0_95 hE_0_102_1 hK_0_102 hE_0_104_1 hK_0_104 hE_0_108_1 hK_0_108 hE_0_109_1 hK_0_109 kz_0_100 kz_0_101 kz_0_107
  refine ⟨(fun _ h => (by cases h)), [], trivial, ?_, (fun _ h => (by cases h))⟩
  rw [List.append_nil]
  exact List.forall_mem_cons.mpr ⟨⟨show (20 : Nat) < 100 from by decide, nf0⟩, (fun _ h => (by cases h))⟩
set_option maxHeartbeats 4000000 in
theorem vc_Mo_list_12_0 (x4 : Int) (x5 : Int) (x6 : Int) (x8 : Int) (x9 : Int) (x10 : Int) (x11 : Int) (all_0 : Int → Int) (turned_0 : Int → Int) (itemLayer_0 : Int → Int) (firstJoint_0 : Int → Int) (r_0 : Int) (items_0 : Int) (lineA_0 : Int → Int) (lineB_0 : Int → Int) (lines_0 : Int) (itemLayer_1 : Int → Int) (layerMany_1 : Int) (items_1 : Int) (all_1 : Int → Int) (turned_1 : Int → Int) (firstJoint_1 : Int → Int) (r_1 : Int) (lineA_1 : Int → Int) (lineB_1 : Int → Int) (lines_1 : Int) (layerMany_0 : Int) (k4 : 0 ≤ x4 ∧ x4 ≤ 75) (k5 : 2 ≤ x5 ∧ x5 ≤ 24) (k6 : 1 ≤ x6 ∧ x6 ≤ 76) (k8 : 0 ≤ x8 ∧ x8 ≤ 75) (k9 : 1 ≤ x9 ∧ x9 ≤ 1) (k10 : 1 ≤ x10 ∧ x10 ≤ 23) (k11 : 1 ≤ x11 ∧ x11 ≤ 76) (d0 : x4 + 1 ≤ x11 ∧ x11 ≤ x4 + 1) (d1 : x6 + (-4294967296) ≤ x11 ∧ x11 ≤ x6 + 0) (d2 : x10 + 1 ≤ x5 ∧ x5 ≤ x10 + 4294967296) (d3 : x8 + 1 ≤ x10 ∧ x10 ≤ x8 + 1) (d4 : x6 + (-4294967296) ≤ x4 ∧ x4 ≤ x6 + (-1)) (d5 : x4 + (-4294967296) ≤ x5 ∧ x5 ≤ x4 + 23) (f0 : x11 = x4 + 1) (f1 : LIF (r_0) (items_0) (all_0) (turned_0) (itemLayer_0) (firstJoint_0)) (f2 : LNP (r_0) (lines_0) (items_0) (all_0) (itemLayer_0) (lineA_0) (lineB_0)) (f3 : lines_0 = ((items_0 - all_0 (r_0)) + all_0 ((r_0 + 1)))) (f6 : x5 ≤ x5) (f7 : x10 ≤ x5) (f8 : x10 = x8 + x9) (h9 : x8 = itemLayer_1 (x4)) (g11 : x5 = layerMany_1) (f12 : x4 < x6) (g13 : x6 = items_1) (f14 : LIF (r_1) (items_1) (all_1) (turned_1) (itemLayer_1) (firstJoint_1)) (f15 : LNP (r_1) (lines_1) (items_1) (all_1) (itemLayer_1) (lineA_1) (lineB_1)) (f16 : LMF (layerMany_1) (itemLayer_1) (x4)) (f17 : lines_1 = ((items_1 - all_1 (r_1)) + all_1 ((r_1 + 1)))) (fe_0_5_1 : r_0 = r_1) (fe_0_100_1 : items_0 = items_1) (fe_0_101_1 : layerMany_0 = x5) (fe_0_107_1 : lines_0 = lines_1) (hE_0_2_1 : ∀ j : Int, all_0 j = all_1 j) (hE_0_95_1 : ∀ j : Int, turned_0 j = turned_1 j) (hK_0_95 : ∀ j : Int, 0 ≤ j → j < 48 → 0 ≤ turned_0 j ∧ turned_0 j ≤ 1) (hE_0_102_1 : ∀ j : Int, itemLayer_0 j = itemLayer_1 j) (hK_0_102 : ∀ j : Int, 0 ≤ j → j < 76 → 0 ≤ itemLayer_0 j ∧ itemLayer_0 j ≤ 75) (hE_0_104_1 : ∀ j : Int, firstJoint_0 j = firstJoint_1 j) (hK_0_104 : ∀ j : Int, 0 ≤ j → j < 48 → 0 ≤ firstJoint_0 j ∧ firstJoint_0 j ≤ 76) (hE_0_108_1 : ∀ j : Int, lineA_0 j = lineA_1 j) (hK_0_108 : ∀ j : Int, 0 ≤ j → j < 130 → 0 ≤ lineA_0 j ∧ lineA_0 j ≤ 75) (hE_0_109_1 : ∀ j : Int, lineB_0 j = lineB_1 j) (hK_0_109 : ∀ j : Int, 0 ≤ j → j < 130 → 0 ≤ lineB_0 j ∧ lineB_0 j ≤ 75) (kz_0_100 : 0 ≤ items_0 ∧ items_0 ≤ 76) (kz_0_101 : 0 ≤ layerMany_0 ∧ layerMany_0 ≤ 76) (kz_0_107 : 0 ≤ lines_0 ∧ lines_0 ≤ 130) : LMF (layerMany_0) (itemLayer_0) (x11) := by
  subst fe_0_5_1
  subst fe_0_100_1
  subst fe_0_107_1
  have e_hE_0_2_1 := funext hE_0_2_1; subst e_hE_0_2_1
  have e_hE_0_95_1 := funext hE_0_95_1; subst e_hE_0_95_1
  have e_hE_0_102_1 := funext hE_0_102_1; subst e_hE_0_102_1
  have e_hE_0_104_1 := funext hE_0_104_1; subst e_hE_0_104_1
  have e_hE_0_108_1 := funext hE_0_108_1; subst e_hE_0_108_1
  have e_hE_0_109_1 := funext hE_0_109_1; subst e_hE_0_109_1
  first
    | exact ⟨by omega, fun j a b => by exfalso; omega⟩
    | exact lm1_step ‹LMF _ _ _› ‹LIF _ _ _ _ _ _› (by omega) (by omega) (by assumption) (by assumption) (by omega)
def o_Mo_list_12 : or_T := (139, 12, [(0, (2, 0, 0, [150])), (2, (2, 0, 0, [150])), (4, (0, 0, 75, [])), (5, (0, 2, 24, [])), (6, (0, 1, 76, [])), (7, (2, 0, 0, [220])), (8, (0, 0, 75, [])), (9, (0, 1, 1, [])), (10, (0, 1, 23, [])), (11, (0, 1, 76, []))], [(6, [11, 4], [1]), (20, [2], [60, 2, 4, 367, 5, 100, 2, 95, 102, 104]), (20, [2], [60, 3, 4, 363, 5, 107, 100, 2, 102, 108, 109]), (20, [2], [50, 3, 1, 107, 100, 5, 2, 1, 3, 2, 0, 107, 4, 11, 5, 3, 2, 0, 100, 3, 0, 2, 2, 0, 5, 3, 0, 2, 4, 3, 2, 0, 5, 0, 1]), (24, [0, 2], []), (101, [2, 5], [101]), (7, [5, 5], [5]), (7, [10, 5], [5]), (1, [10, 8, 9], []), (10, [8, 7, 4], []), (9, [7, 2], [102]), (9, [5, 2], [101]), (7, [4, 6], [2]), (9, [6, 2], [100]), (20, [2], [60, 2, 4, 367, 5, 100, 2, 95, 102, 104]), (20, [2], [60, 3, 4, 363, 5, 107, 100, 2, 102, 108, 109]), (20, [2, 4], [60, 1, 1, 368, 101, 102]), (20, [2], [50, 3, 1, 107, 100, 5, 2, 1, 3, 2, 0, 107, 4, 11, 5, 3, 2, 0, 100, 3, 0, 2, 2, 0, 5, 3, 0, 2, 4, 3, 2, 0, 5, 0, 1])], [], [], [(20, [2, 11], [60, 1, 1, 368, 101, 102])], [], [(11, 4, 1, 1), (11, 6, -4294967296, 0), (5, 10, 1, 4294967296), (10, 8, 1, 1), (4, 6, -4294967296, -1), (5, 4, -4294967296, 23)])
theorem oo_Mo_list_12 {kA : Nat → ClassId} : or_ok PRD kA GG o_Mo_list_12 := by
  intro A ta ws vs hD hth hl hk hds hf
  have hl : vs.length = 12 := hl
  have hk : ∀ q ∈ ([(0, (2, 0, 0, [150])), (2, (2, 0, 0, [150])), (4, (0, 0, 75, [])), (5, (0, 2, 24, [])), (6, (0, 1, 76, [])), (7, (2, 0, 0, [220])), (8, (0, 0, 75, [])), (9, (0, 1, 1, [])), (10, (0, 1, 23, [])), (11, (0, 1, 76, []))] : List (Nat × tv_T)), tv_ok ta q.2 (n_v vs q.1) := hk
  obtain ⟨t0, hk⟩ := List.forall_mem_cons.mp hk
  have t0 : tv_ok ta (2, 0, 0, [150]) (n_v vs 0) := t0
  have r0 : ta (v_ad (n_v vs 0)) = some 150 := tv_rg t0
  obtain ⟨t2, hk⟩ := List.forall_mem_cons.mp hk
  have t2 : tv_ok ta (2, 0, 0, [150]) (n_v vs 2) := t2
  have r2 : ta (v_ad (n_v vs 2)) = some 150 := tv_rg t2
  obtain ⟨t4, hk⟩ := List.forall_mem_cons.mp hk
  have t4 : tv_ok ta (0, 0, 75, []) (n_v vs 4) := t4
  have k4 : 0 ≤ v_iv (n_v vs 4) ∧ v_iv (n_v vs 4) ≤ 75 := tv_rng t4
  obtain ⟨t5, hk⟩ := List.forall_mem_cons.mp hk
  have t5 : tv_ok ta (0, 2, 24, []) (n_v vs 5) := t5
  have k5 : 2 ≤ v_iv (n_v vs 5) ∧ v_iv (n_v vs 5) ≤ 24 := tv_rng t5
  obtain ⟨t6, hk⟩ := List.forall_mem_cons.mp hk
  have t6 : tv_ok ta (0, 1, 76, []) (n_v vs 6) := t6
  have k6 : 1 ≤ v_iv (n_v vs 6) ∧ v_iv (n_v vs 6) ≤ 76 := tv_rng t6
  obtain ⟨t7, hk⟩ := List.forall_mem_cons.mp hk
  have t7 : tv_ok ta (2, 0, 0, [220]) (n_v vs 7) := t7
  have r7 : ta (v_ad (n_v vs 7)) = some 220 := tv_rg t7
  obtain ⟨t8, hk⟩ := List.forall_mem_cons.mp hk
  have t8 : tv_ok ta (0, 0, 75, []) (n_v vs 8) := t8
  have k8 : 0 ≤ v_iv (n_v vs 8) ∧ v_iv (n_v vs 8) ≤ 75 := tv_rng t8
  obtain ⟨t9, hk⟩ := List.forall_mem_cons.mp hk
  have t9 : tv_ok ta (0, 1, 1, []) (n_v vs 9) := t9
  have k9 : 1 ≤ v_iv (n_v vs 9) ∧ v_iv (n_v vs 9) ≤ 1 := tv_rng t9
  obtain ⟨t10, hk⟩ := List.forall_mem_cons.mp hk
  have t10 : tv_ok ta (0, 1, 23, []) (n_v vs 10) := t10
  have k10 : 1 ≤ v_iv (n_v vs 10) ∧ v_iv (n_v vs 10) ≤ 23 := tv_rng t10
  obtain ⟨t11, hk⟩ := List.forall_mem_cons.mp hk
  have t11 : tv_ok ta (0, 1, 76, []) (n_v vs 11) := t11
  have k11 : 1 ≤ v_iv (n_v vs 11) ∧ v_iv (n_v vs 11) ≤ 76 := tv_rng t11
  have hds : ∀ q ∈ ([(11, 4, 1, 1), (11, 6, -4294967296, 0), (5, 10, 1, 4294967296), (10, 8, 1, 1), (4, 6, -4294967296, -1), (5, 4, -4294967296, 23)] : List of_T), n_iv vs q.2.1 + q.2.2.1 ≤ n_iv vs q.1 ∧ n_iv vs q.1 ≤ n_iv vs q.2.1 + q.2.2.2 := hds
  obtain ⟨d0, hds⟩ := List.forall_mem_cons.mp hds
  have d0 : v_iv (n_v vs 4) + 1 ≤ v_iv (n_v vs 11) ∧ v_iv (n_v vs 11) ≤ v_iv (n_v vs 4) + 1 := d0
  obtain ⟨d1, hds⟩ := List.forall_mem_cons.mp hds
  have d1 : v_iv (n_v vs 6) + (-4294967296) ≤ v_iv (n_v vs 11) ∧ v_iv (n_v vs 11) ≤ v_iv (n_v vs 6) + 0 := d1
  obtain ⟨d2, hds⟩ := List.forall_mem_cons.mp hds
  have d2 : v_iv (n_v vs 10) + 1 ≤ v_iv (n_v vs 5) ∧ v_iv (n_v vs 5) ≤ v_iv (n_v vs 10) + 4294967296 := d2
  obtain ⟨d3, hds⟩ := List.forall_mem_cons.mp hds
  have d3 : v_iv (n_v vs 8) + 1 ≤ v_iv (n_v vs 10) ∧ v_iv (n_v vs 10) ≤ v_iv (n_v vs 8) + 1 := d3
  obtain ⟨d4, hds⟩ := List.forall_mem_cons.mp hds
  have d4 : v_iv (n_v vs 6) + (-4294967296) ≤ v_iv (n_v vs 4) ∧ v_iv (n_v vs 4) ≤ v_iv (n_v vs 6) + (-1) := d4
  obtain ⟨d5, hds⟩ := List.forall_mem_cons.mp hds
  have d5 : v_iv (n_v vs 4) + (-4294967296) ≤ v_iv (n_v vs 5) ∧ v_iv (n_v vs 5) ≤ v_iv (n_v vs 4) + 23 := d5
  have hf : fc_ok PRD [(6, [11, 4], [1]), (20, [2], [60, 2, 4, 367, 5, 100, 2, 95, 102, 104]), (20, [2], [60, 3, 4, 363, 5, 107, 100, 2, 102, 108, 109]), (20, [2], [50, 3, 1, 107, 100, 5, 2, 1, 3, 2, 0, 107, 4, 11, 5, 3, 2, 0, 100, 3, 0, 2, 2, 0, 5, 3, 0, 2, 4, 3, 2, 0, 5, 0, 1]), (24, [0, 2], []), (101, [2, 5], [101]), (7, [5, 5], [5]), (7, [10, 5], [5]), (1, [10, 8, 9], []), (10, [8, 7, 4], []), (9, [7, 2], [102]), (9, [5, 2], [101]), (7, [4, 6], [2]), (9, [6, 2], [100]), (20, [2], [60, 2, 4, 367, 5, 100, 2, 95, 102, 104]), (20, [2], [60, 3, 4, 363, 5, 107, 100, 2, 102, 108, 109]), (20, [2, 4], [60, 1, 1, 368, 101, 102]), (20, [2], [50, 3, 1, 107, 100, 5, 2, 1, 3, 2, 0, 107, 4, 11, 5, 3, 2, 0, 100, 3, 0, 2, 2, 0, 5, 3, 0, 2, 4, 3, 2, 0, 5, 0, 1])] ta ws vs := hf
  obtain ⟨f0, hf⟩ := fc_un (show (6 : Nat) < 100 from by decide) hf
  have f0 : v_iv (n_v vs 11) = v_iv (n_v vs 4) + 1 := f0
  obtain ⟨f1, hf⟩ := fc_un (show (20 : Nat) < 100 from by decide) hf
  have f1 : LIF (w_fi ws (n_v vs 2) 5) (w_fi ws (n_v vs 2) 100) (w_ei ws (w_ar ws (n_v vs 2) 2)) (w_ei ws (w_ar ws (n_v vs 2) 95)) (w_ei ws (w_ar ws (n_v vs 2) 102)) (w_ei ws (w_ar ws (n_v vs 2) 104)) := f1
  obtain ⟨f2, hf⟩ := fc_un (show (20 : Nat) < 100 from by decide) hf
  have f2 : LNP (w_fi ws (n_v vs 2) 5) (w_fi ws (n_v vs 2) 107) (w_fi ws (n_v vs 2) 100) (w_ei ws (w_ar ws (n_v vs 2) 2)) (w_ei ws (w_ar ws (n_v vs 2) 102)) (w_ei ws (w_ar ws (n_v vs 2) 108)) (w_ei ws (w_ar ws (n_v vs 2) 109)) := f2
  obtain ⟨f3, hf⟩ := fc_un (show (20 : Nat) < 100 from by decide) hf
  have f3 : w_fi ws (n_v vs 2) 107 = ((w_fi ws (n_v vs 2) 100 - w_ei ws (w_ar ws (n_v vs 2) 2) (w_fi ws (n_v vs 2) 5)) + w_ei ws (w_ar ws (n_v vs 2) 2) ((w_fi ws (n_v vs 2) 5 + 1))) := f3
  obtain ⟨f4, hf⟩ := fc_un (show (24 : Nat) < 100 from by decide) hf
  have f4 : n_v vs 0 = n_v vs 2 := f4
  obtain ⟨ta1, w1, le1, ⟨_, s1⟩, hf⟩ := fc_us (show ¬ (101 : Nat) < 100 from by decide) hf
  have s1 : (∀ b j, w_el ws b j = w_el w1 b j) ∧ ∀ b j, w_fd ws b j = if b = v_ad (n_v vs 2) ∧ j = 101 then n_v vs 5 else w_fd w1 b j := s1
  obtain ⟨f6, hf⟩ := fc_un (show (7 : Nat) < 100 from by decide) hf
  have f6 : v_iv (n_v vs 5) ≤ v_iv (n_v vs 5) := f6
  obtain ⟨f7, hf⟩ := fc_un (show (7 : Nat) < 100 from by decide) hf
  have f7 : v_iv (n_v vs 10) ≤ v_iv (n_v vs 5) := f7
  obtain ⟨f8, hf⟩ := fc_un (show (1 : Nat) < 100 from by decide) hf
  have f8 : v_iv (n_v vs 10) = v_iv (n_v vs 8) + v_iv (n_v vs 9) := f8
  obtain ⟨f9, hf⟩ := fc_un (show (10 : Nat) < 100 from by decide) hf
  have f9 : v_iv (n_v vs 8) = w_el w1 (v_ad (n_v vs 7)) (v_iv (n_v vs 4)).toNat := f9
  obtain ⟨f10, hf⟩ := fc_un (show (9 : Nat) < 100 from by decide) hf
  have f10 : n_v vs 7 = w_fd w1 (v_ad (n_v vs 2)) 102 := f10
  obtain ⟨f11, hf⟩ := fc_un (show (9 : Nat) < 100 from by decide) hf
  have f11 : n_v vs 5 = w_fd w1 (v_ad (n_v vs 2)) 101 := f11
  obtain ⟨f12, hf⟩ := fc_un (show (7 : Nat) < 100 from by decide) hf
  have f12 : v_iv (n_v vs 4) < v_iv (n_v vs 6) := f12
  obtain ⟨f13, hf⟩ := fc_un (show (9 : Nat) < 100 from by decide) hf
  have f13 : n_v vs 6 = w_fd w1 (v_ad (n_v vs 2)) 100 := f13
  obtain ⟨f14, hf⟩ := fc_un (show (20 : Nat) < 100 from by decide) hf
  have f14 : LIF (w_fi w1 (n_v vs 2) 5) (w_fi w1 (n_v vs 2) 100) (w_ei w1 (w_ar w1 (n_v vs 2) 2)) (w_ei w1 (w_ar w1 (n_v vs 2) 95)) (w_ei w1 (w_ar w1 (n_v vs 2) 102)) (w_ei w1 (w_ar w1 (n_v vs 2) 104)) := f14
  obtain ⟨f15, hf⟩ := fc_un (show (20 : Nat) < 100 from by decide) hf
  have f15 : LNP (w_fi w1 (n_v vs 2) 5) (w_fi w1 (n_v vs 2) 107) (w_fi w1 (n_v vs 2) 100) (w_ei w1 (w_ar w1 (n_v vs 2) 2)) (w_ei w1 (w_ar w1 (n_v vs 2) 102)) (w_ei w1 (w_ar w1 (n_v vs 2) 108)) (w_ei w1 (w_ar w1 (n_v vs 2) 109)) := f15
  obtain ⟨f16, hf⟩ := fc_un (show (20 : Nat) < 100 from by decide) hf
  have f16 : LMF (w_fi w1 (n_v vs 2) 101) (w_ei w1 (w_ar w1 (n_v vs 2) 102)) (v_iv (n_v vs 4)) := f16
  obtain ⟨f17, hf⟩ := fc_un (show (20 : Nat) < 100 from by decide) hf
  have f17 : w_fi w1 (n_v vs 2) 107 = ((w_fi w1 (n_v vs 2) 100 - w_ei w1 (w_ar w1 (n_v vs 2) 2) (w_fi w1 (n_v vs 2) 5)) + w_ei w1 (w_ar w1 (n_v vs 2) 2) ((w_fi w1 (n_v vs 2) 5 + 1))) := f17
  have q2 : n_v vs 2 = n_v vs 0 := f4.symm
  rw [q2] at f1
  rw [q2] at f2
  rw [q2] at f3
  rw [q2] at s1
  rw [q2] at f10
  rw [q2] at f11
  rw [q2] at f13
  rw [q2] at f14
  rw [q2] at f15
  rw [q2] at f16
  rw [q2] at f17
  have ar_0_2_1 : w_ar w1 (n_v vs 0) 2 = w_ar ws (n_v vs 0) 2 := by show v_ad (w_fd w1 _ _) = v_ad (w_fd ws _ _); rw [s1.2, if_neg (fun e => absurd e.2 (by decide))]
  have cr_0_2 : ta (w_ar ws (n_v vs 0) 2) = some 152 := tv_rg (th_fd hD hth r0 (g := GG_150) rfl (k := 2) (t := (2, 0, 0, [152])) rfl rfl)
  have ar_0_95_1 : w_ar w1 (n_v vs 0) 95 = w_ar ws (n_v vs 0) 95 := by show v_ad (w_fd w1 _ _) = v_ad (w_fd ws _ _); rw [s1.2, if_neg (fun e => absurd e.2 (by decide))]
  have cr_0_95 : ta (w_ar ws (n_v vs 0) 95) = some 216 := tv_rg (th_fd hD hth r0 (g := GG_150) rfl (k := 95) (t := (2, 0, 0, [216])) rfl rfl)
  have ar_0_102_1 : w_ar w1 (n_v vs 0) 102 = w_ar ws (n_v vs 0) 102 := by show v_ad (w_fd w1 _ _) = v_ad (w_fd ws _ _); rw [s1.2, if_neg (fun e => absurd e.2 (by decide))]
  have cr_0_102 : ta (w_ar ws (n_v vs 0) 102) = some 220 := tv_rg (th_fd hD hth r0 (g := GG_150) rfl (k := 102) (t := (2, 0, 0, [220])) rfl rfl)
  have ar_0_104_1 : w_ar w1 (n_v vs 0) 104 = w_ar ws (n_v vs 0) 104 := by show v_ad (w_fd w1 _ _) = v_ad (w_fd ws _ _); rw [s1.2, if_neg (fun e => absurd e.2 (by decide))]
  have cr_0_104 : ta (w_ar ws (n_v vs 0) 104) = some 222 := tv_rg (th_fd hD hth r0 (g := GG_150) rfl (k := 104) (t := (2, 0, 0, [222])) rfl rfl)
  have ar_0_108_1 : w_ar w1 (n_v vs 0) 108 = w_ar ws (n_v vs 0) 108 := by show v_ad (w_fd w1 _ _) = v_ad (w_fd ws _ _); rw [s1.2, if_neg (fun e => absurd e.2 (by decide))]
  have cr_0_108 : ta (w_ar ws (n_v vs 0) 108) = some 225 := tv_rg (th_fd hD hth r0 (g := GG_150) rfl (k := 108) (t := (2, 0, 0, [225])) rfl rfl)
  have ar_0_109_1 : w_ar w1 (n_v vs 0) 109 = w_ar ws (n_v vs 0) 109 := by show v_ad (w_fd w1 _ _) = v_ad (w_fd ws _ _); rw [s1.2, if_neg (fun e => absurd e.2 (by decide))]
  have cr_0_109 : ta (w_ar ws (n_v vs 0) 109) = some 226 := tv_rg (th_fd hD hth r0 (g := GG_150) rfl (k := 109) (t := (2, 0, 0, [226])) rfl rfl)
  have ad_7 : v_ad (n_v vs 7) = w_ar ws (n_v vs 0) 102 := (congrArg v_ad f10).trans ar_0_102_1
  rw [ad_7] at f9
  have h9 : v_iv (n_v vs 8) = w_ei w1 (w_ar ws (n_v vs 0) 102) (v_iv (n_v vs 4)) := f9
  have g11 : v_iv (n_v vs 5) = w_fi w1 (n_v vs 0) 101 := congrArg v_iv f11
  have g13 : v_iv (n_v vs 6) = w_fi w1 (n_v vs 0) 100 := congrArg v_iv f13
  rw [ar_0_2_1] at f14
  rw [ar_0_95_1] at f14
  rw [ar_0_102_1] at f14
  rw [ar_0_104_1] at f14
  rw [ar_0_2_1] at f15
  rw [ar_0_102_1] at f15
  rw [ar_0_108_1] at f15
  rw [ar_0_109_1] at f15
  rw [ar_0_102_1] at f16
  rw [ar_0_2_1] at f17
  have fe_0_5_1 : w_fi ws (n_v vs 0) 5 = w_fi w1 (n_v vs 0) 5 := by show v_iv (w_fd _ _ _) = v_iv (w_fd _ _ _); rw [s1.2, if_neg (fun e => absurd e.2 (by decide))]
  have fe_0_100_1 : w_fi ws (n_v vs 0) 100 = w_fi w1 (n_v vs 0) 100 := by show v_iv (w_fd _ _ _) = v_iv (w_fd _ _ _); rw [s1.2, if_neg (fun e => absurd e.2 (by decide))]
  have fe_0_101_1 : w_fi ws (n_v vs 0) 101 = v_iv (n_v vs 5) := by show v_iv (w_fd _ _ _) = _; rw [s1.2, if_pos ⟨rfl, rfl⟩]
  have fe_0_107_1 : w_fi ws (n_v vs 0) 107 = w_fi w1 (n_v vs 0) 107 := by show v_iv (w_fd _ _ _) = v_iv (w_fd _ _ _); rw [s1.2, if_neg (fun e => absurd e.2 (by decide))]
  have hE_0_2_1 : ∀ j : Int, w_ei ws (w_ar ws (n_v vs 0) 2) j = w_ei w1 (w_ar ws (n_v vs 0) 2) j := fun j => s1.1 _ _
  have hE_0_95_1 : ∀ j : Int, w_ei ws (w_ar ws (n_v vs 0) 95) j = w_ei w1 (w_ar ws (n_v vs 0) 95) j := fun j => s1.1 _ _
  have hK_0_95 : ∀ j : Int, 0 ≤ j → j < 48 → 0 ≤ w_ei ws (w_ar ws (n_v vs 0) 95) j ∧ w_ei ws (w_ar ws (n_v vs 0) 95) j ≤ 1 := fun j h0 h1 => th_el hD hth cr_0_95 (kd := 2) (n := 48) (m := 48) (lo := 0) (hi := 1) (rs := []) (L := []) rfl (by decide) (j := j.toNat) (by omega)
  have hE_0_102_1 : ∀ j : Int, w_ei ws (w_ar ws (n_v vs 0) 102) j = w_ei w1 (w_ar ws (n_v vs 0) 102) j := fun j => s1.1 _ _
  have hK_0_102 : ∀ j : Int, 0 ≤ j → j < 76 → 0 ≤ w_ei ws (w_ar ws (n_v vs 0) 102) j ∧ w_ei ws (w_ar ws (n_v vs 0) 102) j ≤ 75 := fun j h0 h1 => th_el hD hth cr_0_102 (kd := 0) (n := 76) (m := 76) (lo := 0) (hi := 75) (rs := []) (L := []) rfl (by decide) (j := j.toNat) (by omega)
  have hE_0_104_1 : ∀ j : Int, w_ei ws (w_ar ws (n_v vs 0) 104) j = w_ei w1 (w_ar ws (n_v vs 0) 104) j := fun j => s1.1 _ _
  have hK_0_104 : ∀ j : Int, 0 ≤ j → j < 48 → 0 ≤ w_ei ws (w_ar ws (n_v vs 0) 104) j ∧ w_ei ws (w_ar ws (n_v vs 0) 104) j ≤ 76 := fun j h0 h1 => th_el hD hth cr_0_104 (kd := 0) (n := 48) (m := 48) (lo := 0) (hi := 76) (rs := []) (L := []) rfl (by decide) (j := j.toNat) (by omega)
  have hE_0_108_1 : ∀ j : Int, w_ei ws (w_ar ws (n_v vs 0) 108) j = w_ei w1 (w_ar ws (n_v vs 0) 108) j := fun j => s1.1 _ _
  have hK_0_108 : ∀ j : Int, 0 ≤ j → j < 130 → 0 ≤ w_ei ws (w_ar ws (n_v vs 0) 108) j ∧ w_ei ws (w_ar ws (n_v vs 0) 108) j ≤ 75 := fun j h0 h1 => th_el hD hth cr_0_108 (kd := 0) (n := 130) (m := 130) (lo := 0) (hi := 75) (rs := []) (L := []) rfl (by decide) (j := j.toNat) (by omega)
  have hE_0_109_1 : ∀ j : Int, w_ei ws (w_ar ws (n_v vs 0) 109) j = w_ei w1 (w_ar ws (n_v vs 0) 109) j := fun j => s1.1 _ _
  have hK_0_109 : ∀ j : Int, 0 ≤ j → j < 130 → 0 ≤ w_ei ws (w_ar ws (n_v vs 0) 109) j ∧ w_ei ws (w_ar ws (n_v vs 0) 109) j ≤ 75 := fun j h0 h1 => th_el hD hth cr_0_109 (kd := 0) (n := 130) (m := 130) (lo := 0) (hi := 75) (rs := []) (L := []) rfl (by decide) (j := j.toNat) (by omega)
  have kz_0_100 : 0 ≤ w_fi ws (n_v vs 0) 100 ∧ w_fi ws (n_v vs 0) 100 ≤ 76 := tv_rng (th_fd hD hth r0 (g := GG_150) rfl (k := 100) (t := (0, 0, 76, [])) rfl rfl)
  have kz_0_101 : 0 ≤ w_fi ws (n_v vs 0) 101 ∧ w_fi ws (n_v vs 0) 101 ≤ 76 := tv_rng (th_fd hD hth r0 (g := GG_150) rfl (k := 101) (t := (0, 0, 76, [])) rfl rfl)
  have kz_0_107 : 0 ≤ w_fi ws (n_v vs 0) 107 ∧ w_fi ws (n_v vs 0) 107 ≤ 130 := tv_rng (th_fd hD hth r0 (g := GG_150) rfl (k := 107) (t := (0, 0, 130, [])) rfl rfl)
  have nf0 : fc_1 PRD (20, [2, 11], [60, 1, 1, 368, 101, 102]) ws (vs) := by
    refine ⟨fun n hn => ?_, ?_⟩
    · have hn : n ∈ [2, 11] := hn
      rw [hl]
      simp only [List.mem_cons, List.not_mem_nil, or_false] at hn
      show n < 12; omega
    · show LMF (w_fi ws (n_v vs 2) 101) (w_ei ws (w_ar ws (n_v vs 2) 102)) (v_iv (n_v vs 11))
      rw [q2]
      exact vc_Mo_list_12_0 (v_iv (n_v vs 4)) (v_iv (n_v vs 5)) (v_iv (n_v vs 6)) (v_iv (n_v vs 8)) (v_iv (n_v vs 9)) (v_iv (n_v vs 10)) (v_iv (n_v vs 11)) (w_ei ws (w_ar ws (n_v vs 0) 2)) (w_ei ws (w_ar ws (n_v vs 0) 95)) (w_ei ws (w_ar ws (n_v vs 0) 102)) (w_ei ws (w_ar ws (n_v vs 0) 104)) (w_fi ws (n_v vs 0) 5) (w_fi ws (n_v vs 0) 100) (w_ei ws (w_ar ws (n_v vs 0) 108)) (w_ei ws (w_ar ws (n_v vs 0) 109)) (w_fi ws (n_v vs 0) 107) (w_ei w1 (w_ar ws (n_v vs 0) 102)) (w_fi w1 (n_v vs 0) 101) (w_fi w1 (n_v vs 0) 100) (w_ei w1 (w_ar ws (n_v vs 0) 2)) (w_ei w1 (w_ar ws (n_v vs 0) 95)) (w_ei w1 (w_ar ws (n_v vs 0) 104)) (w_fi w1 (n_v vs 0) 5) (w_ei w1 (w_ar ws (n_v vs 0) 108)) (w_ei w1 (w_ar ws (n_v vs 0) 109)) (w_fi w1 (n_v vs 0) 107) (w_fi ws (n_v vs 0) 101) k4 k5 k6 k8 k9 k10 k11 d0 d1 d2 d3 d4 d5 f0 f1 f2 f3 f6 f7 f8 h9 g11 f12 g13 f14 f15 f16 f17 fe_0_5_1 fe_0_100_1 fe_0_101_1 fe_0_107_1 hE_0_2_1 hE_0_95_1 hK_0_95 hE_0_102_1 hK_0_102 hE_0_104_1 hK_0_104 hE_0_108_1 hK_0_108 hE_0_109_1 hK_0_109 kz_0_100 kz_0_101 kz_0_107
  refine ⟨(fun _ h => (by cases h)), [], trivial, ?_, (fun _ h => (by cases h))⟩
  rw [List.append_nil]
  exact List.forall_mem_cons.mpr ⟨⟨show (20 : Nat) < 100 from by decide, nf0⟩, (fun _ h => (by cases h))⟩
set_option maxHeartbeats 4000000 in
theorem vc_Mo_list_13_0 (x4 : Int) (x5 : Int) (layerMany_0 : Int) (all_0 : Int → Int) (turned_0 : Int → Int) (itemLayer_0 : Int → Int) (firstJoint_0 : Int → Int) (lineA_0 : Int → Int) (lineB_0 : Int → Int) (r_0 : Int) (items_0 : Int) (lines_0 : Int) (layerSize_0 : Int → Int) (layerItem_0 : Int → Int) (k4 : 0 ≤ x4 ∧ x4 ≤ 24) (k5 : 0 ≤ x5 ∧ x5 ≤ 24) (d0 : x5 + 0 ≤ x4 ∧ x4 ≤ x5 + 4294967296) (f0 : x5 ≤ x4) (g1 : x5 = layerMany_0) (f2 : LSA (r_0) (items_0) (layerMany_0) (lines_0) (all_0) (turned_0) (itemLayer_0) (firstJoint_0) (lineA_0) (lineB_0)) (f3 : LLS (items_0) (itemLayer_0) (layerSize_0) (layerItem_0) (x4)) (hK_0_95 : ∀ j : Int, 0 ≤ j → j < 48 → 0 ≤ turned_0 j ∧ turned_0 j ≤ 1) (hK_0_102 : ∀ j : Int, 0 ≤ j → j < 76 → 0 ≤ itemLayer_0 j ∧ itemLayer_0 j ≤ 75) (hK_0_104 : ∀ j : Int, 0 ≤ j → j < 48 → 0 ≤ firstJoint_0 j ∧ firstJoint_0 j ≤ 76) (hK_0_105 : ∀ j : Int, 0 ≤ j → j < 76 → 0 ≤ layerSize_0 j ∧ layerSize_0 j ≤ 76) (hK_0_106 : ∀ j : Int, 0 ≤ j → j < 5776 → 0 ≤ layerItem_0 j ∧ layerItem_0 j ≤ 75) (hK_0_108 : ∀ j : Int, 0 ≤ j → j < 130 → 0 ≤ lineA_0 j ∧ lineA_0 j ≤ 75) (hK_0_109 : ∀ j : Int, 0 ≤ j → j < 130 → 0 ≤ lineB_0 j ∧ lineB_0 j ≤ 75) (kz_0_100 : 0 ≤ items_0 ∧ items_0 ≤ 76) (kz_0_101 : 0 ≤ layerMany_0 ∧ layerMany_0 ≤ 76) (kz_0_107 : 0 ≤ lines_0 ∧ lines_0 ≤ 130) : LSA (r_0) (items_0) (layerMany_0) (lines_0) (all_0) (turned_0) (itemLayer_0) (firstJoint_0) (lineA_0) (lineB_0) := by
  assumption
set_option maxHeartbeats 4000000 in
theorem vc_Mo_list_13_1 (x4 : Int) (x5 : Int) (layerMany_0 : Int) (all_0 : Int → Int) (turned_0 : Int → Int) (itemLayer_0 : Int → Int) (firstJoint_0 : Int → Int) (lineA_0 : Int → Int) (lineB_0 : Int → Int) (r_0 : Int) (items_0 : Int) (lines_0 : Int) (layerSize_0 : Int → Int) (layerItem_0 : Int → Int) (k4 : 0 ≤ x4 ∧ x4 ≤ 24) (k5 : 0 ≤ x5 ∧ x5 ≤ 24) (d0 : x5 + 0 ≤ x4 ∧ x4 ≤ x5 + 4294967296) (f0 : x5 ≤ x4) (g1 : x5 = layerMany_0) (f2 : LSA (r_0) (items_0) (layerMany_0) (lines_0) (all_0) (turned_0) (itemLayer_0) (firstJoint_0) (lineA_0) (lineB_0)) (f3 : LLS (items_0) (itemLayer_0) (layerSize_0) (layerItem_0) (x4)) (hK_0_95 : ∀ j : Int, 0 ≤ j → j < 48 → 0 ≤ turned_0 j ∧ turned_0 j ≤ 1) (hK_0_102 : ∀ j : Int, 0 ≤ j → j < 76 → 0 ≤ itemLayer_0 j ∧ itemLayer_0 j ≤ 75) (hK_0_104 : ∀ j : Int, 0 ≤ j → j < 48 → 0 ≤ firstJoint_0 j ∧ firstJoint_0 j ≤ 76) (hK_0_105 : ∀ j : Int, 0 ≤ j → j < 76 → 0 ≤ layerSize_0 j ∧ layerSize_0 j ≤ 76) (hK_0_106 : ∀ j : Int, 0 ≤ j → j < 5776 → 0 ≤ layerItem_0 j ∧ layerItem_0 j ≤ 75) (hK_0_108 : ∀ j : Int, 0 ≤ j → j < 130 → 0 ≤ lineA_0 j ∧ lineA_0 j ≤ 75) (hK_0_109 : ∀ j : Int, 0 ≤ j → j < 130 → 0 ≤ lineB_0 j ∧ lineB_0 j ≤ 75) (kz_0_100 : 0 ≤ items_0 ∧ items_0 ≤ 76) (kz_0_101 : 0 ≤ layerMany_0 ∧ layerMany_0 ≤ 76) (kz_0_107 : 0 ≤ lines_0 ∧ lines_0 ≤ 130) : LSB (items_0) (layerMany_0) (itemLayer_0) (layerSize_0) (layerItem_0) := by
  exact ⟨‹LSA _ _ _ _ _ _ _ _ _ _›.2.1.2.1, fun m a b => ‹LLS _ _ _ _ _› m a (by omega)⟩
def o_Mo_list_13 : or_T := (251, 6, [(0, (2, 0, 0, [150])), (2, (2, 0, 0, [150])), (4, (0, 0, 24, [])), (5, (0, 0, 24, []))], [(7, [4, 5], [3]), (9, [5, 2], [101]), (20, [2], [60, 4, 6, 369, 5, 100, 101, 107, 2, 95, 102, 104, 108, 109]), (20, [2, 4], [60, 1, 3, 370, 100, 102, 105, 106]), (24, [0, 2], [])], [], [], [(20, [0], [60, 4, 6, 369, 5, 100, 101, 107, 2, 95, 102, 104, 108, 109]), (20, [0], [60, 2, 3, 372, 100, 101, 102, 105, 106])], [], [(4, 5, 0, 4294967296)])
theorem oo_Mo_list_13 {kA : Nat → ClassId} : or_ok PRD kA GG o_Mo_list_13 := by
  intro A ta ws vs hD hth hl hk hds hf
  have hl : vs.length = 6 := hl
  have hk : ∀ q ∈ ([(0, (2, 0, 0, [150])), (2, (2, 0, 0, [150])), (4, (0, 0, 24, [])), (5, (0, 0, 24, []))] : List (Nat × tv_T)), tv_ok ta q.2 (n_v vs q.1) := hk
  obtain ⟨t0, hk⟩ := List.forall_mem_cons.mp hk
  have t0 : tv_ok ta (2, 0, 0, [150]) (n_v vs 0) := t0
  have r0 : ta (v_ad (n_v vs 0)) = some 150 := tv_rg t0
  obtain ⟨t2, hk⟩ := List.forall_mem_cons.mp hk
  have t2 : tv_ok ta (2, 0, 0, [150]) (n_v vs 2) := t2
  have r2 : ta (v_ad (n_v vs 2)) = some 150 := tv_rg t2
  obtain ⟨t4, hk⟩ := List.forall_mem_cons.mp hk
  have t4 : tv_ok ta (0, 0, 24, []) (n_v vs 4) := t4
  have k4 : 0 ≤ v_iv (n_v vs 4) ∧ v_iv (n_v vs 4) ≤ 24 := tv_rng t4
  obtain ⟨t5, hk⟩ := List.forall_mem_cons.mp hk
  have t5 : tv_ok ta (0, 0, 24, []) (n_v vs 5) := t5
  have k5 : 0 ≤ v_iv (n_v vs 5) ∧ v_iv (n_v vs 5) ≤ 24 := tv_rng t5
  have hds : ∀ q ∈ ([(4, 5, 0, 4294967296)] : List of_T), n_iv vs q.2.1 + q.2.2.1 ≤ n_iv vs q.1 ∧ n_iv vs q.1 ≤ n_iv vs q.2.1 + q.2.2.2 := hds
  obtain ⟨d0, hds⟩ := List.forall_mem_cons.mp hds
  have d0 : v_iv (n_v vs 5) + 0 ≤ v_iv (n_v vs 4) ∧ v_iv (n_v vs 4) ≤ v_iv (n_v vs 5) + 4294967296 := d0
  have hf : fc_ok PRD [(7, [4, 5], [3]), (9, [5, 2], [101]), (20, [2], [60, 4, 6, 369, 5, 100, 101, 107, 2, 95, 102, 104, 108, 109]), (20, [2, 4], [60, 1, 3, 370, 100, 102, 105, 106]), (24, [0, 2], [])] ta ws vs := hf
  obtain ⟨f0, hf⟩ := fc_un (show (7 : Nat) < 100 from by decide) hf
  have f0 : v_iv (n_v vs 5) ≤ v_iv (n_v vs 4) := f0
  obtain ⟨f1, hf⟩ := fc_un (show (9 : Nat) < 100 from by decide) hf
  have f1 : n_v vs 5 = w_fd ws (v_ad (n_v vs 2)) 101 := f1
  obtain ⟨f2, hf⟩ := fc_un (show (20 : Nat) < 100 from by decide) hf
  have f2 : LSA (w_fi ws (n_v vs 2) 5) (w_fi ws (n_v vs 2) 100) (w_fi ws (n_v vs 2) 101) (w_fi ws (n_v vs 2) 107) (w_ei ws (w_ar ws (n_v vs 2) 2)) (w_ei ws (w_ar ws (n_v vs 2) 95)) (w_ei ws (w_ar ws (n_v vs 2) 102)) (w_ei ws (w_ar ws (n_v vs 2) 104)) (w_ei ws (w_ar ws (n_v vs 2) 108)) (w_ei ws (w_ar ws (n_v vs 2) 109)) := f2
  obtain ⟨f3, hf⟩ := fc_un (show (20 : Nat) < 100 from by decide) hf
  have f3 : LLS (w_fi ws (n_v vs 2) 100) (w_ei ws (w_ar ws (n_v vs 2) 102)) (w_ei ws (w_ar ws (n_v vs 2) 105)) (w_ei ws (w_ar ws (n_v vs 2) 106)) (v_iv (n_v vs 4)) := f3
  obtain ⟨f4, hf⟩ := fc_un (show (24 : Nat) < 100 from by decide) hf
  have f4 : n_v vs 0 = n_v vs 2 := f4
  have q2 : n_v vs 2 = n_v vs 0 := f4.symm
  rw [q2] at f1
  rw [q2] at f2
  rw [q2] at f3
  have cr_0_2 : ta (w_ar ws (n_v vs 0) 2) = some 152 := tv_rg (th_fd hD hth r0 (g := GG_150) rfl (k := 2) (t := (2, 0, 0, [152])) rfl rfl)
  have cr_0_95 : ta (w_ar ws (n_v vs 0) 95) = some 216 := tv_rg (th_fd hD hth r0 (g := GG_150) rfl (k := 95) (t := (2, 0, 0, [216])) rfl rfl)
  have cr_0_102 : ta (w_ar ws (n_v vs 0) 102) = some 220 := tv_rg (th_fd hD hth r0 (g := GG_150) rfl (k := 102) (t := (2, 0, 0, [220])) rfl rfl)
  have cr_0_104 : ta (w_ar ws (n_v vs 0) 104) = some 222 := tv_rg (th_fd hD hth r0 (g := GG_150) rfl (k := 104) (t := (2, 0, 0, [222])) rfl rfl)
  have cr_0_105 : ta (w_ar ws (n_v vs 0) 105) = some 223 := tv_rg (th_fd hD hth r0 (g := GG_150) rfl (k := 105) (t := (2, 0, 0, [223])) rfl rfl)
  have cr_0_106 : ta (w_ar ws (n_v vs 0) 106) = some 224 := tv_rg (th_fd hD hth r0 (g := GG_150) rfl (k := 106) (t := (2, 0, 0, [224])) rfl rfl)
  have cr_0_108 : ta (w_ar ws (n_v vs 0) 108) = some 225 := tv_rg (th_fd hD hth r0 (g := GG_150) rfl (k := 108) (t := (2, 0, 0, [225])) rfl rfl)
  have cr_0_109 : ta (w_ar ws (n_v vs 0) 109) = some 226 := tv_rg (th_fd hD hth r0 (g := GG_150) rfl (k := 109) (t := (2, 0, 0, [226])) rfl rfl)
  have g1 : v_iv (n_v vs 5) = w_fi ws (n_v vs 0) 101 := congrArg v_iv f1
  have hK_0_95 : ∀ j : Int, 0 ≤ j → j < 48 → 0 ≤ w_ei ws (w_ar ws (n_v vs 0) 95) j ∧ w_ei ws (w_ar ws (n_v vs 0) 95) j ≤ 1 := fun j h0 h1 => th_el hD hth cr_0_95 (kd := 2) (n := 48) (m := 48) (lo := 0) (hi := 1) (rs := []) (L := []) rfl (by decide) (j := j.toNat) (by omega)
  have hK_0_102 : ∀ j : Int, 0 ≤ j → j < 76 → 0 ≤ w_ei ws (w_ar ws (n_v vs 0) 102) j ∧ w_ei ws (w_ar ws (n_v vs 0) 102) j ≤ 75 := fun j h0 h1 => th_el hD hth cr_0_102 (kd := 0) (n := 76) (m := 76) (lo := 0) (hi := 75) (rs := []) (L := []) rfl (by decide) (j := j.toNat) (by omega)
  have hK_0_104 : ∀ j : Int, 0 ≤ j → j < 48 → 0 ≤ w_ei ws (w_ar ws (n_v vs 0) 104) j ∧ w_ei ws (w_ar ws (n_v vs 0) 104) j ≤ 76 := fun j h0 h1 => th_el hD hth cr_0_104 (kd := 0) (n := 48) (m := 48) (lo := 0) (hi := 76) (rs := []) (L := []) rfl (by decide) (j := j.toNat) (by omega)
  have hK_0_105 : ∀ j : Int, 0 ≤ j → j < 76 → 0 ≤ w_ei ws (w_ar ws (n_v vs 0) 105) j ∧ w_ei ws (w_ar ws (n_v vs 0) 105) j ≤ 76 := fun j h0 h1 => th_el hD hth cr_0_105 (kd := 0) (n := 76) (m := 76) (lo := 0) (hi := 76) (rs := []) (L := []) rfl (by decide) (j := j.toNat) (by omega)
  have hK_0_106 : ∀ j : Int, 0 ≤ j → j < 5776 → 0 ≤ w_ei ws (w_ar ws (n_v vs 0) 106) j ∧ w_ei ws (w_ar ws (n_v vs 0) 106) j ≤ 75 := fun j h0 h1 => th_el hD hth cr_0_106 (kd := 0) (n := 5776) (m := 5776) (lo := 0) (hi := 75) (rs := []) (L := []) rfl (by decide) (j := j.toNat) (by omega)
  have hK_0_108 : ∀ j : Int, 0 ≤ j → j < 130 → 0 ≤ w_ei ws (w_ar ws (n_v vs 0) 108) j ∧ w_ei ws (w_ar ws (n_v vs 0) 108) j ≤ 75 := fun j h0 h1 => th_el hD hth cr_0_108 (kd := 0) (n := 130) (m := 130) (lo := 0) (hi := 75) (rs := []) (L := []) rfl (by decide) (j := j.toNat) (by omega)
  have hK_0_109 : ∀ j : Int, 0 ≤ j → j < 130 → 0 ≤ w_ei ws (w_ar ws (n_v vs 0) 109) j ∧ w_ei ws (w_ar ws (n_v vs 0) 109) j ≤ 75 := fun j h0 h1 => th_el hD hth cr_0_109 (kd := 0) (n := 130) (m := 130) (lo := 0) (hi := 75) (rs := []) (L := []) rfl (by decide) (j := j.toNat) (by omega)
  have kz_0_100 : 0 ≤ w_fi ws (n_v vs 0) 100 ∧ w_fi ws (n_v vs 0) 100 ≤ 76 := tv_rng (th_fd hD hth r0 (g := GG_150) rfl (k := 100) (t := (0, 0, 76, [])) rfl rfl)
  have kz_0_101 : 0 ≤ w_fi ws (n_v vs 0) 101 ∧ w_fi ws (n_v vs 0) 101 ≤ 76 := tv_rng (th_fd hD hth r0 (g := GG_150) rfl (k := 101) (t := (0, 0, 76, [])) rfl rfl)
  have kz_0_107 : 0 ≤ w_fi ws (n_v vs 0) 107 ∧ w_fi ws (n_v vs 0) 107 ≤ 130 := tv_rng (th_fd hD hth r0 (g := GG_150) rfl (k := 107) (t := (0, 0, 130, [])) rfl rfl)
  have nf0 : fc_1 PRD (20, [0], [60, 4, 6, 369, 5, 100, 101, 107, 2, 95, 102, 104, 108, 109]) ws (vs) := by
    refine ⟨fun n hn => ?_, ?_⟩
    · have hn : n ∈ [0] := hn
      rw [hl]
      simp only [List.mem_cons, List.not_mem_nil, or_false] at hn
      show n < 6; omega
    · show LSA (w_fi ws (n_v vs 0) 5) (w_fi ws (n_v vs 0) 100) (w_fi ws (n_v vs 0) 101) (w_fi ws (n_v vs 0) 107) (w_ei ws (w_ar ws (n_v vs 0) 2)) (w_ei ws (w_ar ws (n_v vs 0) 95)) (w_ei ws (w_ar ws (n_v vs 0) 102)) (w_ei ws (w_ar ws (n_v vs 0) 104)) (w_ei ws (w_ar ws (n_v vs 0) 108)) (w_ei ws (w_ar ws (n_v vs 0) 109))
      exact vc_Mo_list_13_0 (v_iv (n_v vs 4)) (v_iv (n_v vs 5)) (w_fi ws (n_v vs 0) 101) (w_ei ws (w_ar ws (n_v vs 0) 2)) (w_ei ws (w_ar ws (n_v vs 0) 95)) (w_ei ws (w_ar ws (n_v vs 0) 102)) (w_ei ws (w_ar ws (n_v vs 0) 104)) (w_ei ws (w_ar ws (n_v vs 0) 108)) (w_ei ws (w_ar ws (n_v vs 0) 109)) (w_fi ws (n_v vs 0) 5) (w_fi ws (n_v vs 0) 100) (w_fi ws (n_v vs 0) 107) (w_ei ws (w_ar ws (n_v vs 0) 105)) (w_ei ws (w_ar ws (n_v vs 0) 106)) k4 k5 d0 f0 g1 f2 f3 hK_0_95 hK_0_102 hK_0_104 hK_0_105 hK_0_106 hK_0_108 hK_0_109 kz_0_100 kz_0_101 kz_0_107
  have nf1 : fc_1 PRD (20, [0], [60, 2, 3, 372, 100, 101, 102, 105, 106]) ws (vs) := by
    refine ⟨fun n hn => ?_, ?_⟩
    · have hn : n ∈ [0] := hn
      rw [hl]
      simp only [List.mem_cons, List.not_mem_nil, or_false] at hn
      show n < 6; omega
    · show LSB (w_fi ws (n_v vs 0) 100) (w_fi ws (n_v vs 0) 101) (w_ei ws (w_ar ws (n_v vs 0) 102)) (w_ei ws (w_ar ws (n_v vs 0) 105)) (w_ei ws (w_ar ws (n_v vs 0) 106))
      exact vc_Mo_list_13_1 (v_iv (n_v vs 4)) (v_iv (n_v vs 5)) (w_fi ws (n_v vs 0) 101) (w_ei ws (w_ar ws (n_v vs 0) 2)) (w_ei ws (w_ar ws (n_v vs 0) 95)) (w_ei ws (w_ar ws (n_v vs 0) 102)) (w_ei ws (w_ar ws (n_v vs 0) 104)) (w_ei ws (w_ar ws (n_v vs 0) 108)) (w_ei ws (w_ar ws (n_v vs 0) 109)) (w_fi ws (n_v vs 0) 5) (w_fi ws (n_v vs 0) 100) (w_fi ws (n_v vs 0) 107) (w_ei ws (w_ar ws (n_v vs 0) 105)) (w_ei ws (w_ar ws (n_v vs 0) 106)) k4 k5 d0 f0 g1 f2 f3 hK_0_95 hK_0_102 hK_0_104 hK_0_105 hK_0_106 hK_0_108 hK_0_109 kz_0_100 kz_0_101 kz_0_107
  refine ⟨(fun _ h => (by cases h)), [], trivial, ?_, (fun _ h => (by cases h))⟩
  rw [List.append_nil]
  exact List.forall_mem_cons.mpr ⟨⟨show (20 : Nat) < 100 from by decide, nf0⟩, List.forall_mem_cons.mpr ⟨⟨show (20 : Nat) < 100 from by decide, nf1⟩, (fun _ h => (by cases h))⟩⟩
set_option maxHeartbeats 4000000 in
theorem vc_Mo_list_14_r0 (x4 : Int) (x5 : Int) (layerMany_0 : Int) (all_0 : Int → Int) (turned_0 : Int → Int) (itemLayer_0 : Int → Int) (firstJoint_0 : Int → Int) (lineA_0 : Int → Int) (lineB_0 : Int → Int) (r_0 : Int) (items_0 : Int) (lines_0 : Int) (layerSize_0 : Int → Int) (layerItem_0 : Int → Int) (k4 : 0 ≤ x4 ∧ x4 ≤ 24) (k5 : 1 ≤ x5 ∧ x5 ≤ 76) (d0 : x5 + (-4294967296) ≤ x4 ∧ x4 ≤ x5 + (-1)) (f1 : x4 < x5) (g2 : x5 = layerMany_0) (f3 : LSA (r_0) (items_0) (layerMany_0) (lines_0) (all_0) (turned_0) (itemLayer_0) (firstJoint_0) (lineA_0) (lineB_0)) (f4 : LLS (items_0) (itemLayer_0) (layerSize_0) (layerItem_0) (x4)) (hK_0_95 : ∀ j : Int, 0 ≤ j → j < 48 → 0 ≤ turned_0 j ∧ turned_0 j ≤ 1) (hK_0_102 : ∀ j : Int, 0 ≤ j → j < 76 → 0 ≤ itemLayer_0 j ∧ itemLayer_0 j ≤ 75) (hK_0_104 : ∀ j : Int, 0 ≤ j → j < 48 → 0 ≤ firstJoint_0 j ∧ firstJoint_0 j ≤ 76) (hK_0_105 : ∀ j : Int, 0 ≤ j → j < 76 → 0 ≤ layerSize_0 j ∧ layerSize_0 j ≤ 76) (hK_0_106 : ∀ j : Int, 0 ≤ j → j < 5776 → 0 ≤ layerItem_0 j ∧ layerItem_0 j ≤ 75) (hK_0_108 : ∀ j : Int, 0 ≤ j → j < 130 → 0 ≤ lineA_0 j ∧ lineA_0 j ≤ 75) (hK_0_109 : ∀ j : Int, 0 ≤ j → j < 130 → 0 ≤ lineB_0 j ∧ lineB_0 j ≤ 75) (kz_0_100 : 0 ≤ items_0 ∧ items_0 ≤ 76) (kz_0_101 : 0 ≤ layerMany_0 ∧ layerMany_0 ≤ 76) (kz_0_107 : 0 ≤ lines_0 ∧ lines_0 ≤ 130) : 0 ≤ x4 ∧ x4 ≤ 23 := by
  try simp only [Int.add_zero] at *
  first
    | omega
    | (have h := lid_bd ‹LID _ _ _ _ _ _ _ _ _›; omega)
    | (have h := ‹LYJ _ _ _ _›.1.1.1; omega)
    | (have h := (lic_bd ‹LIC _ _ _ _ _ _ _›).1; omega)
    | (have h := (lic_bd ‹LIF _ _ _ _ _ _›).1; omega)
    | (have h := ‹LSA _ _ _ _ _ _ _ _ _ _›.2.1; omega)
    | (have h := lli_bd ‹LLI _ _ _ _ _ _›; have h2 := ‹LSA _ _ _ _ _ _ _ _ _ _›.2.1; omega)
def o_Mo_list_14 : or_T := (188, 8, [(0, (2, 0, 0, [150])), (2, (2, 0, 0, [150])), (4, (0, 0, 24, [])), (5, (0, 1, 76, [])), (6, (2, 0, 0, [223]))], [(9, [6, 2], [105]), (7, [4, 5], [2]), (9, [5, 2], [101]), (20, [2], [60, 4, 6, 369, 5, 100, 101, 107, 2, 95, 102, 104, 108, 109]), (20, [2, 4], [60, 1, 3, 370, 100, 102, 105, 106]), (24, [0, 2], [])], [(4, (0, 0, 23, []))], [], [], [], [(4, 5, -4294967296, -1)])
theorem oo_Mo_list_14 {kA : Nat → ClassId} : or_ok PRD kA GG o_Mo_list_14 := by
  intro A ta ws vs hD hth hl hk hds hf
  have hl : vs.length = 8 := hl
  have hk : ∀ q ∈ ([(0, (2, 0, 0, [150])), (2, (2, 0, 0, [150])), (4, (0, 0, 24, [])), (5, (0, 1, 76, [])), (6, (2, 0, 0, [223]))] : List (Nat × tv_T)), tv_ok ta q.2 (n_v vs q.1) := hk
  obtain ⟨t0, hk⟩ := List.forall_mem_cons.mp hk
  have t0 : tv_ok ta (2, 0, 0, [150]) (n_v vs 0) := t0
  have r0 : ta (v_ad (n_v vs 0)) = some 150 := tv_rg t0
  obtain ⟨t2, hk⟩ := List.forall_mem_cons.mp hk
  have t2 : tv_ok ta (2, 0, 0, [150]) (n_v vs 2) := t2
  have r2 : ta (v_ad (n_v vs 2)) = some 150 := tv_rg t2
  obtain ⟨t4, hk⟩ := List.forall_mem_cons.mp hk
  have t4 : tv_ok ta (0, 0, 24, []) (n_v vs 4) := t4
  have k4 : 0 ≤ v_iv (n_v vs 4) ∧ v_iv (n_v vs 4) ≤ 24 := tv_rng t4
  obtain ⟨t5, hk⟩ := List.forall_mem_cons.mp hk
  have t5 : tv_ok ta (0, 1, 76, []) (n_v vs 5) := t5
  have k5 : 1 ≤ v_iv (n_v vs 5) ∧ v_iv (n_v vs 5) ≤ 76 := tv_rng t5
  obtain ⟨t6, hk⟩ := List.forall_mem_cons.mp hk
  have t6 : tv_ok ta (2, 0, 0, [223]) (n_v vs 6) := t6
  have r6 : ta (v_ad (n_v vs 6)) = some 223 := tv_rg t6
  have hds : ∀ q ∈ ([(4, 5, -4294967296, -1)] : List of_T), n_iv vs q.2.1 + q.2.2.1 ≤ n_iv vs q.1 ∧ n_iv vs q.1 ≤ n_iv vs q.2.1 + q.2.2.2 := hds
  obtain ⟨d0, hds⟩ := List.forall_mem_cons.mp hds
  have d0 : v_iv (n_v vs 5) + (-4294967296) ≤ v_iv (n_v vs 4) ∧ v_iv (n_v vs 4) ≤ v_iv (n_v vs 5) + (-1) := d0
  have hf : fc_ok PRD [(9, [6, 2], [105]), (7, [4, 5], [2]), (9, [5, 2], [101]), (20, [2], [60, 4, 6, 369, 5, 100, 101, 107, 2, 95, 102, 104, 108, 109]), (20, [2, 4], [60, 1, 3, 370, 100, 102, 105, 106]), (24, [0, 2], [])] ta ws vs := hf
  obtain ⟨f0, hf⟩ := fc_un (show (9 : Nat) < 100 from by decide) hf
  have f0 : n_v vs 6 = w_fd ws (v_ad (n_v vs 2)) 105 := f0
  obtain ⟨f1, hf⟩ := fc_un (show (7 : Nat) < 100 from by decide) hf
  have f1 : v_iv (n_v vs 4) < v_iv (n_v vs 5) := f1
  obtain ⟨f2, hf⟩ := fc_un (show (9 : Nat) < 100 from by decide) hf
  have f2 : n_v vs 5 = w_fd ws (v_ad (n_v vs 2)) 101 := f2
  obtain ⟨f3, hf⟩ := fc_un (show (20 : Nat) < 100 from by decide) hf
  have f3 : LSA (w_fi ws (n_v vs 2) 5) (w_fi ws (n_v vs 2) 100) (w_fi ws (n_v vs 2) 101) (w_fi ws (n_v vs 2) 107) (w_ei ws (w_ar ws (n_v vs 2) 2)) (w_ei ws (w_ar ws (n_v vs 2) 95)) (w_ei ws (w_ar ws (n_v vs 2) 102)) (w_ei ws (w_ar ws (n_v vs 2) 104)) (w_ei ws (w_ar ws (n_v vs 2) 108)) (w_ei ws (w_ar ws (n_v vs 2) 109)) := f3
  obtain ⟨f4, hf⟩ := fc_un (show (20 : Nat) < 100 from by decide) hf
  have f4 : LLS (w_fi ws (n_v vs 2) 100) (w_ei ws (w_ar ws (n_v vs 2) 102)) (w_ei ws (w_ar ws (n_v vs 2) 105)) (w_ei ws (w_ar ws (n_v vs 2) 106)) (v_iv (n_v vs 4)) := f4
  obtain ⟨f5, hf⟩ := fc_un (show (24 : Nat) < 100 from by decide) hf
  have f5 : n_v vs 0 = n_v vs 2 := f5
  have q2 : n_v vs 2 = n_v vs 0 := f5.symm
  rw [q2] at f0
  rw [q2] at f2
  rw [q2] at f3
  rw [q2] at f4
  have cr_0_2 : ta (w_ar ws (n_v vs 0) 2) = some 152 := tv_rg (th_fd hD hth r0 (g := GG_150) rfl (k := 2) (t := (2, 0, 0, [152])) rfl rfl)
  have cr_0_95 : ta (w_ar ws (n_v vs 0) 95) = some 216 := tv_rg (th_fd hD hth r0 (g := GG_150) rfl (k := 95) (t := (2, 0, 0, [216])) rfl rfl)
  have cr_0_102 : ta (w_ar ws (n_v vs 0) 102) = some 220 := tv_rg (th_fd hD hth r0 (g := GG_150) rfl (k := 102) (t := (2, 0, 0, [220])) rfl rfl)
  have cr_0_104 : ta (w_ar ws (n_v vs 0) 104) = some 222 := tv_rg (th_fd hD hth r0 (g := GG_150) rfl (k := 104) (t := (2, 0, 0, [222])) rfl rfl)
  have cr_0_105 : ta (w_ar ws (n_v vs 0) 105) = some 223 := tv_rg (th_fd hD hth r0 (g := GG_150) rfl (k := 105) (t := (2, 0, 0, [223])) rfl rfl)
  have cr_0_106 : ta (w_ar ws (n_v vs 0) 106) = some 224 := tv_rg (th_fd hD hth r0 (g := GG_150) rfl (k := 106) (t := (2, 0, 0, [224])) rfl rfl)
  have cr_0_108 : ta (w_ar ws (n_v vs 0) 108) = some 225 := tv_rg (th_fd hD hth r0 (g := GG_150) rfl (k := 108) (t := (2, 0, 0, [225])) rfl rfl)
  have cr_0_109 : ta (w_ar ws (n_v vs 0) 109) = some 226 := tv_rg (th_fd hD hth r0 (g := GG_150) rfl (k := 109) (t := (2, 0, 0, [226])) rfl rfl)
  have ad_6 : v_ad (n_v vs 6) = w_ar ws (n_v vs 0) 105 := congrArg v_ad f0
  have g2 : v_iv (n_v vs 5) = w_fi ws (n_v vs 0) 101 := congrArg v_iv f2
  have hK_0_95 : ∀ j : Int, 0 ≤ j → j < 48 → 0 ≤ w_ei ws (w_ar ws (n_v vs 0) 95) j ∧ w_ei ws (w_ar ws (n_v vs 0) 95) j ≤ 1 := fun j h0 h1 => th_el hD hth cr_0_95 (kd := 2) (n := 48) (m := 48) (lo := 0) (hi := 1) (rs := []) (L := []) rfl (by decide) (j := j.toNat) (by omega)
  have hK_0_102 : ∀ j : Int, 0 ≤ j → j < 76 → 0 ≤ w_ei ws (w_ar ws (n_v vs 0) 102) j ∧ w_ei ws (w_ar ws (n_v vs 0) 102) j ≤ 75 := fun j h0 h1 => th_el hD hth cr_0_102 (kd := 0) (n := 76) (m := 76) (lo := 0) (hi := 75) (rs := []) (L := []) rfl (by decide) (j := j.toNat) (by omega)
  have hK_0_104 : ∀ j : Int, 0 ≤ j → j < 48 → 0 ≤ w_ei ws (w_ar ws (n_v vs 0) 104) j ∧ w_ei ws (w_ar ws (n_v vs 0) 104) j ≤ 76 := fun j h0 h1 => th_el hD hth cr_0_104 (kd := 0) (n := 48) (m := 48) (lo := 0) (hi := 76) (rs := []) (L := []) rfl (by decide) (j := j.toNat) (by omega)
  have hK_0_105 : ∀ j : Int, 0 ≤ j → j < 76 → 0 ≤ w_ei ws (w_ar ws (n_v vs 0) 105) j ∧ w_ei ws (w_ar ws (n_v vs 0) 105) j ≤ 76 := fun j h0 h1 => th_el hD hth cr_0_105 (kd := 0) (n := 76) (m := 76) (lo := 0) (hi := 76) (rs := []) (L := []) rfl (by decide) (j := j.toNat) (by omega)
  have hK_0_106 : ∀ j : Int, 0 ≤ j → j < 5776 → 0 ≤ w_ei ws (w_ar ws (n_v vs 0) 106) j ∧ w_ei ws (w_ar ws (n_v vs 0) 106) j ≤ 75 := fun j h0 h1 => th_el hD hth cr_0_106 (kd := 0) (n := 5776) (m := 5776) (lo := 0) (hi := 75) (rs := []) (L := []) rfl (by decide) (j := j.toNat) (by omega)
  have hK_0_108 : ∀ j : Int, 0 ≤ j → j < 130 → 0 ≤ w_ei ws (w_ar ws (n_v vs 0) 108) j ∧ w_ei ws (w_ar ws (n_v vs 0) 108) j ≤ 75 := fun j h0 h1 => th_el hD hth cr_0_108 (kd := 0) (n := 130) (m := 130) (lo := 0) (hi := 75) (rs := []) (L := []) rfl (by decide) (j := j.toNat) (by omega)
  have hK_0_109 : ∀ j : Int, 0 ≤ j → j < 130 → 0 ≤ w_ei ws (w_ar ws (n_v vs 0) 109) j ∧ w_ei ws (w_ar ws (n_v vs 0) 109) j ≤ 75 := fun j h0 h1 => th_el hD hth cr_0_109 (kd := 0) (n := 130) (m := 130) (lo := 0) (hi := 75) (rs := []) (L := []) rfl (by decide) (j := j.toNat) (by omega)
  have kz_0_100 : 0 ≤ w_fi ws (n_v vs 0) 100 ∧ w_fi ws (n_v vs 0) 100 ≤ 76 := tv_rng (th_fd hD hth r0 (g := GG_150) rfl (k := 100) (t := (0, 0, 76, [])) rfl rfl)
  have kz_0_101 : 0 ≤ w_fi ws (n_v vs 0) 101 ∧ w_fi ws (n_v vs 0) 101 ≤ 76 := tv_rng (th_fd hD hth r0 (g := GG_150) rfl (k := 101) (t := (0, 0, 76, [])) rfl rfl)
  have kz_0_107 : 0 ≤ w_fi ws (n_v vs 0) 107 ∧ w_fi ws (n_v vs 0) 107 ≤ 130 := tv_rng (th_fd hD hth r0 (g := GG_150) rfl (k := 107) (t := (0, 0, 130, [])) rfl rfl)
  have hrf0 : 0 ≤ v_iv (n_v vs 4) ∧ v_iv (n_v vs 4) ≤ 23 := vc_Mo_list_14_r0 (v_iv (n_v vs 4)) (v_iv (n_v vs 5)) (w_fi ws (n_v vs 0) 101) (w_ei ws (w_ar ws (n_v vs 0) 2)) (w_ei ws (w_ar ws (n_v vs 0) 95)) (w_ei ws (w_ar ws (n_v vs 0) 102)) (w_ei ws (w_ar ws (n_v vs 0) 104)) (w_ei ws (w_ar ws (n_v vs 0) 108)) (w_ei ws (w_ar ws (n_v vs 0) 109)) (w_fi ws (n_v vs 0) 5) (w_fi ws (n_v vs 0) 100) (w_fi ws (n_v vs 0) 107) (w_ei ws (w_ar ws (n_v vs 0) 105)) (w_ei ws (w_ar ws (n_v vs 0) 106)) k4 k5 d0 f1 g2 f3 f4 hK_0_95 hK_0_102 hK_0_104 hK_0_105 hK_0_106 hK_0_108 hK_0_109 kz_0_100 kz_0_101 kz_0_107
  have rf4 : tv_ok ta (0, 0, 23, []) (n_v vs 4) := tv_in t4 (by first | omega | grind) (by first | omega | grind)
  refine ⟨List.forall_mem_cons.mpr ⟨rf4, (fun _ h => (by cases h))⟩, [], trivial, ?_, (fun _ h => (by cases h))⟩
  rw [List.append_nil]
  exact (fun _ h => (by cases h))
set_option maxHeartbeats 4000000 in
theorem vc_Mo_list_15_0 (x4 : Int) (x5 : Int) (x7 : Int) (x8 : Int) (all_0 : Int → Int) (turned_0 : Int → Int) (itemLayer_0 : Int → Int) (firstJoint_0 : Int → Int) (lineA_0 : Int → Int) (lineB_0 : Int → Int) (r_0 : Int) (items_0 : Int) (layerMany_0 : Int) (lines_0 : Int) (layerMany_1 : Int) (all_1 : Int → Int) (turned_1 : Int → Int) (itemLayer_1 : Int → Int) (firstJoint_1 : Int → Int) (lineA_1 : Int → Int) (lineB_1 : Int → Int) (r_1 : Int) (items_1 : Int) (lines_1 : Int) (layerSize_1 : Int → Int) (layerItem_1 : Int → Int) (layerSize_0 : Int → Int) (layerItem_0 : Int → Int) (k4 : 0 ≤ x4 ∧ x4 ≤ 23) (k5 : 1 ≤ x5 ∧ x5 ≤ 76) (k7 : 0 ≤ x7 ∧ x7 ≤ 0) (k8 : 0 ≤ x8 ∧ x8 ≤ 0) (d0 : x5 + (-4294967296) ≤ x4 ∧ x4 ≤ x5 + (-1)) (f0 : LSA (r_0) (items_0) (layerMany_0) (lines_0) (all_0) (turned_0) (itemLayer_0) (firstJoint_0) (lineA_0) (lineB_0)) (f4 : x4 < x5) (g5 : x5 = layerMany_1) (f6 : LSA (r_1) (items_1) (layerMany_1) (lines_1) (all_1) (turned_1) (itemLayer_1) (firstJoint_1) (lineA_1) (lineB_1)) (f7 : LLS (items_1) (itemLayer_1) (layerSize_1) (layerItem_1) (x4)) (fe_0_5_1 : r_0 = r_1) (fe_0_100_1 : items_0 = items_1) (fe_0_101_1 : layerMany_0 = layerMany_1) (fe_0_107_1 : lines_0 = lines_1) (hE_0_2_1 : ∀ j : Int, all_0 j = all_1 j) (hE_0_95_1 : ∀ j : Int, turned_0 j = turned_1 j) (hK_0_95 : ∀ j : Int, 0 ≤ j → j < 48 → 0 ≤ turned_0 j ∧ turned_0 j ≤ 1) (hE_0_102_1 : ∀ j : Int, itemLayer_0 j = itemLayer_1 j) (hK_0_102 : ∀ j : Int, 0 ≤ j → j < 76 → 0 ≤ itemLayer_0 j ∧ itemLayer_0 j ≤ 75) (hE_0_104_1 : ∀ j : Int, firstJoint_0 j = firstJoint_1 j) (hK_0_104 : ∀ j : Int, 0 ≤ j → j < 48 → 0 ≤ firstJoint_0 j ∧ firstJoint_0 j ≤ 76) (hE_0_105_1 : ∀ j : Int, 0 ≤ j → (j = x4 → layerSize_0 j = x7) ∧ (j ≠ x4 → layerSize_0 j = layerSize_1 j)) (hK_0_105 : ∀ j : Int, 0 ≤ j → j < 76 → 0 ≤ layerSize_0 j ∧ layerSize_0 j ≤ 76) (hE_0_106_1 : ∀ j : Int, layerItem_0 j = layerItem_1 j) (hK_0_106 : ∀ j : Int, 0 ≤ j → j < 5776 → 0 ≤ layerItem_0 j ∧ layerItem_0 j ≤ 75) (hE_0_108_1 : ∀ j : Int, lineA_0 j = lineA_1 j) (hK_0_108 : ∀ j : Int, 0 ≤ j → j < 130 → 0 ≤ lineA_0 j ∧ lineA_0 j ≤ 75) (hE_0_109_1 : ∀ j : Int, lineB_0 j = lineB_1 j) (hK_0_109 : ∀ j : Int, 0 ≤ j → j < 130 → 0 ≤ lineB_0 j ∧ lineB_0 j ≤ 75) (kz_0_100 : 0 ≤ items_0 ∧ items_0 ≤ 76) (kz_0_101 : 0 ≤ layerMany_0 ∧ layerMany_0 ≤ 76) (kz_0_107 : 0 ≤ lines_0 ∧ lines_0 ≤ 130) : LLI (items_0) (itemLayer_0) (layerSize_0) (layerItem_0) (x4) (x8) := by
  subst fe_0_5_1
  subst fe_0_100_1
  subst fe_0_101_1
  subst fe_0_107_1
  have e_hE_0_2_1 := funext hE_0_2_1; subst e_hE_0_2_1
  have e_hE_0_95_1 := funext hE_0_95_1; subst e_hE_0_95_1
  have e_hE_0_102_1 := funext hE_0_102_1; subst e_hE_0_102_1
  have e_hE_0_104_1 := funext hE_0_104_1; subst e_hE_0_104_1
  have e_hE_0_106_1 := funext hE_0_106_1; subst e_hE_0_106_1
  have e_hE_0_108_1 := funext hE_0_108_1; subst e_hE_0_108_1
  have e_hE_0_109_1 := funext hE_0_109_1; subst e_hE_0_109_1
  first
    | exact lli_start ‹LLS _ _ _ _ _› (by omega) ‹LSA _ _ _ _ _ _ _ _ _ _›.2.1.2.1 (by assumption) rfl (by omega) (by omega)
    | exact lli_skip ‹LLI _ _ _ _ _ _› (by assumption) (by assumption) (by omega)
    | exact lli_take (v := x8) (q := x14) (x := x17) ‹LLI _ _ _ _ _ _› (by omega) (by assumption) (by assumption) (by omega) (by assumption) (by omega) rfl (by assumption) rfl (by omega)
set_option maxHeartbeats 4000000 in
theorem vc_Mo_list_15_1 (x4 : Int) (x5 : Int) (x7 : Int) (x8 : Int) (all_0 : Int → Int) (turned_0 : Int → Int) (itemLayer_0 : Int → Int) (firstJoint_0 : Int → Int) (lineA_0 : Int → Int) (lineB_0 : Int → Int) (r_0 : Int) (items_0 : Int) (layerMany_0 : Int) (lines_0 : Int) (layerMany_1 : Int) (all_1 : Int → Int) (turned_1 : Int → Int) (itemLayer_1 : Int → Int) (firstJoint_1 : Int → Int) (lineA_1 : Int → Int) (lineB_1 : Int → Int) (r_1 : Int) (items_1 : Int) (lines_1 : Int) (layerSize_1 : Int → Int) (layerItem_1 : Int → Int) (layerSize_0 : Int → Int) (layerItem_0 : Int → Int) (k4 : 0 ≤ x4 ∧ x4 ≤ 23) (k5 : 1 ≤ x5 ∧ x5 ≤ 76) (k7 : 0 ≤ x7 ∧ x7 ≤ 0) (k8 : 0 ≤ x8 ∧ x8 ≤ 0) (d0 : x5 + (-4294967296) ≤ x4 ∧ x4 ≤ x5 + (-1)) (f0 : LSA (r_0) (items_0) (layerMany_0) (lines_0) (all_0) (turned_0) (itemLayer_0) (firstJoint_0) (lineA_0) (lineB_0)) (f4 : x4 < x5) (g5 : x5 = layerMany_1) (f6 : LSA (r_1) (items_1) (layerMany_1) (lines_1) (all_1) (turned_1) (itemLayer_1) (firstJoint_1) (lineA_1) (lineB_1)) (f7 : LLS (items_1) (itemLayer_1) (layerSize_1) (layerItem_1) (x4)) (fe_0_5_1 : r_0 = r_1) (fe_0_100_1 : items_0 = items_1) (fe_0_101_1 : layerMany_0 = layerMany_1) (fe_0_107_1 : lines_0 = lines_1) (hE_0_2_1 : ∀ j : Int, all_0 j = all_1 j) (hE_0_95_1 : ∀ j : Int, turned_0 j = turned_1 j) (hK_0_95 : ∀ j : Int, 0 ≤ j → j < 48 → 0 ≤ turned_0 j ∧ turned_0 j ≤ 1) (hE_0_102_1 : ∀ j : Int, itemLayer_0 j = itemLayer_1 j) (hK_0_102 : ∀ j : Int, 0 ≤ j → j < 76 → 0 ≤ itemLayer_0 j ∧ itemLayer_0 j ≤ 75) (hE_0_104_1 : ∀ j : Int, firstJoint_0 j = firstJoint_1 j) (hK_0_104 : ∀ j : Int, 0 ≤ j → j < 48 → 0 ≤ firstJoint_0 j ∧ firstJoint_0 j ≤ 76) (hE_0_105_1 : ∀ j : Int, 0 ≤ j → (j = x4 → layerSize_0 j = x7) ∧ (j ≠ x4 → layerSize_0 j = layerSize_1 j)) (hK_0_105 : ∀ j : Int, 0 ≤ j → j < 76 → 0 ≤ layerSize_0 j ∧ layerSize_0 j ≤ 76) (hE_0_106_1 : ∀ j : Int, layerItem_0 j = layerItem_1 j) (hK_0_106 : ∀ j : Int, 0 ≤ j → j < 5776 → 0 ≤ layerItem_0 j ∧ layerItem_0 j ≤ 75) (hE_0_108_1 : ∀ j : Int, lineA_0 j = lineA_1 j) (hK_0_108 : ∀ j : Int, 0 ≤ j → j < 130 → 0 ≤ lineA_0 j ∧ lineA_0 j ≤ 75) (hE_0_109_1 : ∀ j : Int, lineB_0 j = lineB_1 j) (hK_0_109 : ∀ j : Int, 0 ≤ j → j < 130 → 0 ≤ lineB_0 j ∧ lineB_0 j ≤ 75) (kz_0_100 : 0 ≤ items_0 ∧ items_0 ≤ 76) (kz_0_101 : 0 ≤ layerMany_0 ∧ layerMany_0 ≤ 76) (kz_0_107 : 0 ≤ lines_0 ∧ lines_0 ≤ 130) : ((x4 + 1) ≤ layerMany_0) ∧ (x8 ≤ items_0) := by
  subst fe_0_5_1
  subst fe_0_100_1
  subst fe_0_101_1
  subst fe_0_107_1
  have e_hE_0_2_1 := funext hE_0_2_1; subst e_hE_0_2_1
  have e_hE_0_95_1 := funext hE_0_95_1; subst e_hE_0_95_1
  have e_hE_0_102_1 := funext hE_0_102_1; subst e_hE_0_102_1
  have e_hE_0_104_1 := funext hE_0_104_1; subst e_hE_0_104_1
  have e_hE_0_106_1 := funext hE_0_106_1; subst e_hE_0_106_1
  have e_hE_0_108_1 := funext hE_0_108_1; subst e_hE_0_108_1
  have e_hE_0_109_1 := funext hE_0_109_1; subst e_hE_0_109_1
  try simp only [Int.add_zero] at *
  first
    | omega
    | (have h := lid_bd ‹LID _ _ _ _ _ _ _ _ _›; omega)
    | (have h := ‹LYJ _ _ _ _›.1.1.1; omega)
    | (have h := (lic_bd ‹LIC _ _ _ _ _ _ _›).1; omega)
    | (have h := (lic_bd ‹LIF _ _ _ _ _ _›).1; omega)
    | (have h := ‹LSA _ _ _ _ _ _ _ _ _ _›.2.1; omega)
    | (have h := lli_bd ‹LLI _ _ _ _ _ _›; have h2 := ‹LSA _ _ _ _ _ _ _ _ _ _›.2.1; omega)
def o_Mo_list_15 : or_T := (191, 9, [(0, (2, 0, 0, [150])), (2, (2, 0, 0, [150])), (4, (0, 0, 23, [])), (5, (0, 1, 76, [])), (6, (2, 0, 0, [223])), (7, (0, 0, 0, [])), (8, (0, 0, 0, []))], [(20, [2], [60, 4, 6, 369, 5, 100, 101, 107, 2, 95, 102, 104, 108, 109]), (24, [0, 2], []), (100, [6, 4, 7], []), (9, [6, 2], [105]), (7, [4, 5], [2]), (9, [5, 2], [101]), (20, [2], [60, 4, 6, 369, 5, 100, 101, 107, 2, 95, 102, 104, 108, 109]), (20, [2, 4], [60, 1, 3, 370, 100, 102, 105, 106])], [], [], [(20, [2, 4, 8], [60, 1, 3, 371, 100, 102, 105, 106]), (20, [4, 2, 8], [50, 2, 0, 1101, 1100, 2, 11, 0, 6, 4, 2, 1, 0, 0, 1, 2, 1, 101, 0, 2, 1, 2, 2, 1, 100])], [], [(4, 5, -4294967296, -1)])
theorem oo_Mo_list_15 {kA : Nat → ClassId} : or_ok PRD kA GG o_Mo_list_15 := by
  intro A ta ws vs hD hth hl hk hds hf
  have hl : vs.length = 9 := hl
  have hk : ∀ q ∈ ([(0, (2, 0, 0, [150])), (2, (2, 0, 0, [150])), (4, (0, 0, 23, [])), (5, (0, 1, 76, [])), (6, (2, 0, 0, [223])), (7, (0, 0, 0, [])), (8, (0, 0, 0, []))] : List (Nat × tv_T)), tv_ok ta q.2 (n_v vs q.1) := hk
  obtain ⟨t0, hk⟩ := List.forall_mem_cons.mp hk
  have t0 : tv_ok ta (2, 0, 0, [150]) (n_v vs 0) := t0
  have r0 : ta (v_ad (n_v vs 0)) = some 150 := tv_rg t0
  obtain ⟨t2, hk⟩ := List.forall_mem_cons.mp hk
  have t2 : tv_ok ta (2, 0, 0, [150]) (n_v vs 2) := t2
  have r2 : ta (v_ad (n_v vs 2)) = some 150 := tv_rg t2
  obtain ⟨t4, hk⟩ := List.forall_mem_cons.mp hk
  have t4 : tv_ok ta (0, 0, 23, []) (n_v vs 4) := t4
  have k4 : 0 ≤ v_iv (n_v vs 4) ∧ v_iv (n_v vs 4) ≤ 23 := tv_rng t4
  obtain ⟨t5, hk⟩ := List.forall_mem_cons.mp hk
  have t5 : tv_ok ta (0, 1, 76, []) (n_v vs 5) := t5
  have k5 : 1 ≤ v_iv (n_v vs 5) ∧ v_iv (n_v vs 5) ≤ 76 := tv_rng t5
  obtain ⟨t6, hk⟩ := List.forall_mem_cons.mp hk
  have t6 : tv_ok ta (2, 0, 0, [223]) (n_v vs 6) := t6
  have r6 : ta (v_ad (n_v vs 6)) = some 223 := tv_rg t6
  obtain ⟨t7, hk⟩ := List.forall_mem_cons.mp hk
  have t7 : tv_ok ta (0, 0, 0, []) (n_v vs 7) := t7
  have k7 : 0 ≤ v_iv (n_v vs 7) ∧ v_iv (n_v vs 7) ≤ 0 := tv_rng t7
  obtain ⟨t8, hk⟩ := List.forall_mem_cons.mp hk
  have t8 : tv_ok ta (0, 0, 0, []) (n_v vs 8) := t8
  have k8 : 0 ≤ v_iv (n_v vs 8) ∧ v_iv (n_v vs 8) ≤ 0 := tv_rng t8
  have hds : ∀ q ∈ ([(4, 5, -4294967296, -1)] : List of_T), n_iv vs q.2.1 + q.2.2.1 ≤ n_iv vs q.1 ∧ n_iv vs q.1 ≤ n_iv vs q.2.1 + q.2.2.2 := hds
  obtain ⟨d0, hds⟩ := List.forall_mem_cons.mp hds
  have d0 : v_iv (n_v vs 5) + (-4294967296) ≤ v_iv (n_v vs 4) ∧ v_iv (n_v vs 4) ≤ v_iv (n_v vs 5) + (-1) := d0
  have hf : fc_ok PRD [(20, [2], [60, 4, 6, 369, 5, 100, 101, 107, 2, 95, 102, 104, 108, 109]), (24, [0, 2], []), (100, [6, 4, 7], []), (9, [6, 2], [105]), (7, [4, 5], [2]), (9, [5, 2], [101]), (20, [2], [60, 4, 6, 369, 5, 100, 101, 107, 2, 95, 102, 104, 108, 109]), (20, [2, 4], [60, 1, 3, 370, 100, 102, 105, 106])] ta ws vs := hf
  obtain ⟨f0, hf⟩ := fc_un (show (20 : Nat) < 100 from by decide) hf
  have f0 : LSA (w_fi ws (n_v vs 2) 5) (w_fi ws (n_v vs 2) 100) (w_fi ws (n_v vs 2) 101) (w_fi ws (n_v vs 2) 107) (w_ei ws (w_ar ws (n_v vs 2) 2)) (w_ei ws (w_ar ws (n_v vs 2) 95)) (w_ei ws (w_ar ws (n_v vs 2) 102)) (w_ei ws (w_ar ws (n_v vs 2) 104)) (w_ei ws (w_ar ws (n_v vs 2) 108)) (w_ei ws (w_ar ws (n_v vs 2) 109)) := f0
  obtain ⟨f1, hf⟩ := fc_un (show (24 : Nat) < 100 from by decide) hf
  have f1 : n_v vs 0 = n_v vs 2 := f1
  obtain ⟨ta1, w1, le1, ⟨_, s1⟩, hf⟩ := fc_us (show ¬ (100 : Nat) < 100 from by decide) hf
  have s1 : (∀ b j, w_el ws b j = if b = v_ad (n_v vs 6) ∧ j = (v_iv (n_v vs 4)).toNat then v_iv (n_v vs 7) else w_el w1 b j) ∧ ∀ b k, w_fd ws b k = w_fd w1 b k := s1
  obtain ⟨f3, hf⟩ := fc_un (show (9 : Nat) < 100 from by decide) hf
  have f3 : n_v vs 6 = w_fd w1 (v_ad (n_v vs 2)) 105 := f3
  obtain ⟨f4, hf⟩ := fc_un (show (7 : Nat) < 100 from by decide) hf
  have f4 : v_iv (n_v vs 4) < v_iv (n_v vs 5) := f4
  obtain ⟨f5, hf⟩ := fc_un (show (9 : Nat) < 100 from by decide) hf
  have f5 : n_v vs 5 = w_fd w1 (v_ad (n_v vs 2)) 101 := f5
  obtain ⟨f6, hf⟩ := fc_un (show (20 : Nat) < 100 from by decide) hf
  have f6 : LSA (w_fi w1 (n_v vs 2) 5) (w_fi w1 (n_v vs 2) 100) (w_fi w1 (n_v vs 2) 101) (w_fi w1 (n_v vs 2) 107) (w_ei w1 (w_ar w1 (n_v vs 2) 2)) (w_ei w1 (w_ar w1 (n_v vs 2) 95)) (w_ei w1 (w_ar w1 (n_v vs 2) 102)) (w_ei w1 (w_ar w1 (n_v vs 2) 104)) (w_ei w1 (w_ar w1 (n_v vs 2) 108)) (w_ei w1 (w_ar w1 (n_v vs 2) 109)) := f6
  obtain ⟨f7, hf⟩ := fc_un (show (20 : Nat) < 100 from by decide) hf
  have f7 : LLS (w_fi w1 (n_v vs 2) 100) (w_ei w1 (w_ar w1 (n_v vs 2) 102)) (w_ei w1 (w_ar w1 (n_v vs 2) 105)) (w_ei w1 (w_ar w1 (n_v vs 2) 106)) (v_iv (n_v vs 4)) := f7
  have q2 : n_v vs 2 = n_v vs 0 := f1.symm
  rw [q2] at f0
  rw [q2] at f3
  rw [q2] at f5
  rw [q2] at f6
  rw [q2] at f7
  have ar_0_2_1 : w_ar w1 (n_v vs 0) 2 = w_ar ws (n_v vs 0) 2 := by show v_ad (w_fd w1 _ _) = v_ad (w_fd ws _ _); rw [s1.2]
  have cr_0_2 : ta (w_ar ws (n_v vs 0) 2) = some 152 := tv_rg (th_fd hD hth r0 (g := GG_150) rfl (k := 2) (t := (2, 0, 0, [152])) rfl rfl)
  have ar_0_95_1 : w_ar w1 (n_v vs 0) 95 = w_ar ws (n_v vs 0) 95 := by show v_ad (w_fd w1 _ _) = v_ad (w_fd ws _ _); rw [s1.2]
  have cr_0_95 : ta (w_ar ws (n_v vs 0) 95) = some 216 := tv_rg (th_fd hD hth r0 (g := GG_150) rfl (k := 95) (t := (2, 0, 0, [216])) rfl rfl)
  have ar_0_102_1 : w_ar w1 (n_v vs 0) 102 = w_ar ws (n_v vs 0) 102 := by show v_ad (w_fd w1 _ _) = v_ad (w_fd ws _ _); rw [s1.2]
  have cr_0_102 : ta (w_ar ws (n_v vs 0) 102) = some 220 := tv_rg (th_fd hD hth r0 (g := GG_150) rfl (k := 102) (t := (2, 0, 0, [220])) rfl rfl)
  have ar_0_104_1 : w_ar w1 (n_v vs 0) 104 = w_ar ws (n_v vs 0) 104 := by show v_ad (w_fd w1 _ _) = v_ad (w_fd ws _ _); rw [s1.2]
  have cr_0_104 : ta (w_ar ws (n_v vs 0) 104) = some 222 := tv_rg (th_fd hD hth r0 (g := GG_150) rfl (k := 104) (t := (2, 0, 0, [222])) rfl rfl)
  have ar_0_105_1 : w_ar w1 (n_v vs 0) 105 = w_ar ws (n_v vs 0) 105 := by show v_ad (w_fd w1 _ _) = v_ad (w_fd ws _ _); rw [s1.2]
  have cr_0_105 : ta (w_ar ws (n_v vs 0) 105) = some 223 := tv_rg (th_fd hD hth r0 (g := GG_150) rfl (k := 105) (t := (2, 0, 0, [223])) rfl rfl)
  have ar_0_106_1 : w_ar w1 (n_v vs 0) 106 = w_ar ws (n_v vs 0) 106 := by show v_ad (w_fd w1 _ _) = v_ad (w_fd ws _ _); rw [s1.2]
  have cr_0_106 : ta (w_ar ws (n_v vs 0) 106) = some 224 := tv_rg (th_fd hD hth r0 (g := GG_150) rfl (k := 106) (t := (2, 0, 0, [224])) rfl rfl)
  have ar_0_108_1 : w_ar w1 (n_v vs 0) 108 = w_ar ws (n_v vs 0) 108 := by show v_ad (w_fd w1 _ _) = v_ad (w_fd ws _ _); rw [s1.2]
  have cr_0_108 : ta (w_ar ws (n_v vs 0) 108) = some 225 := tv_rg (th_fd hD hth r0 (g := GG_150) rfl (k := 108) (t := (2, 0, 0, [225])) rfl rfl)
  have ar_0_109_1 : w_ar w1 (n_v vs 0) 109 = w_ar ws (n_v vs 0) 109 := by show v_ad (w_fd w1 _ _) = v_ad (w_fd ws _ _); rw [s1.2]
  have cr_0_109 : ta (w_ar ws (n_v vs 0) 109) = some 226 := tv_rg (th_fd hD hth r0 (g := GG_150) rfl (k := 109) (t := (2, 0, 0, [226])) rfl rfl)
  have ad_6 : v_ad (n_v vs 6) = w_ar ws (n_v vs 0) 105 := (congrArg v_ad f3).trans ar_0_105_1
  have g5 : v_iv (n_v vs 5) = w_fi w1 (n_v vs 0) 101 := congrArg v_iv f5
  rw [ar_0_2_1] at f6
  rw [ar_0_95_1] at f6
  rw [ar_0_102_1] at f6
  rw [ar_0_104_1] at f6
  rw [ar_0_108_1] at f6
  rw [ar_0_109_1] at f6
  rw [ar_0_102_1] at f7
  rw [ar_0_105_1] at f7
  rw [ar_0_106_1] at f7
  have fe_0_5_1 : w_fi ws (n_v vs 0) 5 = w_fi w1 (n_v vs 0) 5 := congrArg v_iv (s1.2 _ _)
  have fe_0_100_1 : w_fi ws (n_v vs 0) 100 = w_fi w1 (n_v vs 0) 100 := congrArg v_iv (s1.2 _ _)
  have fe_0_101_1 : w_fi ws (n_v vs 0) 101 = w_fi w1 (n_v vs 0) 101 := congrArg v_iv (s1.2 _ _)
  have fe_0_107_1 : w_fi ws (n_v vs 0) 107 = w_fi w1 (n_v vs 0) 107 := congrArg v_iv (s1.2 _ _)
  have hE_0_2_1 : ∀ j : Int, w_ei ws (w_ar ws (n_v vs 0) 2) j = w_ei w1 (w_ar ws (n_v vs 0) 2) j := fun j => by unfold w_ei; rw [s1.1, if_neg (fun e => by have e1 := e.1; rw [← e1] at r6; rw [cr_0_2] at r6; exact absurd (Option.some.inj r6) (by decide))]
  have hE_0_95_1 : ∀ j : Int, w_ei ws (w_ar ws (n_v vs 0) 95) j = w_ei w1 (w_ar ws (n_v vs 0) 95) j := fun j => by unfold w_ei; rw [s1.1, if_neg (fun e => by have e1 := e.1; rw [← e1] at r6; rw [cr_0_95] at r6; exact absurd (Option.some.inj r6) (by decide))]
  have hK_0_95 : ∀ j : Int, 0 ≤ j → j < 48 → 0 ≤ w_ei ws (w_ar ws (n_v vs 0) 95) j ∧ w_ei ws (w_ar ws (n_v vs 0) 95) j ≤ 1 := fun j h0 h1 => th_el hD hth cr_0_95 (kd := 2) (n := 48) (m := 48) (lo := 0) (hi := 1) (rs := []) (L := []) rfl (by decide) (j := j.toNat) (by omega)
  have hE_0_102_1 : ∀ j : Int, w_ei ws (w_ar ws (n_v vs 0) 102) j = w_ei w1 (w_ar ws (n_v vs 0) 102) j := fun j => by unfold w_ei; rw [s1.1, if_neg (fun e => by have e1 := e.1; rw [← e1] at r6; rw [cr_0_102] at r6; exact absurd (Option.some.inj r6) (by decide))]
  have hK_0_102 : ∀ j : Int, 0 ≤ j → j < 76 → 0 ≤ w_ei ws (w_ar ws (n_v vs 0) 102) j ∧ w_ei ws (w_ar ws (n_v vs 0) 102) j ≤ 75 := fun j h0 h1 => th_el hD hth cr_0_102 (kd := 0) (n := 76) (m := 76) (lo := 0) (hi := 75) (rs := []) (L := []) rfl (by decide) (j := j.toNat) (by omega)
  have hE_0_104_1 : ∀ j : Int, w_ei ws (w_ar ws (n_v vs 0) 104) j = w_ei w1 (w_ar ws (n_v vs 0) 104) j := fun j => by unfold w_ei; rw [s1.1, if_neg (fun e => by have e1 := e.1; rw [← e1] at r6; rw [cr_0_104] at r6; exact absurd (Option.some.inj r6) (by decide))]
  have hK_0_104 : ∀ j : Int, 0 ≤ j → j < 48 → 0 ≤ w_ei ws (w_ar ws (n_v vs 0) 104) j ∧ w_ei ws (w_ar ws (n_v vs 0) 104) j ≤ 76 := fun j h0 h1 => th_el hD hth cr_0_104 (kd := 0) (n := 48) (m := 48) (lo := 0) (hi := 76) (rs := []) (L := []) rfl (by decide) (j := j.toNat) (by omega)
  have hE_0_105_1 : ∀ j : Int, 0 ≤ j → (j = v_iv (n_v vs 4) → w_ei ws (w_ar ws (n_v vs 0) 105) j = v_iv (n_v vs 7)) ∧ (j ≠ v_iv (n_v vs 4) → w_ei ws (w_ar ws (n_v vs 0) 105) j = w_ei w1 (w_ar ws (n_v vs 0) 105) j) := fun j hj => ⟨fun h => by unfold w_ei; rw [s1.1, if_pos ⟨ad_6.symm, by rw [h]⟩], fun h => by unfold w_ei; rw [s1.1, if_neg (fun e => h (by have := e.2; omega))]⟩
  have hK_0_105 : ∀ j : Int, 0 ≤ j → j < 76 → 0 ≤ w_ei ws (w_ar ws (n_v vs 0) 105) j ∧ w_ei ws (w_ar ws (n_v vs 0) 105) j ≤ 76 := fun j h0 h1 => th_el hD hth cr_0_105 (kd := 0) (n := 76) (m := 76) (lo := 0) (hi := 76) (rs := []) (L := []) rfl (by decide) (j := j.toNat) (by omega)
  have hE_0_106_1 : ∀ j : Int, w_ei ws (w_ar ws (n_v vs 0) 106) j = w_ei w1 (w_ar ws (n_v vs 0) 106) j := fun j => by unfold w_ei; rw [s1.1, if_neg (fun e => by have e1 := e.1; rw [← e1] at r6; rw [cr_0_106] at r6; exact absurd (Option.some.inj r6) (by decide))]
  have hK_0_106 : ∀ j : Int, 0 ≤ j → j < 5776 → 0 ≤ w_ei ws (w_ar ws (n_v vs 0) 106) j ∧ w_ei ws (w_ar ws (n_v vs 0) 106) j ≤ 75 := fun j h0 h1 => th_el hD hth cr_0_106 (kd := 0) (n := 5776) (m := 5776) (lo := 0) (hi := 75) (rs := []) (L := []) rfl (by decide) (j := j.toNat) (by omega)
  have hE_0_108_1 : ∀ j : Int, w_ei ws (w_ar ws (n_v vs 0) 108) j = w_ei w1 (w_ar ws (n_v vs 0) 108) j := fun j => by unfold w_ei; rw [s1.1, if_neg (fun e => by have e1 := e.1; rw [← e1] at r6; rw [cr_0_108] at r6; exact absurd (Option.some.inj r6) (by decide))]
  have hK_0_108 : ∀ j : Int, 0 ≤ j → j < 130 → 0 ≤ w_ei ws (w_ar ws (n_v vs 0) 108) j ∧ w_ei ws (w_ar ws (n_v vs 0) 108) j ≤ 75 := fun j h0 h1 => th_el hD hth cr_0_108 (kd := 0) (n := 130) (m := 130) (lo := 0) (hi := 75) (rs := []) (L := []) rfl (by decide) (j := j.toNat) (by omega)
  have hE_0_109_1 : ∀ j : Int, w_ei ws (w_ar ws (n_v vs 0) 109) j = w_ei w1 (w_ar ws (n_v vs 0) 109) j := fun j => by unfold w_ei; rw [s1.1, if_neg (fun e => by have e1 := e.1; rw [← e1] at r6; rw [cr_0_109] at r6; exact absurd (Option.some.inj r6) (by decide))]
  have hK_0_109 : ∀ j : Int, 0 ≤ j → j < 130 → 0 ≤ w_ei ws (w_ar ws (n_v vs 0) 109) j ∧ w_ei ws (w_ar ws (n_v vs 0) 109) j ≤ 75 := fun j h0 h1 => th_el hD hth cr_0_109 (kd := 0) (n := 130) (m := 130) (lo := 0) (hi := 75) (rs := []) (L := []) rfl (by decide) (j := j.toNat) (by omega)
  have kz_0_100 : 0 ≤ w_fi ws (n_v vs 0) 100 ∧ w_fi ws (n_v vs 0) 100 ≤ 76 := tv_rng (th_fd hD hth r0 (g := GG_150) rfl (k := 100) (t := (0, 0, 76, [])) rfl rfl)
  have kz_0_101 : 0 ≤ w_fi ws (n_v vs 0) 101 ∧ w_fi ws (n_v vs 0) 101 ≤ 76 := tv_rng (th_fd hD hth r0 (g := GG_150) rfl (k := 101) (t := (0, 0, 76, [])) rfl rfl)
  have kz_0_107 : 0 ≤ w_fi ws (n_v vs 0) 107 ∧ w_fi ws (n_v vs 0) 107 ≤ 130 := tv_rng (th_fd hD hth r0 (g := GG_150) rfl (k := 107) (t := (0, 0, 130, [])) rfl rfl)
  have nf0 : fc_1 PRD (20, [2, 4, 8], [60, 1, 3, 371, 100, 102, 105, 106]) ws (vs) := by
    refine ⟨fun n hn => ?_, ?_⟩
    · have hn : n ∈ [2, 4, 8] := hn
      rw [hl]
      simp only [List.mem_cons, List.not_mem_nil, or_false] at hn
      show n < 9; omega
    · show LLI (w_fi ws (n_v vs 2) 100) (w_ei ws (w_ar ws (n_v vs 2) 102)) (w_ei ws (w_ar ws (n_v vs 2) 105)) (w_ei ws (w_ar ws (n_v vs 2) 106)) (v_iv (n_v vs 4)) (v_iv (n_v vs 8))
      rw [q2]
      exact vc_Mo_list_15_0 (v_iv (n_v vs 4)) (v_iv (n_v vs 5)) (v_iv (n_v vs 7)) (v_iv (n_v vs 8)) (w_ei ws (w_ar ws (n_v vs 0) 2)) (w_ei ws (w_ar ws (n_v vs 0) 95)) (w_ei ws (w_ar ws (n_v vs 0) 102)) (w_ei ws (w_ar ws (n_v vs 0) 104)) (w_ei ws (w_ar ws (n_v vs 0) 108)) (w_ei ws (w_ar ws (n_v vs 0) 109)) (w_fi ws (n_v vs 0) 5) (w_fi ws (n_v vs 0) 100) (w_fi ws (n_v vs 0) 101) (w_fi ws (n_v vs 0) 107) (w_fi w1 (n_v vs 0) 101) (w_ei w1 (w_ar ws (n_v vs 0) 2)) (w_ei w1 (w_ar ws (n_v vs 0) 95)) (w_ei w1 (w_ar ws (n_v vs 0) 102)) (w_ei w1 (w_ar ws (n_v vs 0) 104)) (w_ei w1 (w_ar ws (n_v vs 0) 108)) (w_ei w1 (w_ar ws (n_v vs 0) 109)) (w_fi w1 (n_v vs 0) 5) (w_fi w1 (n_v vs 0) 100) (w_fi w1 (n_v vs 0) 107) (w_ei w1 (w_ar ws (n_v vs 0) 105)) (w_ei w1 (w_ar ws (n_v vs 0) 106)) (w_ei ws (w_ar ws (n_v vs 0) 105)) (w_ei ws (w_ar ws (n_v vs 0) 106)) k4 k5 k7 k8 d0 f0 f4 g5 f6 f7 fe_0_5_1 fe_0_100_1 fe_0_101_1 fe_0_107_1 hE_0_2_1 hE_0_95_1 hK_0_95 hE_0_102_1 hK_0_102 hE_0_104_1 hK_0_104 hE_0_105_1 hK_0_105 hE_0_106_1 hK_0_106 hE_0_108_1 hK_0_108 hE_0_109_1 hK_0_109 kz_0_100 kz_0_101 kz_0_107
  have nf1 : fc_1 PRD (20, [4, 2, 8], [50, 2, 0, 1101, 1100, 2, 11, 0, 6, 4, 2, 1, 0, 0, 1, 2, 1, 101, 0, 2, 1, 2, 2, 1, 100]) ws (vs) := by
    refine ⟨fun n hn => ?_, ?_⟩
    · have hn : n ∈ [4, 2, 8] := hn
      rw [hl]
      simp only [List.mem_cons, List.not_mem_nil, or_false] at hn
      show n < 9; omega
    · show ((v_iv (n_v vs 4) + 1) ≤ w_fi ws (n_v vs 2) 101) ∧ (v_iv (n_v vs 8) ≤ w_fi ws (n_v vs 2) 100)
      rw [q2]
      exact vc_Mo_list_15_1 (v_iv (n_v vs 4)) (v_iv (n_v vs 5)) (v_iv (n_v vs 7)) (v_iv (n_v vs 8)) (w_ei ws (w_ar ws (n_v vs 0) 2)) (w_ei ws (w_ar ws (n_v vs 0) 95)) (w_ei ws (w_ar ws (n_v vs 0) 102)) (w_ei ws (w_ar ws (n_v vs 0) 104)) (w_ei ws (w_ar ws (n_v vs 0) 108)) (w_ei ws (w_ar ws (n_v vs 0) 109)) (w_fi ws (n_v vs 0) 5) (w_fi ws (n_v vs 0) 100) (w_fi ws (n_v vs 0) 101) (w_fi ws (n_v vs 0) 107) (w_fi w1 (n_v vs 0) 101) (w_ei w1 (w_ar ws (n_v vs 0) 2)) (w_ei w1 (w_ar ws (n_v vs 0) 95)) (w_ei w1 (w_ar ws (n_v vs 0) 102)) (w_ei w1 (w_ar ws (n_v vs 0) 104)) (w_ei w1 (w_ar ws (n_v vs 0) 108)) (w_ei w1 (w_ar ws (n_v vs 0) 109)) (w_fi w1 (n_v vs 0) 5) (w_fi w1 (n_v vs 0) 100) (w_fi w1 (n_v vs 0) 107) (w_ei w1 (w_ar ws (n_v vs 0) 105)) (w_ei w1 (w_ar ws (n_v vs 0) 106)) (w_ei ws (w_ar ws (n_v vs 0) 105)) (w_ei ws (w_ar ws (n_v vs 0) 106)) k4 k5 k7 k8 d0 f0 f4 g5 f6 f7 fe_0_5_1 fe_0_100_1 fe_0_101_1 fe_0_107_1 hE_0_2_1 hE_0_95_1 hK_0_95 hE_0_102_1 hK_0_102 hE_0_104_1 hK_0_104 hE_0_105_1 hK_0_105 hE_0_106_1 hK_0_106 hE_0_108_1 hK_0_108 hE_0_109_1 hK_0_109 kz_0_100 kz_0_101 kz_0_107
  refine ⟨(fun _ h => (by cases h)), [], trivial, ?_, (fun _ h => (by cases h))⟩
  rw [List.append_nil]
  exact List.forall_mem_cons.mpr ⟨⟨show (20 : Nat) < 100 from by decide, nf0⟩, List.forall_mem_cons.mpr ⟨⟨show (20 : Nat) < 100 from by decide, nf1⟩, (fun _ h => (by cases h))⟩⟩
set_option maxHeartbeats 4000000 in
theorem vc_Mo_list_16_0 (x4 : Int) (x5 : Int) (x6 : Int) (x7 : Int) (items_0 : Int) (all_0 : Int → Int) (turned_0 : Int → Int) (itemLayer_0 : Int → Int) (firstJoint_0 : Int → Int) (lineA_0 : Int → Int) (lineB_0 : Int → Int) (r_0 : Int) (layerMany_0 : Int) (lines_0 : Int) (layerSize_0 : Int → Int) (layerItem_0 : Int → Int) (k4 : 0 ≤ x4 ∧ x4 ≤ 23) (k5 : 0 ≤ x5 ∧ x5 ≤ 76) (k6 : 0 ≤ x6 ∧ x6 ≤ 76) (k7 : 1 ≤ x7 ∧ x7 ≤ 24) (d0 : x4 + 1 ≤ x7 ∧ x7 ≤ x4 + 1) (d1 : x6 + 0 ≤ x5 ∧ x5 ≤ x6 + 4294967296) (f0 : x7 = x4 + 1) (f1 : x6 ≤ x5) (g2 : x6 = items_0) (f3 : LSA (r_0) (items_0) (layerMany_0) (lines_0) (all_0) (turned_0) (itemLayer_0) (firstJoint_0) (lineA_0) (lineB_0)) (f4 : LLI (items_0) (itemLayer_0) (layerSize_0) (layerItem_0) (x4) (x5)) (f5 : ((x4 + 1) ≤ layerMany_0) ∧ (x5 ≤ items_0)) (hK_0_95 : ∀ j : Int, 0 ≤ j → j < 48 → 0 ≤ turned_0 j ∧ turned_0 j ≤ 1) (hK_0_102 : ∀ j : Int, 0 ≤ j → j < 76 → 0 ≤ itemLayer_0 j ∧ itemLayer_0 j ≤ 75) (hK_0_104 : ∀ j : Int, 0 ≤ j → j < 48 → 0 ≤ firstJoint_0 j ∧ firstJoint_0 j ≤ 76) (hK_0_105 : ∀ j : Int, 0 ≤ j → j < 76 → 0 ≤ layerSize_0 j ∧ layerSize_0 j ≤ 76) (hK_0_106 : ∀ j : Int, 0 ≤ j → j < 5776 → 0 ≤ layerItem_0 j ∧ layerItem_0 j ≤ 75) (hK_0_108 : ∀ j : Int, 0 ≤ j → j < 130 → 0 ≤ lineA_0 j ∧ lineA_0 j ≤ 75) (hK_0_109 : ∀ j : Int, 0 ≤ j → j < 130 → 0 ≤ lineB_0 j ∧ lineB_0 j ≤ 75) (kz_0_100 : 0 ≤ items_0 ∧ items_0 ≤ 76) (kz_0_101 : 0 ≤ layerMany_0 ∧ layerMany_0 ≤ 76) (kz_0_107 : 0 ≤ lines_0 ∧ lines_0 ≤ 130) : LLS (items_0) (itemLayer_0) (layerSize_0) (layerItem_0) (x7) := by
  first
    | (intro m a b; exfalso; omega)
    | exact lli_end ‹LLI _ _ _ _ _ _› (by omega) (by omega)
def o_Mo_list_16 : or_T := (174, 8, [(0, (2, 0, 0, [150])), (2, (2, 0, 0, [150])), (4, (0, 0, 23, [])), (5, (0, 0, 76, [])), (6, (0, 0, 76, [])), (7, (0, 1, 24, []))], [(6, [7, 4], [1]), (7, [5, 6], [3]), (9, [6, 2], [100]), (20, [2], [60, 4, 6, 369, 5, 100, 101, 107, 2, 95, 102, 104, 108, 109]), (20, [2, 4, 5], [60, 1, 3, 371, 100, 102, 105, 106]), (20, [4, 2, 5], [50, 2, 0, 1101, 1100, 2, 11, 0, 6, 4, 2, 1, 0, 0, 1, 2, 1, 101, 0, 2, 1, 2, 2, 1, 100]), (24, [0, 2], [])], [], [], [(20, [2, 7], [60, 1, 3, 370, 100, 102, 105, 106])], [], [(7, 4, 1, 1), (5, 6, 0, 4294967296)])
theorem oo_Mo_list_16 {kA : Nat → ClassId} : or_ok PRD kA GG o_Mo_list_16 := by
  intro A ta ws vs hD hth hl hk hds hf
  have hl : vs.length = 8 := hl
  have hk : ∀ q ∈ ([(0, (2, 0, 0, [150])), (2, (2, 0, 0, [150])), (4, (0, 0, 23, [])), (5, (0, 0, 76, [])), (6, (0, 0, 76, [])), (7, (0, 1, 24, []))] : List (Nat × tv_T)), tv_ok ta q.2 (n_v vs q.1) := hk
  obtain ⟨t0, hk⟩ := List.forall_mem_cons.mp hk
  have t0 : tv_ok ta (2, 0, 0, [150]) (n_v vs 0) := t0
  have r0 : ta (v_ad (n_v vs 0)) = some 150 := tv_rg t0
  obtain ⟨t2, hk⟩ := List.forall_mem_cons.mp hk
  have t2 : tv_ok ta (2, 0, 0, [150]) (n_v vs 2) := t2
  have r2 : ta (v_ad (n_v vs 2)) = some 150 := tv_rg t2
  obtain ⟨t4, hk⟩ := List.forall_mem_cons.mp hk
  have t4 : tv_ok ta (0, 0, 23, []) (n_v vs 4) := t4
  have k4 : 0 ≤ v_iv (n_v vs 4) ∧ v_iv (n_v vs 4) ≤ 23 := tv_rng t4
  obtain ⟨t5, hk⟩ := List.forall_mem_cons.mp hk
  have t5 : tv_ok ta (0, 0, 76, []) (n_v vs 5) := t5
  have k5 : 0 ≤ v_iv (n_v vs 5) ∧ v_iv (n_v vs 5) ≤ 76 := tv_rng t5
  obtain ⟨t6, hk⟩ := List.forall_mem_cons.mp hk
  have t6 : tv_ok ta (0, 0, 76, []) (n_v vs 6) := t6
  have k6 : 0 ≤ v_iv (n_v vs 6) ∧ v_iv (n_v vs 6) ≤ 76 := tv_rng t6
  obtain ⟨t7, hk⟩ := List.forall_mem_cons.mp hk
  have t7 : tv_ok ta (0, 1, 24, []) (n_v vs 7) := t7
  have k7 : 1 ≤ v_iv (n_v vs 7) ∧ v_iv (n_v vs 7) ≤ 24 := tv_rng t7
  have hds : ∀ q ∈ ([(7, 4, 1, 1), (5, 6, 0, 4294967296)] : List of_T), n_iv vs q.2.1 + q.2.2.1 ≤ n_iv vs q.1 ∧ n_iv vs q.1 ≤ n_iv vs q.2.1 + q.2.2.2 := hds
  obtain ⟨d0, hds⟩ := List.forall_mem_cons.mp hds
  have d0 : v_iv (n_v vs 4) + 1 ≤ v_iv (n_v vs 7) ∧ v_iv (n_v vs 7) ≤ v_iv (n_v vs 4) + 1 := d0
  obtain ⟨d1, hds⟩ := List.forall_mem_cons.mp hds
  have d1 : v_iv (n_v vs 6) + 0 ≤ v_iv (n_v vs 5) ∧ v_iv (n_v vs 5) ≤ v_iv (n_v vs 6) + 4294967296 := d1
  have hf : fc_ok PRD [(6, [7, 4], [1]), (7, [5, 6], [3]), (9, [6, 2], [100]), (20, [2], [60, 4, 6, 369, 5, 100, 101, 107, 2, 95, 102, 104, 108, 109]), (20, [2, 4, 5], [60, 1, 3, 371, 100, 102, 105, 106]), (20, [4, 2, 5], [50, 2, 0, 1101, 1100, 2, 11, 0, 6, 4, 2, 1, 0, 0, 1, 2, 1, 101, 0, 2, 1, 2, 2, 1, 100]), (24, [0, 2], [])] ta ws vs := hf
  obtain ⟨f0, hf⟩ := fc_un (show (6 : Nat) < 100 from by decide) hf
  have f0 : v_iv (n_v vs 7) = v_iv (n_v vs 4) + 1 := f0
  obtain ⟨f1, hf⟩ := fc_un (show (7 : Nat) < 100 from by decide) hf
  have f1 : v_iv (n_v vs 6) ≤ v_iv (n_v vs 5) := f1
  obtain ⟨f2, hf⟩ := fc_un (show (9 : Nat) < 100 from by decide) hf
  have f2 : n_v vs 6 = w_fd ws (v_ad (n_v vs 2)) 100 := f2
  obtain ⟨f3, hf⟩ := fc_un (show (20 : Nat) < 100 from by decide) hf
  have f3 : LSA (w_fi ws (n_v vs 2) 5) (w_fi ws (n_v vs 2) 100) (w_fi ws (n_v vs 2) 101) (w_fi ws (n_v vs 2) 107) (w_ei ws (w_ar ws (n_v vs 2) 2)) (w_ei ws (w_ar ws (n_v vs 2) 95)) (w_ei ws (w_ar ws (n_v vs 2) 102)) (w_ei ws (w_ar ws (n_v vs 2) 104)) (w_ei ws (w_ar ws (n_v vs 2) 108)) (w_ei ws (w_ar ws (n_v vs 2) 109)) := f3
  obtain ⟨f4, hf⟩ := fc_un (show (20 : Nat) < 100 from by decide) hf
  have f4 : LLI (w_fi ws (n_v vs 2) 100) (w_ei ws (w_ar ws (n_v vs 2) 102)) (w_ei ws (w_ar ws (n_v vs 2) 105)) (w_ei ws (w_ar ws (n_v vs 2) 106)) (v_iv (n_v vs 4)) (v_iv (n_v vs 5)) := f4
  obtain ⟨f5, hf⟩ := fc_un (show (20 : Nat) < 100 from by decide) hf
  have f5 : ((v_iv (n_v vs 4) + 1) ≤ w_fi ws (n_v vs 2) 101) ∧ (v_iv (n_v vs 5) ≤ w_fi ws (n_v vs 2) 100) := f5
  obtain ⟨f6, hf⟩ := fc_un (show (24 : Nat) < 100 from by decide) hf
  have f6 : n_v vs 0 = n_v vs 2 := f6
  have q2 : n_v vs 2 = n_v vs 0 := f6.symm
  rw [q2] at f2
  rw [q2] at f3
  rw [q2] at f4
  rw [q2] at f5
  have cr_0_2 : ta (w_ar ws (n_v vs 0) 2) = some 152 := tv_rg (th_fd hD hth r0 (g := GG_150) rfl (k := 2) (t := (2, 0, 0, [152])) rfl rfl)
  have cr_0_95 : ta (w_ar ws (n_v vs 0) 95) = some 216 := tv_rg (th_fd hD hth r0 (g := GG_150) rfl (k := 95) (t := (2, 0, 0, [216])) rfl rfl)
  have cr_0_102 : ta (w_ar ws (n_v vs 0) 102) = some 220 := tv_rg (th_fd hD hth r0 (g := GG_150) rfl (k := 102) (t := (2, 0, 0, [220])) rfl rfl)
  have cr_0_104 : ta (w_ar ws (n_v vs 0) 104) = some 222 := tv_rg (th_fd hD hth r0 (g := GG_150) rfl (k := 104) (t := (2, 0, 0, [222])) rfl rfl)
  have cr_0_105 : ta (w_ar ws (n_v vs 0) 105) = some 223 := tv_rg (th_fd hD hth r0 (g := GG_150) rfl (k := 105) (t := (2, 0, 0, [223])) rfl rfl)
  have cr_0_106 : ta (w_ar ws (n_v vs 0) 106) = some 224 := tv_rg (th_fd hD hth r0 (g := GG_150) rfl (k := 106) (t := (2, 0, 0, [224])) rfl rfl)
  have cr_0_108 : ta (w_ar ws (n_v vs 0) 108) = some 225 := tv_rg (th_fd hD hth r0 (g := GG_150) rfl (k := 108) (t := (2, 0, 0, [225])) rfl rfl)
  have cr_0_109 : ta (w_ar ws (n_v vs 0) 109) = some 226 := tv_rg (th_fd hD hth r0 (g := GG_150) rfl (k := 109) (t := (2, 0, 0, [226])) rfl rfl)
  have g2 : v_iv (n_v vs 6) = w_fi ws (n_v vs 0) 100 := congrArg v_iv f2
  have hK_0_95 : ∀ j : Int, 0 ≤ j → j < 48 → 0 ≤ w_ei ws (w_ar ws (n_v vs 0) 95) j ∧ w_ei ws (w_ar ws (n_v vs 0) 95) j ≤ 1 := fun j h0 h1 => th_el hD hth cr_0_95 (kd := 2) (n := 48) (m := 48) (lo := 0) (hi := 1) (rs := []) (L := []) rfl (by decide) (j := j.toNat) (by omega)
  have hK_0_102 : ∀ j : Int, 0 ≤ j → j < 76 → 0 ≤ w_ei ws (w_ar ws (n_v vs 0) 102) j ∧ w_ei ws (w_ar ws (n_v vs 0) 102) j ≤ 75 := fun j h0 h1 => th_el hD hth cr_0_102 (kd := 0) (n := 76) (m := 76) (lo := 0) (hi := 75) (rs := []) (L := []) rfl (by decide) (j := j.toNat) (by omega)
  have hK_0_104 : ∀ j : Int, 0 ≤ j → j < 48 → 0 ≤ w_ei ws (w_ar ws (n_v vs 0) 104) j ∧ w_ei ws (w_ar ws (n_v vs 0) 104) j ≤ 76 := fun j h0 h1 => th_el hD hth cr_0_104 (kd := 0) (n := 48) (m := 48) (lo := 0) (hi := 76) (rs := []) (L := []) rfl (by decide) (j := j.toNat) (by omega)
  have hK_0_105 : ∀ j : Int, 0 ≤ j → j < 76 → 0 ≤ w_ei ws (w_ar ws (n_v vs 0) 105) j ∧ w_ei ws (w_ar ws (n_v vs 0) 105) j ≤ 76 := fun j h0 h1 => th_el hD hth cr_0_105 (kd := 0) (n := 76) (m := 76) (lo := 0) (hi := 76) (rs := []) (L := []) rfl (by decide) (j := j.toNat) (by omega)
  have hK_0_106 : ∀ j : Int, 0 ≤ j → j < 5776 → 0 ≤ w_ei ws (w_ar ws (n_v vs 0) 106) j ∧ w_ei ws (w_ar ws (n_v vs 0) 106) j ≤ 75 := fun j h0 h1 => th_el hD hth cr_0_106 (kd := 0) (n := 5776) (m := 5776) (lo := 0) (hi := 75) (rs := []) (L := []) rfl (by decide) (j := j.toNat) (by omega)
  have hK_0_108 : ∀ j : Int, 0 ≤ j → j < 130 → 0 ≤ w_ei ws (w_ar ws (n_v vs 0) 108) j ∧ w_ei ws (w_ar ws (n_v vs 0) 108) j ≤ 75 := fun j h0 h1 => th_el hD hth cr_0_108 (kd := 0) (n := 130) (m := 130) (lo := 0) (hi := 75) (rs := []) (L := []) rfl (by decide) (j := j.toNat) (by omega)
  have hK_0_109 : ∀ j : Int, 0 ≤ j → j < 130 → 0 ≤ w_ei ws (w_ar ws (n_v vs 0) 109) j ∧ w_ei ws (w_ar ws (n_v vs 0) 109) j ≤ 75 := fun j h0 h1 => th_el hD hth cr_0_109 (kd := 0) (n := 130) (m := 130) (lo := 0) (hi := 75) (rs := []) (L := []) rfl (by decide) (j := j.toNat) (by omega)
  have kz_0_100 : 0 ≤ w_fi ws (n_v vs 0) 100 ∧ w_fi ws (n_v vs 0) 100 ≤ 76 := tv_rng (th_fd hD hth r0 (g := GG_150) rfl (k := 100) (t := (0, 0, 76, [])) rfl rfl)
  have kz_0_101 : 0 ≤ w_fi ws (n_v vs 0) 101 ∧ w_fi ws (n_v vs 0) 101 ≤ 76 := tv_rng (th_fd hD hth r0 (g := GG_150) rfl (k := 101) (t := (0, 0, 76, [])) rfl rfl)
  have kz_0_107 : 0 ≤ w_fi ws (n_v vs 0) 107 ∧ w_fi ws (n_v vs 0) 107 ≤ 130 := tv_rng (th_fd hD hth r0 (g := GG_150) rfl (k := 107) (t := (0, 0, 130, [])) rfl rfl)
  have nf0 : fc_1 PRD (20, [2, 7], [60, 1, 3, 370, 100, 102, 105, 106]) ws (vs) := by
    refine ⟨fun n hn => ?_, ?_⟩
    · have hn : n ∈ [2, 7] := hn
      rw [hl]
      simp only [List.mem_cons, List.not_mem_nil, or_false] at hn
      show n < 8; omega
    · show LLS (w_fi ws (n_v vs 2) 100) (w_ei ws (w_ar ws (n_v vs 2) 102)) (w_ei ws (w_ar ws (n_v vs 2) 105)) (w_ei ws (w_ar ws (n_v vs 2) 106)) (v_iv (n_v vs 7))
      rw [q2]
      exact vc_Mo_list_16_0 (v_iv (n_v vs 4)) (v_iv (n_v vs 5)) (v_iv (n_v vs 6)) (v_iv (n_v vs 7)) (w_fi ws (n_v vs 0) 100) (w_ei ws (w_ar ws (n_v vs 0) 2)) (w_ei ws (w_ar ws (n_v vs 0) 95)) (w_ei ws (w_ar ws (n_v vs 0) 102)) (w_ei ws (w_ar ws (n_v vs 0) 104)) (w_ei ws (w_ar ws (n_v vs 0) 108)) (w_ei ws (w_ar ws (n_v vs 0) 109)) (w_fi ws (n_v vs 0) 5) (w_fi ws (n_v vs 0) 101) (w_fi ws (n_v vs 0) 107) (w_ei ws (w_ar ws (n_v vs 0) 105)) (w_ei ws (w_ar ws (n_v vs 0) 106)) k4 k5 k6 k7 d0 d1 f0 f1 g2 f3 f4 f5 hK_0_95 hK_0_102 hK_0_104 hK_0_105 hK_0_106 hK_0_108 hK_0_109 kz_0_100 kz_0_101 kz_0_107
  refine ⟨(fun _ h => (by cases h)), [], trivial, ?_, (fun _ h => (by cases h))⟩
  rw [List.append_nil]
  exact List.forall_mem_cons.mpr ⟨⟨show (20 : Nat) < 100 from by decide, nf0⟩, (fun _ h => (by cases h))⟩
set_option maxHeartbeats 4000000 in
theorem vc_Mo_list_17_r0 (x4 : Int) (x5 : Int) (x6 : Int) (x8 : Int) (x10 : Int) (x11 : Int) (x13 : Int) (x14 : Int) (x15 : Int) (x16 : Int) (x17 : Int) (layerSize_0 : Int → Int) (all_0 : Int → Int) (turned_0 : Int → Int) (itemLayer_0 : Int → Int) (firstJoint_0 : Int → Int) (lineA_0 : Int → Int) (lineB_0 : Int → Int) (r_0 : Int) (items_0 : Int) (layerMany_0 : Int) (lines_0 : Int) (layerSize_1 : Int → Int) (itemLayer_1 : Int → Int) (items_1 : Int) (all_1 : Int → Int) (turned_1 : Int → Int) (firstJoint_1 : Int → Int) (lineA_1 : Int → Int) (lineB_1 : Int → Int) (r_1 : Int) (layerMany_1 : Int) (lines_1 : Int) (layerItem_1 : Int → Int) (layerItem_0 : Int → Int) (k4 : 0 ≤ x4 ∧ x4 ≤ 23) (k5 : 0 ≤ x5 ∧ x5 ≤ 75) (k6 : 1 ≤ x6 ∧ x6 ≤ 76) (k8 : 0 ≤ x8 ∧ x8 ≤ 23) (k10 : 76 ≤ x10 ∧ x10 ≤ 76) (k11 : 0 ≤ x11 ∧ x11 ≤ 1748) (k13 : 0 ≤ x13 ∧ x13 ≤ 76) (k14 : 0 ≤ x14 ∧ x14 ≤ 1824) (k15 : 0 ≤ x15 ∧ x15 ≤ 76) (k16 : 1 ≤ x16 ∧ x16 ≤ 1) (k17 : 1 ≤ x17 ∧ x17 ≤ 77) (d0 : x15 + 1 ≤ x17 ∧ x17 ≤ x15 + 1) (d1 : x13 + 0 ≤ x14 ∧ x14 ≤ x13 + 1748) (d2 : x11 + 0 ≤ x14 ∧ x14 ≤ x11 + 76) (d3 : x4 + 0 ≤ x8 ∧ x8 ≤ x4 + 0) (d4 : x6 + (-4294967296) ≤ x5 ∧ x5 ≤ x6 + (-1)) (f0 : x17 = x15 + x16) (h1 : x15 = layerSize_0 (x4)) (f3 : LSA (r_0) (items_0) (layerMany_0) (lines_0) (all_0) (turned_0) (itemLayer_0) (firstJoint_0) (lineA_0) (lineB_0)) (f4 : ((x4 + 1) ≤ layerMany_0) ∧ (x5 ≤ items_0)) (f7 : x14 = x11 + x13) (h8 : x13 = layerSize_1 (x4)) (f9 : x11 = 76 * x4) (f11 : x8 = x4) (h12 : x8 = itemLayer_1 (x5)) (f14 : x5 < x6) (g15 : x6 = items_1) (f16 : LSA (r_1) (items_1) (layerMany_1) (lines_1) (all_1) (turned_1) (itemLayer_1) (firstJoint_1) (lineA_1) (lineB_1)) (f17 : LLI (items_1) (itemLayer_1) (layerSize_1) (layerItem_1) (x4) (x5)) (f18 : ((x4 + 1) ≤ layerMany_1) ∧ (x5 ≤ items_1)) (fe_0_5_1 : r_0 = r_1) (fe_0_100_1 : items_0 = items_1) (fe_0_101_1 : layerMany_0 = layerMany_1) (fe_0_107_1 : lines_0 = lines_1) (hE_0_2_1 : ∀ j : Int, all_0 j = all_1 j) (hE_0_95_1 : ∀ j : Int, turned_0 j = turned_1 j) (hK_0_95 : ∀ j : Int, 0 ≤ j → j < 48 → 0 ≤ turned_0 j ∧ turned_0 j ≤ 1) (hE_0_102_1 : ∀ j : Int, itemLayer_0 j = itemLayer_1 j) (hK_0_102 : ∀ j : Int, 0 ≤ j → j < 76 → 0 ≤ itemLayer_0 j ∧ itemLayer_0 j ≤ 75) (hE_0_104_1 : ∀ j : Int, firstJoint_0 j = firstJoint_1 j) (hK_0_104 : ∀ j : Int, 0 ≤ j → j < 48 → 0 ≤ firstJoint_0 j ∧ firstJoint_0 j ≤ 76) (hE_0_105_1 : ∀ j : Int, layerSize_0 j = layerSize_1 j) (hK_0_105 : ∀ j : Int, 0 ≤ j → j < 76 → 0 ≤ layerSize_0 j ∧ layerSize_0 j ≤ 76) (hE_0_106_1 : ∀ j : Int, 0 ≤ j → (j = x14 → layerItem_0 j = x5) ∧ (j ≠ x14 → layerItem_0 j = layerItem_1 j)) (hK_0_106 : ∀ j : Int, 0 ≤ j → j < 5776 → 0 ≤ layerItem_0 j ∧ layerItem_0 j ≤ 75) (hE_0_108_1 : ∀ j : Int, lineA_0 j = lineA_1 j) (hK_0_108 : ∀ j : Int, 0 ≤ j → j < 130 → 0 ≤ lineA_0 j ∧ lineA_0 j ≤ 75) (hE_0_109_1 : ∀ j : Int, lineB_0 j = lineB_1 j) (hK_0_109 : ∀ j : Int, 0 ≤ j → j < 130 → 0 ≤ lineB_0 j ∧ lineB_0 j ≤ 75) (kz_0_100 : 0 ≤ items_0 ∧ items_0 ≤ 76) (kz_0_101 : 0 ≤ layerMany_0 ∧ layerMany_0 ≤ 76) (kz_0_107 : 0 ≤ lines_0 ∧ lines_0 ≤ 130) : 1 ≤ x17 ∧ x17 ≤ 76 := by
  subst fe_0_5_1
  subst fe_0_100_1
  subst fe_0_101_1
  subst fe_0_107_1
  have e_hE_0_2_1 := funext hE_0_2_1; subst e_hE_0_2_1
  have e_hE_0_95_1 := funext hE_0_95_1; subst e_hE_0_95_1
  have e_hE_0_102_1 := funext hE_0_102_1; subst e_hE_0_102_1
  have e_hE_0_104_1 := funext hE_0_104_1; subst e_hE_0_104_1
  have e_hE_0_105_1 := funext hE_0_105_1; subst e_hE_0_105_1
  have e_hE_0_108_1 := funext hE_0_108_1; subst e_hE_0_108_1
  have e_hE_0_109_1 := funext hE_0_109_1; subst e_hE_0_109_1
  try simp only [Int.add_zero] at *
  first
    | omega
    | (have h := lid_bd ‹LID _ _ _ _ _ _ _ _ _›; omega)
    | (have h := ‹LYJ _ _ _ _›.1.1.1; omega)
    | (have h := (lic_bd ‹LIC _ _ _ _ _ _ _›).1; omega)
    | (have h := (lic_bd ‹LIF _ _ _ _ _ _›).1; omega)
    | (have h := ‹LSA _ _ _ _ _ _ _ _ _ _›.2.1; omega)
    | (have h := lli_bd ‹LLI _ _ _ _ _ _›; have h2 := ‹LSA _ _ _ _ _ _ _ _ _ _›.2.1; omega)
def o_Mo_list_17 : or_T := (238, 18, [(0, (2, 0, 0, [150])), (2, (2, 0, 0, [150])), (4, (0, 0, 23, [])), (5, (0, 0, 75, [])), (6, (0, 1, 76, [])), (7, (2, 0, 0, [220])), (8, (0, 0, 23, [])), (9, (2, 0, 0, [224])), (10, (0, 76, 76, [])), (11, (0, 0, 1748, [])), (12, (2, 0, 0, [223])), (13, (0, 0, 76, [])), (14, (0, 0, 1824, [])), (15, (0, 0, 76, [])), (16, (0, 1, 1, [])), (17, (0, 1, 77, []))], [(1, [17, 15, 16], []), (10, [15, 12, 4], []), (9, [12, 2], [105]), (20, [2], [60, 4, 6, 369, 5, 100, 101, 107, 2, 95, 102, 104, 108, 109]), (20, [4, 2, 5], [50, 2, 0, 1101, 1100, 2, 11, 0, 6, 4, 2, 1, 0, 0, 1, 2, 1, 101, 0, 2, 1, 2, 2, 1, 100]), (24, [0, 2], []), (100, [9, 14, 5], []), (1, [14, 11, 13], []), (10, [13, 12, 4], []), (3, [11, 10, 4], []), (9, [9, 2], [106]), (7, [8, 4], [0]), (10, [8, 7, 5], []), (9, [7, 2], [102]), (7, [5, 6], [2]), (9, [6, 2], [100]), (20, [2], [60, 4, 6, 369, 5, 100, 101, 107, 2, 95, 102, 104, 108, 109]), (20, [2, 4, 5], [60, 1, 3, 371, 100, 102, 105, 106]), (20, [4, 2, 5], [50, 2, 0, 1101, 1100, 2, 11, 0, 6, 4, 2, 1, 0, 0, 1, 2, 1, 101, 0, 2, 1, 2, 2, 1, 100])], [(17, (0, 1, 76, []))], [], [], [], [(17, 15, 1, 1), (14, 13, 0, 1748), (14, 11, 0, 76), (8, 4, 0, 0), (5, 6, -4294967296, -1)])
theorem oo_Mo_list_17 {kA : Nat → ClassId} : or_ok PRD kA GG o_Mo_list_17 := by
  intro A ta ws vs hD hth hl hk hds hf
  have hl : vs.length = 18 := hl
  have hk : ∀ q ∈ ([(0, (2, 0, 0, [150])), (2, (2, 0, 0, [150])), (4, (0, 0, 23, [])), (5, (0, 0, 75, [])), (6, (0, 1, 76, [])), (7, (2, 0, 0, [220])), (8, (0, 0, 23, [])), (9, (2, 0, 0, [224])), (10, (0, 76, 76, [])), (11, (0, 0, 1748, [])), (12, (2, 0, 0, [223])), (13, (0, 0, 76, [])), (14, (0, 0, 1824, [])), (15, (0, 0, 76, [])), (16, (0, 1, 1, [])), (17, (0, 1, 77, []))] : List (Nat × tv_T)), tv_ok ta q.2 (n_v vs q.1) := hk
  obtain ⟨t0, hk⟩ := List.forall_mem_cons.mp hk
  have t0 : tv_ok ta (2, 0, 0, [150]) (n_v vs 0) := t0
  have r0 : ta (v_ad (n_v vs 0)) = some 150 := tv_rg t0
  obtain ⟨t2, hk⟩ := List.forall_mem_cons.mp hk
  have t2 : tv_ok ta (2, 0, 0, [150]) (n_v vs 2) := t2
  have r2 : ta (v_ad (n_v vs 2)) = some 150 := tv_rg t2
  obtain ⟨t4, hk⟩ := List.forall_mem_cons.mp hk
  have t4 : tv_ok ta (0, 0, 23, []) (n_v vs 4) := t4
  have k4 : 0 ≤ v_iv (n_v vs 4) ∧ v_iv (n_v vs 4) ≤ 23 := tv_rng t4
  obtain ⟨t5, hk⟩ := List.forall_mem_cons.mp hk
  have t5 : tv_ok ta (0, 0, 75, []) (n_v vs 5) := t5
  have k5 : 0 ≤ v_iv (n_v vs 5) ∧ v_iv (n_v vs 5) ≤ 75 := tv_rng t5
  obtain ⟨t6, hk⟩ := List.forall_mem_cons.mp hk
  have t6 : tv_ok ta (0, 1, 76, []) (n_v vs 6) := t6
  have k6 : 1 ≤ v_iv (n_v vs 6) ∧ v_iv (n_v vs 6) ≤ 76 := tv_rng t6
  obtain ⟨t7, hk⟩ := List.forall_mem_cons.mp hk
  have t7 : tv_ok ta (2, 0, 0, [220]) (n_v vs 7) := t7
  have r7 : ta (v_ad (n_v vs 7)) = some 220 := tv_rg t7
  obtain ⟨t8, hk⟩ := List.forall_mem_cons.mp hk
  have t8 : tv_ok ta (0, 0, 23, []) (n_v vs 8) := t8
  have k8 : 0 ≤ v_iv (n_v vs 8) ∧ v_iv (n_v vs 8) ≤ 23 := tv_rng t8
  obtain ⟨t9, hk⟩ := List.forall_mem_cons.mp hk
  have t9 : tv_ok ta (2, 0, 0, [224]) (n_v vs 9) := t9
  have r9 : ta (v_ad (n_v vs 9)) = some 224 := tv_rg t9
  obtain ⟨t10, hk⟩ := List.forall_mem_cons.mp hk
  have t10 : tv_ok ta (0, 76, 76, []) (n_v vs 10) := t10
  have k10 : 76 ≤ v_iv (n_v vs 10) ∧ v_iv (n_v vs 10) ≤ 76 := tv_rng t10
  obtain ⟨t11, hk⟩ := List.forall_mem_cons.mp hk
  have t11 : tv_ok ta (0, 0, 1748, []) (n_v vs 11) := t11
  have k11 : 0 ≤ v_iv (n_v vs 11) ∧ v_iv (n_v vs 11) ≤ 1748 := tv_rng t11
  obtain ⟨t12, hk⟩ := List.forall_mem_cons.mp hk
  have t12 : tv_ok ta (2, 0, 0, [223]) (n_v vs 12) := t12
  have r12 : ta (v_ad (n_v vs 12)) = some 223 := tv_rg t12
  obtain ⟨t13, hk⟩ := List.forall_mem_cons.mp hk
  have t13 : tv_ok ta (0, 0, 76, []) (n_v vs 13) := t13
  have k13 : 0 ≤ v_iv (n_v vs 13) ∧ v_iv (n_v vs 13) ≤ 76 := tv_rng t13
  obtain ⟨t14, hk⟩ := List.forall_mem_cons.mp hk
  have t14 : tv_ok ta (0, 0, 1824, []) (n_v vs 14) := t14
  have k14 : 0 ≤ v_iv (n_v vs 14) ∧ v_iv (n_v vs 14) ≤ 1824 := tv_rng t14
  obtain ⟨t15, hk⟩ := List.forall_mem_cons.mp hk
  have t15 : tv_ok ta (0, 0, 76, []) (n_v vs 15) := t15
  have k15 : 0 ≤ v_iv (n_v vs 15) ∧ v_iv (n_v vs 15) ≤ 76 := tv_rng t15
  obtain ⟨t16, hk⟩ := List.forall_mem_cons.mp hk
  have t16 : tv_ok ta (0, 1, 1, []) (n_v vs 16) := t16
  have k16 : 1 ≤ v_iv (n_v vs 16) ∧ v_iv (n_v vs 16) ≤ 1 := tv_rng t16
  obtain ⟨t17, hk⟩ := List.forall_mem_cons.mp hk
  have t17 : tv_ok ta (0, 1, 77, []) (n_v vs 17) := t17
  have k17 : 1 ≤ v_iv (n_v vs 17) ∧ v_iv (n_v vs 17) ≤ 77 := tv_rng t17
  have hds : ∀ q ∈ ([(17, 15, 1, 1), (14, 13, 0, 1748), (14, 11, 0, 76), (8, 4, 0, 0), (5, 6, -4294967296, -1)] : List of_T), n_iv vs q.2.1 + q.2.2.1 ≤ n_iv vs q.1 ∧ n_iv vs q.1 ≤ n_iv vs q.2.1 + q.2.2.2 := hds
  obtain ⟨d0, hds⟩ := List.forall_mem_cons.mp hds
  have d0 : v_iv (n_v vs 15) + 1 ≤ v_iv (n_v vs 17) ∧ v_iv (n_v vs 17) ≤ v_iv (n_v vs 15) + 1 := d0
  obtain ⟨d1, hds⟩ := List.forall_mem_cons.mp hds
  have d1 : v_iv (n_v vs 13) + 0 ≤ v_iv (n_v vs 14) ∧ v_iv (n_v vs 14) ≤ v_iv (n_v vs 13) + 1748 := d1
  obtain ⟨d2, hds⟩ := List.forall_mem_cons.mp hds
  have d2 : v_iv (n_v vs 11) + 0 ≤ v_iv (n_v vs 14) ∧ v_iv (n_v vs 14) ≤ v_iv (n_v vs 11) + 76 := d2
  obtain ⟨d3, hds⟩ := List.forall_mem_cons.mp hds
  have d3 : v_iv (n_v vs 4) + 0 ≤ v_iv (n_v vs 8) ∧ v_iv (n_v vs 8) ≤ v_iv (n_v vs 4) + 0 := d3
  obtain ⟨d4, hds⟩ := List.forall_mem_cons.mp hds
  have d4 : v_iv (n_v vs 6) + (-4294967296) ≤ v_iv (n_v vs 5) ∧ v_iv (n_v vs 5) ≤ v_iv (n_v vs 6) + (-1) := d4
  have hf : fc_ok PRD [(1, [17, 15, 16], []), (10, [15, 12, 4], []), (9, [12, 2], [105]), (20, [2], [60, 4, 6, 369, 5, 100, 101, 107, 2, 95, 102, 104, 108, 109]), (20, [4, 2, 5], [50, 2, 0, 1101, 1100, 2, 11, 0, 6, 4, 2, 1, 0, 0, 1, 2, 1, 101, 0, 2, 1, 2, 2, 1, 100]), (24, [0, 2], []), (100, [9, 14, 5], []), (1, [14, 11, 13], []), (10, [13, 12, 4], []), (3, [11, 10, 4], []), (9, [9, 2], [106]), (7, [8, 4], [0]), (10, [8, 7, 5], []), (9, [7, 2], [102]), (7, [5, 6], [2]), (9, [6, 2], [100]), (20, [2], [60, 4, 6, 369, 5, 100, 101, 107, 2, 95, 102, 104, 108, 109]), (20, [2, 4, 5], [60, 1, 3, 371, 100, 102, 105, 106]), (20, [4, 2, 5], [50, 2, 0, 1101, 1100, 2, 11, 0, 6, 4, 2, 1, 0, 0, 1, 2, 1, 101, 0, 2, 1, 2, 2, 1, 100])] ta ws vs := hf
  obtain ⟨f0, hf⟩ := fc_un (show (1 : Nat) < 100 from by decide) hf
  have f0 : v_iv (n_v vs 17) = v_iv (n_v vs 15) + v_iv (n_v vs 16) := f0
  obtain ⟨f1, hf⟩ := fc_un (show (10 : Nat) < 100 from by decide) hf
  have f1 : v_iv (n_v vs 15) = w_el ws (v_ad (n_v vs 12)) (v_iv (n_v vs 4)).toNat := f1
  obtain ⟨f2, hf⟩ := fc_un (show (9 : Nat) < 100 from by decide) hf
  have f2 : n_v vs 12 = w_fd ws (v_ad (n_v vs 2)) 105 := f2
  obtain ⟨f3, hf⟩ := fc_un (show (20 : Nat) < 100 from by decide) hf
  have f3 : LSA (w_fi ws (n_v vs 2) 5) (w_fi ws (n_v vs 2) 100) (w_fi ws (n_v vs 2) 101) (w_fi ws (n_v vs 2) 107) (w_ei ws (w_ar ws (n_v vs 2) 2)) (w_ei ws (w_ar ws (n_v vs 2) 95)) (w_ei ws (w_ar ws (n_v vs 2) 102)) (w_ei ws (w_ar ws (n_v vs 2) 104)) (w_ei ws (w_ar ws (n_v vs 2) 108)) (w_ei ws (w_ar ws (n_v vs 2) 109)) := f3
  obtain ⟨f4, hf⟩ := fc_un (show (20 : Nat) < 100 from by decide) hf
  have f4 : ((v_iv (n_v vs 4) + 1) ≤ w_fi ws (n_v vs 2) 101) ∧ (v_iv (n_v vs 5) ≤ w_fi ws (n_v vs 2) 100) := f4
  obtain ⟨f5, hf⟩ := fc_un (show (24 : Nat) < 100 from by decide) hf
  have f5 : n_v vs 0 = n_v vs 2 := f5
  obtain ⟨ta1, w1, le1, ⟨_, s1⟩, hf⟩ := fc_us (show ¬ (100 : Nat) < 100 from by decide) hf
  have s1 : (∀ b j, w_el ws b j = if b = v_ad (n_v vs 9) ∧ j = (v_iv (n_v vs 14)).toNat then v_iv (n_v vs 5) else w_el w1 b j) ∧ ∀ b k, w_fd ws b k = w_fd w1 b k := s1
  obtain ⟨f7, hf⟩ := fc_un (show (1 : Nat) < 100 from by decide) hf
  have f7 : v_iv (n_v vs 14) = v_iv (n_v vs 11) + v_iv (n_v vs 13) := f7
  obtain ⟨f8, hf⟩ := fc_un (show (10 : Nat) < 100 from by decide) hf
  have f8 : v_iv (n_v vs 13) = w_el w1 (v_ad (n_v vs 12)) (v_iv (n_v vs 4)).toNat := f8
  obtain ⟨f9, hf⟩ := fc_un (show (3 : Nat) < 100 from by decide) hf
  have f9 : v_iv (n_v vs 11) = v_iv (n_v vs 10) * v_iv (n_v vs 4) := f9
  rw [show v_iv (n_v vs 10) = 76 from by omega] at f9
  obtain ⟨f10, hf⟩ := fc_un (show (9 : Nat) < 100 from by decide) hf
  have f10 : n_v vs 9 = w_fd w1 (v_ad (n_v vs 2)) 106 := f10
  obtain ⟨f11, hf⟩ := fc_un (show (7 : Nat) < 100 from by decide) hf
  have f11 : v_iv (n_v vs 8) = v_iv (n_v vs 4) := f11
  obtain ⟨f12, hf⟩ := fc_un (show (10 : Nat) < 100 from by decide) hf
  have f12 : v_iv (n_v vs 8) = w_el w1 (v_ad (n_v vs 7)) (v_iv (n_v vs 5)).toNat := f12
  obtain ⟨f13, hf⟩ := fc_un (show (9 : Nat) < 100 from by decide) hf
  have f13 : n_v vs 7 = w_fd w1 (v_ad (n_v vs 2)) 102 := f13
  obtain ⟨f14, hf⟩ := fc_un (show (7 : Nat) < 100 from by decide) hf
  have f14 : v_iv (n_v vs 5) < v_iv (n_v vs 6) := f14
  obtain ⟨f15, hf⟩ := fc_un (show (9 : Nat) < 100 from by decide) hf
  have f15 : n_v vs 6 = w_fd w1 (v_ad (n_v vs 2)) 100 := f15
  obtain ⟨f16, hf⟩ := fc_un (show (20 : Nat) < 100 from by decide) hf
  have f16 : LSA (w_fi w1 (n_v vs 2) 5) (w_fi w1 (n_v vs 2) 100) (w_fi w1 (n_v vs 2) 101) (w_fi w1 (n_v vs 2) 107) (w_ei w1 (w_ar w1 (n_v vs 2) 2)) (w_ei w1 (w_ar w1 (n_v vs 2) 95)) (w_ei w1 (w_ar w1 (n_v vs 2) 102)) (w_ei w1 (w_ar w1 (n_v vs 2) 104)) (w_ei w1 (w_ar w1 (n_v vs 2) 108)) (w_ei w1 (w_ar w1 (n_v vs 2) 109)) := f16
  obtain ⟨f17, hf⟩ := fc_un (show (20 : Nat) < 100 from by decide) hf
  have f17 : LLI (w_fi w1 (n_v vs 2) 100) (w_ei w1 (w_ar w1 (n_v vs 2) 102)) (w_ei w1 (w_ar w1 (n_v vs 2) 105)) (w_ei w1 (w_ar w1 (n_v vs 2) 106)) (v_iv (n_v vs 4)) (v_iv (n_v vs 5)) := f17
  obtain ⟨f18, hf⟩ := fc_un (show (20 : Nat) < 100 from by decide) hf
  have f18 : ((v_iv (n_v vs 4) + 1) ≤ w_fi w1 (n_v vs 2) 101) ∧ (v_iv (n_v vs 5) ≤ w_fi w1 (n_v vs 2) 100) := f18
  have q2 : n_v vs 2 = n_v vs 0 := f5.symm
  rw [q2] at f2
  rw [q2] at f3
  rw [q2] at f4
  rw [q2] at f10
  rw [q2] at f13
  rw [q2] at f15
  rw [q2] at f16
  rw [q2] at f17
  rw [q2] at f18
  have ar_0_2_1 : w_ar w1 (n_v vs 0) 2 = w_ar ws (n_v vs 0) 2 := by show v_ad (w_fd w1 _ _) = v_ad (w_fd ws _ _); rw [s1.2]
  have cr_0_2 : ta (w_ar ws (n_v vs 0) 2) = some 152 := tv_rg (th_fd hD hth r0 (g := GG_150) rfl (k := 2) (t := (2, 0, 0, [152])) rfl rfl)
  have ar_0_95_1 : w_ar w1 (n_v vs 0) 95 = w_ar ws (n_v vs 0) 95 := by show v_ad (w_fd w1 _ _) = v_ad (w_fd ws _ _); rw [s1.2]
  have cr_0_95 : ta (w_ar ws (n_v vs 0) 95) = some 216 := tv_rg (th_fd hD hth r0 (g := GG_150) rfl (k := 95) (t := (2, 0, 0, [216])) rfl rfl)
  have ar_0_102_1 : w_ar w1 (n_v vs 0) 102 = w_ar ws (n_v vs 0) 102 := by show v_ad (w_fd w1 _ _) = v_ad (w_fd ws _ _); rw [s1.2]
  have cr_0_102 : ta (w_ar ws (n_v vs 0) 102) = some 220 := tv_rg (th_fd hD hth r0 (g := GG_150) rfl (k := 102) (t := (2, 0, 0, [220])) rfl rfl)
  have ar_0_104_1 : w_ar w1 (n_v vs 0) 104 = w_ar ws (n_v vs 0) 104 := by show v_ad (w_fd w1 _ _) = v_ad (w_fd ws _ _); rw [s1.2]
  have cr_0_104 : ta (w_ar ws (n_v vs 0) 104) = some 222 := tv_rg (th_fd hD hth r0 (g := GG_150) rfl (k := 104) (t := (2, 0, 0, [222])) rfl rfl)
  have ar_0_105_1 : w_ar w1 (n_v vs 0) 105 = w_ar ws (n_v vs 0) 105 := by show v_ad (w_fd w1 _ _) = v_ad (w_fd ws _ _); rw [s1.2]
  have cr_0_105 : ta (w_ar ws (n_v vs 0) 105) = some 223 := tv_rg (th_fd hD hth r0 (g := GG_150) rfl (k := 105) (t := (2, 0, 0, [223])) rfl rfl)
  have ar_0_106_1 : w_ar w1 (n_v vs 0) 106 = w_ar ws (n_v vs 0) 106 := by show v_ad (w_fd w1 _ _) = v_ad (w_fd ws _ _); rw [s1.2]
  have cr_0_106 : ta (w_ar ws (n_v vs 0) 106) = some 224 := tv_rg (th_fd hD hth r0 (g := GG_150) rfl (k := 106) (t := (2, 0, 0, [224])) rfl rfl)
  have ar_0_108_1 : w_ar w1 (n_v vs 0) 108 = w_ar ws (n_v vs 0) 108 := by show v_ad (w_fd w1 _ _) = v_ad (w_fd ws _ _); rw [s1.2]
  have cr_0_108 : ta (w_ar ws (n_v vs 0) 108) = some 225 := tv_rg (th_fd hD hth r0 (g := GG_150) rfl (k := 108) (t := (2, 0, 0, [225])) rfl rfl)
  have ar_0_109_1 : w_ar w1 (n_v vs 0) 109 = w_ar ws (n_v vs 0) 109 := by show v_ad (w_fd w1 _ _) = v_ad (w_fd ws _ _); rw [s1.2]
  have cr_0_109 : ta (w_ar ws (n_v vs 0) 109) = some 226 := tv_rg (th_fd hD hth r0 (g := GG_150) rfl (k := 109) (t := (2, 0, 0, [226])) rfl rfl)
  have ad_12 : v_ad (n_v vs 12) = w_ar ws (n_v vs 0) 105 := congrArg v_ad f2
  have ad_9 : v_ad (n_v vs 9) = w_ar ws (n_v vs 0) 106 := (congrArg v_ad f10).trans ar_0_106_1
  have ad_7 : v_ad (n_v vs 7) = w_ar ws (n_v vs 0) 102 := (congrArg v_ad f13).trans ar_0_102_1
  rw [ad_12] at f1
  have h1 : v_iv (n_v vs 15) = w_ei ws (w_ar ws (n_v vs 0) 105) (v_iv (n_v vs 4)) := f1
  rw [ad_12] at f8
  have h8 : v_iv (n_v vs 13) = w_ei w1 (w_ar ws (n_v vs 0) 105) (v_iv (n_v vs 4)) := f8
  rw [ad_7] at f12
  have h12 : v_iv (n_v vs 8) = w_ei w1 (w_ar ws (n_v vs 0) 102) (v_iv (n_v vs 5)) := f12
  have g15 : v_iv (n_v vs 6) = w_fi w1 (n_v vs 0) 100 := congrArg v_iv f15
  rw [ar_0_2_1] at f16
  rw [ar_0_95_1] at f16
  rw [ar_0_102_1] at f16
  rw [ar_0_104_1] at f16
  rw [ar_0_108_1] at f16
  rw [ar_0_109_1] at f16
  rw [ar_0_102_1] at f17
  rw [ar_0_105_1] at f17
  rw [ar_0_106_1] at f17
  have fe_0_5_1 : w_fi ws (n_v vs 0) 5 = w_fi w1 (n_v vs 0) 5 := congrArg v_iv (s1.2 _ _)
  have fe_0_100_1 : w_fi ws (n_v vs 0) 100 = w_fi w1 (n_v vs 0) 100 := congrArg v_iv (s1.2 _ _)
  have fe_0_101_1 : w_fi ws (n_v vs 0) 101 = w_fi w1 (n_v vs 0) 101 := congrArg v_iv (s1.2 _ _)
  have fe_0_107_1 : w_fi ws (n_v vs 0) 107 = w_fi w1 (n_v vs 0) 107 := congrArg v_iv (s1.2 _ _)
  have hE_0_2_1 : ∀ j : Int, w_ei ws (w_ar ws (n_v vs 0) 2) j = w_ei w1 (w_ar ws (n_v vs 0) 2) j := fun j => by unfold w_ei; rw [s1.1, if_neg (fun e => by have e1 := e.1; rw [← e1] at r9; rw [cr_0_2] at r9; exact absurd (Option.some.inj r9) (by decide))]
  have hE_0_95_1 : ∀ j : Int, w_ei ws (w_ar ws (n_v vs 0) 95) j = w_ei w1 (w_ar ws (n_v vs 0) 95) j := fun j => by unfold w_ei; rw [s1.1, if_neg (fun e => by have e1 := e.1; rw [← e1] at r9; rw [cr_0_95] at r9; exact absurd (Option.some.inj r9) (by decide))]
  have hK_0_95 : ∀ j : Int, 0 ≤ j → j < 48 → 0 ≤ w_ei ws (w_ar ws (n_v vs 0) 95) j ∧ w_ei ws (w_ar ws (n_v vs 0) 95) j ≤ 1 := fun j h0 h1 => th_el hD hth cr_0_95 (kd := 2) (n := 48) (m := 48) (lo := 0) (hi := 1) (rs := []) (L := []) rfl (by decide) (j := j.toNat) (by omega)
  have hE_0_102_1 : ∀ j : Int, w_ei ws (w_ar ws (n_v vs 0) 102) j = w_ei w1 (w_ar ws (n_v vs 0) 102) j := fun j => by unfold w_ei; rw [s1.1, if_neg (fun e => by have e1 := e.1; rw [← e1] at r9; rw [cr_0_102] at r9; exact absurd (Option.some.inj r9) (by decide))]
  have hK_0_102 : ∀ j : Int, 0 ≤ j → j < 76 → 0 ≤ w_ei ws (w_ar ws (n_v vs 0) 102) j ∧ w_ei ws (w_ar ws (n_v vs 0) 102) j ≤ 75 := fun j h0 h1 => th_el hD hth cr_0_102 (kd := 0) (n := 76) (m := 76) (lo := 0) (hi := 75) (rs := []) (L := []) rfl (by decide) (j := j.toNat) (by omega)
  have hE_0_104_1 : ∀ j : Int, w_ei ws (w_ar ws (n_v vs 0) 104) j = w_ei w1 (w_ar ws (n_v vs 0) 104) j := fun j => by unfold w_ei; rw [s1.1, if_neg (fun e => by have e1 := e.1; rw [← e1] at r9; rw [cr_0_104] at r9; exact absurd (Option.some.inj r9) (by decide))]
  have hK_0_104 : ∀ j : Int, 0 ≤ j → j < 48 → 0 ≤ w_ei ws (w_ar ws (n_v vs 0) 104) j ∧ w_ei ws (w_ar ws (n_v vs 0) 104) j ≤ 76 := fun j h0 h1 => th_el hD hth cr_0_104 (kd := 0) (n := 48) (m := 48) (lo := 0) (hi := 76) (rs := []) (L := []) rfl (by decide) (j := j.toNat) (by omega)
  have hE_0_105_1 : ∀ j : Int, w_ei ws (w_ar ws (n_v vs 0) 105) j = w_ei w1 (w_ar ws (n_v vs 0) 105) j := fun j => by unfold w_ei; rw [s1.1, if_neg (fun e => by have e1 := e.1; rw [← e1] at r9; rw [cr_0_105] at r9; exact absurd (Option.some.inj r9) (by decide))]
  have hK_0_105 : ∀ j : Int, 0 ≤ j → j < 76 → 0 ≤ w_ei ws (w_ar ws (n_v vs 0) 105) j ∧ w_ei ws (w_ar ws (n_v vs 0) 105) j ≤ 76 := fun j h0 h1 => th_el hD hth cr_0_105 (kd := 0) (n := 76) (m := 76) (lo := 0) (hi := 76) (rs := []) (L := []) rfl (by decide) (j := j.toNat) (by omega)
  have hE_0_106_1 : ∀ j : Int, 0 ≤ j → (j = v_iv (n_v vs 14) → w_ei ws (w_ar ws (n_v vs 0) 106) j = v_iv (n_v vs 5)) ∧ (j ≠ v_iv (n_v vs 14) → w_ei ws (w_ar ws (n_v vs 0) 106) j = w_ei w1 (w_ar ws (n_v vs 0) 106) j) := fun j hj => ⟨fun h => by unfold w_ei; rw [s1.1, if_pos ⟨ad_9.symm, by rw [h]⟩], fun h => by unfold w_ei; rw [s1.1, if_neg (fun e => h (by have := e.2; omega))]⟩
  have hK_0_106 : ∀ j : Int, 0 ≤ j → j < 5776 → 0 ≤ w_ei ws (w_ar ws (n_v vs 0) 106) j ∧ w_ei ws (w_ar ws (n_v vs 0) 106) j ≤ 75 := fun j h0 h1 => th_el hD hth cr_0_106 (kd := 0) (n := 5776) (m := 5776) (lo := 0) (hi := 75) (rs := []) (L := []) rfl (by decide) (j := j.toNat) (by omega)
  have hE_0_108_1 : ∀ j : Int, w_ei ws (w_ar ws (n_v vs 0) 108) j = w_ei w1 (w_ar ws (n_v vs 0) 108) j := fun j => by unfold w_ei; rw [s1.1, if_neg (fun e => by have e1 := e.1; rw [← e1] at r9; rw [cr_0_108] at r9; exact absurd (Option.some.inj r9) (by decide))]
  have hK_0_108 : ∀ j : Int, 0 ≤ j → j < 130 → 0 ≤ w_ei ws (w_ar ws (n_v vs 0) 108) j ∧ w_ei ws (w_ar ws (n_v vs 0) 108) j ≤ 75 := fun j h0 h1 => th_el hD hth cr_0_108 (kd := 0) (n := 130) (m := 130) (lo := 0) (hi := 75) (rs := []) (L := []) rfl (by decide) (j := j.toNat) (by omega)
  have hE_0_109_1 : ∀ j : Int, w_ei ws (w_ar ws (n_v vs 0) 109) j = w_ei w1 (w_ar ws (n_v vs 0) 109) j := fun j => by unfold w_ei; rw [s1.1, if_neg (fun e => by have e1 := e.1; rw [← e1] at r9; rw [cr_0_109] at r9; exact absurd (Option.some.inj r9) (by decide))]
  have hK_0_109 : ∀ j : Int, 0 ≤ j → j < 130 → 0 ≤ w_ei ws (w_ar ws (n_v vs 0) 109) j ∧ w_ei ws (w_ar ws (n_v vs 0) 109) j ≤ 75 := fun j h0 h1 => th_el hD hth cr_0_109 (kd := 0) (n := 130) (m := 130) (lo := 0) (hi := 75) (rs := []) (L := []) rfl (by decide) (j := j.toNat) (by omega)
  have kz_0_100 : 0 ≤ w_fi ws (n_v vs 0) 100 ∧ w_fi ws (n_v vs 0) 100 ≤ 76 := tv_rng (th_fd hD hth r0 (g := GG_150) rfl (k := 100) (t := (0, 0, 76, [])) rfl rfl)
  have kz_0_101 : 0 ≤ w_fi ws (n_v vs 0) 101 ∧ w_fi ws (n_v vs 0) 101 ≤ 76 := tv_rng (th_fd hD hth r0 (g := GG_150) rfl (k := 101) (t := (0, 0, 76, [])) rfl rfl)
  have kz_0_107 : 0 ≤ w_fi ws (n_v vs 0) 107 ∧ w_fi ws (n_v vs 0) 107 ≤ 130 := tv_rng (th_fd hD hth r0 (g := GG_150) rfl (k := 107) (t := (0, 0, 130, [])) rfl rfl)
  have hrf0 : 1 ≤ v_iv (n_v vs 17) ∧ v_iv (n_v vs 17) ≤ 76 := vc_Mo_list_17_r0 (v_iv (n_v vs 4)) (v_iv (n_v vs 5)) (v_iv (n_v vs 6)) (v_iv (n_v vs 8)) (v_iv (n_v vs 10)) (v_iv (n_v vs 11)) (v_iv (n_v vs 13)) (v_iv (n_v vs 14)) (v_iv (n_v vs 15)) (v_iv (n_v vs 16)) (v_iv (n_v vs 17)) (w_ei ws (w_ar ws (n_v vs 0) 105)) (w_ei ws (w_ar ws (n_v vs 0) 2)) (w_ei ws (w_ar ws (n_v vs 0) 95)) (w_ei ws (w_ar ws (n_v vs 0) 102)) (w_ei ws (w_ar ws (n_v vs 0) 104)) (w_ei ws (w_ar ws (n_v vs 0) 108)) (w_ei ws (w_ar ws (n_v vs 0) 109)) (w_fi ws (n_v vs 0) 5) (w_fi ws (n_v vs 0) 100) (w_fi ws (n_v vs 0) 101) (w_fi ws (n_v vs 0) 107) (w_ei w1 (w_ar ws (n_v vs 0) 105)) (w_ei w1 (w_ar ws (n_v vs 0) 102)) (w_fi w1 (n_v vs 0) 100) (w_ei w1 (w_ar ws (n_v vs 0) 2)) (w_ei w1 (w_ar ws (n_v vs 0) 95)) (w_ei w1 (w_ar ws (n_v vs 0) 104)) (w_ei w1 (w_ar ws (n_v vs 0) 108)) (w_ei w1 (w_ar ws (n_v vs 0) 109)) (w_fi w1 (n_v vs 0) 5) (w_fi w1 (n_v vs 0) 101) (w_fi w1 (n_v vs 0) 107) (w_ei w1 (w_ar ws (n_v vs 0) 106)) (w_ei ws (w_ar ws (n_v vs 0) 106)) k4 k5 k6 k8 k10 k11 k13 k14 k15 k16 k17 d0 d1 d2 d3 d4 f0 h1 f3 f4 f7 h8 f9 f11 h12 f14 g15 f16 f17 f18 fe_0_5_1 fe_0_100_1 fe_0_101_1 fe_0_107_1 hE_0_2_1 hE_0_95_1 hK_0_95 hE_0_102_1 hK_0_102 hE_0_104_1 hK_0_104 hE_0_105_1 hK_0_105 hE_0_106_1 hK_0_106 hE_0_108_1 hK_0_108 hE_0_109_1 hK_0_109 kz_0_100 kz_0_101 kz_0_107
  have rf17 : tv_ok ta (0, 1, 76, []) (n_v vs 17) := tv_in t17 (by first | omega | grind) (by first | omega | grind)
  refine ⟨List.forall_mem_cons.mpr ⟨rf17, (fun _ h => (by cases h))⟩, [], trivial, ?_, (fun _ h => (by cases h))⟩
  rw [List.append_nil]
  exact (fun _ h => (by cases h))
set_option maxHeartbeats 4000000 in
theorem vc_Mo_list_18_0 (x4 : Int) (x5 : Int) (x6 : Int) (x8 : Int) (x10 : Int) (x11 : Int) (x13 : Int) (x14 : Int) (x15 : Int) (x16 : Int) (x17 : Int) (x18 : Int) (all_0 : Int → Int) (turned_0 : Int → Int) (itemLayer_0 : Int → Int) (firstJoint_0 : Int → Int) (lineA_0 : Int → Int) (lineB_0 : Int → Int) (r_0 : Int) (items_0 : Int) (layerMany_0 : Int) (lines_0 : Int) (layerSize_1 : Int → Int) (all_1 : Int → Int) (turned_1 : Int → Int) (itemLayer_1 : Int → Int) (firstJoint_1 : Int → Int) (lineA_1 : Int → Int) (lineB_1 : Int → Int) (r_1 : Int) (items_1 : Int) (layerMany_1 : Int) (lines_1 : Int) (layerSize_2 : Int → Int) (itemLayer_2 : Int → Int) (items_2 : Int) (all_2 : Int → Int) (turned_2 : Int → Int) (firstJoint_2 : Int → Int) (lineA_2 : Int → Int) (lineB_2 : Int → Int) (r_2 : Int) (layerMany_2 : Int) (lines_2 : Int) (layerItem_2 : Int → Int) (layerSize_0 : Int → Int) (layerItem_0 : Int → Int) (layerItem_1 : Int → Int) (k4 : 0 ≤ x4 ∧ x4 ≤ 23) (k5 : 0 ≤ x5 ∧ x5 ≤ 75) (k6 : 1 ≤ x6 ∧ x6 ≤ 76) (k8 : 0 ≤ x8 ∧ x8 ≤ 23) (k10 : 76 ≤ x10 ∧ x10 ≤ 76) (k11 : 0 ≤ x11 ∧ x11 ≤ 1748) (k13 : 0 ≤ x13 ∧ x13 ≤ 76) (k14 : 0 ≤ x14 ∧ x14 ≤ 1824) (k15 : 0 ≤ x15 ∧ x15 ≤ 76) (k16 : 1 ≤ x16 ∧ x16 ≤ 1) (k17 : 1 ≤ x17 ∧ x17 ≤ 76) (k18 : 1 ≤ x18 ∧ x18 ≤ 76) (d0 : x5 + 1 ≤ x18 ∧ x18 ≤ x5 + 1) (d1 : x6 + (-4294967296) ≤ x18 ∧ x18 ≤ x6 + 0) (d2 : x15 + 1 ≤ x17 ∧ x17 ≤ x15 + 1) (d3 : x13 + 0 ≤ x14 ∧ x14 ≤ x13 + 1748) (d4 : x11 + 0 ≤ x14 ∧ x14 ≤ x11 + 76) (d5 : x4 + 0 ≤ x8 ∧ x8 ≤ x4 + 0) (d6 : x6 + (-4294967296) ≤ x5 ∧ x5 ≤ x6 + (-1)) (f0 : x18 = x5 + 1) (f1 : LSA (r_0) (items_0) (layerMany_0) (lines_0) (all_0) (turned_0) (itemLayer_0) (firstJoint_0) (lineA_0) (lineB_0)) (f2 : ((x4 + 1) ≤ layerMany_0) ∧ (x5 ≤ items_0)) (f5 : x17 = x15 + x16) (h6 : x15 = layerSize_1 (x4)) (f8 : LSA (r_1) (items_1) (layerMany_1) (lines_1) (all_1) (turned_1) (itemLayer_1) (firstJoint_1) (lineA_1) (lineB_1)) (f9 : ((x4 + 1) ≤ layerMany_1) ∧ (x5 ≤ items_1)) (f11 : x14 = x11 + x13) (h12 : x13 = layerSize_2 (x4)) (f13 : x11 = 76 * x4) (f15 : x8 = x4) (h16 : x8 = itemLayer_2 (x5)) (f18 : x5 < x6) (g19 : x6 = items_2) (f20 : LSA (r_2) (items_2) (layerMany_2) (lines_2) (all_2) (turned_2) (itemLayer_2) (firstJoint_2) (lineA_2) (lineB_2)) (f21 : LLI (items_2) (itemLayer_2) (layerSize_2) (layerItem_2) (x4) (x5)) (f22 : ((x4 + 1) ≤ layerMany_2) ∧ (x5 ≤ items_2)) (fe_0_5_1 : r_0 = r_1) (fe_0_100_1 : items_0 = items_1) (fe_0_101_1 : layerMany_0 = layerMany_1) (fe_0_107_1 : lines_0 = lines_1) (fe_0_5_2 : r_1 = r_2) (fe_0_100_2 : items_1 = items_2) (fe_0_101_2 : layerMany_1 = layerMany_2) (fe_0_107_2 : lines_1 = lines_2) (hE_0_2_1 : ∀ j : Int, all_0 j = all_1 j) (hE_0_2_2 : ∀ j : Int, all_1 j = all_2 j) (hE_0_95_1 : ∀ j : Int, turned_0 j = turned_1 j) (hE_0_95_2 : ∀ j : Int, turned_1 j = turned_2 j) (hK_0_95 : ∀ j : Int, 0 ≤ j → j < 48 → 0 ≤ turned_0 j ∧ turned_0 j ≤ 1) (hE_0_102_1 : ∀ j : Int, itemLayer_0 j = itemLayer_1 j) (hE_0_102_2 : ∀ j : Int, itemLayer_1 j = itemLayer_2 j) (hK_0_102 : ∀ j : Int, 0 ≤ j → j < 76 → 0 ≤ itemLayer_0 j ∧ itemLayer_0 j ≤ 75) (hE_0_104_1 : ∀ j : Int, firstJoint_0 j = firstJoint_1 j) (hE_0_104_2 : ∀ j : Int, firstJoint_1 j = firstJoint_2 j) (hK_0_104 : ∀ j : Int, 0 ≤ j → j < 48 → 0 ≤ firstJoint_0 j ∧ firstJoint_0 j ≤ 76) (hE_0_105_1 : ∀ j : Int, 0 ≤ j → (j = x4 → layerSize_0 j = x17) ∧ (j ≠ x4 → layerSize_0 j = layerSize_1 j)) (hE_0_105_2 : ∀ j : Int, layerSize_1 j = layerSize_2 j) (hK_0_105 : ∀ j : Int, 0 ≤ j → j < 76 → 0 ≤ layerSize_0 j ∧ layerSize_0 j ≤ 76) (hE_0_106_1 : ∀ j : Int, layerItem_0 j = layerItem_1 j) (hE_0_106_2 : ∀ j : Int, 0 ≤ j → (j = x14 → layerItem_1 j = x5) ∧ (j ≠ x14 → layerItem_1 j = layerItem_2 j)) (hK_0_106 : ∀ j : Int, 0 ≤ j → j < 5776 → 0 ≤ layerItem_0 j ∧ layerItem_0 j ≤ 75) (hE_0_108_1 : ∀ j : Int, lineA_0 j = lineA_1 j) (hE_0_108_2 : ∀ j : Int, lineA_1 j = lineA_2 j) (hK_0_108 : ∀ j : Int, 0 ≤ j → j < 130 → 0 ≤ lineA_0 j ∧ lineA_0 j ≤ 75) (hE_0_109_1 : ∀ j : Int, lineB_0 j = lineB_1 j) (hE_0_109_2 : ∀ j : Int, lineB_1 j = lineB_2 j) (hK_0_109 : ∀ j : Int, 0 ≤ j → j < 130 → 0 ≤ lineB_0 j ∧ lineB_0 j ≤ 75) (kz_0_100 : 0 ≤ items_0 ∧ items_0 ≤ 76) (kz_0_101 : 0 ≤ layerMany_0 ∧ layerMany_0 ≤ 76) (kz_0_107 : 0 ≤ lines_0 ∧ lines_0 ≤ 130) : LLI (items_0) (itemLayer_0) (layerSize_0) (layerItem_0) (x4) (x18) := by
  subst fe_0_5_1
  subst fe_0_100_1
  subst fe_0_101_1
  subst fe_0_107_1
  subst fe_0_5_2
  subst fe_0_100_2
  subst fe_0_101_2
  subst fe_0_107_2
  have e_hE_0_2_1 := funext hE_0_2_1; subst e_hE_0_2_1
  have e_hE_0_2_2 := funext hE_0_2_2; subst e_hE_0_2_2
  have e_hE_0_95_1 := funext hE_0_95_1; subst e_hE_0_95_1
  have e_hE_0_95_2 := funext hE_0_95_2; subst e_hE_0_95_2
  have e_hE_0_102_1 := funext hE_0_102_1; subst e_hE_0_102_1
  have e_hE_0_102_2 := funext hE_0_102_2; subst e_hE_0_102_2
  have e_hE_0_104_1 := funext hE_0_104_1; subst e_hE_0_104_1
  have e_hE_0_104_2 := funext hE_0_104_2; subst e_hE_0_104_2
  have e_hE_0_105_2 := funext hE_0_105_2; subst e_hE_0_105_2
  have e_hE_0_106_1 := funext hE_0_106_1; subst e_hE_0_106_1
  have e_hE_0_108_1 := funext hE_0_108_1; subst e_hE_0_108_1
  have e_hE_0_108_2 := funext hE_0_108_2; subst e_hE_0_108_2
  have e_hE_0_109_1 := funext hE_0_109_1; subst e_hE_0_109_1
  have e_hE_0_109_2 := funext hE_0_109_2; subst e_hE_0_109_2
  first
    | exact lli_start ‹LLS _ _ _ _ _› (by omega) ‹LSA _ _ _ _ _ _ _ _ _ _›.2.1.2.1 (by assumption) rfl (by omega) (by omega)
    | exact lli_skip ‹LLI _ _ _ _ _ _› (by assumption) (by assumption) (by omega)
    | exact lli_take (v := x8) (q := x14) (x := x17) ‹LLI _ _ _ _ _ _› (by omega) (by assumption) (by assumption) (by omega) (by assumption) (by omega) rfl (by assumption) rfl (by omega)
set_option maxHeartbeats 4000000 in
theorem vc_Mo_list_18_1 (x4 : Int) (x5 : Int) (x6 : Int) (x8 : Int) (x10 : Int) (x11 : Int) (x13 : Int) (x14 : Int) (x15 : Int) (x16 : Int) (x17 : Int) (x18 : Int) (all_0 : Int → Int) (turned_0 : Int → Int) (itemLayer_0 : Int → Int) (firstJoint_0 : Int → Int) (lineA_0 : Int → Int) (lineB_0 : Int → Int) (r_0 : Int) (items_0 : Int) (layerMany_0 : Int) (lines_0 : Int) (layerSize_1 : Int → Int) (all_1 : Int → Int) (turned_1 : Int → Int) (itemLayer_1 : Int → Int) (firstJoint_1 : Int → Int) (lineA_1 : Int → Int) (lineB_1 : Int → Int) (r_1 : Int) (items_1 : Int) (layerMany_1 : Int) (lines_1 : Int) (layerSize_2 : Int → Int) (itemLayer_2 : Int → Int) (items_2 : Int) (all_2 : Int → Int) (turned_2 : Int → Int) (firstJoint_2 : Int → Int) (lineA_2 : Int → Int) (lineB_2 : Int → Int) (r_2 : Int) (layerMany_2 : Int) (lines_2 : Int) (layerItem_2 : Int → Int) (layerSize_0 : Int → Int) (layerItem_0 : Int → Int) (layerItem_1 : Int → Int) (k4 : 0 ≤ x4 ∧ x4 ≤ 23) (k5 : 0 ≤ x5 ∧ x5 ≤ 75) (k6 : 1 ≤ x6 ∧ x6 ≤ 76) (k8 : 0 ≤ x8 ∧ x8 ≤ 23) (k10 : 76 ≤ x10 ∧ x10 ≤ 76) (k11 : 0 ≤ x11 ∧ x11 ≤ 1748) (k13 : 0 ≤ x13 ∧ x13 ≤ 76) (k14 : 0 ≤ x14 ∧ x14 ≤ 1824) (k15 : 0 ≤ x15 ∧ x15 ≤ 76) (k16 : 1 ≤ x16 ∧ x16 ≤ 1) (k17 : 1 ≤ x17 ∧ x17 ≤ 76) (k18 : 1 ≤ x18 ∧ x18 ≤ 76) (d0 : x5 + 1 ≤ x18 ∧ x18 ≤ x5 + 1) (d1 : x6 + (-4294967296) ≤ x18 ∧ x18 ≤ x6 + 0) (d2 : x15 + 1 ≤ x17 ∧ x17 ≤ x15 + 1) (d3 : x13 + 0 ≤ x14 ∧ x14 ≤ x13 + 1748) (d4 : x11 + 0 ≤ x14 ∧ x14 ≤ x11 + 76) (d5 : x4 + 0 ≤ x8 ∧ x8 ≤ x4 + 0) (d6 : x6 + (-4294967296) ≤ x5 ∧ x5 ≤ x6 + (-1)) (f0 : x18 = x5 + 1) (f1 : LSA (r_0) (items_0) (layerMany_0) (lines_0) (all_0) (turned_0) (itemLayer_0) (firstJoint_0) (lineA_0) (lineB_0)) (f2 : ((x4 + 1) ≤ layerMany_0) ∧ (x5 ≤ items_0)) (f5 : x17 = x15 + x16) (h6 : x15 = layerSize_1 (x4)) (f8 : LSA (r_1) (items_1) (layerMany_1) (lines_1) (all_1) (turned_1) (itemLayer_1) (firstJoint_1) (lineA_1) (lineB_1)) (f9 : ((x4 + 1) ≤ layerMany_1) ∧ (x5 ≤ items_1)) (f11 : x14 = x11 + x13) (h12 : x13 = layerSize_2 (x4)) (f13 : x11 = 76 * x4) (f15 : x8 = x4) (h16 : x8 = itemLayer_2 (x5)) (f18 : x5 < x6) (g19 : x6 = items_2) (f20 : LSA (r_2) (items_2) (layerMany_2) (lines_2) (all_2) (turned_2) (itemLayer_2) (firstJoint_2) (lineA_2) (lineB_2)) (f21 : LLI (items_2) (itemLayer_2) (layerSize_2) (layerItem_2) (x4) (x5)) (f22 : ((x4 + 1) ≤ layerMany_2) ∧ (x5 ≤ items_2)) (fe_0_5_1 : r_0 = r_1) (fe_0_100_1 : items_0 = items_1) (fe_0_101_1 : layerMany_0 = layerMany_1) (fe_0_107_1 : lines_0 = lines_1) (fe_0_5_2 : r_1 = r_2) (fe_0_100_2 : items_1 = items_2) (fe_0_101_2 : layerMany_1 = layerMany_2) (fe_0_107_2 : lines_1 = lines_2) (hE_0_2_1 : ∀ j : Int, all_0 j = all_1 j) (hE_0_2_2 : ∀ j : Int, all_1 j = all_2 j) (hE_0_95_1 : ∀ j : Int, turned_0 j = turned_1 j) (hE_0_95_2 : ∀ j : Int, turned_1 j = turned_2 j) (hK_0_95 : ∀ j : Int, 0 ≤ j → j < 48 → 0 ≤ turned_0 j ∧ turned_0 j ≤ 1) (hE_0_102_1 : ∀ j : Int, itemLayer_0 j = itemLayer_1 j) (hE_0_102_2 : ∀ j : Int, itemLayer_1 j = itemLayer_2 j) (hK_0_102 : ∀ j : Int, 0 ≤ j → j < 76 → 0 ≤ itemLayer_0 j ∧ itemLayer_0 j ≤ 75) (hE_0_104_1 : ∀ j : Int, firstJoint_0 j = firstJoint_1 j) (hE_0_104_2 : ∀ j : Int, firstJoint_1 j = firstJoint_2 j) (hK_0_104 : ∀ j : Int, 0 ≤ j → j < 48 → 0 ≤ firstJoint_0 j ∧ firstJoint_0 j ≤ 76) (hE_0_105_1 : ∀ j : Int, 0 ≤ j → (j = x4 → layerSize_0 j = x17) ∧ (j ≠ x4 → layerSize_0 j = layerSize_1 j)) (hE_0_105_2 : ∀ j : Int, layerSize_1 j = layerSize_2 j) (hK_0_105 : ∀ j : Int, 0 ≤ j → j < 76 → 0 ≤ layerSize_0 j ∧ layerSize_0 j ≤ 76) (hE_0_106_1 : ∀ j : Int, layerItem_0 j = layerItem_1 j) (hE_0_106_2 : ∀ j : Int, 0 ≤ j → (j = x14 → layerItem_1 j = x5) ∧ (j ≠ x14 → layerItem_1 j = layerItem_2 j)) (hK_0_106 : ∀ j : Int, 0 ≤ j → j < 5776 → 0 ≤ layerItem_0 j ∧ layerItem_0 j ≤ 75) (hE_0_108_1 : ∀ j : Int, lineA_0 j = lineA_1 j) (hE_0_108_2 : ∀ j : Int, lineA_1 j = lineA_2 j) (hK_0_108 : ∀ j : Int, 0 ≤ j → j < 130 → 0 ≤ lineA_0 j ∧ lineA_0 j ≤ 75) (hE_0_109_1 : ∀ j : Int, lineB_0 j = lineB_1 j) (hE_0_109_2 : ∀ j : Int, lineB_1 j = lineB_2 j) (hK_0_109 : ∀ j : Int, 0 ≤ j → j < 130 → 0 ≤ lineB_0 j ∧ lineB_0 j ≤ 75) (kz_0_100 : 0 ≤ items_0 ∧ items_0 ≤ 76) (kz_0_101 : 0 ≤ layerMany_0 ∧ layerMany_0 ≤ 76) (kz_0_107 : 0 ≤ lines_0 ∧ lines_0 ≤ 130) : ((x4 + 1) ≤ layerMany_0) ∧ (x18 ≤ items_0) := by
  subst fe_0_5_1
  subst fe_0_100_1
  subst fe_0_101_1
  subst fe_0_107_1
  subst fe_0_5_2
  subst fe_0_100_2
  subst fe_0_101_2
  subst fe_0_107_2
  have e_hE_0_2_1 := funext hE_0_2_1; subst e_hE_0_2_1
  have e_hE_0_2_2 := funext hE_0_2_2; subst e_hE_0_2_2
  have e_hE_0_95_1 := funext hE_0_95_1; subst e_hE_0_95_1
  have e_hE_0_95_2 := funext hE_0_95_2; subst e_hE_0_95_2
  have e_hE_0_102_1 := funext hE_0_102_1; subst e_hE_0_102_1
  have e_hE_0_102_2 := funext hE_0_102_2; subst e_hE_0_102_2
  have e_hE_0_104_1 := funext hE_0_104_1; subst e_hE_0_104_1
  have e_hE_0_104_2 := funext hE_0_104_2; subst e_hE_0_104_2
  have e_hE_0_105_2 := funext hE_0_105_2; subst e_hE_0_105_2
  have e_hE_0_106_1 := funext hE_0_106_1; subst e_hE_0_106_1
  have e_hE_0_108_1 := funext hE_0_108_1; subst e_hE_0_108_1
  have e_hE_0_108_2 := funext hE_0_108_2; subst e_hE_0_108_2
  have e_hE_0_109_1 := funext hE_0_109_1; subst e_hE_0_109_1
  have e_hE_0_109_2 := funext hE_0_109_2; subst e_hE_0_109_2
  try simp only [Int.add_zero] at *
  first
    | omega
    | (have h := lid_bd ‹LID _ _ _ _ _ _ _ _ _›; omega)
    | (have h := ‹LYJ _ _ _ _›.1.1.1; omega)
    | (have h := (lic_bd ‹LIC _ _ _ _ _ _ _›).1; omega)
    | (have h := (lic_bd ‹LIF _ _ _ _ _ _›).1; omega)
    | (have h := ‹LSA _ _ _ _ _ _ _ _ _ _›.2.1; omega)
    | (have h := lli_bd ‹LLI _ _ _ _ _ _›; have h2 := ‹LSA _ _ _ _ _ _ _ _ _ _›.2.1; omega)
def o_Mo_list_18 : or_T := (191, 19, [(0, (2, 0, 0, [150])), (2, (2, 0, 0, [150])), (4, (0, 0, 23, [])), (5, (0, 0, 75, [])), (6, (0, 1, 76, [])), (7, (2, 0, 0, [220])), (8, (0, 0, 23, [])), (9, (2, 0, 0, [224])), (10, (0, 76, 76, [])), (11, (0, 0, 1748, [])), (12, (2, 0, 0, [223])), (13, (0, 0, 76, [])), (14, (0, 0, 1824, [])), (15, (0, 0, 76, [])), (16, (0, 1, 1, [])), (17, (0, 1, 76, [])), (18, (0, 1, 76, []))], [(6, [18, 5], [1]), (20, [2], [60, 4, 6, 369, 5, 100, 101, 107, 2, 95, 102, 104, 108, 109]), (20, [4, 2, 5], [50, 2, 0, 1101, 1100, 2, 11, 0, 6, 4, 2, 1, 0, 0, 1, 2, 1, 101, 0, 2, 1, 2, 2, 1, 100]), (24, [0, 2], []), (100, [12, 4, 17], []), (1, [17, 15, 16], []), (10, [15, 12, 4], []), (9, [12, 2], [105]), (20, [2], [60, 4, 6, 369, 5, 100, 101, 107, 2, 95, 102, 104, 108, 109]), (20, [4, 2, 5], [50, 2, 0, 1101, 1100, 2, 11, 0, 6, 4, 2, 1, 0, 0, 1, 2, 1, 101, 0, 2, 1, 2, 2, 1, 100]), (100, [9, 14, 5], []), (1, [14, 11, 13], []), (10, [13, 12, 4], []), (3, [11, 10, 4], []), (9, [9, 2], [106]), (7, [8, 4], [0]), (10, [8, 7, 5], []), (9, [7, 2], [102]), (7, [5, 6], [2]), (9, [6, 2], [100]), (20, [2], [60, 4, 6, 369, 5, 100, 101, 107, 2, 95, 102, 104, 108, 109]), (20, [2, 4, 5], [60, 1, 3, 371, 100, 102, 105, 106]), (20, [4, 2, 5], [50, 2, 0, 1101, 1100, 2, 11, 0, 6, 4, 2, 1, 0, 0, 1, 2, 1, 101, 0, 2, 1, 2, 2, 1, 100])], [], [], [(20, [2, 4, 18], [60, 1, 3, 371, 100, 102, 105, 106]), (20, [4, 2, 18], [50, 2, 0, 1101, 1100, 2, 11, 0, 6, 4, 2, 1, 0, 0, 1, 2, 1, 101, 0, 2, 1, 2, 2, 1, 100])], [], [(18, 5, 1, 1), (18, 6, -4294967296, 0), (17, 15, 1, 1), (14, 13, 0, 1748), (14, 11, 0, 76), (8, 4, 0, 0), (5, 6, -4294967296, -1)])
theorem oo_Mo_list_18 {kA : Nat → ClassId} : or_ok PRD kA GG o_Mo_list_18 := by
  intro A ta ws vs hD hth hl hk hds hf
  have hl : vs.length = 19 := hl
  have hk : ∀ q ∈ ([(0, (2, 0, 0, [150])), (2, (2, 0, 0, [150])), (4, (0, 0, 23, [])), (5, (0, 0, 75, [])), (6, (0, 1, 76, [])), (7, (2, 0, 0, [220])), (8, (0, 0, 23, [])), (9, (2, 0, 0, [224])), (10, (0, 76, 76, [])), (11, (0, 0, 1748, [])), (12, (2, 0, 0, [223])), (13, (0, 0, 76, [])), (14, (0, 0, 1824, [])), (15, (0, 0, 76, [])), (16, (0, 1, 1, [])), (17, (0, 1, 76, [])), (18, (0, 1, 76, []))] : List (Nat × tv_T)), tv_ok ta q.2 (n_v vs q.1) := hk
  obtain ⟨t0, hk⟩ := List.forall_mem_cons.mp hk
  have t0 : tv_ok ta (2, 0, 0, [150]) (n_v vs 0) := t0
  have r0 : ta (v_ad (n_v vs 0)) = some 150 := tv_rg t0
  obtain ⟨t2, hk⟩ := List.forall_mem_cons.mp hk
  have t2 : tv_ok ta (2, 0, 0, [150]) (n_v vs 2) := t2
  have r2 : ta (v_ad (n_v vs 2)) = some 150 := tv_rg t2
  obtain ⟨t4, hk⟩ := List.forall_mem_cons.mp hk
  have t4 : tv_ok ta (0, 0, 23, []) (n_v vs 4) := t4
  have k4 : 0 ≤ v_iv (n_v vs 4) ∧ v_iv (n_v vs 4) ≤ 23 := tv_rng t4
  obtain ⟨t5, hk⟩ := List.forall_mem_cons.mp hk
  have t5 : tv_ok ta (0, 0, 75, []) (n_v vs 5) := t5
  have k5 : 0 ≤ v_iv (n_v vs 5) ∧ v_iv (n_v vs 5) ≤ 75 := tv_rng t5
  obtain ⟨t6, hk⟩ := List.forall_mem_cons.mp hk
  have t6 : tv_ok ta (0, 1, 76, []) (n_v vs 6) := t6
  have k6 : 1 ≤ v_iv (n_v vs 6) ∧ v_iv (n_v vs 6) ≤ 76 := tv_rng t6
  obtain ⟨t7, hk⟩ := List.forall_mem_cons.mp hk
  have t7 : tv_ok ta (2, 0, 0, [220]) (n_v vs 7) := t7
  have r7 : ta (v_ad (n_v vs 7)) = some 220 := tv_rg t7
  obtain ⟨t8, hk⟩ := List.forall_mem_cons.mp hk
  have t8 : tv_ok ta (0, 0, 23, []) (n_v vs 8) := t8
  have k8 : 0 ≤ v_iv (n_v vs 8) ∧ v_iv (n_v vs 8) ≤ 23 := tv_rng t8
  obtain ⟨t9, hk⟩ := List.forall_mem_cons.mp hk
  have t9 : tv_ok ta (2, 0, 0, [224]) (n_v vs 9) := t9
  have r9 : ta (v_ad (n_v vs 9)) = some 224 := tv_rg t9
  obtain ⟨t10, hk⟩ := List.forall_mem_cons.mp hk
  have t10 : tv_ok ta (0, 76, 76, []) (n_v vs 10) := t10
  have k10 : 76 ≤ v_iv (n_v vs 10) ∧ v_iv (n_v vs 10) ≤ 76 := tv_rng t10
  obtain ⟨t11, hk⟩ := List.forall_mem_cons.mp hk
  have t11 : tv_ok ta (0, 0, 1748, []) (n_v vs 11) := t11
  have k11 : 0 ≤ v_iv (n_v vs 11) ∧ v_iv (n_v vs 11) ≤ 1748 := tv_rng t11
  obtain ⟨t12, hk⟩ := List.forall_mem_cons.mp hk
  have t12 : tv_ok ta (2, 0, 0, [223]) (n_v vs 12) := t12
  have r12 : ta (v_ad (n_v vs 12)) = some 223 := tv_rg t12
  obtain ⟨t13, hk⟩ := List.forall_mem_cons.mp hk
  have t13 : tv_ok ta (0, 0, 76, []) (n_v vs 13) := t13
  have k13 : 0 ≤ v_iv (n_v vs 13) ∧ v_iv (n_v vs 13) ≤ 76 := tv_rng t13
  obtain ⟨t14, hk⟩ := List.forall_mem_cons.mp hk
  have t14 : tv_ok ta (0, 0, 1824, []) (n_v vs 14) := t14
  have k14 : 0 ≤ v_iv (n_v vs 14) ∧ v_iv (n_v vs 14) ≤ 1824 := tv_rng t14
  obtain ⟨t15, hk⟩ := List.forall_mem_cons.mp hk
  have t15 : tv_ok ta (0, 0, 76, []) (n_v vs 15) := t15
  have k15 : 0 ≤ v_iv (n_v vs 15) ∧ v_iv (n_v vs 15) ≤ 76 := tv_rng t15
  obtain ⟨t16, hk⟩ := List.forall_mem_cons.mp hk
  have t16 : tv_ok ta (0, 1, 1, []) (n_v vs 16) := t16
  have k16 : 1 ≤ v_iv (n_v vs 16) ∧ v_iv (n_v vs 16) ≤ 1 := tv_rng t16
  obtain ⟨t17, hk⟩ := List.forall_mem_cons.mp hk
  have t17 : tv_ok ta (0, 1, 76, []) (n_v vs 17) := t17
  have k17 : 1 ≤ v_iv (n_v vs 17) ∧ v_iv (n_v vs 17) ≤ 76 := tv_rng t17
  obtain ⟨t18, hk⟩ := List.forall_mem_cons.mp hk
  have t18 : tv_ok ta (0, 1, 76, []) (n_v vs 18) := t18
  have k18 : 1 ≤ v_iv (n_v vs 18) ∧ v_iv (n_v vs 18) ≤ 76 := tv_rng t18
  have hds : ∀ q ∈ ([(18, 5, 1, 1), (18, 6, -4294967296, 0), (17, 15, 1, 1), (14, 13, 0, 1748), (14, 11, 0, 76), (8, 4, 0, 0), (5, 6, -4294967296, -1)] : List of_T), n_iv vs q.2.1 + q.2.2.1 ≤ n_iv vs q.1 ∧ n_iv vs q.1 ≤ n_iv vs q.2.1 + q.2.2.2 := hds
  obtain ⟨d0, hds⟩ := List.forall_mem_cons.mp hds
  have d0 : v_iv (n_v vs 5) + 1 ≤ v_iv (n_v vs 18) ∧ v_iv (n_v vs 18) ≤ v_iv (n_v vs 5) + 1 := d0
  obtain ⟨d1, hds⟩ := List.forall_mem_cons.mp hds
  have d1 : v_iv (n_v vs 6) + (-4294967296) ≤ v_iv (n_v vs 18) ∧ v_iv (n_v vs 18) ≤ v_iv (n_v vs 6) + 0 := d1
  obtain ⟨d2, hds⟩ := List.forall_mem_cons.mp hds
  have d2 : v_iv (n_v vs 15) + 1 ≤ v_iv (n_v vs 17) ∧ v_iv (n_v vs 17) ≤ v_iv (n_v vs 15) + 1 := d2
  obtain ⟨d3, hds⟩ := List.forall_mem_cons.mp hds
  have d3 : v_iv (n_v vs 13) + 0 ≤ v_iv (n_v vs 14) ∧ v_iv (n_v vs 14) ≤ v_iv (n_v vs 13) + 1748 := d3
  obtain ⟨d4, hds⟩ := List.forall_mem_cons.mp hds
  have d4 : v_iv (n_v vs 11) + 0 ≤ v_iv (n_v vs 14) ∧ v_iv (n_v vs 14) ≤ v_iv (n_v vs 11) + 76 := d4
  obtain ⟨d5, hds⟩ := List.forall_mem_cons.mp hds
  have d5 : v_iv (n_v vs 4) + 0 ≤ v_iv (n_v vs 8) ∧ v_iv (n_v vs 8) ≤ v_iv (n_v vs 4) + 0 := d5
  obtain ⟨d6, hds⟩ := List.forall_mem_cons.mp hds
  have d6 : v_iv (n_v vs 6) + (-4294967296) ≤ v_iv (n_v vs 5) ∧ v_iv (n_v vs 5) ≤ v_iv (n_v vs 6) + (-1) := d6
  have hf : fc_ok PRD [(6, [18, 5], [1]), (20, [2], [60, 4, 6, 369, 5, 100, 101, 107, 2, 95, 102, 104, 108, 109]), (20, [4, 2, 5], [50, 2, 0, 1101, 1100, 2, 11, 0, 6, 4, 2, 1, 0, 0, 1, 2, 1, 101, 0, 2, 1, 2, 2, 1, 100]), (24, [0, 2], []), (100, [12, 4, 17], []), (1, [17, 15, 16], []), (10, [15, 12, 4], []), (9, [12, 2], [105]), (20, [2], [60, 4, 6, 369, 5, 100, 101, 107, 2, 95, 102, 104, 108, 109]), (20, [4, 2, 5], [50, 2, 0, 1101, 1100, 2, 11, 0, 6, 4, 2, 1, 0, 0, 1, 2, 1, 101, 0, 2, 1, 2, 2, 1, 100]), (100, [9, 14, 5], []), (1, [14, 11, 13], []), (10, [13, 12, 4], []), (3, [11, 10, 4], []), (9, [9, 2], [106]), (7, [8, 4], [0]), (10, [8, 7, 5], []), (9, [7, 2], [102]), (7, [5, 6], [2]), (9, [6, 2], [100]), (20, [2], [60, 4, 6, 369, 5, 100, 101, 107, 2, 95, 102, 104, 108, 109]), (20, [2, 4, 5], [60, 1, 3, 371, 100, 102, 105, 106]), (20, [4, 2, 5], [50, 2, 0, 1101, 1100, 2, 11, 0, 6, 4, 2, 1, 0, 0, 1, 2, 1, 101, 0, 2, 1, 2, 2, 1, 100])] ta ws vs := hf
  obtain ⟨f0, hf⟩ := fc_un (show (6 : Nat) < 100 from by decide) hf
  have f0 : v_iv (n_v vs 18) = v_iv (n_v vs 5) + 1 := f0
  obtain ⟨f1, hf⟩ := fc_un (show (20 : Nat) < 100 from by decide) hf
  have f1 : LSA (w_fi ws (n_v vs 2) 5) (w_fi ws (n_v vs 2) 100) (w_fi ws (n_v vs 2) 101) (w_fi ws (n_v vs 2) 107) (w_ei ws (w_ar ws (n_v vs 2) 2)) (w_ei ws (w_ar ws (n_v vs 2) 95)) (w_ei ws (w_ar ws (n_v vs 2) 102)) (w_ei ws (w_ar ws (n_v vs 2) 104)) (w_ei ws (w_ar ws (n_v vs 2) 108)) (w_ei ws (w_ar ws (n_v vs 2) 109)) := f1
  obtain ⟨f2, hf⟩ := fc_un (show (20 : Nat) < 100 from by decide) hf
  have f2 : ((v_iv (n_v vs 4) + 1) ≤ w_fi ws (n_v vs 2) 101) ∧ (v_iv (n_v vs 5) ≤ w_fi ws (n_v vs 2) 100) := f2
  obtain ⟨f3, hf⟩ := fc_un (show (24 : Nat) < 100 from by decide) hf
  have f3 : n_v vs 0 = n_v vs 2 := f3
  obtain ⟨ta1, w1, le1, ⟨_, s1⟩, hf⟩ := fc_us (show ¬ (100 : Nat) < 100 from by decide) hf
  have s1 : (∀ b j, w_el ws b j = if b = v_ad (n_v vs 12) ∧ j = (v_iv (n_v vs 4)).toNat then v_iv (n_v vs 17) else w_el w1 b j) ∧ ∀ b k, w_fd ws b k = w_fd w1 b k := s1
  obtain ⟨f5, hf⟩ := fc_un (show (1 : Nat) < 100 from by decide) hf
  have f5 : v_iv (n_v vs 17) = v_iv (n_v vs 15) + v_iv (n_v vs 16) := f5
  obtain ⟨f6, hf⟩ := fc_un (show (10 : Nat) < 100 from by decide) hf
  have f6 : v_iv (n_v vs 15) = w_el w1 (v_ad (n_v vs 12)) (v_iv (n_v vs 4)).toNat := f6
  obtain ⟨f7, hf⟩ := fc_un (show (9 : Nat) < 100 from by decide) hf
  have f7 : n_v vs 12 = w_fd w1 (v_ad (n_v vs 2)) 105 := f7
  obtain ⟨f8, hf⟩ := fc_un (show (20 : Nat) < 100 from by decide) hf
  have f8 : LSA (w_fi w1 (n_v vs 2) 5) (w_fi w1 (n_v vs 2) 100) (w_fi w1 (n_v vs 2) 101) (w_fi w1 (n_v vs 2) 107) (w_ei w1 (w_ar w1 (n_v vs 2) 2)) (w_ei w1 (w_ar w1 (n_v vs 2) 95)) (w_ei w1 (w_ar w1 (n_v vs 2) 102)) (w_ei w1 (w_ar w1 (n_v vs 2) 104)) (w_ei w1 (w_ar w1 (n_v vs 2) 108)) (w_ei w1 (w_ar w1 (n_v vs 2) 109)) := f8
  obtain ⟨f9, hf⟩ := fc_un (show (20 : Nat) < 100 from by decide) hf
  have f9 : ((v_iv (n_v vs 4) + 1) ≤ w_fi w1 (n_v vs 2) 101) ∧ (v_iv (n_v vs 5) ≤ w_fi w1 (n_v vs 2) 100) := f9
  obtain ⟨ta2, w2, le2, ⟨_, s2⟩, hf⟩ := fc_us (show ¬ (100 : Nat) < 100 from by decide) hf
  have s2 : (∀ b j, w_el w1 b j = if b = v_ad (n_v vs 9) ∧ j = (v_iv (n_v vs 14)).toNat then v_iv (n_v vs 5) else w_el w2 b j) ∧ ∀ b k, w_fd w1 b k = w_fd w2 b k := s2
  obtain ⟨f11, hf⟩ := fc_un (show (1 : Nat) < 100 from by decide) hf
  have f11 : v_iv (n_v vs 14) = v_iv (n_v vs 11) + v_iv (n_v vs 13) := f11
  obtain ⟨f12, hf⟩ := fc_un (show (10 : Nat) < 100 from by decide) hf
  have f12 : v_iv (n_v vs 13) = w_el w2 (v_ad (n_v vs 12)) (v_iv (n_v vs 4)).toNat := f12
  obtain ⟨f13, hf⟩ := fc_un (show (3 : Nat) < 100 from by decide) hf
  have f13 : v_iv (n_v vs 11) = v_iv (n_v vs 10) * v_iv (n_v vs 4) := f13
  rw [show v_iv (n_v vs 10) = 76 from by omega] at f13
  obtain ⟨f14, hf⟩ := fc_un (show (9 : Nat) < 100 from by decide) hf
  have f14 : n_v vs 9 = w_fd w2 (v_ad (n_v vs 2)) 106 := f14
  obtain ⟨f15, hf⟩ := fc_un (show (7 : Nat) < 100 from by decide) hf
  have f15 : v_iv (n_v vs 8) = v_iv (n_v vs 4) := f15
  obtain ⟨f16, hf⟩ := fc_un (show (10 : Nat) < 100 from by decide) hf
  have f16 : v_iv (n_v vs 8) = w_el w2 (v_ad (n_v vs 7)) (v_iv (n_v vs 5)).toNat := f16
  obtain ⟨f17, hf⟩ := fc_un (show (9 : Nat) < 100 from by decide) hf
  have f17 : n_v vs 7 = w_fd w2 (v_ad (n_v vs 2)) 102 := f17
  obtain ⟨f18, hf⟩ := fc_un (show (7 : Nat) < 100 from by decide) hf
  have f18 : v_iv (n_v vs 5) < v_iv (n_v vs 6) := f18
  obtain ⟨f19, hf⟩ := fc_un (show (9 : Nat) < 100 from by decide) hf
  have f19 : n_v vs 6 = w_fd w2 (v_ad (n_v vs 2)) 100 := f19
  obtain ⟨f20, hf⟩ := fc_un (show (20 : Nat) < 100 from by decide) hf
  have f20 : LSA (w_fi w2 (n_v vs 2) 5) (w_fi w2 (n_v vs 2) 100) (w_fi w2 (n_v vs 2) 101) (w_fi w2 (n_v vs 2) 107) (w_ei w2 (w_ar w2 (n_v vs 2) 2)) (w_ei w2 (w_ar w2 (n_v vs 2) 95)) (w_ei w2 (w_ar w2 (n_v vs 2) 102)) (w_ei w2 (w_ar w2 (n_v vs 2) 104)) (w_ei w2 (w_ar w2 (n_v vs 2) 108)) (w_ei w2 (w_ar w2 (n_v vs 2) 109)) := f20
  obtain ⟨f21, hf⟩ := fc_un (show (20 : Nat) < 100 from by decide) hf
  have f21 : LLI (w_fi w2 (n_v vs 2) 100) (w_ei w2 (w_ar w2 (n_v vs 2) 102)) (w_ei w2 (w_ar w2 (n_v vs 2) 105)) (w_ei w2 (w_ar w2 (n_v vs 2) 106)) (v_iv (n_v vs 4)) (v_iv (n_v vs 5)) := f21
  obtain ⟨f22, hf⟩ := fc_un (show (20 : Nat) < 100 from by decide) hf
  have f22 : ((v_iv (n_v vs 4) + 1) ≤ w_fi w2 (n_v vs 2) 101) ∧ (v_iv (n_v vs 5) ≤ w_fi w2 (n_v vs 2) 100) := f22
  have q2 : n_v vs 2 = n_v vs 0 := f3.symm
  rw [q2] at f1
  rw [q2] at f2
  rw [q2] at f7
  rw [q2] at f8
  rw [q2] at f9
  rw [q2] at f14
  rw [q2] at f17
  rw [q2] at f19
  rw [q2] at f20
  rw [q2] at f21
  rw [q2] at f22
  have ar_0_2_1 : w_ar w1 (n_v vs 0) 2 = w_ar ws (n_v vs 0) 2 := by show v_ad (w_fd w1 _ _) = v_ad (w_fd ws _ _); rw [s1.2]
  have ar_0_2_2 : w_ar w2 (n_v vs 0) 2 = w_ar ws (n_v vs 0) 2 := by rw [← ar_0_2_1]; show v_ad (w_fd w2 _ _) = v_ad (w_fd w1 _ _); rw [s2.2]
  have cr_0_2 : ta (w_ar ws (n_v vs 0) 2) = some 152 := tv_rg (th_fd hD hth r0 (g := GG_150) rfl (k := 2) (t := (2, 0, 0, [152])) rfl rfl)
  have ar_0_95_1 : w_ar w1 (n_v vs 0) 95 = w_ar ws (n_v vs 0) 95 := by show v_ad (w_fd w1 _ _) = v_ad (w_fd ws _ _); rw [s1.2]
  have ar_0_95_2 : w_ar w2 (n_v vs 0) 95 = w_ar ws (n_v vs 0) 95 := by rw [← ar_0_95_1]; show v_ad (w_fd w2 _ _) = v_ad (w_fd w1 _ _); rw [s2.2]
  have cr_0_95 : ta (w_ar ws (n_v vs 0) 95) = some 216 := tv_rg (th_fd hD hth r0 (g := GG_150) rfl (k := 95) (t := (2, 0, 0, [216])) rfl rfl)
  have ar_0_102_1 : w_ar w1 (n_v vs 0) 102 = w_ar ws (n_v vs 0) 102 := by show v_ad (w_fd w1 _ _) = v_ad (w_fd ws _ _); rw [s1.2]
  have ar_0_102_2 : w_ar w2 (n_v vs 0) 102 = w_ar ws (n_v vs 0) 102 := by rw [← ar_0_102_1]; show v_ad (w_fd w2 _ _) = v_ad (w_fd w1 _ _); rw [s2.2]
  have cr_0_102 : ta (w_ar ws (n_v vs 0) 102) = some 220 := tv_rg (th_fd hD hth r0 (g := GG_150) rfl (k := 102) (t := (2, 0, 0, [220])) rfl rfl)
  have ar_0_104_1 : w_ar w1 (n_v vs 0) 104 = w_ar ws (n_v vs 0) 104 := by show v_ad (w_fd w1 _ _) = v_ad (w_fd ws _ _); rw [s1.2]
  have ar_0_104_2 : w_ar w2 (n_v vs 0) 104 = w_ar ws (n_v vs 0) 104 := by rw [← ar_0_104_1]; show v_ad (w_fd w2 _ _) = v_ad (w_fd w1 _ _); rw [s2.2]
  have cr_0_104 : ta (w_ar ws (n_v vs 0) 104) = some 222 := tv_rg (th_fd hD hth r0 (g := GG_150) rfl (k := 104) (t := (2, 0, 0, [222])) rfl rfl)
  have ar_0_105_1 : w_ar w1 (n_v vs 0) 105 = w_ar ws (n_v vs 0) 105 := by show v_ad (w_fd w1 _ _) = v_ad (w_fd ws _ _); rw [s1.2]
  have ar_0_105_2 : w_ar w2 (n_v vs 0) 105 = w_ar ws (n_v vs 0) 105 := by rw [← ar_0_105_1]; show v_ad (w_fd w2 _ _) = v_ad (w_fd w1 _ _); rw [s2.2]
  have cr_0_105 : ta (w_ar ws (n_v vs 0) 105) = some 223 := tv_rg (th_fd hD hth r0 (g := GG_150) rfl (k := 105) (t := (2, 0, 0, [223])) rfl rfl)
  have ar_0_106_1 : w_ar w1 (n_v vs 0) 106 = w_ar ws (n_v vs 0) 106 := by show v_ad (w_fd w1 _ _) = v_ad (w_fd ws _ _); rw [s1.2]
  have ar_0_106_2 : w_ar w2 (n_v vs 0) 106 = w_ar ws (n_v vs 0) 106 := by rw [← ar_0_106_1]; show v_ad (w_fd w2 _ _) = v_ad (w_fd w1 _ _); rw [s2.2]
  have cr_0_106 : ta (w_ar ws (n_v vs 0) 106) = some 224 := tv_rg (th_fd hD hth r0 (g := GG_150) rfl (k := 106) (t := (2, 0, 0, [224])) rfl rfl)
  have ar_0_108_1 : w_ar w1 (n_v vs 0) 108 = w_ar ws (n_v vs 0) 108 := by show v_ad (w_fd w1 _ _) = v_ad (w_fd ws _ _); rw [s1.2]
  have ar_0_108_2 : w_ar w2 (n_v vs 0) 108 = w_ar ws (n_v vs 0) 108 := by rw [← ar_0_108_1]; show v_ad (w_fd w2 _ _) = v_ad (w_fd w1 _ _); rw [s2.2]
  have cr_0_108 : ta (w_ar ws (n_v vs 0) 108) = some 225 := tv_rg (th_fd hD hth r0 (g := GG_150) rfl (k := 108) (t := (2, 0, 0, [225])) rfl rfl)
  have ar_0_109_1 : w_ar w1 (n_v vs 0) 109 = w_ar ws (n_v vs 0) 109 := by show v_ad (w_fd w1 _ _) = v_ad (w_fd ws _ _); rw [s1.2]
  have ar_0_109_2 : w_ar w2 (n_v vs 0) 109 = w_ar ws (n_v vs 0) 109 := by rw [← ar_0_109_1]; show v_ad (w_fd w2 _ _) = v_ad (w_fd w1 _ _); rw [s2.2]
  have cr_0_109 : ta (w_ar ws (n_v vs 0) 109) = some 226 := tv_rg (th_fd hD hth r0 (g := GG_150) rfl (k := 109) (t := (2, 0, 0, [226])) rfl rfl)
  have ad_12 : v_ad (n_v vs 12) = w_ar ws (n_v vs 0) 105 := (congrArg v_ad f7).trans ar_0_105_1
  have ad_9 : v_ad (n_v vs 9) = w_ar ws (n_v vs 0) 106 := (congrArg v_ad f14).trans ar_0_106_2
  have ad_7 : v_ad (n_v vs 7) = w_ar ws (n_v vs 0) 102 := (congrArg v_ad f17).trans ar_0_102_2
  rw [ad_12] at f6
  have h6 : v_iv (n_v vs 15) = w_ei w1 (w_ar ws (n_v vs 0) 105) (v_iv (n_v vs 4)) := f6
  rw [ar_0_2_1] at f8
  rw [ar_0_95_1] at f8
  rw [ar_0_102_1] at f8
  rw [ar_0_104_1] at f8
  rw [ar_0_108_1] at f8
  rw [ar_0_109_1] at f8
  rw [ad_12] at f12
  have h12 : v_iv (n_v vs 13) = w_ei w2 (w_ar ws (n_v vs 0) 105) (v_iv (n_v vs 4)) := f12
  rw [ad_7] at f16
  have h16 : v_iv (n_v vs 8) = w_ei w2 (w_ar ws (n_v vs 0) 102) (v_iv (n_v vs 5)) := f16
  have g19 : v_iv (n_v vs 6) = w_fi w2 (n_v vs 0) 100 := congrArg v_iv f19
  rw [ar_0_2_2] at f20
  rw [ar_0_95_2] at f20
  rw [ar_0_102_2] at f20
  rw [ar_0_104_2] at f20
  rw [ar_0_108_2] at f20
  rw [ar_0_109_2] at f20
  rw [ar_0_102_2] at f21
  rw [ar_0_105_2] at f21
  rw [ar_0_106_2] at f21
  have fe_0_5_1 : w_fi ws (n_v vs 0) 5 = w_fi w1 (n_v vs 0) 5 := congrArg v_iv (s1.2 _ _)
  have fe_0_100_1 : w_fi ws (n_v vs 0) 100 = w_fi w1 (n_v vs 0) 100 := congrArg v_iv (s1.2 _ _)
  have fe_0_101_1 : w_fi ws (n_v vs 0) 101 = w_fi w1 (n_v vs 0) 101 := congrArg v_iv (s1.2 _ _)
  have fe_0_107_1 : w_fi ws (n_v vs 0) 107 = w_fi w1 (n_v vs 0) 107 := congrArg v_iv (s1.2 _ _)
  have fe_0_5_2 : w_fi w1 (n_v vs 0) 5 = w_fi w2 (n_v vs 0) 5 := congrArg v_iv (s2.2 _ _)
  have fe_0_100_2 : w_fi w1 (n_v vs 0) 100 = w_fi w2 (n_v vs 0) 100 := congrArg v_iv (s2.2 _ _)
  have fe_0_101_2 : w_fi w1 (n_v vs 0) 101 = w_fi w2 (n_v vs 0) 101 := congrArg v_iv (s2.2 _ _)
  have fe_0_107_2 : w_fi w1 (n_v vs 0) 107 = w_fi w2 (n_v vs 0) 107 := congrArg v_iv (s2.2 _ _)
  have hE_0_2_1 : ∀ j : Int, w_ei ws (w_ar ws (n_v vs 0) 2) j = w_ei w1 (w_ar ws (n_v vs 0) 2) j := fun j => by unfold w_ei; rw [s1.1, if_neg (fun e => by have e1 := e.1; rw [← e1] at r12; rw [cr_0_2] at r12; exact absurd (Option.some.inj r12) (by decide))]
  have hE_0_2_2 : ∀ j : Int, w_ei w1 (w_ar ws (n_v vs 0) 2) j = w_ei w2 (w_ar ws (n_v vs 0) 2) j := fun j => by unfold w_ei; rw [s2.1, if_neg (fun e => by have e1 := e.1; rw [← e1] at r9; rw [cr_0_2] at r9; exact absurd (Option.some.inj r9) (by decide))]
  have hE_0_95_1 : ∀ j : Int, w_ei ws (w_ar ws (n_v vs 0) 95) j = w_ei w1 (w_ar ws (n_v vs 0) 95) j := fun j => by unfold w_ei; rw [s1.1, if_neg (fun e => by have e1 := e.1; rw [← e1] at r12; rw [cr_0_95] at r12; exact absurd (Option.some.inj r12) (by decide))]
  have hE_0_95_2 : ∀ j : Int, w_ei w1 (w_ar ws (n_v vs 0) 95) j = w_ei w2 (w_ar ws (n_v vs 0) 95) j := fun j => by unfold w_ei; rw [s2.1, if_neg (fun e => by have e1 := e.1; rw [← e1] at r9; rw [cr_0_95] at r9; exact absurd (Option.some.inj r9) (by decide))]
  have hK_0_95 : ∀ j : Int, 0 ≤ j → j < 48 → 0 ≤ w_ei ws (w_ar ws (n_v vs 0) 95) j ∧ w_ei ws (w_ar ws (n_v vs 0) 95) j ≤ 1 := fun j h0 h1 => th_el hD hth cr_0_95 (kd := 2) (n := 48) (m := 48) (lo := 0) (hi := 1) (rs := []) (L := []) rfl (by decide) (j := j.toNat) (by omega)
  have hE_0_102_1 : ∀ j : Int, w_ei ws (w_ar ws (n_v vs 0) 102) j = w_ei w1 (w_ar ws (n_v vs 0) 102) j := fun j => by unfold w_ei; rw [s1.1, if_neg (fun e => by have e1 := e.1; rw [← e1] at r12; rw [cr_0_102] at r12; exact absurd (Option.some.inj r12) (by decide))]
  have hE_0_102_2 : ∀ j : Int, w_ei w1 (w_ar ws (n_v vs 0) 102) j = w_ei w2 (w_ar ws (n_v vs 0) 102) j := fun j => by unfold w_ei; rw [s2.1, if_neg (fun e => by have e1 := e.1; rw [← e1] at r9; rw [cr_0_102] at r9; exact absurd (Option.some.inj r9) (by decide))]
  have hK_0_102 : ∀ j : Int, 0 ≤ j → j < 76 → 0 ≤ w_ei ws (w_ar ws (n_v vs 0) 102) j ∧ w_ei ws (w_ar ws (n_v vs 0) 102) j ≤ 75 := fun j h0 h1 => th_el hD hth cr_0_102 (kd := 0) (n := 76) (m := 76) (lo := 0) (hi := 75) (rs := []) (L := []) rfl (by decide) (j := j.toNat) (by omega)
  have hE_0_104_1 : ∀ j : Int, w_ei ws (w_ar ws (n_v vs 0) 104) j = w_ei w1 (w_ar ws (n_v vs 0) 104) j := fun j => by unfold w_ei; rw [s1.1, if_neg (fun e => by have e1 := e.1; rw [← e1] at r12; rw [cr_0_104] at r12; exact absurd (Option.some.inj r12) (by decide))]
  have hE_0_104_2 : ∀ j : Int, w_ei w1 (w_ar ws (n_v vs 0) 104) j = w_ei w2 (w_ar ws (n_v vs 0) 104) j := fun j => by unfold w_ei; rw [s2.1, if_neg (fun e => by have e1 := e.1; rw [← e1] at r9; rw [cr_0_104] at r9; exact absurd (Option.some.inj r9) (by decide))]
  have hK_0_104 : ∀ j : Int, 0 ≤ j → j < 48 → 0 ≤ w_ei ws (w_ar ws (n_v vs 0) 104) j ∧ w_ei ws (w_ar ws (n_v vs 0) 104) j ≤ 76 := fun j h0 h1 => th_el hD hth cr_0_104 (kd := 0) (n := 48) (m := 48) (lo := 0) (hi := 76) (rs := []) (L := []) rfl (by decide) (j := j.toNat) (by omega)
  have hE_0_105_1 : ∀ j : Int, 0 ≤ j → (j = v_iv (n_v vs 4) → w_ei ws (w_ar ws (n_v vs 0) 105) j = v_iv (n_v vs 17)) ∧ (j ≠ v_iv (n_v vs 4) → w_ei ws (w_ar ws (n_v vs 0) 105) j = w_ei w1 (w_ar ws (n_v vs 0) 105) j) := fun j hj => ⟨fun h => by unfold w_ei; rw [s1.1, if_pos ⟨ad_12.symm, by rw [h]⟩], fun h => by unfold w_ei; rw [s1.1, if_neg (fun e => h (by have := e.2; omega))]⟩
  have hE_0_105_2 : ∀ j : Int, w_ei w1 (w_ar ws (n_v vs 0) 105) j = w_ei w2 (w_ar ws (n_v vs 0) 105) j := fun j => by unfold w_ei; rw [s2.1, if_neg (fun e => by have e1 := e.1; rw [← e1] at r9; rw [cr_0_105] at r9; exact absurd (Option.some.inj r9) (by decide))]
  have hK_0_105 : ∀ j : Int, 0 ≤ j → j < 76 → 0 ≤ w_ei ws (w_ar ws (n_v vs 0) 105) j ∧ w_ei ws (w_ar ws (n_v vs 0) 105) j ≤ 76 := fun j h0 h1 => th_el hD hth cr_0_105 (kd := 0) (n := 76) (m := 76) (lo := 0) (hi := 76) (rs := []) (L := []) rfl (by decide) (j := j.toNat) (by omega)
  have hE_0_106_1 : ∀ j : Int, w_ei ws (w_ar ws (n_v vs 0) 106) j = w_ei w1 (w_ar ws (n_v vs 0) 106) j := fun j => by unfold w_ei; rw [s1.1, if_neg (fun e => by have e1 := e.1; rw [← e1] at r12; rw [cr_0_106] at r12; exact absurd (Option.some.inj r12) (by decide))]
  have hE_0_106_2 : ∀ j : Int, 0 ≤ j → (j = v_iv (n_v vs 14) → w_ei w1 (w_ar ws (n_v vs 0) 106) j = v_iv (n_v vs 5)) ∧ (j ≠ v_iv (n_v vs 14) → w_ei w1 (w_ar ws (n_v vs 0) 106) j = w_ei w2 (w_ar ws (n_v vs 0) 106) j) := fun j hj => ⟨fun h => by unfold w_ei; rw [s2.1, if_pos ⟨ad_9.symm, by rw [h]⟩], fun h => by unfold w_ei; rw [s2.1, if_neg (fun e => h (by have := e.2; omega))]⟩
  have hK_0_106 : ∀ j : Int, 0 ≤ j → j < 5776 → 0 ≤ w_ei ws (w_ar ws (n_v vs 0) 106) j ∧ w_ei ws (w_ar ws (n_v vs 0) 106) j ≤ 75 := fun j h0 h1 => th_el hD hth cr_0_106 (kd := 0) (n := 5776) (m := 5776) (lo := 0) (hi := 75) (rs := []) (L := []) rfl (by decide) (j := j.toNat) (by omega)
  have hE_0_108_1 : ∀ j : Int, w_ei ws (w_ar ws (n_v vs 0) 108) j = w_ei w1 (w_ar ws (n_v vs 0) 108) j := fun j => by unfold w_ei; rw [s1.1, if_neg (fun e => by have e1 := e.1; rw [← e1] at r12; rw [cr_0_108] at r12; exact absurd (Option.some.inj r12) (by decide))]
  have hE_0_108_2 : ∀ j : Int, w_ei w1 (w_ar ws (n_v vs 0) 108) j = w_ei w2 (w_ar ws (n_v vs 0) 108) j := fun j => by unfold w_ei; rw [s2.1, if_neg (fun e => by have e1 := e.1; rw [← e1] at r9; rw [cr_0_108] at r9; exact absurd (Option.some.inj r9) (by decide))]
  have hK_0_108 : ∀ j : Int, 0 ≤ j → j < 130 → 0 ≤ w_ei ws (w_ar ws (n_v vs 0) 108) j ∧ w_ei ws (w_ar ws (n_v vs 0) 108) j ≤ 75 := fun j h0 h1 => th_el hD hth cr_0_108 (kd := 0) (n := 130) (m := 130) (lo := 0) (hi := 75) (rs := []) (L := []) rfl (by decide) (j := j.toNat) (by omega)
  have hE_0_109_1 : ∀ j : Int, w_ei ws (w_ar ws (n_v vs 0) 109) j = w_ei w1 (w_ar ws (n_v vs 0) 109) j := fun j => by unfold w_ei; rw [s1.1, if_neg (fun e => by have e1 := e.1; rw [← e1] at r12; rw [cr_0_109] at r12; exact absurd (Option.some.inj r12) (by decide))]
  have hE_0_109_2 : ∀ j : Int, w_ei w1 (w_ar ws (n_v vs 0) 109) j = w_ei w2 (w_ar ws (n_v vs 0) 109) j := fun j => by unfold w_ei; rw [s2.1, if_neg (fun e => by have e1 := e.1; rw [← e1] at r9; rw [cr_0_109] at r9; exact absurd (Option.some.inj r9) (by decide))]
  have hK_0_109 : ∀ j : Int, 0 ≤ j → j < 130 → 0 ≤ w_ei ws (w_ar ws (n_v vs 0) 109) j ∧ w_ei ws (w_ar ws (n_v vs 0) 109) j ≤ 75 := fun j h0 h1 => th_el hD hth cr_0_109 (kd := 0) (n := 130) (m := 130) (lo := 0) (hi := 75) (rs := []) (L := []) rfl (by decide) (j := j.toNat) (by omega)
  have kz_0_100 : 0 ≤ w_fi ws (n_v vs 0) 100 ∧ w_fi ws (n_v vs 0) 100 ≤ 76 := tv_rng (th_fd hD hth r0 (g := GG_150) rfl (k := 100) (t := (0, 0, 76, [])) rfl rfl)
  have kz_0_101 : 0 ≤ w_fi ws (n_v vs 0) 101 ∧ w_fi ws (n_v vs 0) 101 ≤ 76 := tv_rng (th_fd hD hth r0 (g := GG_150) rfl (k := 101) (t := (0, 0, 76, [])) rfl rfl)
  have kz_0_107 : 0 ≤ w_fi ws (n_v vs 0) 107 ∧ w_fi ws (n_v vs 0) 107 ≤ 130 := tv_rng (th_fd hD hth r0 (g := GG_150) rfl (k := 107) (t := (0, 0, 130, [])) rfl rfl)
  have nf0 : fc_1 PRD (20, [2, 4, 18], [60, 1, 3, 371, 100, 102, 105, 106]) ws (vs) := by
    refine ⟨fun n hn => ?_, ?_⟩
    · have hn : n ∈ [2, 4, 18] := hn
      rw [hl]
      simp only [List.mem_cons, List.not_mem_nil, or_false] at hn
      show n < 19; omega
    · show LLI (w_fi ws (n_v vs 2) 100) (w_ei ws (w_ar ws (n_v vs 2) 102)) (w_ei ws (w_ar ws (n_v vs 2) 105)) (w_ei ws (w_ar ws (n_v vs 2) 106)) (v_iv (n_v vs 4)) (v_iv (n_v vs 18))
      rw [q2]
      exact vc_Mo_list_18_0 (v_iv (n_v vs 4)) (v_iv (n_v vs 5)) (v_iv (n_v vs 6)) (v_iv (n_v vs 8)) (v_iv (n_v vs 10)) (v_iv (n_v vs 11)) (v_iv (n_v vs 13)) (v_iv (n_v vs 14)) (v_iv (n_v vs 15)) (v_iv (n_v vs 16)) (v_iv (n_v vs 17)) (v_iv (n_v vs 18)) (w_ei ws (w_ar ws (n_v vs 0) 2)) (w_ei ws (w_ar ws (n_v vs 0) 95)) (w_ei ws (w_ar ws (n_v vs 0) 102)) (w_ei ws (w_ar ws (n_v vs 0) 104)) (w_ei ws (w_ar ws (n_v vs 0) 108)) (w_ei ws (w_ar ws (n_v vs 0) 109)) (w_fi ws (n_v vs 0) 5) (w_fi ws (n_v vs 0) 100) (w_fi ws (n_v vs 0) 101) (w_fi ws (n_v vs 0) 107) (w_ei w1 (w_ar ws (n_v vs 0) 105)) (w_ei w1 (w_ar ws (n_v vs 0) 2)) (w_ei w1 (w_ar ws (n_v vs 0) 95)) (w_ei w1 (w_ar ws (n_v vs 0) 102)) (w_ei w1 (w_ar ws (n_v vs 0) 104)) (w_ei w1 (w_ar ws (n_v vs 0) 108)) (w_ei w1 (w_ar ws (n_v vs 0) 109)) (w_fi w1 (n_v vs 0) 5) (w_fi w1 (n_v vs 0) 100) (w_fi w1 (n_v vs 0) 101) (w_fi w1 (n_v vs 0) 107) (w_ei w2 (w_ar ws (n_v vs 0) 105)) (w_ei w2 (w_ar ws (n_v vs 0) 102)) (w_fi w2 (n_v vs 0) 100) (w_ei w2 (w_ar ws (n_v vs 0) 2)) (w_ei w2 (w_ar ws (n_v vs 0) 95)) (w_ei w2 (w_ar ws (n_v vs 0) 104)) (w_ei w2 (w_ar ws (n_v vs 0) 108)) (w_ei w2 (w_ar ws (n_v vs 0) 109)) (w_fi w2 (n_v vs 0) 5) (w_fi w2 (n_v vs 0) 101) (w_fi w2 (n_v vs 0) 107) (w_ei w2 (w_ar ws (n_v vs 0) 106)) (w_ei ws (w_ar ws (n_v vs 0) 105)) (w_ei ws (w_ar ws (n_v vs 0) 106)) (w_ei w1 (w_ar ws (n_v vs 0) 106)) k4 k5 k6 k8 k10 k11 k13 k14 k15 k16 k17 k18 d0 d1 d2 d3 d4 d5 d6 f0 f1 f2 f5 h6 f8 f9 f11 h12 f13 f15 h16 f18 g19 f20 f21 f22 fe_0_5_1 fe_0_100_1 fe_0_101_1 fe_0_107_1 fe_0_5_2 fe_0_100_2 fe_0_101_2 fe_0_107_2 hE_0_2_1 hE_0_2_2 hE_0_95_1 hE_0_95_2 hK_0_95 hE_0_102_1 hE_0_102_2 hK_0_102 hE_0_104_1 hE_0_104_2 hK_0_104 hE_0_105_1 hE_0_105_2 hK_0_105 hE_0_106_1 hE_0_106_2 hK_0_106 hE_0_108_1 hE_0_108_2 hK_0_108 hE_0_109_1 hE_0_109_2 hK_0_109 kz_0_100 kz_0_101 kz_0_107
  have nf1 : fc_1 PRD (20, [4, 2, 18], [50, 2, 0, 1101, 1100, 2, 11, 0, 6, 4, 2, 1, 0, 0, 1, 2, 1, 101, 0, 2, 1, 2, 2, 1, 100]) ws (vs) := by
    refine ⟨fun n hn => ?_, ?_⟩
    · have hn : n ∈ [4, 2, 18] := hn
      rw [hl]
      simp only [List.mem_cons, List.not_mem_nil, or_false] at hn
      show n < 19; omega
    · show ((v_iv (n_v vs 4) + 1) ≤ w_fi ws (n_v vs 2) 101) ∧ (v_iv (n_v vs 18) ≤ w_fi ws (n_v vs 2) 100)
      rw [q2]
      exact vc_Mo_list_18_1 (v_iv (n_v vs 4)) (v_iv (n_v vs 5)) (v_iv (n_v vs 6)) (v_iv (n_v vs 8)) (v_iv (n_v vs 10)) (v_iv (n_v vs 11)) (v_iv (n_v vs 13)) (v_iv (n_v vs 14)) (v_iv (n_v vs 15)) (v_iv (n_v vs 16)) (v_iv (n_v vs 17)) (v_iv (n_v vs 18)) (w_ei ws (w_ar ws (n_v vs 0) 2)) (w_ei ws (w_ar ws (n_v vs 0) 95)) (w_ei ws (w_ar ws (n_v vs 0) 102)) (w_ei ws (w_ar ws (n_v vs 0) 104)) (w_ei ws (w_ar ws (n_v vs 0) 108)) (w_ei ws (w_ar ws (n_v vs 0) 109)) (w_fi ws (n_v vs 0) 5) (w_fi ws (n_v vs 0) 100) (w_fi ws (n_v vs 0) 101) (w_fi ws (n_v vs 0) 107) (w_ei w1 (w_ar ws (n_v vs 0) 105)) (w_ei w1 (w_ar ws (n_v vs 0) 2)) (w_ei w1 (w_ar ws (n_v vs 0) 95)) (w_ei w1 (w_ar ws (n_v vs 0) 102)) (w_ei w1 (w_ar ws (n_v vs 0) 104)) (w_ei w1 (w_ar ws (n_v vs 0) 108)) (w_ei w1 (w_ar ws (n_v vs 0) 109)) (w_fi w1 (n_v vs 0) 5) (w_fi w1 (n_v vs 0) 100) (w_fi w1 (n_v vs 0) 101) (w_fi w1 (n_v vs 0) 107) (w_ei w2 (w_ar ws (n_v vs 0) 105)) (w_ei w2 (w_ar ws (n_v vs 0) 102)) (w_fi w2 (n_v vs 0) 100) (w_ei w2 (w_ar ws (n_v vs 0) 2)) (w_ei w2 (w_ar ws (n_v vs 0) 95)) (w_ei w2 (w_ar ws (n_v vs 0) 104)) (w_ei w2 (w_ar ws (n_v vs 0) 108)) (w_ei w2 (w_ar ws (n_v vs 0) 109)) (w_fi w2 (n_v vs 0) 5) (w_fi w2 (n_v vs 0) 101) (w_fi w2 (n_v vs 0) 107) (w_ei w2 (w_ar ws (n_v vs 0) 106)) (w_ei ws (w_ar ws (n_v vs 0) 105)) (w_ei ws (w_ar ws (n_v vs 0) 106)) (w_ei w1 (w_ar ws (n_v vs 0) 106)) k4 k5 k6 k8 k10 k11 k13 k14 k15 k16 k17 k18 d0 d1 d2 d3 d4 d5 d6 f0 f1 f2 f5 h6 f8 f9 f11 h12 f13 f15 h16 f18 g19 f20 f21 f22 fe_0_5_1 fe_0_100_1 fe_0_101_1 fe_0_107_1 fe_0_5_2 fe_0_100_2 fe_0_101_2 fe_0_107_2 hE_0_2_1 hE_0_2_2 hE_0_95_1 hE_0_95_2 hK_0_95 hE_0_102_1 hE_0_102_2 hK_0_102 hE_0_104_1 hE_0_104_2 hK_0_104 hE_0_105_1 hE_0_105_2 hK_0_105 hE_0_106_1 hE_0_106_2 hK_0_106 hE_0_108_1 hE_0_108_2 hK_0_108 hE_0_109_1 hE_0_109_2 hK_0_109 kz_0_100 kz_0_101 kz_0_107
  refine ⟨(fun _ h => (by cases h)), [], trivial, ?_, (fun _ h => (by cases h))⟩
  rw [List.append_nil]
  exact List.forall_mem_cons.mpr ⟨⟨show (20 : Nat) < 100 from by decide, nf0⟩, List.forall_mem_cons.mpr ⟨⟨show (20 : Nat) < 100 from by decide, nf1⟩, (fun _ h => (by cases h))⟩⟩
set_option maxHeartbeats 4000000 in
theorem vc_Mo_list_19_0 (x4 : Int) (x5 : Int) (x6 : Int) (x8 : Int) (x9 : Int) (itemLayer_0 : Int → Int) (items_0 : Int) (all_0 : Int → Int) (turned_0 : Int → Int) (firstJoint_0 : Int → Int) (lineA_0 : Int → Int) (lineB_0 : Int → Int) (r_0 : Int) (layerMany_0 : Int) (lines_0 : Int) (layerSize_0 : Int → Int) (layerItem_0 : Int → Int) (k4 : 0 ≤ x4 ∧ x4 ≤ 23) (k5 : 0 ≤ x5 ∧ x5 ≤ 75) (k6 : 1 ≤ x6 ∧ x6 ≤ 76) (k8 : 0 ≤ x8 ∧ x8 ≤ 75) (k9 : 1 ≤ x9 ∧ x9 ≤ 76) (d0 : x5 + 1 ≤ x9 ∧ x9 ≤ x5 + 1) (d1 : x6 + (-4294967296) ≤ x9 ∧ x9 ≤ x6 + 0) (d2 : x6 + (-4294967296) ≤ x5 ∧ x5 ≤ x6 + (-1)) (f0 : x9 = x5 + 1) (f1 : x8 ≠ x4) (h2 : x8 = itemLayer_0 (x5)) (f4 : x5 < x6) (g5 : x6 = items_0) (f6 : LSA (r_0) (items_0) (layerMany_0) (lines_0) (all_0) (turned_0) (itemLayer_0) (firstJoint_0) (lineA_0) (lineB_0)) (f7 : LLI (items_0) (itemLayer_0) (layerSize_0) (layerItem_0) (x4) (x5)) (f8 : ((x4 + 1) ≤ layerMany_0) ∧ (x5 ≤ items_0)) (hK_0_95 : ∀ j : Int, 0 ≤ j → j < 48 → 0 ≤ turned_0 j ∧ turned_0 j ≤ 1) (hK_0_102 : ∀ j : Int, 0 ≤ j → j < 76 → 0 ≤ itemLayer_0 j ∧ itemLayer_0 j ≤ 75) (hK_0_104 : ∀ j : Int, 0 ≤ j → j < 48 → 0 ≤ firstJoint_0 j ∧ firstJoint_0 j ≤ 76) (hK_0_105 : ∀ j : Int, 0 ≤ j → j < 76 → 0 ≤ layerSize_0 j ∧ layerSize_0 j ≤ 76) (hK_0_106 : ∀ j : Int, 0 ≤ j → j < 5776 → 0 ≤ layerItem_0 j ∧ layerItem_0 j ≤ 75) (hK_0_108 : ∀ j : Int, 0 ≤ j → j < 130 → 0 ≤ lineA_0 j ∧ lineA_0 j ≤ 75) (hK_0_109 : ∀ j : Int, 0 ≤ j → j < 130 → 0 ≤ lineB_0 j ∧ lineB_0 j ≤ 75) (kz_0_100 : 0 ≤ items_0 ∧ items_0 ≤ 76) (kz_0_101 : 0 ≤ layerMany_0 ∧ layerMany_0 ≤ 76) (kz_0_107 : 0 ≤ lines_0 ∧ lines_0 ≤ 130) : LLI (items_0) (itemLayer_0) (layerSize_0) (layerItem_0) (x4) (x9) := by
  first
    | exact lli_start ‹LLS _ _ _ _ _› (by omega) ‹LSA _ _ _ _ _ _ _ _ _ _›.2.1.2.1 (by assumption) rfl (by omega) (by omega)
    | exact lli_skip ‹LLI _ _ _ _ _ _› (by assumption) (by assumption) (by omega)
    | exact lli_take (v := x8) (q := x14) (x := x17) ‹LLI _ _ _ _ _ _› (by omega) (by assumption) (by assumption) (by omega) (by assumption) (by omega) rfl (by assumption) rfl (by omega)
set_option maxHeartbeats 4000000 in
theorem vc_Mo_list_19_1 (x4 : Int) (x5 : Int) (x6 : Int) (x8 : Int) (x9 : Int) (itemLayer_0 : Int → Int) (items_0 : Int) (all_0 : Int → Int) (turned_0 : Int → Int) (firstJoint_0 : Int → Int) (lineA_0 : Int → Int) (lineB_0 : Int → Int) (r_0 : Int) (layerMany_0 : Int) (lines_0 : Int) (layerSize_0 : Int → Int) (layerItem_0 : Int → Int) (k4 : 0 ≤ x4 ∧ x4 ≤ 23) (k5 : 0 ≤ x5 ∧ x5 ≤ 75) (k6 : 1 ≤ x6 ∧ x6 ≤ 76) (k8 : 0 ≤ x8 ∧ x8 ≤ 75) (k9 : 1 ≤ x9 ∧ x9 ≤ 76) (d0 : x5 + 1 ≤ x9 ∧ x9 ≤ x5 + 1) (d1 : x6 + (-4294967296) ≤ x9 ∧ x9 ≤ x6 + 0) (d2 : x6 + (-4294967296) ≤ x5 ∧ x5 ≤ x6 + (-1)) (f0 : x9 = x5 + 1) (f1 : x8 ≠ x4) (h2 : x8 = itemLayer_0 (x5)) (f4 : x5 < x6) (g5 : x6 = items_0) (f6 : LSA (r_0) (items_0) (layerMany_0) (lines_0) (all_0) (turned_0) (itemLayer_0) (firstJoint_0) (lineA_0) (lineB_0)) (f7 : LLI (items_0) (itemLayer_0) (layerSize_0) (layerItem_0) (x4) (x5)) (f8 : ((x4 + 1) ≤ layerMany_0) ∧ (x5 ≤ items_0)) (hK_0_95 : ∀ j : Int, 0 ≤ j → j < 48 → 0 ≤ turned_0 j ∧ turned_0 j ≤ 1) (hK_0_102 : ∀ j : Int, 0 ≤ j → j < 76 → 0 ≤ itemLayer_0 j ∧ itemLayer_0 j ≤ 75) (hK_0_104 : ∀ j : Int, 0 ≤ j → j < 48 → 0 ≤ firstJoint_0 j ∧ firstJoint_0 j ≤ 76) (hK_0_105 : ∀ j : Int, 0 ≤ j → j < 76 → 0 ≤ layerSize_0 j ∧ layerSize_0 j ≤ 76) (hK_0_106 : ∀ j : Int, 0 ≤ j → j < 5776 → 0 ≤ layerItem_0 j ∧ layerItem_0 j ≤ 75) (hK_0_108 : ∀ j : Int, 0 ≤ j → j < 130 → 0 ≤ lineA_0 j ∧ lineA_0 j ≤ 75) (hK_0_109 : ∀ j : Int, 0 ≤ j → j < 130 → 0 ≤ lineB_0 j ∧ lineB_0 j ≤ 75) (kz_0_100 : 0 ≤ items_0 ∧ items_0 ≤ 76) (kz_0_101 : 0 ≤ layerMany_0 ∧ layerMany_0 ≤ 76) (kz_0_107 : 0 ≤ lines_0 ∧ lines_0 ≤ 130) : ((x4 + 1) ≤ layerMany_0) ∧ (x9 ≤ items_0) := by
  try simp only [Int.add_zero] at *
  first
    | omega
    | (have h := lid_bd ‹LID _ _ _ _ _ _ _ _ _›; omega)
    | (have h := ‹LYJ _ _ _ _›.1.1.1; omega)
    | (have h := (lic_bd ‹LIC _ _ _ _ _ _ _›).1; omega)
    | (have h := (lic_bd ‹LIF _ _ _ _ _ _›).1; omega)
    | (have h := ‹LSA _ _ _ _ _ _ _ _ _ _›.2.1; omega)
    | (have h := lli_bd ‹LLI _ _ _ _ _ _›; have h2 := ‹LSA _ _ _ _ _ _ _ _ _ _›.2.1; omega)
def o_Mo_list_19 : or_T := (191, 10, [(0, (2, 0, 0, [150])), (2, (2, 0, 0, [150])), (4, (0, 0, 23, [])), (5, (0, 0, 75, [])), (6, (0, 1, 76, [])), (7, (2, 0, 0, [220])), (8, (0, 0, 75, [])), (9, (0, 1, 76, []))], [(6, [9, 5], [1]), (7, [8, 4], [1]), (10, [8, 7, 5], []), (9, [7, 2], [102]), (7, [5, 6], [2]), (9, [6, 2], [100]), (20, [2], [60, 4, 6, 369, 5, 100, 101, 107, 2, 95, 102, 104, 108, 109]), (20, [2, 4, 5], [60, 1, 3, 371, 100, 102, 105, 106]), (20, [4, 2, 5], [50, 2, 0, 1101, 1100, 2, 11, 0, 6, 4, 2, 1, 0, 0, 1, 2, 1, 101, 0, 2, 1, 2, 2, 1, 100]), (24, [0, 2], [])], [], [], [(20, [2, 4, 9], [60, 1, 3, 371, 100, 102, 105, 106]), (20, [4, 2, 9], [50, 2, 0, 1101, 1100, 2, 11, 0, 6, 4, 2, 1, 0, 0, 1, 2, 1, 101, 0, 2, 1, 2, 2, 1, 100])], [], [(9, 5, 1, 1), (9, 6, -4294967296, 0), (5, 6, -4294967296, -1)])
theorem oo_Mo_list_19 {kA : Nat → ClassId} : or_ok PRD kA GG o_Mo_list_19 := by
  intro A ta ws vs hD hth hl hk hds hf
  have hl : vs.length = 10 := hl
  have hk : ∀ q ∈ ([(0, (2, 0, 0, [150])), (2, (2, 0, 0, [150])), (4, (0, 0, 23, [])), (5, (0, 0, 75, [])), (6, (0, 1, 76, [])), (7, (2, 0, 0, [220])), (8, (0, 0, 75, [])), (9, (0, 1, 76, []))] : List (Nat × tv_T)), tv_ok ta q.2 (n_v vs q.1) := hk
  obtain ⟨t0, hk⟩ := List.forall_mem_cons.mp hk
  have t0 : tv_ok ta (2, 0, 0, [150]) (n_v vs 0) := t0
  have r0 : ta (v_ad (n_v vs 0)) = some 150 := tv_rg t0
  obtain ⟨t2, hk⟩ := List.forall_mem_cons.mp hk
  have t2 : tv_ok ta (2, 0, 0, [150]) (n_v vs 2) := t2
  have r2 : ta (v_ad (n_v vs 2)) = some 150 := tv_rg t2
  obtain ⟨t4, hk⟩ := List.forall_mem_cons.mp hk
  have t4 : tv_ok ta (0, 0, 23, []) (n_v vs 4) := t4
  have k4 : 0 ≤ v_iv (n_v vs 4) ∧ v_iv (n_v vs 4) ≤ 23 := tv_rng t4
  obtain ⟨t5, hk⟩ := List.forall_mem_cons.mp hk
  have t5 : tv_ok ta (0, 0, 75, []) (n_v vs 5) := t5
  have k5 : 0 ≤ v_iv (n_v vs 5) ∧ v_iv (n_v vs 5) ≤ 75 := tv_rng t5
  obtain ⟨t6, hk⟩ := List.forall_mem_cons.mp hk
  have t6 : tv_ok ta (0, 1, 76, []) (n_v vs 6) := t6
  have k6 : 1 ≤ v_iv (n_v vs 6) ∧ v_iv (n_v vs 6) ≤ 76 := tv_rng t6
  obtain ⟨t7, hk⟩ := List.forall_mem_cons.mp hk
  have t7 : tv_ok ta (2, 0, 0, [220]) (n_v vs 7) := t7
  have r7 : ta (v_ad (n_v vs 7)) = some 220 := tv_rg t7
  obtain ⟨t8, hk⟩ := List.forall_mem_cons.mp hk
  have t8 : tv_ok ta (0, 0, 75, []) (n_v vs 8) := t8
  have k8 : 0 ≤ v_iv (n_v vs 8) ∧ v_iv (n_v vs 8) ≤ 75 := tv_rng t8
  obtain ⟨t9, hk⟩ := List.forall_mem_cons.mp hk
  have t9 : tv_ok ta (0, 1, 76, []) (n_v vs 9) := t9
  have k9 : 1 ≤ v_iv (n_v vs 9) ∧ v_iv (n_v vs 9) ≤ 76 := tv_rng t9
  have hds : ∀ q ∈ ([(9, 5, 1, 1), (9, 6, -4294967296, 0), (5, 6, -4294967296, -1)] : List of_T), n_iv vs q.2.1 + q.2.2.1 ≤ n_iv vs q.1 ∧ n_iv vs q.1 ≤ n_iv vs q.2.1 + q.2.2.2 := hds
  obtain ⟨d0, hds⟩ := List.forall_mem_cons.mp hds
  have d0 : v_iv (n_v vs 5) + 1 ≤ v_iv (n_v vs 9) ∧ v_iv (n_v vs 9) ≤ v_iv (n_v vs 5) + 1 := d0
  obtain ⟨d1, hds⟩ := List.forall_mem_cons.mp hds
  have d1 : v_iv (n_v vs 6) + (-4294967296) ≤ v_iv (n_v vs 9) ∧ v_iv (n_v vs 9) ≤ v_iv (n_v vs 6) + 0 := d1
  obtain ⟨d2, hds⟩ := List.forall_mem_cons.mp hds
  have d2 : v_iv (n_v vs 6) + (-4294967296) ≤ v_iv (n_v vs 5) ∧ v_iv (n_v vs 5) ≤ v_iv (n_v vs 6) + (-1) := d2
  have hf : fc_ok PRD [(6, [9, 5], [1]), (7, [8, 4], [1]), (10, [8, 7, 5], []), (9, [7, 2], [102]), (7, [5, 6], [2]), (9, [6, 2], [100]), (20, [2], [60, 4, 6, 369, 5, 100, 101, 107, 2, 95, 102, 104, 108, 109]), (20, [2, 4, 5], [60, 1, 3, 371, 100, 102, 105, 106]), (20, [4, 2, 5], [50, 2, 0, 1101, 1100, 2, 11, 0, 6, 4, 2, 1, 0, 0, 1, 2, 1, 101, 0, 2, 1, 2, 2, 1, 100]), (24, [0, 2], [])] ta ws vs := hf
  obtain ⟨f0, hf⟩ := fc_un (show (6 : Nat) < 100 from by decide) hf
  have f0 : v_iv (n_v vs 9) = v_iv (n_v vs 5) + 1 := f0
  obtain ⟨f1, hf⟩ := fc_un (show (7 : Nat) < 100 from by decide) hf
  have f1 : v_iv (n_v vs 8) ≠ v_iv (n_v vs 4) := f1
  obtain ⟨f2, hf⟩ := fc_un (show (10 : Nat) < 100 from by decide) hf
  have f2 : v_iv (n_v vs 8) = w_el ws (v_ad (n_v vs 7)) (v_iv (n_v vs 5)).toNat := f2
  obtain ⟨f3, hf⟩ := fc_un (show (9 : Nat) < 100 from by decide) hf
  have f3 : n_v vs 7 = w_fd ws (v_ad (n_v vs 2)) 102 := f3
  obtain ⟨f4, hf⟩ := fc_un (show (7 : Nat) < 100 from by decide) hf
  have f4 : v_iv (n_v vs 5) < v_iv (n_v vs 6) := f4
  obtain ⟨f5, hf⟩ := fc_un (show (9 : Nat) < 100 from by decide) hf
  have f5 : n_v vs 6 = w_fd ws (v_ad (n_v vs 2)) 100 := f5
  obtain ⟨f6, hf⟩ := fc_un (show (20 : Nat) < 100 from by decide) hf
  have f6 : LSA (w_fi ws (n_v vs 2) 5) (w_fi ws (n_v vs 2) 100) (w_fi ws (n_v vs 2) 101) (w_fi ws (n_v vs 2) 107) (w_ei ws (w_ar ws (n_v vs 2) 2)) (w_ei ws (w_ar ws (n_v vs 2) 95)) (w_ei ws (w_ar ws (n_v vs 2) 102)) (w_ei ws (w_ar ws (n_v vs 2) 104)) (w_ei ws (w_ar ws (n_v vs 2) 108)) (w_ei ws (w_ar ws (n_v vs 2) 109)) := f6
  obtain ⟨f7, hf⟩ := fc_un (show (20 : Nat) < 100 from by decide) hf
  have f7 : LLI (w_fi ws (n_v vs 2) 100) (w_ei ws (w_ar ws (n_v vs 2) 102)) (w_ei ws (w_ar ws (n_v vs 2) 105)) (w_ei ws (w_ar ws (n_v vs 2) 106)) (v_iv (n_v vs 4)) (v_iv (n_v vs 5)) := f7
  obtain ⟨f8, hf⟩ := fc_un (show (20 : Nat) < 100 from by decide) hf
  have f8 : ((v_iv (n_v vs 4) + 1) ≤ w_fi ws (n_v vs 2) 101) ∧ (v_iv (n_v vs 5) ≤ w_fi ws (n_v vs 2) 100) := f8
  obtain ⟨f9, hf⟩ := fc_un (show (24 : Nat) < 100 from by decide) hf
  have f9 : n_v vs 0 = n_v vs 2 := f9
  have q2 : n_v vs 2 = n_v vs 0 := f9.symm
  rw [q2] at f3
  rw [q2] at f5
  rw [q2] at f6
  rw [q2] at f7
  rw [q2] at f8
  have cr_0_2 : ta (w_ar ws (n_v vs 0) 2) = some 152 := tv_rg (th_fd hD hth r0 (g := GG_150) rfl (k := 2) (t := (2, 0, 0, [152])) rfl rfl)
  have cr_0_95 : ta (w_ar ws (n_v vs 0) 95) = some 216 := tv_rg (th_fd hD hth r0 (g := GG_150) rfl (k := 95) (t := (2, 0, 0, [216])) rfl rfl)
  have cr_0_102 : ta (w_ar ws (n_v vs 0) 102) = some 220 := tv_rg (th_fd hD hth r0 (g := GG_150) rfl (k := 102) (t := (2, 0, 0, [220])) rfl rfl)
  have cr_0_104 : ta (w_ar ws (n_v vs 0) 104) = some 222 := tv_rg (th_fd hD hth r0 (g := GG_150) rfl (k := 104) (t := (2, 0, 0, [222])) rfl rfl)
  have cr_0_105 : ta (w_ar ws (n_v vs 0) 105) = some 223 := tv_rg (th_fd hD hth r0 (g := GG_150) rfl (k := 105) (t := (2, 0, 0, [223])) rfl rfl)
  have cr_0_106 : ta (w_ar ws (n_v vs 0) 106) = some 224 := tv_rg (th_fd hD hth r0 (g := GG_150) rfl (k := 106) (t := (2, 0, 0, [224])) rfl rfl)
  have cr_0_108 : ta (w_ar ws (n_v vs 0) 108) = some 225 := tv_rg (th_fd hD hth r0 (g := GG_150) rfl (k := 108) (t := (2, 0, 0, [225])) rfl rfl)
  have cr_0_109 : ta (w_ar ws (n_v vs 0) 109) = some 226 := tv_rg (th_fd hD hth r0 (g := GG_150) rfl (k := 109) (t := (2, 0, 0, [226])) rfl rfl)
  have ad_7 : v_ad (n_v vs 7) = w_ar ws (n_v vs 0) 102 := congrArg v_ad f3
  rw [ad_7] at f2
  have h2 : v_iv (n_v vs 8) = w_ei ws (w_ar ws (n_v vs 0) 102) (v_iv (n_v vs 5)) := f2
  have g5 : v_iv (n_v vs 6) = w_fi ws (n_v vs 0) 100 := congrArg v_iv f5
  have hK_0_95 : ∀ j : Int, 0 ≤ j → j < 48 → 0 ≤ w_ei ws (w_ar ws (n_v vs 0) 95) j ∧ w_ei ws (w_ar ws (n_v vs 0) 95) j ≤ 1 := fun j h0 h1 => th_el hD hth cr_0_95 (kd := 2) (n := 48) (m := 48) (lo := 0) (hi := 1) (rs := []) (L := []) rfl (by decide) (j := j.toNat) (by omega)
  have hK_0_102 : ∀ j : Int, 0 ≤ j → j < 76 → 0 ≤ w_ei ws (w_ar ws (n_v vs 0) 102) j ∧ w_ei ws (w_ar ws (n_v vs 0) 102) j ≤ 75 := fun j h0 h1 => th_el hD hth cr_0_102 (kd := 0) (n := 76) (m := 76) (lo := 0) (hi := 75) (rs := []) (L := []) rfl (by decide) (j := j.toNat) (by omega)
  have hK_0_104 : ∀ j : Int, 0 ≤ j → j < 48 → 0 ≤ w_ei ws (w_ar ws (n_v vs 0) 104) j ∧ w_ei ws (w_ar ws (n_v vs 0) 104) j ≤ 76 := fun j h0 h1 => th_el hD hth cr_0_104 (kd := 0) (n := 48) (m := 48) (lo := 0) (hi := 76) (rs := []) (L := []) rfl (by decide) (j := j.toNat) (by omega)
  have hK_0_105 : ∀ j : Int, 0 ≤ j → j < 76 → 0 ≤ w_ei ws (w_ar ws (n_v vs 0) 105) j ∧ w_ei ws (w_ar ws (n_v vs 0) 105) j ≤ 76 := fun j h0 h1 => th_el hD hth cr_0_105 (kd := 0) (n := 76) (m := 76) (lo := 0) (hi := 76) (rs := []) (L := []) rfl (by decide) (j := j.toNat) (by omega)
  have hK_0_106 : ∀ j : Int, 0 ≤ j → j < 5776 → 0 ≤ w_ei ws (w_ar ws (n_v vs 0) 106) j ∧ w_ei ws (w_ar ws (n_v vs 0) 106) j ≤ 75 := fun j h0 h1 => th_el hD hth cr_0_106 (kd := 0) (n := 5776) (m := 5776) (lo := 0) (hi := 75) (rs := []) (L := []) rfl (by decide) (j := j.toNat) (by omega)
  have hK_0_108 : ∀ j : Int, 0 ≤ j → j < 130 → 0 ≤ w_ei ws (w_ar ws (n_v vs 0) 108) j ∧ w_ei ws (w_ar ws (n_v vs 0) 108) j ≤ 75 := fun j h0 h1 => th_el hD hth cr_0_108 (kd := 0) (n := 130) (m := 130) (lo := 0) (hi := 75) (rs := []) (L := []) rfl (by decide) (j := j.toNat) (by omega)
  have hK_0_109 : ∀ j : Int, 0 ≤ j → j < 130 → 0 ≤ w_ei ws (w_ar ws (n_v vs 0) 109) j ∧ w_ei ws (w_ar ws (n_v vs 0) 109) j ≤ 75 := fun j h0 h1 => th_el hD hth cr_0_109 (kd := 0) (n := 130) (m := 130) (lo := 0) (hi := 75) (rs := []) (L := []) rfl (by decide) (j := j.toNat) (by omega)
  have kz_0_100 : 0 ≤ w_fi ws (n_v vs 0) 100 ∧ w_fi ws (n_v vs 0) 100 ≤ 76 := tv_rng (th_fd hD hth r0 (g := GG_150) rfl (k := 100) (t := (0, 0, 76, [])) rfl rfl)
  have kz_0_101 : 0 ≤ w_fi ws (n_v vs 0) 101 ∧ w_fi ws (n_v vs 0) 101 ≤ 76 := tv_rng (th_fd hD hth r0 (g := GG_150) rfl (k := 101) (t := (0, 0, 76, [])) rfl rfl)
  have kz_0_107 : 0 ≤ w_fi ws (n_v vs 0) 107 ∧ w_fi ws (n_v vs 0) 107 ≤ 130 := tv_rng (th_fd hD hth r0 (g := GG_150) rfl (k := 107) (t := (0, 0, 130, [])) rfl rfl)
  have nf0 : fc_1 PRD (20, [2, 4, 9], [60, 1, 3, 371, 100, 102, 105, 106]) ws (vs) := by
    refine ⟨fun n hn => ?_, ?_⟩
    · have hn : n ∈ [2, 4, 9] := hn
      rw [hl]
      simp only [List.mem_cons, List.not_mem_nil, or_false] at hn
      show n < 10; omega
    · show LLI (w_fi ws (n_v vs 2) 100) (w_ei ws (w_ar ws (n_v vs 2) 102)) (w_ei ws (w_ar ws (n_v vs 2) 105)) (w_ei ws (w_ar ws (n_v vs 2) 106)) (v_iv (n_v vs 4)) (v_iv (n_v vs 9))
      rw [q2]
      exact vc_Mo_list_19_0 (v_iv (n_v vs 4)) (v_iv (n_v vs 5)) (v_iv (n_v vs 6)) (v_iv (n_v vs 8)) (v_iv (n_v vs 9)) (w_ei ws (w_ar ws (n_v vs 0) 102)) (w_fi ws (n_v vs 0) 100) (w_ei ws (w_ar ws (n_v vs 0) 2)) (w_ei ws (w_ar ws (n_v vs 0) 95)) (w_ei ws (w_ar ws (n_v vs 0) 104)) (w_ei ws (w_ar ws (n_v vs 0) 108)) (w_ei ws (w_ar ws (n_v vs 0) 109)) (w_fi ws (n_v vs 0) 5) (w_fi ws (n_v vs 0) 101) (w_fi ws (n_v vs 0) 107) (w_ei ws (w_ar ws (n_v vs 0) 105)) (w_ei ws (w_ar ws (n_v vs 0) 106)) k4 k5 k6 k8 k9 d0 d1 d2 f0 f1 h2 f4 g5 f6 f7 f8 hK_0_95 hK_0_102 hK_0_104 hK_0_105 hK_0_106 hK_0_108 hK_0_109 kz_0_100 kz_0_101 kz_0_107
  have nf1 : fc_1 PRD (20, [4, 2, 9], [50, 2, 0, 1101, 1100, 2, 11, 0, 6, 4, 2, 1, 0, 0, 1, 2, 1, 101, 0, 2, 1, 2, 2, 1, 100]) ws (vs) := by
    refine ⟨fun n hn => ?_, ?_⟩
    · have hn : n ∈ [4, 2, 9] := hn
      rw [hl]
      simp only [List.mem_cons, List.not_mem_nil, or_false] at hn
      show n < 10; omega
    · show ((v_iv (n_v vs 4) + 1) ≤ w_fi ws (n_v vs 2) 101) ∧ (v_iv (n_v vs 9) ≤ w_fi ws (n_v vs 2) 100)
      rw [q2]
      exact vc_Mo_list_19_1 (v_iv (n_v vs 4)) (v_iv (n_v vs 5)) (v_iv (n_v vs 6)) (v_iv (n_v vs 8)) (v_iv (n_v vs 9)) (w_ei ws (w_ar ws (n_v vs 0) 102)) (w_fi ws (n_v vs 0) 100) (w_ei ws (w_ar ws (n_v vs 0) 2)) (w_ei ws (w_ar ws (n_v vs 0) 95)) (w_ei ws (w_ar ws (n_v vs 0) 104)) (w_ei ws (w_ar ws (n_v vs 0) 108)) (w_ei ws (w_ar ws (n_v vs 0) 109)) (w_fi ws (n_v vs 0) 5) (w_fi ws (n_v vs 0) 101) (w_fi ws (n_v vs 0) 107) (w_ei ws (w_ar ws (n_v vs 0) 105)) (w_ei ws (w_ar ws (n_v vs 0) 106)) k4 k5 k6 k8 k9 d0 d1 d2 f0 f1 h2 f4 g5 f6 f7 f8 hK_0_95 hK_0_102 hK_0_104 hK_0_105 hK_0_106 hK_0_108 hK_0_109 kz_0_100 kz_0_101 kz_0_107
  refine ⟨(fun _ h => (by cases h)), [], trivial, ?_, (fun _ h => (by cases h))⟩
  rw [List.append_nil]
  exact List.forall_mem_cons.mpr ⟨⟨show (20 : Nat) < 100 from by decide, nf0⟩, List.forall_mem_cons.mpr ⟨⟨show (20 : Nat) < 100 from by decide, nf1⟩, (fun _ h => (by cases h))⟩⟩
def n_Mo_list_an : List an_T := [(12, [(0, (2, 0, 0, [150])), (1, (0, 0, 24, [])), (2, (0, 0, 48, []))], [], (0, 0), [(0, 0, 99988), (1, 4, 48), (0, 0, 100000), (0, 0, 0), (0, 0, 0)], [(1, 3, -1000000000000, 0), (1, 4, -1000000000000, 24), (1, 5, -1000000000000, 0), (3, 1, -1000000000000, 0), (3, 4, -1000000000000, 24), (3, 5, -1000000000000, 0)], [((0, 100), (0, 0, 75, []))], [(2, 0, 0, [150]), (0, 0, 24, [])], 0, [], [(20, [2, 4], [60, 2, 4, 365, 5, 100, 2, 95, 102, 104]), (20, [2], [60, 3, 4, 363, 5, 107, 100, 2, 102, 108, 109]), (20, [2, 4], [50, 3, 1, 107, 100, 5, 2, 1, 3, 2, 0, 107, 4, 11, 5, 3, 2, 0, 100, 3, 0, 2, 2, 0, 5, 1, 1]), (20, [4, 2], [50, 1, 1, 1005, 1002, 0, 2, 1, 0, 3, 1, 2, 4, 3, 2, 1, 5, 0, 1]), (20, [2], [50, 1, 1, 5, 2, 0, 2, 0, 0, 3, 0, 2, 2, 0, 5]), (24, [0, 2], [])]), (50, [(0, (2, 0, 0, [150])), (1, (0, 0, 24, [])), (2, (0, 0, 47, [])), (3, (0, 0, 74, [])), (4, (0, 1, 76, []))], [], (0, 0), [(0, 0, 99988), (1, 4, 48), (0, 0, 99950), (1, 6, 76), (0, 0, 100000)], [(1, 3, -1000000000000, 0), (1, 4, -1000000000000, 24), (1, 5, -1000000000000, 24), (1, 6, -1000000000000, 23), (1, 7, -1000000000000, 0), (3, 1, -1000000000000, 0), (3, 4, -1000000000000, 24), (3, 5, -1000000000000, 24), (3, 6, -1000000000000, 23), (3, 7, -1000000000000, 0), (5, 7, -1000000000000, 23), (6, 1, -1000000000000, 76), (6, 3, -1000000000000, 76), (6, 4, -1000000000000, 76), (6, 5, -1000000000000, 76), (6, 7, -1000000000000, 76)], [((0, 100), (0, 0, 75, []))], [(2, 0, 0, [150]), (0, 0, 24, [])], 0, [], [(20, [2, 4, 5, 6], [60, 2, 4, 366, 5, 100, 2, 95, 102, 104]), (20, [2], [60, 3, 4, 363, 5, 107, 100, 2, 102, 108, 109]), (20, [4, 2], [50, 1, 1, 1005, 1002, 0, 6, 4, 2, 1, 0, 0, 1, 3, 1, 2, 4, 3, 2, 1, 5, 0, 1]), (20, [2, 4], [50, 3, 1, 107, 100, 5, 2, 1, 3, 2, 0, 107, 4, 11, 5, 3, 2, 0, 100, 3, 0, 2, 2, 0, 5, 1, 1]), (20, [2], [50, 1, 1, 5, 2, 0, 2, 0, 0, 3, 0, 2, 2, 0, 5]), (24, [0, 2], [])]), (139, [(0, (2, 0, 0, [150])), (1, (0, 0, 24, [])), (2, (0, 0, 76, []))], [], (0, 0), [(0, 0, 99861), (1, 4, 76), (0, 0, 100000), (0, 0, 0), (0, 0, 0)], [(1, 3, -1000000000000, 0), (1, 4, -1000000000000, 24), (1, 5, -1000000000000, 24), (3, 1, -1000000000000, 0), (3, 4, -1000000000000, 24), (3, 5, -1000000000000, 24), (5, 1, -1000000000000, 24), (5, 3, -1000000000000, 24), (5, 4, -1000000000000, 23)], [((0, 101), (0, 0, 24, []))], [(2, 0, 0, [150]), (0, 0, 24, [])], 0, [], [(20, [2], [60, 2, 4, 367, 5, 100, 2, 95, 102, 104]), (20, [2], [60, 3, 4, 363, 5, 107, 100, 2, 102, 108, 109]), (20, [2, 4], [60, 1, 1, 368, 101, 102]), (20, [2], [50, 3, 1, 107, 100, 5, 2, 1, 3, 2, 0, 107, 4, 11, 5, 3, 2, 0, 100, 3, 0, 2, 2, 0, 5, 3, 0, 2, 4, 3, 2, 0, 5, 0, 1]), (24, [0, 2], [])]), (174, [(0, (2, 0, 0, [150])), (1, (0, 0, 24, [])), (2, (0, 0, 24, []))], [], (0, 0), [(0, 0, 99826), (1, 4, 24), (0, 0, 100000), (0, 0, 0), (0, 0, 0)], [(1, 3, -1000000000000, 0), (1, 4, -1000000000000, 24), (3, 1, -1000000000000, 0), (3, 4, -1000000000000, 24)], [], [(2, 0, 0, [150]), (0, 0, 24, [])], 0, [], [(20, [2], [60, 4, 6, 369, 5, 100, 101, 107, 2, 95, 102, 104, 108, 109]), (20, [2, 4], [60, 1, 3, 370, 100, 102, 105, 106]), (24, [0, 2], [])]), (191, [(0, (2, 0, 0, [150])), (1, (0, 0, 24, [])), (2, (0, 0, 23, [])), (3, (0, 0, 76, []))], [], (0, 0), [(0, 0, 99826), (1, 4, 24), (0, 0, 99809), (1, 5, 76), (0, 0, 100000)], [(1, 3, -1000000000000, 0), (1, 4, -1000000000000, 24), (1, 5, -1000000000000, 24), (3, 1, -1000000000000, 0), (3, 4, -1000000000000, 24), (3, 5, -1000000000000, 24)], [], [(2, 0, 0, [150]), (0, 0, 24, [])], 0, [], [(20, [2], [60, 4, 6, 369, 5, 100, 101, 107, 2, 95, 102, 104, 108, 109]), (20, [2, 4, 5], [60, 1, 3, 371, 100, 102, 105, 106]), (20, [4, 2, 5], [50, 2, 0, 1101, 1100, 2, 11, 0, 6, 4, 2, 1, 0, 0, 1, 2, 1, 101, 0, 2, 1, 2, 2, 1, 100]), (24, [0, 2], [])])]
def t_Mo_list_ct : ct_L := [(0, 855, e_Mo_max), (1, 401, e_Mo_edges), (1, 816, e_Mo_from), (1, 818, e_Mo_to), (280, 850, e_Mo_line_at_g1), (373, 850, e_Mo_line_at_g2)]
set_option maxRecDepth 100000 in
theorem c_Mo_list {l : Launch} {D : va_G} {kA : Nat → ClassId} (h_Mo_edges : ct_ok PRD l D kA GG y_Mo_edges z_Mo_edges e_Mo_edges) (h_Mo_from : ct_ok PRD l D kA GG y_Mo_from z_Mo_from e_Mo_from) (h_Mo_line_at_g1 : ct_ok PRD l D kA GG y_Mo_line_at_g1 z_Mo_line_at_g1 e_Mo_line_at_g1) (h_Mo_line_at_g2 : ct_ok PRD l D kA GG y_Mo_line_at_g2 z_Mo_line_at_g2 e_Mo_line_at_g2) (h_Mo_max : ct_ok PRD l D kA GG y_Mo_max z_Mo_max e_Mo_max) (h_Mo_to : ct_ok PRD l D kA GG y_Mo_to z_Mo_to e_Mo_to) : ct_ok PRD l D kA GG y_Mo_list z_Mo_list e_Mo_list := chk_all_ok (FT := [(222, 13, 102), (225, 13, 103), (228, 13, 104), (231, 13, 105), (234, 13, 106), (844, 13, 100), (852, 13, 101)]) (PT := [(844, 13, 100, .int), (847, 13, 107, .int), (852, 13, 101, .int)]) (CT := t_Mo_list_ct) (KT := []) (NT := []) (AN := n_Mo_list_an) (OT := [o_Mo_list_0, o_Mo_list_1, o_Mo_list_2, o_Mo_list_3, o_Mo_list_4, o_Mo_list_5, o_Mo_list_6, o_Mo_list_7, o_Mo_list_8, o_Mo_list_9, o_Mo_list_10, o_Mo_list_11, o_Mo_list_12, o_Mo_list_13, o_Mo_list_14, o_Mo_list_15, o_Mo_list_16, o_Mo_list_17, o_Mo_list_18, o_Mo_list_19]) 5 604 (List.forall_mem_cons.mpr ⟨oo_Mo_list_0, List.forall_mem_cons.mpr ⟨oo_Mo_list_1, List.forall_mem_cons.mpr ⟨oo_Mo_list_2, List.forall_mem_cons.mpr ⟨oo_Mo_list_3, List.forall_mem_cons.mpr ⟨oo_Mo_list_4, List.forall_mem_cons.mpr ⟨oo_Mo_list_5, List.forall_mem_cons.mpr ⟨oo_Mo_list_6, List.forall_mem_cons.mpr ⟨oo_Mo_list_7, List.forall_mem_cons.mpr ⟨oo_Mo_list_8, List.forall_mem_cons.mpr ⟨oo_Mo_list_9, List.forall_mem_cons.mpr ⟨oo_Mo_list_10, List.forall_mem_cons.mpr ⟨oo_Mo_list_11, List.forall_mem_cons.mpr ⟨oo_Mo_list_12, List.forall_mem_cons.mpr ⟨oo_Mo_list_13, List.forall_mem_cons.mpr ⟨oo_Mo_list_14, List.forall_mem_cons.mpr ⟨oo_Mo_list_15, List.forall_mem_cons.mpr ⟨oo_Mo_list_16, List.forall_mem_cons.mpr ⟨oo_Mo_list_17, List.forall_mem_cons.mpr ⟨oo_Mo_list_18, List.forall_mem_cons.mpr ⟨oo_Mo_list_19, List.forall_mem_nil _⟩⟩⟩⟩⟩⟩⟩⟩⟩⟩⟩⟩⟩⟩⟩⟩⟩⟩⟩⟩) (by decide +kernel) ⟨List.forall_mem_cons.mpr ⟨gf_Mo_222, List.forall_mem_cons.mpr ⟨gf_Mo_225, List.forall_mem_cons.mpr ⟨gf_Mo_228, List.forall_mem_cons.mpr ⟨gf_Mo_231, List.forall_mem_cons.mpr ⟨gf_Mo_234, List.forall_mem_cons.mpr ⟨gf_Mo_844, List.forall_mem_cons.mpr ⟨gf_Mo_852, List.forall_mem_nil _⟩⟩⟩⟩⟩⟩⟩, List.forall_mem_cons.mpr ⟨pf_Mo_844, List.forall_mem_cons.mpr ⟨pf_Mo_847, List.forall_mem_cons.mpr ⟨pf_Mo_852, List.forall_mem_nil _⟩⟩⟩, List.forall_mem_cons.mpr ⟨cl_static (y := y_Mo_max) h_Mo_max wm_3430 wm_9 wm_3428 wm_3429 ⟨by decide, by decide, by decide +kernel⟩ (by decide), List.forall_mem_cons.mpr ⟨cl_virtual (y := y_Mo_edges) (ci := 13) rfl rfl ⟨_, _, rfl⟩ (by decide +kernel) h_Mo_edges wm_3037 wm_9 wm_3034 wm_3036 wv_13_6 ⟨by decide, by decide, by decide +kernel⟩ (by decide), List.forall_mem_cons.mpr ⟨cl_virtual (y := y_Mo_from) (ci := 13) rfl rfl ⟨_, _, rfl⟩ (by decide +kernel) h_Mo_from wm_3395 wm_9 wm_3392 wm_3394 wv_18_1 ⟨by decide, by decide, by decide +kernel⟩ (by decide), List.forall_mem_cons.mpr ⟨cl_virtual (y := y_Mo_to) (ci := 13) rfl rfl ⟨_, _, rfl⟩ (by decide +kernel) h_Mo_to wm_3399 wm_9 wm_3396 wm_3398 wv_18_2 ⟨by decide, by decide, by decide +kernel⟩ (by decide), List.forall_mem_cons.mpr ⟨cl_virtual (y := y_Mo_line_at_g1) (ci := 13) rfl rfl ⟨_, _, rfl⟩ (by decide +kernel) h_Mo_line_at_g1 wm_3427 wm_9 wm_3424 wm_3426 wv_18_9 ⟨by decide, by decide, by decide +kernel⟩ (by decide), List.forall_mem_cons.mpr ⟨cl_virtual (y := y_Mo_line_at_g2) (ci := 13) rfl rfl ⟨_, _, rfl⟩ (by decide +kernel) h_Mo_line_at_g2 wm_3427 wm_9 wm_3424 wm_3426 wv_18_9 ⟨by decide, by decide, by decide +kernel⟩ (by decide), List.forall_mem_nil _⟩⟩⟩⟩⟩⟩, List.forall_mem_nil _, List.forall_mem_nil _, GG_pl⟩ (by decide +kernel)
