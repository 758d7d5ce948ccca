set_option maxHeartbeats 4000000 in
theorem vc_Ro_lead_7_0 (x3 : Int) (goal_0 : Int) (start_0 : Int) (x_0o2 : Int → Int) (y_0o2 : Int → Int) (left_0 : Int) (top_0 : Int) (width_0 : Int) (height_0 : Int) (nodes_0o1 : Int) (tail_0o1 : Int → Int) (head_0o1 : Int → Int) (nameLength_0o1 : Int → Int) (edges_0o1 : Int) (x_1o2 : Int → Int) (y_1o2 : Int → Int) (left_1 : Int) (top_1 : Int) (width_1 : Int) (height_1 : Int) (nodes_1o1 : Int) (start_1 : Int) (tail_1o1 : Int → Int) (head_1o1 : Int → Int) (nameLength_1o1 : Int → Int) (edges_1o1 : Int) (x_2o2 : Int → Int) (y_2o2 : Int → Int) (left_2 : Int) (top_2 : Int) (width_2 : Int) (height_2 : Int) (nodes_2o1 : Int) (start_2 : Int) (tail_2o1 : Int → Int) (head_2o1 : Int → Int) (nameLength_2o1 : Int → Int) (edges_2o1 : Int) (x_3o2 : Int → Int) (y_3o2 : Int → Int) (left_3 : Int) (top_3 : Int) (width_3 : Int) (height_3 : Int) (nodes_3o1 : Int) (tail_3o1 : Int → Int) (head_3o1 : Int → Int) (nameLength_3o1 : Int → Int) (edges_3o1 : Int) (goal_1 : Int) (turns_1 : Int) (turns_2 : Int) (f55 : FRM (left_3) (top_3) (width_3) (height_3) (nodes_3o1) (nameLength_3o1) (x_3o2) (y_3o2)) (fe_0_2_1 : left_0 = left_1) (fe_0_3_1 : top_0 = top_1) (fe_0_4_1 : width_0 = width_1) (fe_0_5_1 : height_0 = height_1) (fe_0_6_1 : start_0 = start_1) (fe_0_7_1 : goal_0 = goal_1) (fe_1_0_1 : nodes_0o1 = nodes_1o1) (fe_1_1_1 : edges_0o1 = edges_1o1) (fe_0_2_2 : left_1 = left_2) (fe_0_3_2 : top_1 = top_2) (fe_0_4_2 : width_1 = width_2) (fe_0_5_2 : height_1 = height_2) (fe_0_6_2 : start_1 = start_2) (fe_0_17_2 : turns_1 = turns_2) (fe_1_0_2 : nodes_1o1 = nodes_2o1) (fe_1_1_2 : edges_1o1 = edges_2o1) (fe_0_2_3 : left_2 = left_3) (fe_0_3_3 : top_2 = top_3) (fe_0_4_3 : width_2 = width_3) (fe_0_5_3 : height_2 = height_3) (fe_1_0_3 : nodes_2o1 = nodes_3o1) (fe_1_1_3 : edges_2o1 = edges_3o1) (hE_1_4_1 : ∀ j : Int, nameLength_0o1 j = nameLength_1o1 j) (hE_1_4_2 : ∀ j : Int, nameLength_1o1 j = nameLength_2o1 j) (hE_1_4_3 : ∀ j : Int, nameLength_2o1 j = nameLength_3o1 j) (hE_1_7_1 : ∀ j : Int, tail_0o1 j = tail_1o1 j) (hE_1_7_2 : ∀ j : Int, tail_1o1 j = tail_2o1 j) (hE_1_7_3 : ∀ j : Int, tail_2o1 j = tail_3o1 j) (hE_1_8_1 : ∀ j : Int, head_0o1 j = head_1o1 j) (hE_1_8_2 : ∀ j : Int, head_1o1 j = head_2o1 j) (hE_1_8_3 : ∀ j : Int, head_2o1 j = head_3o1 j) (hE_2_2_1 : ∀ j : Int, x_0o2 j = x_1o2 j) (hE_2_2_2 : ∀ j : Int, x_1o2 j = x_2o2 j) (hE_2_2_3 : ∀ j : Int, x_2o2 j = x_3o2 j) (hE_2_3_1 : ∀ j : Int, y_0o2 j = y_1o2 j) (hE_2_3_2 : ∀ j : Int, y_1o2 j = y_2o2 j) (hE_2_3_3 : ∀ j : Int, y_2o2 j = y_3o2 j) (kz_0_2 : (-40000011) ≤ left_0 ∧ left_0 ≤ 1000000000) (kz_0_3 : (-40000003) ≤ top_0 ∧ top_0 ≤ 1000000000) (kz_0_4 : (-2147483648) ≤ width_0 ∧ width_0 ≤ 2147483647) (kz_0_5 : (-2147483648) ≤ height_0 ∧ height_0 ≤ 2147483647) (kz_0_6 : 0 ≤ start_0 ∧ start_0 ≤ 5999) (kz_0_7 : 0 ≤ goal_0 ∧ goal_0 ≤ 5999) (kz_1_0 : 0 ≤ nodes_0o1 ∧ nodes_0o1 ≤ 24) (kz_1_1 : 0 ≤ edges_0o1 ∧ edges_0o1 ≤ 48) : (1 ≤ width_0) ∧ ((1 ≤ height_0) ∧ ((width_0 * height_0) ≤ 6000)) := by
  subst fe_0_2_1
  subst fe_0_3_1
  subst fe_0_4_1
  subst fe_0_5_1
  subst fe_0_6_1
  subst fe_0_7_1
  subst fe_1_0_1
  subst fe_1_1_1
  subst fe_0_2_2
  subst fe_0_3_2
  subst fe_0_4_2
  subst fe_0_5_2
  subst fe_0_6_2
  subst fe_0_17_2
  subst fe_1_0_2
  subst fe_1_1_2
  subst fe_0_2_3
  subst fe_0_3_3
  subst fe_0_4_3
  subst fe_0_5_3
  subst fe_1_0_3
  subst fe_1_1_3
  have e_hE_1_4_1 := funext hE_1_4_1; subst e_hE_1_4_1
  have e_hE_1_4_2 := funext hE_1_4_2; subst e_hE_1_4_2
  have e_hE_1_4_3 := funext hE_1_4_3; subst e_hE_1_4_3
  have e_hE_1_7_1 := funext hE_1_7_1; subst e_hE_1_7_1
  have e_hE_1_7_2 := funext hE_1_7_2; subst e_hE_1_7_2
  have e_hE_1_7_3 := funext hE_1_7_3; subst e_hE_1_7_3
  have e_hE_1_8_1 := funext hE_1_8_1; subst e_hE_1_8_1
  have e_hE_1_8_2 := funext hE_1_8_2; subst e_hE_1_8_2
  have e_hE_1_8_3 := funext hE_1_8_3; subst e_hE_1_8_3
  have e_hE_2_2_1 := funext hE_2_2_1; subst e_hE_2_2_1
  have e_hE_2_2_2 := funext hE_2_2_2; subst e_hE_2_2_2
  have e_hE_2_2_3 := funext hE_2_2_3; subst e_hE_2_2_3
  have e_hE_2_3_1 := funext hE_2_3_1; subst e_hE_2_3_1
  have e_hE_2_3_2 := funext hE_2_3_2; subst e_hE_2_3_2
  have e_hE_2_3_3 := funext hE_2_3_3; subst e_hE_2_3_3
  first
    | omega
    | (have g := ‹GKE _ _ _ _› x3 (by omega) (by omega); omega)
    | assumption
    | (have e := (hE_2_4_1 x3 (by omega)).1 rfl; omega)
    | (have e := (hE_2_4_1 x3 (by omega)).1 (by omega); omega)
    | (have h := ‹FRM _ _ _ _ _ _ _ _›.1; exact h)
    | (have h := ‹FRM _ _ _ _ _ _ _ _›.1; omega)
  
set_option maxHeartbeats 4000000 in
theorem vc_Ro_lead_7_1 (x3 : Int) (x10 : Int) (goal_0 : Int) (start_0 : Int) (x_0o2 : Int → Int) (y_0o2 : Int → Int) (left_0 : Int) (top_0 : Int) (width_0 : Int) (height_0 : Int) (nodes_0o1 : Int) (tail_0o1 : Int → Int) (head_0o1 : Int → Int) (nameLength_0o1 : Int → Int) (edges_0o1 : Int) (x_1o2 : Int → Int) (y_1o2 : Int → Int) (left_1 : Int) (top_1 : Int) (width_1 : Int) (height_1 : Int) (nodes_1o1 : Int) (start_1 : Int) (tail_1o1 : Int → Int) (head_1o1 : Int → Int) (nameLength_1o1 : Int → Int) (edges_1o1 : Int) (x_2o2 : Int → Int) (y_2o2 : Int → Int) (left_2 : Int) (top_2 : Int) (width_2 : Int) (height_2 : Int) (nodes_2o1 : Int) (start_2 : Int) (tail_2o1 : Int → Int) (head_2o1 : Int → Int) (nameLength_2o1 : Int → Int) (edges_2o1 : Int) (x_3o2 : Int → Int) (y_3o2 : Int → Int) (left_3 : Int) (top_3 : Int) (width_3 : Int) (height_3 : Int) (nodes_3o1 : Int) (tail_3o1 : Int → Int) (head_3o1 : Int → Int) (nameLength_3o1 : Int → Int) (edges_3o1 : Int) (goal_1 : Int) (turns_1 : Int) (turns_2 : Int) (k10 : 0 ≤ x10 ∧ x10 ≤ 5999) (g3 : x10 = goal_0) (f6 : (0 ≤ x10) ∧ ((x10 + 1) ≤ (width_0 * height_0))) (fe_0_2_1 : left_0 = left_1) (fe_0_3_1 : top_0 = top_1) (fe_0_4_1 : width_0 = width_1) (fe_0_5_1 : height_0 = height_1) (fe_0_6_1 : start_0 = start_1) (fe_0_7_1 : goal_0 = goal_1) (fe_1_0_1 : nodes_0o1 = nodes_1o1) (fe_1_1_1 : edges_0o1 = edges_1o1) (fe_0_2_2 : left_1 = left_2) (fe_0_3_2 : top_1 = top_2) (fe_0_4_2 : width_1 = width_2) (fe_0_5_2 : height_1 = height_2) (fe_0_6_2 : start_1 = start_2) (fe_0_17_2 : turns_1 = turns_2) (fe_1_0_2 : nodes_1o1 = nodes_2o1) (fe_1_1_2 : edges_1o1 = edges_2o1) (fe_0_2_3 : left_2 = left_3) (fe_0_3_3 : top_2 = top_3) (fe_0_4_3 : width_2 = width_3) (fe_0_5_3 : height_2 = height_3) (fe_1_0_3 : nodes_2o1 = nodes_3o1) (fe_1_1_3 : edges_2o1 = edges_3o1) (hE_1_4_1 : ∀ j : Int, nameLength_0o1 j = nameLength_1o1 j) (hE_1_4_2 : ∀ j : Int, nameLength_1o1 j = nameLength_2o1 j) (hE_1_4_3 : ∀ j : Int, nameLength_2o1 j = nameLength_3o1 j) (hE_1_7_1 : ∀ j : Int, tail_0o1 j = tail_1o1 j) (hE_1_7_2 : ∀ j : Int, tail_1o1 j = tail_2o1 j) (hE_1_7_3 : ∀ j : Int, tail_2o1 j = tail_3o1 j) (hE_1_8_1 : ∀ j : Int, head_0o1 j = head_1o1 j) (hE_1_8_2 : ∀ j : Int, head_1o1 j = head_2o1 j) (hE_1_8_3 : ∀ j : Int, head_2o1 j = head_3o1 j) (hE_2_2_1 : ∀ j : Int, x_0o2 j = x_1o2 j) (hE_2_2_2 : ∀ j : Int, x_1o2 j = x_2o2 j) (hE_2_2_3 : ∀ j : Int, x_2o2 j = x_3o2 j) (hE_2_3_1 : ∀ j : Int, y_0o2 j = y_1o2 j) (hE_2_3_2 : ∀ j : Int, y_1o2 j = y_2o2 j) (hE_2_3_3 : ∀ j : Int, y_2o2 j = y_3o2 j) (kz_0_2 : (-40000011) ≤ left_0 ∧ left_0 ≤ 1000000000) (kz_0_3 : (-40000003) ≤ top_0 ∧ top_0 ≤ 1000000000) (kz_0_4 : (-2147483648) ≤ width_0 ∧ width_0 ≤ 2147483647) (kz_0_5 : (-2147483648) ≤ height_0 ∧ height_0 ≤ 2147483647) (kz_0_6 : 0 ≤ start_0 ∧ start_0 ≤ 5999) (kz_0_7 : 0 ≤ goal_0 ∧ goal_0 ≤ 5999) (kz_1_0 : 0 ≤ nodes_0o1 ∧ nodes_0o1 ≤ 24) (kz_1_1 : 0 ≤ edges_0o1 ∧ edges_0o1 ≤ 48) : (goal_0 + 1) ≤ (width_0 * height_0) := by
  subst fe_0_2_1
  subst fe_0_3_1
  subst fe_0_4_1
  subst fe_0_5_1
  subst fe_0_6_1
  subst fe_0_7_1
  subst fe_1_0_1
  subst fe_1_1_1
  subst fe_0_2_2
  subst fe_0_3_2
  subst fe_0_4_2
  subst fe_0_5_2
  subst fe_0_6_2
  subst fe_0_17_2
  subst fe_1_0_2
  subst fe_1_1_2
  subst fe_0_2_3
  subst fe_0_3_3
  subst fe_0_4_3
  subst fe_0_5_3
  subst fe_1_0_3
  subst fe_1_1_3
  have e_hE_1_4_1 := funext hE_1_4_1; subst e_hE_1_4_1
  have e_hE_1_4_2 := funext hE_1_4_2; subst e_hE_1_4_2
  have e_hE_1_4_3 := funext hE_1_4_3; subst e_hE_1_4_3
  have e_hE_1_7_1 := funext hE_1_7_1; subst e_hE_1_7_1
  have e_hE_1_7_2 := funext hE_1_7_2; subst e_hE_1_7_2
  have e_hE_1_7_3 := funext hE_1_7_3; subst e_hE_1_7_3
  have e_hE_1_8_1 := funext hE_1_8_1; subst e_hE_1_8_1
  have e_hE_1_8_2 := funext hE_1_8_2; subst e_hE_1_8_2
  have e_hE_1_8_3 := funext hE_1_8_3; subst e_hE_1_8_3
  have e_hE_2_2_1 := funext hE_2_2_1; subst e_hE_2_2_1
  have e_hE_2_2_2 := funext hE_2_2_2; subst e_hE_2_2_2
  have e_hE_2_2_3 := funext hE_2_2_3; subst e_hE_2_2_3
  have e_hE_2_3_1 := funext hE_2_3_1; subst e_hE_2_3_1
  have e_hE_2_3_2 := funext hE_2_3_2; subst e_hE_2_3_2
  have e_hE_2_3_3 := funext hE_2_3_3; subst e_hE_2_3_3
  first
    | omega
    | (have g := ‹GKE _ _ _ _› x3 (by omega) (by omega); omega)
    | assumption
    | (have e := (hE_2_4_1 x3 (by omega)).1 rfl; omega)
    | (have e := (hE_2_4_1 x3 (by omega)).1 (by omega); omega)
    | (have h := ‹FRM _ _ _ _ _ _ _ _›.1; exact h)
    | (have h := ‹FRM _ _ _ _ _ _ _ _›.1; omega)
  
set_option maxHeartbeats 4000000 in
theorem vc_Ro_lead_7_2 (x3 : Int) (x11 : Int) (turns_0 : Int) (goal_0 : Int) (start_0 : Int) (x_0o2 : Int → Int) (y_0o2 : Int → Int) (left_0 : Int) (top_0 : Int) (width_0 : Int) (height_0 : Int) (nodes_0o1 : Int) (tail_0o1 : Int → Int) (head_0o1 : Int → Int) (nameLength_0o1 : Int → Int) (edges_0o1 : Int) (x_1o2 : Int → Int) (y_1o2 : Int → Int) (left_1 : Int) (top_1 : Int) (width_1 : Int) (height_1 : Int) (nodes_1o1 : Int) (start_1 : Int) (tail_1o1 : Int → Int) (head_1o1 : Int → Int) (nameLength_1o1 : Int → Int) (edges_1o1 : Int) (x_2o2 : Int → Int) (y_2o2 : Int → Int) (left_2 : Int) (top_2 : Int) (width_2 : Int) (height_2 : Int) (nodes_2o1 : Int) (start_2 : Int) (tail_2o1 : Int → Int) (head_2o1 : Int → Int) (nameLength_2o1 : Int → Int) (edges_2o1 : Int) (x_3o2 : Int → Int) (y_3o2 : Int → Int) (left_3 : Int) (top_3 : Int) (width_3 : Int) (height_3 : Int) (nodes_3o1 : Int) (tail_3o1 : Int → Int) (head_3o1 : Int → Int) (nameLength_3o1 : Int → Int) (edges_3o1 : Int) (goal_1 : Int) (turns_1 : Int) (turns_2 : Int) (k11 : 0 ≤ x11 ∧ x11 ≤ 0) (g0 : x11 = turns_0) (fe_0_2_1 : left_0 = left_1) (fe_0_3_1 : top_0 = top_1) (fe_0_4_1 : width_0 = width_1) (fe_0_5_1 : height_0 = height_1) (fe_0_6_1 : start_0 = start_1) (fe_0_7_1 : goal_0 = goal_1) (fe_1_0_1 : nodes_0o1 = nodes_1o1) (fe_1_1_1 : edges_0o1 = edges_1o1) (fe_0_2_2 : left_1 = left_2) (fe_0_3_2 : top_1 = top_2) (fe_0_4_2 : width_1 = width_2) (fe_0_5_2 : height_1 = height_2) (fe_0_6_2 : start_1 = start_2) (fe_0_17_2 : turns_1 = turns_2) (fe_1_0_2 : nodes_1o1 = nodes_2o1) (fe_1_1_2 : edges_1o1 = edges_2o1) (fe_0_2_3 : left_2 = left_3) (fe_0_3_3 : top_2 = top_3) (fe_0_4_3 : width_2 = width_3) (fe_0_5_3 : height_2 = height_3) (fe_1_0_3 : nodes_2o1 = nodes_3o1) (fe_1_1_3 : edges_2o1 = edges_3o1) (hE_1_4_1 : ∀ j : Int, nameLength_0o1 j = nameLength_1o1 j) (hE_1_4_2 : ∀ j : Int, nameLength_1o1 j = nameLength_2o1 j) (hE_1_4_3 : ∀ j : Int, nameLength_2o1 j = nameLength_3o1 j) (hE_1_7_1 : ∀ j : Int, tail_0o1 j = tail_1o1 j) (hE_1_7_2 : ∀ j : Int, tail_1o1 j = tail_2o1 j) (hE_1_7_3 : ∀ j : Int, tail_2o1 j = tail_3o1 j) (hE_1_8_1 : ∀ j : Int, head_0o1 j = head_1o1 j) (hE_1_8_2 : ∀ j : Int, head_1o1 j = head_2o1 j) (hE_1_8_3 : ∀ j : Int, head_2o1 j = head_3o1 j) (hE_2_2_1 : ∀ j : Int, x_0o2 j = x_1o2 j) (hE_2_2_2 : ∀ j : Int, x_1o2 j = x_2o2 j) (hE_2_2_3 : ∀ j : Int, x_2o2 j = x_3o2 j) (hE_2_3_1 : ∀ j : Int, y_0o2 j = y_1o2 j) (hE_2_3_2 : ∀ j : Int, y_1o2 j = y_2o2 j) (hE_2_3_3 : ∀ j : Int, y_2o2 j = y_3o2 j) (kz_0_2 : (-40000011) ≤ left_0 ∧ left_0 ≤ 1000000000) (kz_0_3 : (-40000003) ≤ top_0 ∧ top_0 ≤ 1000000000) (kz_0_4 : (-2147483648) ≤ width_0 ∧ width_0 ≤ 2147483647) (kz_0_5 : (-2147483648) ≤ height_0 ∧ height_0 ≤ 2147483647) (kz_0_6 : 0 ≤ start_0 ∧ start_0 ≤ 5999) (kz_0_7 : 0 ≤ goal_0 ∧ goal_0 ≤ 5999) (kz_0_17 : 0 ≤ turns_0 ∧ turns_0 ≤ 6000) (kz_1_0 : 0 ≤ nodes_0o1 ∧ nodes_0o1 ≤ 24) (kz_1_1 : 0 ≤ edges_0o1 ∧ edges_0o1 ≤ 48) : 1 * turns_0 + 0 ≤ 0 := by
  subst fe_0_2_1
  subst fe_0_3_1
  subst fe_0_4_1
  subst fe_0_5_1
  subst fe_0_6_1
  subst fe_0_7_1
  subst fe_1_0_1
  subst fe_1_1_1
  subst fe_0_2_2
  subst fe_0_3_2
  subst fe_0_4_2
  subst fe_0_5_2
  subst fe_0_6_2
  subst fe_0_17_2
  subst fe_1_0_2
  subst fe_1_1_2
  subst fe_0_2_3
  subst fe_0_3_3
  subst fe_0_4_3
  subst fe_0_5_3
  subst fe_1_0_3
  subst fe_1_1_3
  have e_hE_1_4_1 := funext hE_1_4_1; subst e_hE_1_4_1
  have e_hE_1_4_2 := funext hE_1_4_2; subst e_hE_1_4_2
  have e_hE_1_4_3 := funext hE_1_4_3; subst e_hE_1_4_3
  have e_hE_1_7_1 := funext hE_1_7_1; subst e_hE_1_7_1
  have e_hE_1_7_2 := funext hE_1_7_2; subst e_hE_1_7_2
  have e_hE_1_7_3 := funext hE_1_7_3; subst e_hE_1_7_3
  have e_hE_1_8_1 := funext hE_1_8_1; subst e_hE_1_8_1
  have e_hE_1_8_2 := funext hE_1_8_2; subst e_hE_1_8_2
  have e_hE_1_8_3 := funext hE_1_8_3; subst e_hE_1_8_3
  have e_hE_2_2_1 := funext hE_2_2_1; subst e_hE_2_2_1
  have e_hE_2_2_2 := funext hE_2_2_2; subst e_hE_2_2_2
  have e_hE_2_2_3 := funext hE_2_2_3; subst e_hE_2_2_3
  have e_hE_2_3_1 := funext hE_2_3_1; subst e_hE_2_3_1
  have e_hE_2_3_2 := funext hE_2_3_2; subst e_hE_2_3_2
  have e_hE_2_3_3 := funext hE_2_3_3; subst e_hE_2_3_3
  first
    | omega
    | (have g := ‹GKE _ _ _ _› x3 (by omega) (by omega); omega)
    | assumption
    | (have e := (hE_2_4_1 x3 (by omega)).1 rfl; omega)
    | (have e := (hE_2_4_1 x3 (by omega)).1 (by omega); omega)
    | (have h := ‹FRM _ _ _ _ _ _ _ _›.1; exact h)
    | (have h := ‹FRM _ _ _ _ _ _ _ _›.1; omega)
  
def o_Ro_lead_7 : or_T := (86, 12, [(0, (2, 0, 0, [9])), (1, (2, 0, 0, [3])), (10, (0, 0, 5999, [])), (11, (0, 0, 0, []))], [(9, [11, 0], [17]), (9, [10, 0], [7]), (20, [10, 0], [50, 2, 0, 1004, 1005, 2, 6, 0, 2, 0, 0, 1, 0, 0, 6, 4, 2, 1, 0, 0, 1, 6, 3, 2, 1, 4, 2, 1, 5]), (101, [0, 11], [17]), (101, [0, 10], [7]), (101, [0, 9], [6]), (20, [0, 1, 2], [60, 5, 3, 839, 2, 3, 4, 5, 1000, 1004, 2002, 2003])], [], [], [(20, [0], [50, 2, 0, 4, 5, 2, 7, 0, 2, 0, 1, 2, 0, 4, 2, 7, 0, 2, 0, 1, 2, 0, 5, 0, 8, 6, 3, 2, 0, 4, 2, 0, 5, 0, 6000]), (20, [0], [50, 3, 0, 7, 4, 5, 0, 7, 4, 3, 2, 0, 7, 0, 1, 6, 3, 2, 0, 4, 2, 0, 5]), (20, [0], [30, 0, 1, 1, 17])], [], [])
theorem oo_Ro_lead_7 {kA : Nat → ClassId} : or_ok PRD kA GG o_Ro_lead_7 := by
  refine or_mk fun A ta ws vs hD hth hl => ?_
  intro t0 r0 t1 r1 t10 k10 t11 k11 f0 f3 f6 ta1 w1 le1 s1 ta2 w2 le2 s2 ta3 w3 le3 s3 f55
  replace f0 := shm_781 f0
  replace f3 := shm_216 f3
  have s1 : (∀ b j, w_el ws b j = w_el w1 b j) ∧ ∀ b j, w_fd ws b j = if b = v_ad (n_v vs 0) ∧ j = 17 then n_v vs 11 else w_fd w1 b j := s1.2
  have s2 : (∀ b j, w_el w1 b j = w_el w2 b j) ∧ ∀ b j, w_fd w1 b j = if b = v_ad (n_v vs 0) ∧ j = 7 then n_v vs 10 else w_fd w2 b j := s2.2
  have s3 : (∀ b j, w_el w2 b j = w_el w3 b j) ∧ ∀ b j, w_fd w2 b j = if b = v_ad (n_v vs 0) ∧ j = 6 then n_v vs 9 else w_fd w3 b j := s3.2
  replace f55 := shm_465 f55
  have ar_1_4_1 : w_ar w1 (n_v vs 1) 4 = w_ar ws (n_v vs 1) 4 := by show v_ad (w_fd w1 _ _) = v_ad (w_fd ws _ _); rw [s1.2, if_neg (fun e => absurd e.2 (by decide))]
  have ar_1_4_2 : w_ar w2 (n_v vs 1) 4 = w_ar ws (n_v vs 1) 4 := by rw [← ar_1_4_1]; show v_ad (w_fd w2 _ _) = v_ad (w_fd w1 _ _); rw [s2.2, if_neg (fun e => absurd e.2 (by decide))]
  have ar_1_4_3 : w_ar w3 (n_v vs 1) 4 = w_ar ws (n_v vs 1) 4 := by rw [← ar_1_4_2]; show v_ad (w_fd w3 _ _) = v_ad (w_fd w2 _ _); rw [s3.2, if_neg (fun e => absurd e.2 (by decide))]
  have ar_1_7_1 : w_ar w1 (n_v vs 1) 7 = w_ar ws (n_v vs 1) 7 := by show v_ad (w_fd w1 _ _) = v_ad (w_fd ws _ _); rw [s1.2, if_neg (fun e => absurd e.2 (by decide))]
  have ar_1_7_2 : w_ar w2 (n_v vs 1) 7 = w_ar ws (n_v vs 1) 7 := by rw [← ar_1_7_1]; show v_ad (w_fd w2 _ _) = v_ad (w_fd w1 _ _); rw [s2.2, if_neg (fun e => by have e1 := e.1; have e2 := r1; rw [e1, r0] at e2; exact absurd (Option.some.inj e2) (by decide))]
  have ar_1_7_3 : w_ar w3 (n_v vs 1) 7 = w_ar ws (n_v vs 1) 7 := by rw [← ar_1_7_2]; show v_ad (w_fd w3 _ _) = v_ad (w_fd w2 _ _); rw [s3.2, if_neg (fun e => absurd e.2 (by decide))]
  have ar_1_8_1 : w_ar w1 (n_v vs 1) 8 = w_ar ws (n_v vs 1) 8 := by show v_ad (w_fd w1 _ _) = v_ad (w_fd ws _ _); rw [s1.2, if_neg (fun e => absurd e.2 (by decide))]
  have ar_1_8_2 : w_ar w2 (n_v vs 1) 8 = w_ar ws (n_v vs 1) 8 := by rw [← ar_1_8_1]; show v_ad (w_fd w2 _ _) = v_ad (w_fd w1 _ _); rw [s2.2, if_neg (fun e => absurd e.2 (by decide))]
  have ar_1_8_3 : w_ar w3 (n_v vs 1) 8 = w_ar ws (n_v vs 1) 8 := by rw [← ar_1_8_2]; show v_ad (w_fd w3 _ _) = v_ad (w_fd w2 _ _); rw [s3.2, if_neg (fun e => absurd e.2 (by decide))]
  have ar_2_2_1 : w_ar w1 (n_v vs 2) 2 = w_ar ws (n_v vs 2) 2 := by show v_ad (w_fd w1 _ _) = v_ad (w_fd ws _ _); rw [s1.2, if_neg (fun e => absurd e.2 (by decide))]
  have ar_2_2_2 : w_ar w2 (n_v vs 2) 2 = w_ar ws (n_v vs 2) 2 := by rw [← ar_2_2_1]; show v_ad (w_fd w2 _ _) = v_ad (w_fd w1 _ _); rw [s2.2, if_neg (fun e => absurd e.2 (by decide))]
  have ar_2_2_3 : w_ar w3 (n_v vs 2) 2 = w_ar ws (n_v vs 2) 2 := by rw [← ar_2_2_2]; show v_ad (w_fd w3 _ _) = v_ad (w_fd w2 _ _); rw [s3.2, if_neg (fun e => absurd e.2 (by decide))]
  have ar_2_3_1 : w_ar w1 (n_v vs 2) 3 = w_ar ws (n_v vs 2) 3 := by show v_ad (w_fd w1 _ _) = v_ad (w_fd ws _ _); rw [s1.2, if_neg (fun e => absurd e.2 (by decide))]
  have ar_2_3_2 : w_ar w2 (n_v vs 2) 3 = w_ar ws (n_v vs 2) 3 := by rw [← ar_2_3_1]; show v_ad (w_fd w2 _ _) = v_ad (w_fd w1 _ _); rw [s2.2, if_neg (fun e => absurd e.2 (by decide))]
  have ar_2_3_3 : w_ar w3 (n_v vs 2) 3 = w_ar ws (n_v vs 2) 3 := by rw [← ar_2_3_2]; show v_ad (w_fd w3 _ _) = v_ad (w_fd w2 _ _); rw [s3.2, if_neg (fun e => absurd e.2 (by decide))]
  have g0 : v_iv (n_v vs 11) = w_fi ws (n_v vs 0) 17 := congrArg v_iv f0
  have g3 : v_iv (n_v vs 10) = w_fi ws (n_v vs 0) 7 := congrArg v_iv f3
  simp only [ar_2_2_1, ar_2_3_1, ar_1_7_1, ar_1_8_1, ar_1_4_1, ar_2_2_2, ar_2_3_2, ar_1_7_2, ar_1_8_2, ar_1_4_2, ar_2_2_3, ar_2_3_3, ar_1_7_3, ar_1_8_3, ar_1_4_3] at f55
  have fe_0_2_1 : w_fi ws (n_v vs 0) 2 = w_fi w1 (n_v vs 0) 2 := by show v_iv (w_fd _ _ _) = v_iv (w_fd _ _ _); rw [s1.2, if_neg (fun e => absurd e.2 (by decide))]
  have fe_0_3_1 : w_fi ws (n_v vs 0) 3 = w_fi w1 (n_v vs 0) 3 := by show v_iv (w_fd _ _ _) = v_iv (w_fd _ _ _); rw [s1.2, if_neg (fun e => absurd e.2 (by decide))]
  have fe_0_4_1 : w_fi ws (n_v vs 0) 4 = w_fi w1 (n_v vs 0) 4 := by show v_iv (w_fd _ _ _) = v_iv (w_fd _ _ _); rw [s1.2, if_neg (fun e => absurd e.2 (by decide))]
  have fe_0_5_1 : w_fi ws (n_v vs 0) 5 = w_fi w1 (n_v vs 0) 5 := by show v_iv (w_fd _ _ _) = v_iv (w_fd _ _ _); rw [s1.2, if_neg (fun e => absurd e.2 (by decide))]
  have fe_0_6_1 : w_fi ws (n_v vs 0) 6 = w_fi w1 (n_v vs 0) 6 := by show v_iv (w_fd _ _ _) = v_iv (w_fd _ _ _); rw [s1.2, if_neg (fun e => absurd e.2 (by decide))]
  have fe_0_7_1 : w_fi ws (n_v vs 0) 7 = w_fi w1 (n_v vs 0) 7 := by show v_iv (w_fd _ _ _) = v_iv (w_fd _ _ _); rw [s1.2, if_neg (fun e => absurd e.2 (by decide))]
  have fe_1_0_1 : w_fi ws (n_v vs 1) 0 = w_fi w1 (n_v vs 1) 0 := by show v_iv (w_fd _ _ _) = v_iv (w_fd _ _ _); rw [s1.2, if_neg (fun e => absurd e.2 (by decide))]
  have fe_1_1_1 : w_fi ws (n_v vs 1) 1 = w_fi w1 (n_v vs 1) 1 := by show v_iv (w_fd _ _ _) = v_iv (w_fd _ _ _); rw [s1.2, if_neg (fun e => absurd e.2 (by decide))]
  have fe_0_2_2 : w_fi w1 (n_v vs 0) 2 = w_fi w2 (n_v vs 0) 2 := by show v_iv (w_fd _ _ _) = v_iv (w_fd _ _ _); rw [s2.2, if_neg (fun e => absurd e.2 (by decide))]
  have fe_0_3_2 : w_fi w1 (n_v vs 0) 3 = w_fi w2 (n_v vs 0) 3 := by show v_iv (w_fd _ _ _) = v_iv (w_fd _ _ _); rw [s2.2, if_neg (fun e => absurd e.2 (by decide))]
  have fe_0_4_2 : w_fi w1 (n_v vs 0) 4 = w_fi w2 (n_v vs 0) 4 := by show v_iv (w_fd _ _ _) = v_iv (w_fd _ _ _); rw [s2.2, if_neg (fun e => absurd e.2 (by decide))]
  have fe_0_5_2 : w_fi w1 (n_v vs 0) 5 = w_fi w2 (n_v vs 0) 5 := by show v_iv (w_fd _ _ _) = v_iv (w_fd _ _ _); rw [s2.2, if_neg (fun e => absurd e.2 (by decide))]
  have fe_0_6_2 : w_fi w1 (n_v vs 0) 6 = w_fi w2 (n_v vs 0) 6 := by show v_iv (w_fd _ _ _) = v_iv (w_fd _ _ _); rw [s2.2, if_neg (fun e => absurd e.2 (by decide))]
  have fe_0_17_2 : w_fi w1 (n_v vs 0) 17 = w_fi w2 (n_v vs 0) 17 := by show v_iv (w_fd _ _ _) = v_iv (w_fd _ _ _); rw [s2.2, if_neg (fun e => absurd e.2 (by decide))]
  have fe_1_0_2 : w_fi w1 (n_v vs 1) 0 = w_fi w2 (n_v vs 1) 0 := by show v_iv (w_fd _ _ _) = v_iv (w_fd _ _ _); rw [s2.2, if_neg (fun e => absurd e.2 (by decide))]
  have fe_1_1_2 : w_fi w1 (n_v vs 1) 1 = w_fi w2 (n_v vs 1) 1 := by show v_iv (w_fd _ _ _) = v_iv (w_fd _ _ _); rw [s2.2, if_neg (fun e => absurd e.2 (by decide))]
  have fe_0_2_3 : w_fi w2 (n_v vs 0) 2 = w_fi w3 (n_v vs 0) 2 := by show v_iv (w_fd _ _ _) = v_iv (w_fd _ _ _); rw [s3.2, if_neg (fun e => absurd e.2 (by decide))]
  have fe_0_3_3 : w_fi w2 (n_v vs 0) 3 = w_fi w3 (n_v vs 0) 3 := by show v_iv (w_fd _ _ _) = v_iv (w_fd _ _ _); rw [s3.2, if_neg (fun e => absurd e.2 (by decide))]
  have fe_0_4_3 : w_fi w2 (n_v vs 0) 4 = w_fi w3 (n_v vs 0) 4 := by show v_iv (w_fd _ _ _) = v_iv (w_fd _ _ _); rw [s3.2, if_neg (fun e => absurd e.2 (by decide))]
  have fe_0_5_3 : w_fi w2 (n_v vs 0) 5 = w_fi w3 (n_v vs 0) 5 := by show v_iv (w_fd _ _ _) = v_iv (w_fd _ _ _); rw [s3.2, if_neg (fun e => absurd e.2 (by decide))]
  have fe_1_0_3 : w_fi w2 (n_v vs 1) 0 = w_fi w3 (n_v vs 1) 0 := by show v_iv (w_fd _ _ _) = v_iv (w_fd _ _ _); rw [s3.2, if_neg (fun e => absurd e.2 (by decide))]
  have fe_1_1_3 : w_fi w2 (n_v vs 1) 1 = w_fi w3 (n_v vs 1) 1 := by show v_iv (w_fd _ _ _) = v_iv (w_fd _ _ _); rw [s3.2, if_neg (fun e => absurd e.2 (by decide))]
  have hE_1_4_1 : ∀ j : Int, w_ei ws (w_ar ws (n_v vs 1) 4) j = w_ei w1 (w_ar ws (n_v vs 1) 4) j := fun j => s1.1 _ _
  have hE_1_4_2 : ∀ j : Int, w_ei w1 (w_ar ws (n_v vs 1) 4) j = w_ei w2 (w_ar ws (n_v vs 1) 4) j := fun j => s2.1 _ _
  have hE_1_4_3 : ∀ j : Int, w_ei w2 (w_ar ws (n_v vs 1) 4) j = w_ei w3 (w_ar ws (n_v vs 1) 4) j := fun j => s3.1 _ _
  have hE_1_7_1 : ∀ j : Int, w_ei ws (w_ar ws (n_v vs 1) 7) j = w_ei w1 (w_ar ws (n_v vs 1) 7) j := fun j => s1.1 _ _
  have hE_1_7_2 : ∀ j : Int, w_ei w1 (w_ar ws (n_v vs 1) 7) j = w_ei w2 (w_ar ws (n_v vs 1) 7) j := fun j => s2.1 _ _
  have hE_1_7_3 : ∀ j : Int, w_ei w2 (w_ar ws (n_v vs 1) 7) j = w_ei w3 (w_ar ws (n_v vs 1) 7) j := fun j => s3.1 _ _
  have hE_1_8_1 : ∀ j : Int, w_ei ws (w_ar ws (n_v vs 1) 8) j = w_ei w1 (w_ar ws (n_v vs 1) 8) j := fun j => s1.1 _ _
  have hE_1_8_2 : ∀ j : Int, w_ei w1 (w_ar ws (n_v vs 1) 8) j = w_ei w2 (w_ar ws (n_v vs 1) 8) j := fun j => s2.1 _ _
  have hE_1_8_3 : ∀ j : Int, w_ei w2 (w_ar ws (n_v vs 1) 8) j = w_ei w3 (w_ar ws (n_v vs 1) 8) j := fun j => s3.1 _ _
  have hE_2_2_1 : ∀ j : Int, w_ei ws (w_ar ws (n_v vs 2) 2) j = w_ei w1 (w_ar ws (n_v vs 2) 2) j := fun j => s1.1 _ _
  have hE_2_2_2 : ∀ j : Int, w_ei w1 (w_ar ws (n_v vs 2) 2) j = w_ei w2 (w_ar ws (n_v vs 2) 2) j := fun j => s2.1 _ _
  have hE_2_2_3 : ∀ j : Int, w_ei w2 (w_ar ws (n_v vs 2) 2) j = w_ei w3 (w_ar ws (n_v vs 2) 2) j := fun j => s3.1 _ _
  have hE_2_3_1 : ∀ j : Int, w_ei ws (w_ar ws (n_v vs 2) 3) j = w_ei w1 (w_ar ws (n_v vs 2) 3) j := fun j => s1.1 _ _
  have hE_2_3_2 : ∀ j : Int, w_ei w1 (w_ar ws (n_v vs 2) 3) j = w_ei w2 (w_ar ws (n_v vs 2) 3) j := fun j => s2.1 _ _
  have hE_2_3_3 : ∀ j : Int, w_ei w2 (w_ar ws (n_v vs 2) 3) j = w_ei w3 (w_ar ws (n_v vs 2) 3) j := fun j => s3.1 _ _
  have kz_0_2 := fdq_105 hD hth r0
  have kz_0_3 := fdq_106 hD hth r0
  have kz_0_4 := fdq_102 hD hth r0
  have kz_0_5 := fdq_103 hD hth r0
  have kz_0_6 := fdq_259 hD hth r0
  have kz_0_7 := fdq_261 hD hth r0
  have kz_0_17 := fdq_260 hD hth r0
  have kz_1_0 := fdq_23 hD hth r1
  have kz_1_1 := fdq_38 hD hth r1
  have nf0 : fc_1 PRD (20, [0], [50, 2, 0, 4, 5, 2, 7, 0, 2, 0, 1, 2, 0, 4, 2, 7, 0, 2, 0, 1, 2, 0, 5, 0, 8, 6, 3, 2, 0, 4, 2, 0, 5, 0, 6000]) ws (vs) := ⟨nf_in hl rfl, sgq_460 (vc_Ro_lead_7_0 (v_iv (n_v vs 3)) (w_fi ws (n_v vs 0) 7) (w_fi ws (n_v vs 0) 6) (w_ei ws (w_ar ws (n_v vs 2) 2)) (w_ei ws (w_ar ws (n_v vs 2) 3)) (w_fi ws (n_v vs 0) 2) (w_fi ws (n_v vs 0) 3) (w_fi ws (n_v vs 0) 4) (w_fi ws (n_v vs 0) 5) (w_fi ws (n_v vs 1) 0) (w_ei ws (w_ar ws (n_v vs 1) 7)) (w_ei ws (w_ar ws (n_v vs 1) 8)) (w_ei ws (w_ar ws (n_v vs 1) 4)) (w_fi ws (n_v vs 1) 1) (w_ei w1 (w_ar ws (n_v vs 2) 2)) (w_ei w1 (w_ar ws (n_v vs 2) 3)) (w_fi w1 (n_v vs 0) 2) (w_fi w1 (n_v vs 0) 3) (w_fi w1 (n_v vs 0) 4) (w_fi w1 (n_v vs 0) 5) (w_fi w1 (n_v vs 1) 0) (w_fi w1 (n_v vs 0) 6) (w_ei w1 (w_ar ws (n_v vs 1) 7)) (w_ei w1 (w_ar ws (n_v vs 1) 8)) (w_ei w1 (w_ar ws (n_v vs 1) 4)) (w_fi w1 (n_v vs 1) 1) (w_ei w2 (w_ar ws (n_v vs 2) 2)) (w_ei w2 (w_ar ws (n_v vs 2) 3)) (w_fi w2 (n_v vs 0) 2) (w_fi w2 (n_v vs 0) 3) (w_fi w2 (n_v vs 0) 4) (w_fi w2 (n_v vs 0) 5) (w_fi w2 (n_v vs 1) 0) (w_fi w2 (n_v vs 0) 6) (w_ei w2 (w_ar ws (n_v vs 1) 7)) (w_ei w2 (w_ar ws (n_v vs 1) 8)) (w_ei w2 (w_ar ws (n_v vs 1) 4)) (w_fi w2 (n_v vs 1) 1) (w_ei w3 (w_ar ws (n_v vs 2) 2)) (w_ei w3 (w_ar ws (n_v vs 2) 3)) (w_fi w3 (n_v vs 0) 2) (w_fi w3 (n_v vs 0) 3) (w_fi w3 (n_v vs 0) 4) (w_fi w3 (n_v vs 0) 5) (w_fi w3 (n_v vs 1) 0) (w_ei w3 (w_ar ws (n_v vs 1) 7)) (w_ei w3 (w_ar ws (n_v vs 1) 8)) (w_ei w3 (w_ar ws (n_v vs 1) 4)) (w_fi w3 (n_v vs 1) 1) (w_fi w1 (n_v vs 0) 7) (w_fi w1 (n_v vs 0) 17) (w_fi w2 (n_v vs 0) 17) f55 fe_0_2_1 fe_0_3_1 fe_0_4_1 fe_0_5_1 fe_0_6_1 fe_0_7_1 fe_1_0_1 fe_1_1_1 fe_0_2_2 fe_0_3_2 fe_0_4_2 fe_0_5_2 fe_0_6_2 fe_0_17_2 fe_1_0_2 fe_1_1_2 fe_0_2_3 fe_0_3_3 fe_0_4_3 fe_0_5_3 fe_1_0_3 fe_1_1_3 hE_1_4_1 hE_1_4_2 hE_1_4_3 hE_1_7_1 hE_1_7_2 hE_1_7_3 hE_1_8_1 hE_1_8_2 hE_1_8_3 hE_2_2_1 hE_2_2_2 hE_2_2_3 hE_2_3_1 hE_2_3_2 hE_2_3_3 kz_0_2 kz_0_3 kz_0_4 kz_0_5 kz_0_6 kz_0_7 kz_1_0 kz_1_1)⟩
  have nf1 : fc_1 PRD (20, [0], [50, 3, 0, 7, 4, 5, 0, 7, 4, 3, 2, 0, 7, 0, 1, 6, 3, 2, 0, 4, 2, 0, 5]) ws (vs) := ⟨nf_in hl rfl, sgq_1472 (vc_Ro_lead_7_1 (v_iv (n_v vs 3)) (v_iv (n_v vs 10)) (w_fi ws (n_v vs 0) 7) (w_fi ws (n_v vs 0) 6) (w_ei ws (w_ar ws (n_v vs 2) 2)) (w_ei ws (w_ar ws (n_v vs 2) 3)) (w_fi ws (n_v vs 0) 2) (w_fi ws (n_v vs 0) 3) (w_fi ws (n_v vs 0) 4) (w_fi ws (n_v vs 0) 5) (w_fi ws (n_v vs 1) 0) (w_ei ws (w_ar ws (n_v vs 1) 7)) (w_ei ws (w_ar ws (n_v vs 1) 8)) (w_ei ws (w_ar ws (n_v vs 1) 4)) (w_fi ws (n_v vs 1) 1) (w_ei w1 (w_ar ws (n_v vs 2) 2)) (w_ei w1 (w_ar ws (n_v vs 2) 3)) (w_fi w1 (n_v vs 0) 2) (w_fi w1 (n_v vs 0) 3) (w_fi w1 (n_v vs 0) 4) (w_fi w1 (n_v vs 0) 5) (w_fi w1 (n_v vs 1) 0) (w_fi w1 (n_v vs 0) 6) (w_ei w1 (w_ar ws (n_v vs 1) 7)) (w_ei w1 (w_ar ws (n_v vs 1) 8)) (w_ei w1 (w_ar ws (n_v vs 1) 4)) (w_fi w1 (n_v vs 1) 1) (w_ei w2 (w_ar ws (n_v vs 2) 2)) (w_ei w2 (w_ar ws (n_v vs 2) 3)) (w_fi w2 (n_v vs 0) 2) (w_fi w2 (n_v vs 0) 3) (w_fi w2 (n_v vs 0) 4) (w_fi w2 (n_v vs 0) 5) (w_fi w2 (n_v vs 1) 0) (w_fi w2 (n_v vs 0) 6) (w_ei w2 (w_ar ws (n_v vs 1) 7)) (w_ei w2 (w_ar ws (n_v vs 1) 8)) (w_ei w2 (w_ar ws (n_v vs 1) 4)) (w_fi w2 (n_v vs 1) 1) (w_ei w3 (w_ar ws (n_v vs 2) 2)) (w_ei w3 (w_ar ws (n_v vs 2) 3)) (w_fi w3 (n_v vs 0) 2) (w_fi w3 (n_v vs 0) 3) (w_fi w3 (n_v vs 0) 4) (w_fi w3 (n_v vs 0) 5) (w_fi w3 (n_v vs 1) 0) (w_ei w3 (w_ar ws (n_v vs 1) 7)) (w_ei w3 (w_ar ws (n_v vs 1) 8)) (w_ei w3 (w_ar ws (n_v vs 1) 4)) (w_fi w3 (n_v vs 1) 1) (w_fi w1 (n_v vs 0) 7) (w_fi w1 (n_v vs 0) 17) (w_fi w2 (n_v vs 0) 17) k10 g3 (shm_467 f6) fe_0_2_1 fe_0_3_1 fe_0_4_1 fe_0_5_1 fe_0_6_1 fe_0_7_1 fe_1_0_1 fe_1_1_1 fe_0_2_2 fe_0_3_2 fe_0_4_2 fe_0_5_2 fe_0_6_2 fe_0_17_2 fe_1_0_2 fe_1_1_2 fe_0_2_3 fe_0_3_3 fe_0_4_3 fe_0_5_3 fe_1_0_3 fe_1_1_3 hE_1_4_1 hE_1_4_2 hE_1_4_3 hE_1_7_1 hE_1_7_2 hE_1_7_3 hE_1_8_1 hE_1_8_2 hE_1_8_3 hE_2_2_1 hE_2_2_2 hE_2_2_3 hE_2_3_1 hE_2_3_2 hE_2_3_3 kz_0_2 kz_0_3 kz_0_4 kz_0_5 kz_0_6 kz_0_7 kz_1_0 kz_1_1)⟩
  have nf2 : fc_1 PRD (20, [0], [30, 0, 1, 1, 17]) ws (vs) := ⟨nf_in hl rfl, sgq_1089 (vc_Ro_lead_7_2 (v_iv (n_v vs 3)) (v_iv (n_v vs 11)) (w_fi ws (n_v vs 0) 17) (w_fi ws (n_v vs 0) 7) (w_fi ws (n_v vs 0) 6) (w_ei ws (w_ar ws (n_v vs 2) 2)) (w_ei ws (w_ar ws (n_v vs 2) 3)) (w_fi ws (n_v vs 0) 2) (w_fi ws (n_v vs 0) 3) (w_fi ws (n_v vs 0) 4) (w_fi ws (n_v vs 0) 5) (w_fi ws (n_v vs 1) 0) (w_ei ws (w_ar ws (n_v vs 1) 7)) (w_ei ws (w_ar ws (n_v vs 1) 8)) (w_ei ws (w_ar ws (n_v vs 1) 4)) (w_fi ws (n_v vs 1) 1) (w_ei w1 (w_ar ws (n_v vs 2) 2)) (w_ei w1 (w_ar ws (n_v vs 2) 3)) (w_fi w1 (n_v vs 0) 2) (w_fi w1 (n_v vs 0) 3) (w_fi w1 (n_v vs 0) 4) (w_fi w1 (n_v vs 0) 5) (w_fi w1 (n_v vs 1) 0) (w_fi w1 (n_v vs 0) 6) (w_ei w1 (w_ar ws (n_v vs 1) 7)) (w_ei w1 (w_ar ws (n_v vs 1) 8)) (w_ei w1 (w_ar ws (n_v vs 1) 4)) (w_fi w1 (n_v vs 1) 1) (w_ei w2 (w_ar ws (n_v vs 2) 2)) (w_ei w2 (w_ar ws (n_v vs 2) 3)) (w_fi w2 (n_v vs 0) 2) (w_fi w2 (n_v vs 0) 3) (w_fi w2 (n_v vs 0) 4) (w_fi w2 (n_v vs 0) 5) (w_fi w2 (n_v vs 1) 0) (w_fi w2 (n_v vs 0) 6) (w_ei w2 (w_ar ws (n_v vs 1) 7)) (w_ei w2 (w_ar ws (n_v vs 1) 8)) (w_ei w2 (w_ar ws (n_v vs 1) 4)) (w_fi w2 (n_v vs 1) 1) (w_ei w3 (w_ar ws (n_v vs 2) 2)) (w_ei w3 (w_ar ws (n_v vs 2) 3)) (w_fi w3 (n_v vs 0) 2) (w_fi w3 (n_v vs 0) 3) (w_fi w3 (n_v vs 0) 4) (w_fi w3 (n_v vs 0) 5) (w_fi w3 (n_v vs 1) 0) (w_ei w3 (w_ar ws (n_v vs 1) 7)) (w_ei w3 (w_ar ws (n_v vs 1) 8)) (w_ei w3 (w_ar ws (n_v vs 1) 4)) (w_fi w3 (n_v vs 1) 1) (w_fi w1 (n_v vs 0) 7) (w_fi w1 (n_v vs 0) 17) (w_fi w2 (n_v vs 0) 17) k11 g0 fe_0_2_1 fe_0_3_1 fe_0_4_1 fe_0_5_1 fe_0_6_1 fe_0_7_1 fe_1_0_1 fe_1_1_1 fe_0_2_2 fe_0_3_2 fe_0_4_2 fe_0_5_2 fe_0_6_2 fe_0_17_2 fe_1_0_2 fe_1_1_2 fe_0_2_3 fe_0_3_3 fe_0_4_3 fe_0_5_3 fe_1_0_3 fe_1_1_3 hE_1_4_1 hE_1_4_2 hE_1_4_3 hE_1_7_1 hE_1_7_2 hE_1_7_3 hE_1_8_1 hE_1_8_2 hE_1_8_3 hE_2_2_1 hE_2_2_2 hE_2_2_3 hE_2_3_1 hE_2_3_2 hE_2_3_3 kz_0_2 kz_0_3 kz_0_4 kz_0_5 kz_0_6 kz_0_7 kz_0_17 kz_1_0 kz_1_1)⟩
  refine ⟨(fun _ h => (by cases h)), [], trivial, ?_, (fun _ h => (by cases h))⟩
  rw [List.append_nil]
  exact List.forall_mem_cons.mpr ⟨⟨show (20 : Nat) < 100 from by decide, nf0⟩, List.forall_mem_cons.mpr ⟨⟨show (20 : Nat) < 100 from by decide, nf1⟩, List.forall_mem_cons.mpr ⟨⟨show (20 : Nat) < 100 from by decide, nf2⟩, (fun _ h => (by cases h))⟩⟩⟩
set_option maxHeartbeats 4000000 in
theorem vc_Ro_lead_8_0 (x3 : Int) (x17 : Int) (x18 : Int) (goal_0 : Int) (start_0 : Int) (width_0 : Int) (height_0 : Int) (x_0o2 : Int → Int) (y_0o2 : Int → Int) (left_0 : Int) (top_0 : Int) (nodes_0o1 : Int) (tail_0o1 : Int → Int) (head_0o1 : Int → Int) (nameLength_0o1 : Int → Int) (edges_0o1 : Int) (width_1 : Int) (height_1 : Int) (goal_1 : Int) (x_1o2 : Int → Int) (y_1o2 : Int → Int) (left_1 : Int) (top_1 : Int) (nodes_1o1 : Int) (start_1 : Int) (tail_1o1 : Int → Int) (head_1o1 : Int → Int) (nameLength_1o1 : Int → Int) (edges_1o1 : Int) (bends_0o2 : Int → Int) (bends_1o2 : Int → Int) (k3 : 0 ≤ x3 ∧ x3 ≤ 47) (k17 : 0 ≤ x17 ∧ x17 ≤ 0) (k18 : 0 ≤ x18 ∧ x18 ≤ 0) (fe_0_2_1 : left_0 = left_1) (fe_0_3_1 : top_0 = top_1) (fe_0_4_1 : width_0 = width_1) (fe_0_5_1 : height_0 = height_1) (fe_0_6_1 : start_0 = start_1) (fe_0_7_1 : goal_0 = goal_1) (fe_1_0_1 : nodes_0o1 = nodes_1o1) (fe_1_1_1 : edges_0o1 = edges_1o1) (hE_1_4_1 : ∀ j : Int, nameLength_0o1 j = nameLength_1o1 j) (hE_1_7_1 : ∀ j : Int, tail_0o1 j = tail_1o1 j) (hE_1_8_1 : ∀ j : Int, head_0o1 j = head_1o1 j) (hE_2_2_1 : ∀ j : Int, x_0o2 j = x_1o2 j) (hE_2_3_1 : ∀ j : Int, y_0o2 j = y_1o2 j) (hE_2_4_1 : ∀ j : Int, 0 ≤ j → (j = x3 → bends_0o2 j = x17) ∧ (j ≠ x3 → bends_0o2 j = bends_1o2 j)) (kz_0_2 : (-40000011) ≤ left_0 ∧ left_0 ≤ 1000000000) (kz_0_3 : (-40000003) ≤ top_0 ∧ top_0 ≤ 1000000000) (kz_0_4 : (-2147483648) ≤ width_0 ∧ width_0 ≤ 2147483647) (kz_0_5 : (-2147483648) ≤ height_0 ∧ height_0 ≤ 2147483647) (kz_0_6 : 0 ≤ start_0 ∧ start_0 ≤ 5999) (kz_0_7 : 0 ≤ goal_0 ∧ goal_0 ≤ 5999) (kz_1_0 : 0 ≤ nodes_0o1 ∧ nodes_0o1 ≤ 24) (kz_1_1 : 0 ≤ edges_0o1 ∧ edges_0o1 ≤ 48) : bends_0o2 (x3) ≤ x18 := by
  subst fe_0_2_1
  subst fe_0_3_1
  subst fe_0_4_1
  subst fe_0_5_1
  subst fe_0_6_1
  subst fe_0_7_1
  subst fe_1_0_1
  subst fe_1_1_1
  have e_hE_1_4_1 := funext hE_1_4_1; subst e_hE_1_4_1
  have e_hE_1_7_1 := funext hE_1_7_1; subst e_hE_1_7_1
  have e_hE_1_8_1 := funext hE_1_8_1; subst e_hE_1_8_1
  have e_hE_2_2_1 := funext hE_2_2_1; subst e_hE_2_2_1
  have e_hE_2_3_1 := funext hE_2_3_1; subst e_hE_2_3_1
  first
    | omega
    | (have g := ‹GKE _ _ _ _› x3 (by omega) (by omega); omega)
    | assumption
    | (have e := (hE_2_4_1 x3 (by omega)).1 rfl; omega)
    | (have e := (hE_2_4_1 x3 (by omega)).1 (by omega); omega)
    | (have h := ‹FRM _ _ _ _ _ _ _ _›.1; exact h)
    | (have h := ‹FRM _ _ _ _ _ _ _ _›.1; omega)
  
set_option maxHeartbeats 4000000 in
theorem vc_Ro_lead_8_1 (x3 : Int) (x14 : Int) (x17 : Int) (turns_0 : Int) (goal_0 : Int) (start_0 : Int) (width_0 : Int) (height_0 : Int) (x_0o2 : Int → Int) (y_0o2 : Int → Int) (left_0 : Int) (top_0 : Int) (nodes_0o1 : Int) (tail_0o1 : Int → Int) (head_0o1 : Int → Int) (nameLength_0o1 : Int → Int) (edges_0o1 : Int) (width_1 : Int) (height_1 : Int) (goal_1 : Int) (x_1o2 : Int → Int) (y_1o2 : Int → Int) (left_1 : Int) (top_1 : Int) (nodes_1o1 : Int) (start_1 : Int) (tail_1o1 : Int → Int) (head_1o1 : Int → Int) (nameLength_1o1 : Int → Int) (edges_1o1 : Int) (bends_0o2 : Int → Int) (bends_1o2 : Int → Int) (k3 : 0 ≤ x3 ∧ x3 ≤ 47) (k14 : 0 ≤ x14 ∧ x14 ≤ 24) (k17 : 0 ≤ x17 ∧ x17 ≤ 0) (g1 : x14 = turns_0) (fe_0_2_1 : left_0 = left_1) (fe_0_3_1 : top_0 = top_1) (fe_0_4_1 : width_0 = width_1) (fe_0_5_1 : height_0 = height_1) (fe_0_6_1 : start_0 = start_1) (fe_0_7_1 : goal_0 = goal_1) (fe_1_0_1 : nodes_0o1 = nodes_1o1) (fe_1_1_1 : edges_0o1 = edges_1o1) (hE_1_4_1 : ∀ j : Int, nameLength_0o1 j = nameLength_1o1 j) (hE_1_7_1 : ∀ j : Int, tail_0o1 j = tail_1o1 j) (hE_1_8_1 : ∀ j : Int, head_0o1 j = head_1o1 j) (hE_2_2_1 : ∀ j : Int, x_0o2 j = x_1o2 j) (hE_2_3_1 : ∀ j : Int, y_0o2 j = y_1o2 j) (hE_2_4_1 : ∀ j : Int, 0 ≤ j → (j = x3 → bends_0o2 j = x17) ∧ (j ≠ x3 → bends_0o2 j = bends_1o2 j)) (kz_0_2 : (-40000011) ≤ left_0 ∧ left_0 ≤ 1000000000) (kz_0_3 : (-40000003) ≤ top_0 ∧ top_0 ≤ 1000000000) (kz_0_4 : (-2147483648) ≤ width_0 ∧ width_0 ≤ 2147483647) (kz_0_5 : (-2147483648) ≤ height_0 ∧ height_0 ≤ 2147483647) (kz_0_6 : 0 ≤ start_0 ∧ start_0 ≤ 5999) (kz_0_7 : 0 ≤ goal_0 ∧ goal_0 ≤ 5999) (kz_0_17 : 0 ≤ turns_0 ∧ turns_0 ≤ 6000) (kz_1_0 : 0 ≤ nodes_0o1 ∧ nodes_0o1 ≤ 24) (kz_1_1 : 0 ≤ edges_0o1 ∧ edges_0o1 ≤ 48) : turns_0 ≤ 24 := by
  subst fe_0_2_1
  subst fe_0_3_1
  subst fe_0_4_1
  subst fe_0_5_1
  subst fe_0_6_1
  subst fe_0_7_1
  subst fe_1_0_1
  subst fe_1_1_1
  have e_hE_1_4_1 := funext hE_1_4_1; subst e_hE_1_4_1
  have e_hE_1_7_1 := funext hE_1_7_1; subst e_hE_1_7_1
  have e_hE_1_8_1 := funext hE_1_8_1; subst e_hE_1_8_1
  have e_hE_2_2_1 := funext hE_2_2_1; subst e_hE_2_2_1
  have e_hE_2_3_1 := funext hE_2_3_1; subst e_hE_2_3_1
  first
    | omega
    | (have g := ‹GKE _ _ _ _› x3 (by omega) (by omega); omega)
    | assumption
    | (have e := (hE_2_4_1 x3 (by omega)).1 rfl; omega)
    | (have e := (hE_2_4_1 x3 (by omega)).1 (by omega); omega)
    | (have h := ‹FRM _ _ _ _ _ _ _ _›.1; exact h)
    | (have h := ‹FRM _ _ _ _ _ _ _ _›.1; omega)
  
def o_Ro_lead_8 : or_T := (131, 19, [(0, (2, 0, 0, [9])), (1, (2, 0, 0, [3])), (2, (2, 0, 0, [0])), (3, (0, 0, 47, [])), (14, (0, 0, 24, [])), (16, (2, 0, 0, [16])), (17, (0, 0, 0, [])), (18, (0, 0, 0, []))], [(9, [16, 2], [4]), (9, [14, 0], [17]), (100, [16, 3, 17], [])], [], [], [(20, [2, 3, 18], [50, 0, 1, 4, 0, 5, 3, 0, 4, 1, 1, 1, 2]), (20, [0], [50, 1, 0, 17, 0, 3, 2, 0, 17, 0, 24])], [], [])
theorem oo_Ro_lead_8 {kA : Nat → ClassId} : or_ok PRD kA GG o_Ro_lead_8 := by
  refine or_mk fun A ta ws vs hD hth hl => ?_
  intro t0 r0 t1 r1 t2 r2 t3 k3 t14 k14 t16 r16 t17 k17 t18 k18 f0 f1 ta1 w1 le1 s1
  replace f0 := shm_107 f0
  replace f1 := shm_781 f1
  have s1 : (∀ b j, w_el ws b j = if b = v_ad (n_v vs 16) ∧ j = (v_iv (n_v vs 3)).toNat then v_iv (n_v vs 17) else w_el w1 b j) ∧ ∀ b k, w_fd ws b k = w_fd w1 b k := s1.2
  have cr_1_4 := fdq_5 hD hth r1
  have cr_1_7 := fdq_52 hD hth r1
  have cr_1_8 := fdq_53 hD hth r1
  have cr_2_2 := fdq_51 hD hth r2
  have cr_2_3 := fdq_54 hD hth r2
  have ad_16 : v_ad (n_v vs 16) = w_ar ws (n_v vs 2) 4 := congrArg v_ad f0
  have g1 : v_iv (n_v vs 14) = w_fi ws (n_v vs 0) 17 := congrArg v_iv f1
  have fe_0_2_1 : w_fi ws (n_v vs 0) 2 = w_fi w1 (n_v vs 0) 2 := congrArg v_iv (s1.2 _ _)
  have fe_0_3_1 : w_fi ws (n_v vs 0) 3 = w_fi w1 (n_v vs 0) 3 := congrArg v_iv (s1.2 _ _)
  have fe_0_4_1 : w_fi ws (n_v vs 0) 4 = w_fi w1 (n_v vs 0) 4 := congrArg v_iv (s1.2 _ _)
  have fe_0_5_1 : w_fi ws (n_v vs 0) 5 = w_fi w1 (n_v vs 0) 5 := congrArg v_iv (s1.2 _ _)
  have fe_0_6_1 : w_fi ws (n_v vs 0) 6 = w_fi w1 (n_v vs 0) 6 := congrArg v_iv (s1.2 _ _)
  have fe_0_7_1 : w_fi ws (n_v vs 0) 7 = w_fi w1 (n_v vs 0) 7 := congrArg v_iv (s1.2 _ _)
  have fe_1_0_1 : w_fi ws (n_v vs 1) 0 = w_fi w1 (n_v vs 1) 0 := congrArg v_iv (s1.2 _ _)
  have fe_1_1_1 : w_fi ws (n_v vs 1) 1 = w_fi w1 (n_v vs 1) 1 := congrArg v_iv (s1.2 _ _)
  have hE_1_4_1 : ∀ j : Int, w_ei ws (w_ar ws (n_v vs 1) 4) j = w_ei w1 (w_ar ws (n_v vs 1) 4) j := el_kp s1.1 r16 cr_1_4 (by decide)
  have hE_1_7_1 : ∀ j : Int, w_ei ws (w_ar ws (n_v vs 1) 7) j = w_ei w1 (w_ar ws (n_v vs 1) 7) j := el_kp s1.1 r16 cr_1_7 (by decide)
  have hE_1_8_1 : ∀ j : Int, w_ei ws (w_ar ws (n_v vs 1) 8) j = w_ei w1 (w_ar ws (n_v vs 1) 8) j := el_kp s1.1 r16 cr_1_8 (by decide)
  have hE_2_2_1 : ∀ j : Int, w_ei ws (w_ar ws (n_v vs 2) 2) j = w_ei w1 (w_ar ws (n_v vs 2) 2) j := el_kp s1.1 r16 cr_2_2 (by decide)
  have hE_2_3_1 : ∀ j : Int, w_ei ws (w_ar ws (n_v vs 2) 3) j = w_ei w1 (w_ar ws (n_v vs 2) 3) j := el_kp s1.1 r16 cr_2_3 (by decide)
  have hE_2_4_1 : ∀ j : Int, 0 ≤ j → (j = v_iv (n_v vs 3) → w_ei ws (w_ar ws (n_v vs 2) 4) j = v_iv (n_v vs 17)) ∧ (j ≠ v_iv (n_v vs 3) → w_ei ws (w_ar ws (n_v vs 2) 4) j = w_ei w1 (w_ar ws (n_v vs 2) 4) j) := fun j hj => ⟨fun h => by unfold w_ei; rw [s1.1, if_pos ⟨ad_16.symm, by rw [h]⟩], fun h => by unfold w_ei; rw [s1.1, if_neg (fun e => h (by have := e.2; omega))]⟩
  have kz_0_2 := fdq_105 hD hth r0
  have kz_0_3 := fdq_106 hD hth r0
  have kz_0_4 := fdq_102 hD hth r0
  have kz_0_5 := fdq_103 hD hth r0
  have kz_0_6 := fdq_259 hD hth r0
  have kz_0_7 := fdq_261 hD hth r0
  have kz_0_17 := fdq_260 hD hth r0
  have kz_1_0 := fdq_23 hD hth r1
  have kz_1_1 := fdq_38 hD hth r1
  have nf0 : fc_1 PRD (20, [2, 3, 18], [50, 0, 1, 4, 0, 5, 3, 0, 4, 1, 1, 1, 2]) ws (vs) := ⟨nf_in hl rfl, sgq_1546 (vc_Ro_lead_8_0 (v_iv (n_v vs 3)) (v_iv (n_v vs 17)) (v_iv (n_v vs 18)) (w_fi ws (n_v vs 0) 7) (w_fi ws (n_v vs 0) 6) (w_fi ws (n_v vs 0) 4) (w_fi ws (n_v vs 0) 5) (w_ei ws (w_ar ws (n_v vs 2) 2)) (w_ei ws (w_ar ws (n_v vs 2) 3)) (w_fi ws (n_v vs 0) 2) (w_fi ws (n_v vs 0) 3) (w_fi ws (n_v vs 1) 0) (w_ei ws (w_ar ws (n_v vs 1) 7)) (w_ei ws (w_ar ws (n_v vs 1) 8)) (w_ei ws (w_ar ws (n_v vs 1) 4)) (w_fi ws (n_v vs 1) 1) (w_fi w1 (n_v vs 0) 4) (w_fi w1 (n_v vs 0) 5) (w_fi w1 (n_v vs 0) 7) (w_ei w1 (w_ar ws (n_v vs 2) 2)) (w_ei w1 (w_ar ws (n_v vs 2) 3)) (w_fi w1 (n_v vs 0) 2) (w_fi w1 (n_v vs 0) 3) (w_fi w1 (n_v vs 1) 0) (w_fi w1 (n_v vs 0) 6) (w_ei w1 (w_ar ws (n_v vs 1) 7)) (w_ei w1 (w_ar ws (n_v vs 1) 8)) (w_ei w1 (w_ar ws (n_v vs 1) 4)) (w_fi w1 (n_v vs 1) 1) (w_ei ws (w_ar ws (n_v vs 2) 4)) (w_ei w1 (w_ar ws (n_v vs 2) 4)) k3 k17 k18 fe_0_2_1 fe_0_3_1 fe_0_4_1 fe_0_5_1 fe_0_6_1 fe_0_7_1 fe_1_0_1 fe_1_1_1 hE_1_4_1 hE_1_7_1 hE_1_8_1 hE_2_2_1 hE_2_3_1 hE_2_4_1 kz_0_2 kz_0_3 kz_0_4 kz_0_5 kz_0_6 kz_0_7 kz_1_0 kz_1_1)⟩
  have nf1 : fc_1 PRD (20, [0], [50, 1, 0, 17, 0, 3, 2, 0, 17, 0, 24]) ws (vs) := ⟨nf_in hl rfl, sgq_1821 (vc_Ro_lead_8_1 (v_iv (n_v vs 3)) (v_iv (n_v vs 14)) (v_iv (n_v vs 17)) (w_fi ws (n_v vs 0) 17) (w_fi ws (n_v vs 0) 7) (w_fi ws (n_v vs 0) 6) (w_fi ws (n_v vs 0) 4) (w_fi ws (n_v vs 0) 5) (w_ei ws (w_ar ws (n_v vs 2) 2)) (w_ei ws (w_ar ws (n_v vs 2) 3)) (w_fi ws (n_v vs 0) 2) (w_fi ws (n_v vs 0) 3) (w_fi ws (n_v vs 1) 0) (w_ei ws (w_ar ws (n_v vs 1) 7)) (w_ei ws (w_ar ws (n_v vs 1) 8)) (w_ei ws (w_ar ws (n_v vs 1) 4)) (w_fi ws (n_v vs 1) 1) (w_fi w1 (n_v vs 0) 4) (w_fi w1 (n_v vs 0) 5) (w_fi w1 (n_v vs 0) 7) (w_ei w1 (w_ar ws (n_v vs 2) 2)) (w_ei w1 (w_ar ws (n_v vs 2) 3)) (w_fi w1 (n_v vs 0) 2) (w_fi w1 (n_v vs 0) 3) (w_fi w1 (n_v vs 1) 0) (w_fi w1 (n_v vs 0) 6) (w_ei w1 (w_ar ws (n_v vs 1) 7)) (w_ei w1 (w_ar ws (n_v vs 1) 8)) (w_ei w1 (w_ar ws (n_v vs 1) 4)) (w_fi w1 (n_v vs 1) 1) (w_ei ws (w_ar ws (n_v vs 2) 4)) (w_ei w1 (w_ar ws (n_v vs 2) 4)) k3 k14 k17 g1 fe_0_2_1 fe_0_3_1 fe_0_4_1 fe_0_5_1 fe_0_6_1 fe_0_7_1 fe_1_0_1 fe_1_1_1 hE_1_4_1 hE_1_7_1 hE_1_8_1 hE_2_2_1 hE_2_3_1 hE_2_4_1 kz_0_2 kz_0_3 kz_0_4 kz_0_5 kz_0_6 kz_0_7 kz_0_17 kz_1_0 kz_1_1)⟩
  refine ⟨(fun _ h => (by cases h)), [], trivial, ?_, (fun _ h => (by cases h))⟩
  rw [List.append_nil]
  exact List.forall_mem_cons.mpr ⟨⟨show (20 : Nat) < 100 from by decide, nf0⟩, List.forall_mem_cons.mpr ⟨⟨show (20 : Nat) < 100 from by decide, nf1⟩, (fun _ h => (by cases h))⟩⟩
set_option maxHeartbeats 4000000 in
theorem vc_Ro_lead_9_r0 (x3 : Int) (x6 : Int) (x9 : Int) (turns_0 : Int) (k6 : 0 ≤ x6 ∧ x6 ≤ 24) (k9 : 1 ≤ x9 ∧ x9 ≤ 6000) (d0 : x9 + (-4294967296) ≤ x6 ∧ x6 ≤ x9 + (-1)) (g1 : x9 = turns_0) (f3 : turns_0 ≤ 24) (kz_0_17 : 0 ≤ turns_0 ∧ turns_0 ≤ 6000) : 0 ≤ x6 ∧ x6 ≤ 23 := by
  first
    | omega
    | (have g := ‹GKE _ _ _ _› x3 (by omega) (by omega); omega)
    | assumption
    | (have e := (hE_2_4_1 x3 (by omega)).1 rfl; omega)
    | (have e := (hE_2_4_1 x3 (by omega)).1 (by omega); omega)
    | (have h := ‹FRM _ _ _ _ _ _ _ _›.1; exact h)
    | (have h := ‹FRM _ _ _ _ _ _ _ _›.1; omega)
  
def o_Ro_lead_9 : or_T := (151, 11, [(0, (2, 0, 0, [9])), (3, (0, 0, 47, [])), (6, (0, 0, 24, [])), (8, (2, 0, 0, [0])), (9, (0, 1, 6000, []))], [(7, [6, 9], [2]), (9, [9, 0], [17]), (20, [8, 3, 6], [50, 0, 1, 4, 0, 5, 3, 0, 4, 1, 1, 1, 2]), (20, [0], [50, 1, 0, 17, 0, 3, 2, 0, 17, 0, 24])], [(6, (0, 0, 23, []))], [], [], [], [(6, 9, -4294967296, -1)])
theorem oo_Ro_lead_9 {kA : Nat → ClassId} : or_ok PRD kA GG o_Ro_lead_9 := by
  refine or_mk fun A ta ws vs hD hth hl => ?_
  intro t0 r0 t3 k3 t6 k6 t8 r8 t9 k9 d0 f0 f1 f2 f3
  replace f1 := shm_781 f1
  have g1 : v_iv (n_v vs 9) = w_fi ws (n_v vs 0) 17 := congrArg v_iv f1
  have kz_0_17 := fdq_260 hD hth r0
  have hrf0 : 0 ≤ v_iv (n_v vs 6) ∧ v_iv (n_v vs 6) ≤ 23 := vc_Ro_lead_9_r0 (v_iv (n_v vs 3)) (v_iv (n_v vs 6)) (v_iv (n_v vs 9)) (w_fi ws (n_v vs 0) 17) k6 k9 d0 g1 (shm_1821 f3) kz_0_17
  have rf6 : tv_ok ta (0, 0, 23, []) (n_v vs 6) := tv_in t6 (by first | omega | grind) (by first | omega | grind)
  refine ⟨List.forall_mem_cons.mpr ⟨rf6, (fun _ h => (by cases h))⟩, [], trivial, ?_, (fun _ h => (by cases h))⟩
  rw [List.append_nil]
  exact (fun _ h => (by cases h))
set_option maxHeartbeats 4000000 in
theorem vc_Ro_lead_10_0 (x3 : Int) (bends_0o8 : Int → Int) (gx : Int) (k3 : 0 ≤ x3 ∧ x3 ≤ 47) (ex2 : gx = bends_0o8 (x3)) : 1 * bends_0o8 (x3) + ((-1) * gx + 0) ≤ 0 := by
  first
    | omega
    | (have g := ‹GKE _ _ _ _› x3 (by omega) (by omega); omega)
    | assumption
    | (have e := (hE_2_4_1 x3 (by omega)).1 rfl; omega)
    | (have e := (hE_2_4_1 x3 (by omega)).1 (by omega); omega)
    | (have h := ‹FRM _ _ _ _ _ _ _ _›.1; exact h)
    | (have h := ‹FRM _ _ _ _ _ _ _ _›.1; omega)
  
set_option maxHeartbeats 4000000 in
theorem vc_Ro_lead_10_1 (x3 : Int) (x6 : Int) (bends_0o8 : Int → Int) (gx : Int) (k3 : 0 ≤ x3 ∧ x3 ≤ 47) (k6 : 0 ≤ x6 ∧ x6 ≤ 23) (f2 : bends_0o8 (x3) ≤ x6) (ex2 : gx = bends_0o8 (x3)) : 1 * gx + ((-1) * x6 + 0) ≤ 0 := by
  first
    | omega
    | (have g := ‹GKE _ _ _ _› x3 (by omega) (by omega); omega)
    | assumption
    | (have e := (hE_2_4_1 x3 (by omega)).1 rfl; omega)
    | (have e := (hE_2_4_1 x3 (by omega)).1 (by omega); omega)
    | (have h := ‹FRM _ _ _ _ _ _ _ _›.1; exact h)
    | (have h := ‹FRM _ _ _ _ _ _ _ _›.1; omega)
  
def o_Ro_lead_10 : or_T := (159, 14, [(0, (2, 0, 0, [9])), (3, (0, 0, 47, [])), (6, (0, 0, 23, [])), (8, (2, 0, 0, [0])), (9, (0, 1, 6000, []))], [(7, [6, 9], [2]), (9, [9, 0], [17]), (20, [8, 3, 6], [50, 0, 1, 4, 0, 5, 3, 0, 4, 1, 1, 1, 2]), (20, [0], [50, 1, 0, 17, 0, 3, 2, 0, 17, 0, 24])], [], [(0, 0, 23, [])], [(20, [8, 3, 14], [30, 0, 1, 2, 4, -1, 0, 0]), (23, [14, 6], [0, 1, -1])], [], [(6, 9, -4294967296, -1)])
theorem oo_Ro_lead_10 {kA : Nat → ClassId} : or_ok PRD kA GG o_Ro_lead_10 := by
  refine or_mk fun A ta ws vs hD hth hl => ?_
  intro t0 r0 t3 k3 t6 k6 t8 r8 t9 k9 d0 f0 f1 f2 f3
  replace f0 := shm_6 f0
  replace f1 := shm_781 f1
  replace f2 := shm_1546 f2
  replace f3 := shm_1821 f3
  have cr_8_4 := fdq_1 hD hth r8
  have g1 : v_iv (n_v vs 9) = w_fi ws (n_v vs 0) 17 := congrArg v_iv f1
  have hK_8_4 := elq_0 hD hth cr_8_4
  have kz_0_17 := fdq_260 hD hth r0
  have kv0 := th_el hD hth cr_8_4 (kd := 0) (n := 48) (m := 48) (lo := 0) (hi := 24) (rs := []) (L := []) rfl (by decide) (j := (v_iv (n_v vs 3)).toNat) (by omega)
  have kw0 : w_el ws (w_ar ws (n_v vs 8) 4) (v_iv (n_v vs 3)).toNat = w_ei ws (w_ar ws (n_v vs 8) 4) (v_iv (n_v vs 3)) := rfl
  obtain ⟨x, ex, hx⟩ := iv_ex (ta := ta) (lo := 0) (hi := 23) (z := w_el ws (w_ar ws (n_v vs 8) 4) (v_iv (n_v vs 3)).toNat) (by omega) (by omega) (by omega) (by omega)
  have ex2 : v_iv (Value.int x) = w_el ws (w_ar ws (n_v vs 8) 4) (v_iv (n_v vs 3)).toNat := ex
  have ex3 : 0 ≤ v_iv (Value.int x) ∧ v_iv (Value.int x) ≤ 23 := tv_rng hx
  have e_3 : n_v (vs ++ [Value.int x]) 3 = n_v vs 3 := n_v_old (by rw [hl]; decide)
  have e_6 : n_v (vs ++ [Value.int x]) 6 = n_v vs 6 := n_v_old (by rw [hl]; decide)
  have e_8 : n_v (vs ++ [Value.int x]) 8 = n_v vs 8 := n_v_old (by rw [hl]; decide)
  have e_14 : n_v (vs ++ [Value.int x]) 14 = Value.int x := n_v_new hl
  have nf0 : fc_1 PRD (20, [8, 3, 14], [30, 0, 1, 2, 4, -1, 0, 0]) ws (vs ++ [Value.int x]) := by
    refine ⟨nf_inA hl rfl, sgq_108 ?_⟩
    · show 1 * w_el ws (w_ar ws (n_v (vs ++ [Value.int x]) 8) 4) (v_iv (n_v (vs ++ [Value.int x]) 3)).toNat + ((-1) * v_iv (n_v (vs ++ [Value.int x]) 14) + 0) ≤ 0
      simp only [e_3, e_8, e_14]
      exact vc_Ro_lead_10_0 (v_iv (n_v vs 3)) (w_ei ws (w_ar ws (n_v vs 8) 4)) (v_iv (Value.int x)) k3 ex2
  have nf1 : fc_1 PRD (23, [14, 6], [0, 1, -1]) ws (vs ++ [Value.int x]) := by
    refine ⟨nf_inA hl rfl, sgq_7 ?_⟩
    · show 1 * v_iv (n_v (vs ++ [Value.int x]) 14) + ((-1) * v_iv (n_v (vs ++ [Value.int x]) 6) + 0) ≤ 0
      simp only [e_6, e_14]
      exact vc_Ro_lead_10_1 (v_iv (n_v vs 3)) (v_iv (n_v vs 6)) (w_ei ws (w_ar ws (n_v vs 8) 4)) (v_iv (Value.int x)) k3 k6 f2 ex2
  exact ⟨(fun _ h => (by cases h)), [Value.int x], ag_one hx, List.forall_mem_cons.mpr ⟨⟨show (20 : Nat) < 100 from by decide, nf0⟩, List.forall_mem_cons.mpr ⟨⟨show (23 : Nat) < 100 from by decide, nf1⟩, (fun _ h => (by cases h))⟩⟩, (fun _ h => (by cases h))⟩
set_option maxHeartbeats 4000000 in
theorem vc_Ro_lead_11_0 (x3 : Int) (x6 : Int) (x14 : Int) (x15 : Int) (bends_0o8 : Int → Int) (k3 : 0 ≤ x3 ∧ x3 ≤ 47) (k6 : 0 ≤ x6 ∧ x6 ≤ 23) (k14 : 0 ≤ x14 ∧ x14 ≤ 23) (k15 : 1 ≤ x15 ∧ x15 ≤ 24) (d0 : x6 + 1 ≤ x15 ∧ x15 ≤ x6 + 1) (f2 : 1 * x14 + ((-1) * x6 + 0) ≤ 0) (f4 : 1 * bends_0o8 (x3) + ((-1) * x14 + 0) ≤ 1) : bends_0o8 (x3) ≤ x15 := by
  first
    | omega
    | (have g := ‹GKE _ _ _ _› x3 (by omega) (by omega); omega)
    | assumption
    | (have e := (hE_2_4_1 x3 (by omega)).1 rfl; omega)
    | (have e := (hE_2_4_1 x3 (by omega)).1 (by omega); omega)
    | (have h := ‹FRM _ _ _ _ _ _ _ _›.1; exact h)
    | (have h := ‹FRM _ _ _ _ _ _ _ _›.1; omega)
  
def o_Ro_lead_11 : or_T := (131, 16, [(0, (2, 0, 0, [9])), (3, (0, 0, 47, [])), (6, (0, 0, 23, [])), (8, (2, 0, 0, [0])), (9, (0, 1, 6000, [])), (14, (0, 0, 23, [])), (15, (0, 1, 24, []))], [(9, [9, 0], [17]), (6, [15, 6], [1]), (23, [14, 6], [0, 1, -1]), (20, [0], [50, 1, 0, 17, 0, 3, 2, 0, 17, 0, 24]), (20, [8, 3, 14], [30, 1, 1, 2, 4, -1, 0, 0]), (102, [14], [458752]), (23, [14, 6], [0, 1, -1]), (7, [6, 9], [2])], [], [], [(20, [8, 3, 15], [50, 0, 1, 4, 0, 5, 3, 0, 4, 1, 1, 1, 2])], [], [(15, 6, 1, 1), (15, 9, -4294967296, 0), (6, 9, -4294967296, -1)])
theorem oo_Ro_lead_11 {kA : Nat → ClassId} : or_ok PRD kA GG o_Ro_lead_11 := by
  refine or_mk fun A ta ws vs hD hth hl => ?_
  intro t0 r0 t3 k3 t6 k6 t8 r8 t9 k9 t14 k14 t15 k15 d0 d1 d2 f0 f1 f2 f3 f4 ta1 w1 le1 s1 f6 f7
  have nf0 : fc_1 PRD (20, [8, 3, 15], [50, 0, 1, 4, 0, 5, 3, 0, 4, 1, 1, 1, 2]) ws (vs) := ⟨nf_in hl rfl, sgq_1546 (vc_Ro_lead_11_0 (v_iv (n_v vs 3)) (v_iv (n_v vs 6)) (v_iv (n_v vs 14)) (v_iv (n_v vs 15)) (w_ei ws (w_ar ws (n_v vs 8) 4)) k3 k6 k14 k15 d0 (shm_7 f2) (shm_111 f4))⟩
  refine ⟨(fun _ h => (by cases h)), [], trivial, ?_, (fun _ h => (by cases h))⟩
  rw [List.append_nil]
  exact List.forall_mem_cons.mpr ⟨⟨show (20 : Nat) < 100 from by decide, nf0⟩, (fun _ h => (by cases h))⟩
def n_Ro_lead_an : List an_T := [(131, [(0, (2, 0, 0, [9])), (1, (2, 0, 0, [3])), (2, (2, 0, 0, [0])), (3, (0, 0, 47, [])), (4, (0, 0, 23, [])), (5, (0, 0, 23, [])), (6, (0, 0, 24, []))], [], (0, 0), [(0, 0, 99869), (1, 6, 24), (0, 0, 100000)], [], [((0, 0), (2, 0, 0, [3])), ((0, 1), (2, 0, 0, [0]))], [], 0, [], [(20, [8, 3, 6], [50, 0, 1, 4, 0, 5, 3, 0, 4, 1, 1, 1, 2]), (20, [0], [50, 1, 0, 17, 0, 3, 2, 0, 17, 0, 24])])]
def t_Ro_lead_ct : ct_L := [(1, 71, e_Ro_frame), (1, 83, e_Ro_bar), (1, 87, e_Ro_pointOf), (1, 91, e_Ro_findCosts), (1, 95, e_Ro_readWay), (481, 103, e_Dr_addBend_at_gr)]
set_option maxRecDepth 100000 in
theorem c_Ro_lead {l : Launch} {D : va_G} {kA : Nat → ClassId} (h_Dr_addBend_at_gr : ct_ok PRD l D kA GG y_Dr_addBend_at_gr z_Dr_addBend_at_gr e_Dr_addBend_at_gr) (h_Ro_bar : ct_ok PRD l D kA GG y_Ro_bar z_Ro_bar e_Ro_bar) (h_Ro_findCosts : ct_ok PRD l D kA GG y_Ro_findCosts z_Ro_findCosts e_Ro_findCosts) (h_Ro_frame : ct_ok PRD l D kA GG y_Ro_frame z_Ro_frame e_Ro_frame) (h_Ro_pointOf : ct_ok PRD l D kA GG y_Ro_pointOf z_Ro_pointOf e_Ro_pointOf) (h_Ro_readWay : ct_ok PRD l D kA GG y_Ro_readWay z_Ro_readWay e_Ro_readWay) : ct_ok PRD l D kA GG y_Ro_lead z_Ro_lead e_Ro_lead := chk_all_ok (FT := [(9, 9, 0), (15, 9, 1), (32, 9, 6), (35, 9, 7), (38, 9, 8), (62, 9, 15), (65, 9, 16), (68, 9, 17), (75, 3, 7), (80, 3, 8), (98, 0, 4)]) (PT := [(9, 9, 0, .object "DrawingHouse$Graph"), (15, 9, 1, .object "DrawingHouse$Drawing"), (32, 9, 6, .int), (35, 9, 7, .int), (68, 9, 17, .int)]) (CT := t_Ro_lead_ct) (KT := [(0, 94, .int (1000000000), (0, 1000000000, 1000000000, []))]) (NT := []) (AN := n_Ro_lead_an) (OT := [o_Ro_lead_0, o_Ro_lead_1, o_Ro_lead_2, o_Ro_lead_3, o_Ro_lead_4, o_Ro_lead_5, o_Ro_lead_6, o_Ro_lead_7, o_Ro_lead_8, o_Ro_lead_9, o_Ro_lead_10, o_Ro_lead_11]) 3 404 (List.forall_mem_cons.mpr ⟨oo_Ro_lead_0, List.forall_mem_cons.mpr ⟨oo_Ro_lead_1, List.forall_mem_cons.mpr ⟨oo_Ro_lead_2, List.forall_mem_cons.mpr ⟨oo_Ro_lead_3, List.forall_mem_cons.mpr ⟨oo_Ro_lead_4, List.forall_mem_cons.mpr ⟨oo_Ro_lead_5, List.forall_mem_cons.mpr ⟨oo_Ro_lead_6, List.forall_mem_cons.mpr ⟨oo_Ro_lead_7, List.forall_mem_cons.mpr ⟨oo_Ro_lead_8, List.forall_mem_cons.mpr ⟨oo_Ro_lead_9, List.forall_mem_cons.mpr ⟨oo_Ro_lead_10, List.forall_mem_cons.mpr ⟨oo_Ro_lead_11, List.forall_mem_nil _⟩⟩⟩⟩⟩⟩⟩⟩⟩⟩⟩⟩) (by decide +kernel) ⟨List.forall_mem_cons.mpr ⟨gf_Ro_9, List.forall_mem_cons.mpr ⟨gf_Ro_15, List.forall_mem_cons.mpr ⟨gf_Ro_32, List.forall_mem_cons.mpr ⟨gf_Ro_35, List.forall_mem_cons.mpr ⟨gf_Ro_38, List.forall_mem_cons.mpr ⟨gf_Ro_62, List.forall_mem_cons.mpr ⟨gf_Ro_65, List.forall_mem_cons.mpr ⟨gf_Ro_68, List.forall_mem_cons.mpr ⟨gf_Ro_75, List.forall_mem_cons.mpr ⟨gf_Ro_80, List.forall_mem_cons.mpr ⟨gf_Ro_98, List.forall_mem_nil _⟩⟩⟩⟩⟩⟩⟩⟩⟩⟩⟩, List.forall_mem_cons.mpr ⟨pf_Ro_9, List.forall_mem_cons.mpr ⟨pf_Ro_15, List.forall_mem_cons.mpr ⟨pf_Ro_32, List.forall_mem_cons.mpr ⟨pf_Ro_35, List.forall_mem_cons.mpr ⟨pf_Ro_68, List.forall_mem_nil _⟩⟩⟩⟩⟩, List.forall_mem_cons.mpr ⟨cl_virtual (y := y_Ro_frame) (ci := 9) rfl rfl ⟨_, _, rfl⟩ (by decide +kernel) h_Ro_frame wm_1929 wm_22 wm_1926 wm_1928 wv_9_0 ⟨by decide, by decide, by decide +kernel⟩ (by decide), List.forall_mem_cons.mpr ⟨cl_virtual (y := y_Ro_bar) (ci := 9) rfl rfl ⟨_, _, rfl⟩ (by decide +kernel) h_Ro_bar wm_1939 wm_22 wm_1936 wm_1938 wv_9_1 ⟨by decide, by decide, by decide +kernel⟩ (by decide), List.forall_mem_cons.mpr ⟨cl_virtual (y := y_Ro_pointOf) (ci := 9) rfl rfl ⟨_, _, rfl⟩ (by decide +kernel) h_Ro_pointOf wm_1943 wm_22 wm_1940 wm_1942 wv_9_2 ⟨by decide, by decide, by decide +kernel⟩ (by decide), List.forall_mem_cons.mpr ⟨cl_virtual (y := y_Ro_findCosts) (ci := 9) rfl rfl ⟨_, _, rfl⟩ (by decide +kernel) h_Ro_findCosts wm_1947 wm_22 wm_1944 wm_1946 wv_9_3 ⟨by decide, by decide, by decide +kernel⟩ (by decide), List.forall_mem_cons.mpr ⟨cl_virtual (y := y_Ro_readWay) (ci := 9) rfl rfl ⟨_, _, rfl⟩ (by decide +kernel) h_Ro_readWay wm_1965 wm_22 wm_1962 wm_1964 wv_9_7 ⟨by decide, by decide, by decide +kernel⟩ (by decide), List.forall_mem_cons.mpr ⟨cl_virtual (y := y_Dr_addBend_at_gr) (ci := 0) rfl rfl ⟨_, _, rfl⟩ (by decide +kernel) h_Dr_addBend_at_gr wm_1464 wm_8 wm_1970 wm_1462 wm_1463 ⟨by decide, by decide, by decide +kernel⟩ (by decide), List.forall_mem_nil _⟩⟩⟩⟩⟩⟩, List.forall_mem_cons.mpr ⟨kx_Ro_0_94, List.forall_mem_nil _⟩, List.forall_mem_nil _, GG_pl⟩ (by decide +kernel)

set_option maxRecDepth 100000 in
def e_jMath_abs2_v766f : en_T := ([(1, -521100011, 600000011, [])], some (1, 0, 600000011, []), true, 1, 0, 0, [], [], (0, [], [], [], []))
set_option maxRecDepth 100000 in
theorem c_jMath_abs2_v766f {l : Launch} {D : va_G} {kA : Nat → ClassId} : ct_ok PRD l D kA GG y_jMath_abs2 z_jMath_abs2 e_jMath_abs2_v766f := chk_all_ok (FT := []) (PT := []) (CT := t_jMath_abs2_v766_ct) (KT := []) (NT := []) (AN := n_jMath_abs2_v766_an) (OT := []) 0 200 (List.forall_mem_nil _) (pl_Math rfl (by decide)) ⟨List.forall_mem_nil _, List.forall_mem_nil _, List.forall_mem_nil _, List.forall_mem_nil _, List.forall_mem_nil _, GG_pl⟩ (by decide +kernel)
set_option maxRecDepth 100000 in
def e_jMath_abs2_v767f : en_T := ([(1, -600000011, 600000000, [])], some (1, 0, 600000011, []), true, 1, 0, 0, [], [], (0, [], [], [], []))
set_option maxRecDepth 100000 in
theorem c_jMath_abs2_v767f {l : Launch} {D : va_G} {kA : Nat → ClassId} : ct_ok PRD l D kA GG y_jMath_abs2 z_jMath_abs2 e_jMath_abs2_v767f := chk_all_ok (FT := []) (PT := []) (CT := t_jMath_abs2_v767_ct) (KT := []) (NT := []) (AN := n_jMath_abs2_v767_an) (OT := []) 0 200 (List.forall_mem_nil _) (pl_Math rfl (by decide)) ⟨List.forall_mem_nil _, List.forall_mem_nil _, List.forall_mem_nil _, List.forall_mem_nil _, List.forall_mem_nil _, GG_pl⟩ (by decide +kernel)
set_option maxHeartbeats 4000000 in
theorem vc_Mo_ofEdge_0_0 (x1 : Int) (x4 : Int) (x5 : Int) (x6 : Int) (bendMany_0 : Int → Int) (g0_0 : Int) (k1 : 0 ≤ x1 ∧ x1 ≤ 47) (k4 : 2 ≤ x4 ∧ x4 ≤ 26) (k5 : 1 ≤ x5 ∧ x5 ≤ 1) (k6 : 1 ≤ x6 ∧ x6 ≤ 25) (d0 : x4 + (-1) ≤ x6 ∧ x6 ≤ x4 + (-1)) (f0 : x6 = x4 - x5) (f1 : x4 = (bendMany_0 (((48 * g0_0) + x1)) + 2)) (hK_0_64 : ∀ j : Int, 0 ≤ j → j < 192 → 0 ≤ bendMany_0 j ∧ bendMany_0 j ≤ 24) (kz_0_139 : 0 ≤ g0_0 ∧ g0_0 ≤ 3) : x6 ≤ (bendMany_0 (((48 * g0_0) + x1)) + 1) := by
  first | assumption | (clear hK_0_64; omega) | omega | grind
def o_Mo_ofEdge_0 : or_T := (160, 10, [(0, (2, 0, 0, [165])), (1, (0, 0, 47, [])), (4, (0, 2, 26, [])), (5, (0, 1, 1, [])), (6, (0, 1, 25, []))], [(2, [6, 4, 5], []), (20, [4, 0, 1], [50, 1, 1, 1139, 1064, 1, 2, 1, 0, 4, 14, 3, 1, 64, 4, 7, 6, 2, 0, 48, 2, 1, 139, 1, 2, 0, 2])], [], [], [(20, [6, 0, 1], [50, 1, 1, 1139, 1064, 0, 2, 1, 0, 4, 14, 3, 1, 64, 4, 7, 6, 2, 0, 48, 2, 1, 139, 1, 2, 0, 1])], [], [(6, 4, -1, -1)])
theorem oo_Mo_ofEdge_0 {kA : Nat → ClassId} : or_ok PRD kA GG o_Mo_ofEdge_0 := by
  refine or_mk fun A ta ws vs hD hth hl => ?_
  intro t0 r0 t1 k1 t4 k4 t5 k5 t6 k6 d0 f0 f1
  have cr_0_64 := fdq_170 hD hth r0
  have hK_0_64 := elq_98 hD hth cr_0_64
  have kz_0_139 := fdq_171 hD hth r0
  have nf0 : fc_1 PRD (20, [6, 0, 1], [50, 1, 1, 1139, 1064, 0, 2, 1, 0, 4, 14, 3, 1, 64, 4, 7, 6, 2, 0, 48, 2, 1, 139, 1, 2, 0, 1]) ws (vs) := ⟨nf_in hl rfl, sgq_1385 (vc_Mo_ofEdge_0_0 (v_iv (n_v vs 1)) (v_iv (n_v vs 4)) (v_iv (n_v vs 5)) (v_iv (n_v vs 6)) (w_ei ws (w_ar ws (n_v vs 0) 64)) (w_fi ws (n_v vs 0) 139) k1 k4 k5 k6 d0 (shm_14 f0) (shm_670 f1) hK_0_64 kz_0_139)⟩
  refine ⟨(fun _ h => (by cases h)), [], trivial, ?_, (fun _ h => (by cases h))⟩
  rw [List.append_nil]
  exact List.forall_mem_cons.mpr ⟨⟨show (20 : Nat) < 100 from by decide, nf0⟩, (fun _ h => (by cases h))⟩
set_option maxHeartbeats 4000000 in
theorem vc_Mo_ofEdge_1_0 (x1 : Int) (x4 : Int) (x5 : Int) (x6 : Int) (bendMany_0 : Int → Int) (g0_0 : Int) (k1 : 0 ≤ x1 ∧ x1 ≤ 47) (k4 : 2 ≤ x4 ∧ x4 ≤ 26) (k5 : 1 ≤ x5 ∧ x5 ≤ 1) (k6 : 1 ≤ x6 ∧ x6 ≤ 25) (d0 : x4 + (-1) ≤ x6 ∧ x6 ≤ x4 + (-1)) (f0 : x6 = x4 - x5) (f1 : x4 = (bendMany_0 (((48 * g0_0) + x1)) + 2)) (hK_0_64 : ∀ j : Int, 0 ≤ j → j < 192 → 0 ≤ bendMany_0 j ∧ bendMany_0 j ≤ 24) (kz_0_139 : 0 ≤ g0_0 ∧ g0_0 ≤ 3) : x6 ≤ (bendMany_0 (((48 * g0_0) + x1)) + 1) := by
  first | assumption | (clear hK_0_64; omega) | omega | grind
def o_Mo_ofEdge_1 : or_T := (30, 10, [(0, (2, 0, 0, [165])), (1, (0, 0, 47, [])), (4, (0, 2, 26, [])), (5, (0, 1, 1, [])), (6, (0, 1, 25, []))], [(2, [6, 4, 5], []), (20, [4, 0, 1], [50, 1, 1, 1139, 1064, 1, 2, 1, 0, 4, 14, 3, 1, 64, 4, 7, 6, 2, 0, 48, 2, 1, 139, 1, 2, 0, 2])], [], [], [(20, [6, 0, 1], [50, 1, 1, 1139, 1064, 0, 2, 1, 0, 4, 14, 3, 1, 64, 4, 7, 6, 2, 0, 48, 2, 1, 139, 1, 2, 0, 1])], [], [(6, 4, -1, -1)])
theorem oo_Mo_ofEdge_1 {kA : Nat → ClassId} : or_ok PRD kA GG o_Mo_ofEdge_1 := by
  refine or_mk fun A ta ws vs hD hth hl => ?_
  intro t0 r0 t1 k1 t4 k4 t5 k5 t6 k6 d0 f0 f1
  have cr_0_64 := fdq_170 hD hth r0
  have hK_0_64 := elq_98 hD hth cr_0_64
  have kz_0_139 := fdq_171 hD hth r0
  have nf0 : fc_1 PRD (20, [6, 0, 1], [50, 1, 1, 1139, 1064, 0, 2, 1, 0, 4, 14, 3, 1, 64, 4, 7, 6, 2, 0, 48, 2, 1, 139, 1, 2, 0, 1]) ws (vs) := ⟨nf_in hl rfl, sgq_1385 (vc_Mo_ofEdge_1_0 (v_iv (n_v vs 1)) (v_iv (n_v vs 4)) (v_iv (n_v vs 5)) (v_iv (n_v vs 6)) (w_ei ws (w_ar ws (n_v vs 0) 64)) (w_fi ws (n_v vs 0) 139) k1 k4 k5 k6 d0 (shm_14 f0) (shm_670 f1) hK_0_64 kz_0_139)⟩
  refine ⟨(fun _ h => (by cases h)), [], trivial, ?_, (fun _ h => (by cases h))⟩
  rw [List.append_nil]
  exact List.forall_mem_cons.mpr ⟨⟨show (20 : Nat) < 100 from by decide, nf0⟩, (fun _ h => (by cases h))⟩
set_option maxHeartbeats 4000000 in
theorem vc_Mo_ofEdge_2_0 (x1 : Int) (x4 : Int) (x5 : Int) (x7 : Int) (x8 : Int) (x9 : Int) (x10 : Int) (x11 : Int) (x12 : Int) (nodeY_0 : Int → Int) (g0_0 : Int) (nodeX_0 : Int → Int) (all_0 : Int → Int) (r_0 : Int) (bendMany_0 : Int → Int) (k1 : 0 ≤ x1 ∧ x1 ≤ 47) (k4 : 1 ≤ x4 ∧ x4 ≤ 25) (k5 : 0 ≤ x5 ∧ x5 ≤ 23) (k7 : 0 ≤ x7 ∧ x7 ≤ 24) (k8 : 0 ≤ x8 ∧ x8 ≤ 0) (k9 : (-300000000) ≤ x9 ∧ x9 ≤ 300000000) (k10 : (-300000000) ≤ x10 ∧ x10 ≤ 300000000) (k11 : (-300000000) ≤ x11 ∧ x11 ≤ 300000000) (k12 : (-300000000) ≤ x12 ∧ x12 ≤ 300000000) (d0 : x4 + (-4294967296) ≤ x7 ∧ x7 ≤ x4 + (-1)) (d1 : x4 + (-4294967296) ≤ x7 ∧ x7 ≤ x4 + 0) (f0 : x12 = x11) (f1 : x11 = nodeY_0 (((24 * g0_0) + x5))) (f2 : x10 = x9) (f3 : x9 = nodeX_0 (((24 * g0_0) + x5))) (f4 : x8 = 0) (f5 : HSP (r_0) (all_0) (x1) (x5) (x8)) (f6 : x7 < x4) (f7 : x4 ≤ (bendMany_0 (((48 * g0_0) + x1)) + 1)) (hK_0_62 : ∀ j : Int, 0 ≤ j → j < 96 → (-300000000) ≤ nodeX_0 j ∧ nodeX_0 j ≤ 300000000) (hK_0_63 : ∀ j : Int, 0 ≤ j → j < 96 → (-300000000) ≤ nodeY_0 j ∧ nodeY_0 j ≤ 300000000) (hK_0_64 : ∀ j : Int, 0 ≤ j → j < 192 → 0 ≤ bendMany_0 j ∧ bendMany_0 j ≤ 24) (kz_0_139 : 0 ≤ g0_0 ∧ g0_0 ≤ 3) : x7 ≤ (bendMany_0 (((48 * g0_0) + x1)) + 1) := by
  first | assumption | (clear hK_0_62 hK_0_63 hK_0_64; omega) | omega | grind
def o_Mo_ofEdge_2 : or_T := (85, 13, [(0, (2, 0, 0, [165])), (1, (0, 0, 47, [])), (4, (0, 1, 25, [])), (5, (0, 0, 23, [])), (7, (0, 0, 24, [])), (8, (0, 0, 0, [])), (9, (0, -300000000, 300000000, [])), (10, (1, -300000000, 300000000, [])), (11, (0, -300000000, 300000000, [])), (12, (1, -300000000, 300000000, []))], [(22, [12, 11], []), (20, [11, 0, 5], [50, 1, 1, 1139, 1063, 1, 2, 1, 0, 3, 1, 63, 4, 7, 6, 2, 0, 24, 2, 1, 139, 1, 2]), (22, [10, 9], []), (20, [9, 0, 5], [50, 1, 1, 1139, 1062, 1, 2, 1, 0, 3, 1, 62, 4, 7, 6, 2, 0, 24, 2, 1, 139, 1, 2]), (8, [8], [0]), (20, [0, 1, 5, 8], [60, 1, 1, 204, 5, 2]), (7, [7, 4], [2]), (20, [4, 0, 1], [50, 1, 1, 1139, 1064, 0, 2, 1, 0, 4, 14, 3, 1, 64, 4, 7, 6, 2, 0, 48, 2, 1, 139, 1, 2, 0, 1])], [], [], [(20, [7, 0, 1], [50, 1, 1, 1139, 1064, 0, 2, 1, 0, 4, 14, 3, 1, 64, 4, 7, 6, 2, 0, 48, 2, 1, 139, 1, 2, 0, 1])], [], [(7, 4, -4294967296, -1), (7, 4, -4294967296, 0)])
theorem oo_Mo_ofEdge_2 {kA : Nat → ClassId} : or_ok PRD kA GG o_Mo_ofEdge_2 := by
  refine or_mk fun A ta ws vs hD hth hl => ?_
  intro t0 r0 t1 k1 t4 k4 t5 k5 t7 k7 t8 k8 t9 k9 t10 k10 t11 k11 t12 k12 d0 d1 f0 f1 f2 f3 f4 f5 f6 f7
  have cr_0_62 := fdq_172 hD hth r0
  have cr_0_63 := fdq_173 hD hth r0
  have cr_0_64 := fdq_170 hD hth r0
  have hK_0_62 := elq_99 hD hth cr_0_62
  have hK_0_63 := elq_100 hD hth cr_0_63
  have hK_0_64 := elq_98 hD hth cr_0_64
  have kz_0_139 := fdq_171 hD hth r0
  have nf0 : fc_1 PRD (20, [7, 0, 1], [50, 1, 1, 1139, 1064, 0, 2, 1, 0, 4, 14, 3, 1, 64, 4, 7, 6, 2, 0, 48, 2, 1, 139, 1, 2, 0, 1]) ws (vs) := ⟨nf_in hl rfl, sgq_1385 (vc_Mo_ofEdge_2_0 (v_iv (n_v vs 1)) (v_iv (n_v vs 4)) (v_iv (n_v vs 5)) (v_iv (n_v vs 7)) (v_iv (n_v vs 8)) (v_iv (n_v vs 9)) (v_iv (n_v vs 10)) (v_iv (n_v vs 11)) (v_iv (n_v vs 12)) (w_ei ws (w_ar ws (n_v vs 0) 63)) (w_fi ws (n_v vs 0) 139) (w_ei ws (w_ar ws (n_v vs 0) 62)) (w_ei ws (w_ar ws (n_v vs 0) 2)) (w_fi ws (n_v vs 0) 5) (w_ei ws (w_ar ws (n_v vs 0) 64)) k1 k4 k5 k7 k8 k9 k10 k11 k12 d0 d1 (shm_47 f0) (shm_687 f1) (shm_47 f2) (shm_685 f3) (shm_210 f4) (shm_1112 f5) (shm_6 f6) (shm_1385 f7) hK_0_62 hK_0_63 hK_0_64 kz_0_139)⟩
  refine ⟨(fun _ h => (by cases h)), [], trivial, ?_, (fun _ h => (by cases h))⟩
  rw [List.append_nil]
  exact List.forall_mem_cons.mpr ⟨⟨show (20 : Nat) < 100 from by decide, nf0⟩, (fun _ h => (by cases h))⟩
set_option maxHeartbeats 4000000 in
theorem vc_Mo_ofEdge_3_0 (x1 : Int) (x4 : Int) (x7 : Int) (bendMany_0 : Int → Int) (g0_0 : Int) (k1 : 0 ≤ x1 ∧ x1 ≤ 47) (k4 : 1 ≤ x4 ∧ x4 ≤ 25) (k7 : 0 ≤ x7 ∧ x7 ≤ 24) (d0 : x4 + (-4294967296) ≤ x7 ∧ x7 ≤ x4 + (-1)) (f0 : x4 ≤ (bendMany_0 (((48 * g0_0) + x1)) + 1)) (hK_0_64 : ∀ j : Int, 0 ≤ j → j < 192 → 0 ≤ bendMany_0 j ∧ bendMany_0 j ≤ 24) (kz_0_139 : 0 ≤ g0_0 ∧ g0_0 ≤ 3) : x7 ≤ (bendMany_0 (((48 * g0_0) + x1)) + 1) := by
  first | assumption | (clear hK_0_64; omega) | omega | grind
def o_Mo_ofEdge_3 : or_T := (93, 12, [(0, (2, 0, 0, [165])), (1, (0, 0, 47, [])), (4, (0, 1, 25, [])), (7, (0, 0, 24, []))], [(20, [4, 0, 1], [50, 1, 1, 1139, 1064, 0, 2, 1, 0, 4, 14, 3, 1, 64, 4, 7, 6, 2, 0, 48, 2, 1, 139, 1, 2, 0, 1])], [], [], [(20, [7, 0, 1], [50, 1, 1, 1139, 1064, 0, 2, 1, 0, 4, 14, 3, 1, 64, 4, 7, 6, 2, 0, 48, 2, 1, 139, 1, 2, 0, 1])], [], [(7, 4, -4294967296, -1)])
theorem oo_Mo_ofEdge_3 {kA : Nat → ClassId} : or_ok PRD kA GG o_Mo_ofEdge_3 := by
  refine or_mk fun A ta ws vs hD hth hl => ?_
  intro t0 r0 t1 k1 t4 k4 t7 k7 d0 f0
  have cr_0_64 := fdq_170 hD hth r0
  have hK_0_64 := elq_98 hD hth cr_0_64
  have kz_0_139 := fdq_171 hD hth r0
  have nf0 : fc_1 PRD (20, [7, 0, 1], [50, 1, 1, 1139, 1064, 0, 2, 1, 0, 4, 14, 3, 1, 64, 4, 7, 6, 2, 0, 48, 2, 1, 139, 1, 2, 0, 1]) ws (vs) := ⟨nf_in hl rfl, sgq_1385 (vc_Mo_ofEdge_3_0 (v_iv (n_v vs 1)) (v_iv (n_v vs 4)) (v_iv (n_v vs 7)) (w_ei ws (w_ar ws (n_v vs 0) 64)) (w_fi ws (n_v vs 0) 139) k1 k4 k7 d0 (shm_1385 f0) hK_0_64 kz_0_139)⟩
  refine ⟨(fun _ h => (by cases h)), [], trivial, ?_, (fun _ h => (by cases h))⟩
  rw [List.append_nil]
  exact List.forall_mem_cons.mpr ⟨⟨show (20 : Nat) < 100 from by decide, nf0⟩, (fun _ h => (by cases h))⟩
set_option maxHeartbeats 4000000 in
theorem vc_Mo_ofEdge_4_0 (x1 : Int) (x4 : Int) (x7 : Int) (x13 : Int) (x14 : Int) (bendMany_0 : Int → Int) (g0_0 : Int) (k1 : 0 ≤ x1 ∧ x1 ≤ 47) (k4 : 1 ≤ x4 ∧ x4 ≤ 25) (k7 : 0 ≤ x7 ∧ x7 ≤ 24) (k13 : 1 ≤ x13 ∧ x13 ≤ 1) (k14 : 1 ≤ x14 ∧ x14 ≤ 25) (d0 : x7 + 1 ≤ x14 ∧ x14 ≤ x7 + 1) (d1 : x4 + (-4294967296) ≤ x14 ∧ x14 ≤ x4 + 0) (d2 : x4 + (-4294967296) ≤ x7 ∧ x7 ≤ x4 + (-1)) (f0 : x14 = x7 + x13) (f1 : x4 ≤ (bendMany_0 (((48 * g0_0) + x1)) + 1)) (hK_0_64 : ∀ j : Int, 0 ≤ j → j < 192 → 0 ≤ bendMany_0 j ∧ bendMany_0 j ≤ 24) (kz_0_139 : 0 ≤ g0_0 ∧ g0_0 ≤ 3) : x14 ≤ (bendMany_0 (((48 * g0_0) + x1)) + 1) := by
  first | assumption | (clear hK_0_64; omega) | omega | grind
def o_Mo_ofEdge_4 : or_T := (103, 15, [(0, (2, 0, 0, [165])), (1, (0, 0, 47, [])), (4, (0, 1, 25, [])), (7, (0, 0, 24, [])), (13, (0, 1, 1, [])), (14, (0, 1, 25, []))], [(1, [14, 7, 13], []), (20, [4, 0, 1], [50, 1, 1, 1139, 1064, 0, 2, 1, 0, 4, 14, 3, 1, 64, 4, 7, 6, 2, 0, 48, 2, 1, 139, 1, 2, 0, 1])], [], [], [(20, [14, 0, 1], [50, 1, 1, 1139, 1064, 0, 2, 1, 0, 4, 14, 3, 1, 64, 4, 7, 6, 2, 0, 48, 2, 1, 139, 1, 2, 0, 1])], [], [(14, 7, 1, 1), (14, 4, -4294967296, 0), (7, 4, -4294967296, -1)])
theorem oo_Mo_ofEdge_4 {kA : Nat → ClassId} : or_ok PRD kA GG o_Mo_ofEdge_4 := by
  refine or_mk fun A ta ws vs hD hth hl => ?_
  intro t0 r0 t1 k1 t4 k4 t7 k7 t13 k13 t14 k14 d0 d1 d2 f0 f1
  have cr_0_64 := fdq_170 hD hth r0
  have hK_0_64 := elq_98 hD hth cr_0_64
  have kz_0_139 := fdq_171 hD hth r0
  have nf0 : fc_1 PRD (20, [14, 0, 1], [50, 1, 1, 1139, 1064, 0, 2, 1, 0, 4, 14, 3, 1, 64, 4, 7, 6, 2, 0, 48, 2, 1, 139, 1, 2, 0, 1]) ws (vs) := ⟨nf_in hl rfl, sgq_1385 (vc_Mo_ofEdge_4_0 (v_iv (n_v vs 1)) (v_iv (n_v vs 4)) (v_iv (n_v vs 7)) (v_iv (n_v vs 13)) (v_iv (n_v vs 14)) (w_ei ws (w_ar ws (n_v vs 0) 64)) (w_fi ws (n_v vs 0) 139) k1 k4 k7 k13 k14 d0 d1 d2 (shm_12 f0) (shm_1385 f1) hK_0_64 kz_0_139)⟩
  refine ⟨(fun _ h => (by cases h)), [], trivial, ?_, (fun _ h => (by cases h))⟩
  rw [List.append_nil]
  exact List.forall_mem_cons.mpr ⟨⟨show (20 : Nat) < 100 from by decide, nf0⟩, (fun _ h => (by cases h))⟩
set_option maxHeartbeats 4000000 in
theorem vc_Mo_ofEdge_5_0 (x1 : Int) (x4 : Int) (x7 : Int) (x14 : Int) (x15 : Int) (bendMany_0 : Int → Int) (g0_0 : Int) (k1 : 0 ≤ x1 ∧ x1 ≤ 47) (k4 : 1 ≤ x4 ∧ x4 ≤ 25) (k7 : 0 ≤ x7 ∧ x7 ≤ 24) (k14 : 1 ≤ x14 ∧ x14 ≤ 1) (k15 : 1 ≤ x15 ∧ x15 ≤ 25) (d0 : x7 + 1 ≤ x15 ∧ x15 ≤ x7 + 1) (d1 : x4 + (-4294967296) ≤ x15 ∧ x15 ≤ x4 + 0) (d2 : x4 + (-4294967296) ≤ x7 ∧ x7 ≤ x4 + (-1)) (f0 : x15 = x7 + x14) (f1 : x4 ≤ (bendMany_0 (((48 * g0_0) + x1)) + 1)) (hK_0_64 : ∀ j : Int, 0 ≤ j → j < 192 → 0 ≤ bendMany_0 j ∧ bendMany_0 j ≤ 24) (kz_0_139 : 0 ≤ g0_0 ∧ g0_0 ≤ 3) : x15 ≤ (bendMany_0 (((48 * g0_0) + x1)) + 1) := by
  first | assumption | (clear hK_0_64; omega) | omega | grind
def o_Mo_ofEdge_5 : or_T := (113, 16, [(0, (2, 0, 0, [165])), (1, (0, 0, 47, [])), (4, (0, 1, 25, [])), (7, (0, 0, 24, [])), (14, (0, 1, 1, [])), (15, (0, 1, 25, []))], [(1, [15, 7, 14], []), (20, [4, 0, 1], [50, 1, 1, 1139, 1064, 0, 2, 1, 0, 4, 14, 3, 1, 64, 4, 7, 6, 2, 0, 48, 2, 1, 139, 1, 2, 0, 1])], [], [], [(20, [15, 0, 1], [50, 1, 1, 1139, 1064, 0, 2, 1, 0, 4, 14, 3, 1, 64, 4, 7, 6, 2, 0, 48, 2, 1, 139, 1, 2, 0, 1])], [], [(15, 7, 1, 1), (15, 4, -4294967296, 0), (7, 4, -4294967296, -1)])
theorem oo_Mo_ofEdge_5 {kA : Nat → ClassId} : or_ok PRD kA GG o_Mo_ofEdge_5 := by
  refine or_mk fun A ta ws vs hD hth hl => ?_
  intro t0 r0 t1 k1 t4 k4 t7 k7 t14 k14 t15 k15 d0 d1 d2 f0 f1
  have cr_0_64 := fdq_170 hD hth r0
  have hK_0_64 := elq_98 hD hth cr_0_64
  have kz_0_139 := fdq_171 hD hth r0
  have nf0 : fc_1 PRD (20, [15, 0, 1], [50, 1, 1, 1139, 1064, 0, 2, 1, 0, 4, 14, 3, 1, 64, 4, 7, 6, 2, 0, 48, 2, 1, 139, 1, 2, 0, 1]) ws (vs) := ⟨nf_in hl rfl, sgq_1385 (vc_Mo_ofEdge_5_0 (v_iv (n_v vs 1)) (v_iv (n_v vs 4)) (v_iv (n_v vs 7)) (v_iv (n_v vs 14)) (v_iv (n_v vs 15)) (w_ei ws (w_ar ws (n_v vs 0) 64)) (w_fi ws (n_v vs 0) 139) k1 k4 k7 k14 k15 d0 d1 d2 (shm_12 f0) (shm_1385 f1) hK_0_64 kz_0_139)⟩
  refine ⟨(fun _ h => (by cases h)), [], trivial, ?_, (fun _ h => (by cases h))⟩
  rw [List.append_nil]
  exact List.forall_mem_cons.mpr ⟨⟨show (20 : Nat) < 100 from by decide, nf0⟩, (fun _ h => (by cases h))⟩
set_option maxHeartbeats 4000000 in
theorem vc_Mo_ofEdge_6_0 (x1 : Int) (x4 : Int) (x5 : Int) (bendMany_0 : Int → Int) (g0_0 : Int) (k1 : 0 ≤ x1 ∧ x1 ≤ 47) (k4 : 1 ≤ x4 ∧ x4 ≤ 25) (k5 : 0 ≤ x5 ∧ x5 ≤ 24) (d0 : x4 + (-4294967296) ≤ x5 ∧ x5 ≤ x4 + (-1)) (d1 : x4 + (-4294967296) ≤ x5 ∧ x5 ≤ x4 + 0) (f0 : x5 < x4) (f1 : x4 ≤ (bendMany_0 (((48 * g0_0) + x1)) + 1)) (hK_0_64 : ∀ j : Int, 0 ≤ j → j < 192 → 0 ≤ bendMany_0 j ∧ bendMany_0 j ≤ 24) (kz_0_139 : 0 ≤ g0_0 ∧ g0_0 ≤ 3) : x5 ≤ (bendMany_0 (((48 * g0_0) + x1)) + 1) := by
  first | assumption | (clear hK_0_64; omega) | omega | grind
def o_Mo_ofEdge_6 : or_T := (171, 6, [(0, (2, 0, 0, [165])), (1, (0, 0, 47, [])), (4, (0, 1, 25, [])), (5, (0, 0, 24, []))], [(7, [5, 4], [2]), (20, [4, 0, 1], [50, 1, 1, 1139, 1064, 0, 2, 1, 0, 4, 14, 3, 1, 64, 4, 7, 6, 2, 0, 48, 2, 1, 139, 1, 2, 0, 1])], [], [], [(20, [5, 0, 1], [50, 1, 1, 1139, 1064, 0, 2, 1, 0, 4, 14, 3, 1, 64, 4, 7, 6, 2, 0, 48, 2, 1, 139, 1, 2, 0, 1])], [], [(5, 4, -4294967296, -1), (5, 4, -4294967296, 0)])
theorem oo_Mo_ofEdge_6 {kA : Nat → ClassId} : or_ok PRD kA GG o_Mo_ofEdge_6 := by
  refine or_mk fun A ta ws vs hD hth hl => ?_
  intro t0 r0 t1 k1 t4 k4 t5 k5 d0 d1 f0 f1
  have cr_0_64 := fdq_170 hD hth r0
  have hK_0_64 := elq_98 hD hth cr_0_64
  have kz_0_139 := fdq_171 hD hth r0
  have nf0 : fc_1 PRD (20, [5, 0, 1], [50, 1, 1, 1139, 1064, 0, 2, 1, 0, 4, 14, 3, 1, 64, 4, 7, 6, 2, 0, 48, 2, 1, 139, 1, 2, 0, 1]) ws (vs) := ⟨nf_in hl rfl, sgq_1385 (vc_Mo_ofEdge_6_0 (v_iv (n_v vs 1)) (v_iv (n_v vs 4)) (v_iv (n_v vs 5)) (w_ei ws (w_ar ws (n_v vs 0) 64)) (w_fi ws (n_v vs 0) 139) k1 k4 k5 d0 d1 (shm_6 f0) (shm_1385 f1) hK_0_64 kz_0_139)⟩
  refine ⟨(fun _ h => (by cases h)), [], trivial, ?_, (fun _ h => (by cases h))⟩
  rw [List.append_nil]
  exact List.forall_mem_cons.mpr ⟨⟨show (20 : Nat) < 100 from by decide, nf0⟩, (fun _ h => (by cases h))⟩
set_option maxHeartbeats 4000000 in
theorem vc_Mo_ofEdge_7_0 (x1 : Int) (x4 : Int) (x5 : Int) (x8 : Int) (x9 : Int) (bendMany_0 : Int → Int) (g0_0 : Int) (k1 : 0 ≤ x1 ∧ x1 ≤ 47) (k4 : 1 ≤ x4 ∧ x4 ≤ 25) (k5 : 0 ≤ x5 ∧ x5 ≤ 24) (k8 : 1 ≤ x8 ∧ x8 ≤ 1) (k9 : 1 ≤ x9 ∧ x9 ≤ 25) (d0 : x5 + 1 ≤ x9 ∧ x9 ≤ x5 + 1) (d1 : x4 + (-4294967296) ≤ x9 ∧ x9 ≤ x4 + 0) (d2 : x4 + (-4294967296) ≤ x5 ∧ x5 ≤ x4 + (-1)) (f0 : x9 = x5 + x8) (f1 : x4 ≤ (bendMany_0 (((48 * g0_0) + x1)) + 1)) (hK_0_64 : ∀ j : Int, 0 ≤ j → j < 192 → 0 ≤ bendMany_0 j ∧ bendMany_0 j ≤ 24) (kz_0_139 : 0 ≤ g0_0 ∧ g0_0 ≤ 3) : x9 ≤ (bendMany_0 (((48 * g0_0) + x1)) + 1) := by
  first | assumption | (clear hK_0_64; omega) | omega | grind
def o_Mo_ofEdge_7 : or_T := (181, 10, [(0, (2, 0, 0, [165])), (1, (0, 0, 47, [])), (4, (0, 1, 25, [])), (5, (0, 0, 24, [])), (8, (0, 1, 1, [])), (9, (0, 1, 25, []))], [(1, [9, 5, 8], []), (20, [4, 0, 1], [50, 1, 1, 1139, 1064, 0, 2, 1, 0, 4, 14, 3, 1, 64, 4, 7, 6, 2, 0, 48, 2, 1, 139, 1, 2, 0, 1])], [], [], [(20, [9, 0, 1], [50, 1, 1, 1139, 1064, 0, 2, 1, 0, 4, 14, 3, 1, 64, 4, 7, 6, 2, 0, 48, 2, 1, 139, 1, 2, 0, 1])], [], [(9, 5, 1, 1), (9, 4, -4294967296, 0), (5, 4, -4294967296, -1)])
theorem oo_Mo_ofEdge_7 {kA : Nat → ClassId} : or_ok PRD kA GG o_Mo_ofEdge_7 := by
  refine or_mk fun A ta ws vs hD hth hl => ?_
  intro t0 r0 t1 k1 t4 k4 t5 k5 t8 k8 t9 k9 d0 d1 d2 f0 f1
  have cr_0_64 := fdq_170 hD hth r0
  have hK_0_64 := elq_98 hD hth cr_0_64
  have kz_0_139 := fdq_171 hD hth r0
  have nf0 : fc_1 PRD (20, [9, 0, 1], [50, 1, 1, 1139, 1064, 0, 2, 1, 0, 4, 14, 3, 1, 64, 4, 7, 6, 2, 0, 48, 2, 1, 139, 1, 2, 0, 1]) ws (vs) := ⟨nf_in hl rfl, sgq_1385 (vc_Mo_ofEdge_7_0 (v_iv (n_v vs 1)) (v_iv (n_v vs 4)) (v_iv (n_v vs 5)) (v_iv (n_v vs 8)) (v_iv (n_v vs 9)) (w_ei ws (w_ar ws (n_v vs 0) 64)) (w_fi ws (n_v vs 0) 139) k1 k4 k5 k8 k9 d0 d1 d2 (shm_12 f0) (shm_1385 f1) hK_0_64 kz_0_139)⟩
  refine ⟨(fun _ h => (by cases h)), [], trivial, ?_, (fun _ h => (by cases h))⟩
  rw [List.append_nil]
  exact List.forall_mem_cons.mpr ⟨⟨show (20 : Nat) < 100 from by decide, nf0⟩, (fun _ h => (by cases h))⟩
set_option maxHeartbeats 4000000 in
theorem vc_Mo_ofEdge_8_0 (x1 : Int) (x4 : Int) (x5 : Int) (bendMany_0 : Int → Int) (g0_0 : Int) (k1 : 0 ≤ x1 ∧ x1 ≤ 47) (k4 : 1 ≤ x4 ∧ x4 ≤ 25) (k5 : 0 ≤ x5 ∧ x5 ≤ 24) (d0 : x4 + (-4294967296) ≤ x5 ∧ x5 ≤ x4 + (-1)) (f0 : x4 ≤ (bendMany_0 (((48 * g0_0) + x1)) + 1)) (hK_0_64 : ∀ j : Int, 0 ≤ j → j < 192 → 0 ≤ bendMany_0 j ∧ bendMany_0 j ≤ 24) (kz_0_139 : 0 ≤ g0_0 ∧ g0_0 ≤ 3) : x5 ≤ (bendMany_0 (((48 * g0_0) + x1)) + 1) := by
  first | assumption | (clear hK_0_64; omega) | omega | grind
def o_Mo_ofEdge_8 : or_T := (195, 7, [(0, (2, 0, 0, [165])), (1, (0, 0, 47, [])), (4, (0, 1, 25, [])), (5, (0, 0, 24, []))], [(20, [4, 0, 1], [50, 1, 1, 1139, 1064, 0, 2, 1, 0, 4, 14, 3, 1, 64, 4, 7, 6, 2, 0, 48, 2, 1, 139, 1, 2, 0, 1])], [], [], [(20, [5, 0, 1], [50, 1, 1, 1139, 1064, 0, 2, 1, 0, 4, 14, 3, 1, 64, 4, 7, 6, 2, 0, 48, 2, 1, 139, 1, 2, 0, 1])], [], [(5, 4, -4294967296, -1)])
theorem oo_Mo_ofEdge_8 {kA : Nat → ClassId} : or_ok PRD kA GG o_Mo_ofEdge_8 := by
  refine or_mk fun A ta ws vs hD hth hl => ?_
  intro t0 r0 t1 k1 t4 k4 t5 k5 d0 f0
  have cr_0_64 := fdq_170 hD hth r0
  have hK_0_64 := elq_98 hD hth cr_0_64
  have kz_0_139 := fdq_171 hD hth r0
  have nf0 : fc_1 PRD (20, [5, 0, 1], [50, 1, 1, 1139, 1064, 0, 2, 1, 0, 4, 14, 3, 1, 64, 4, 7, 6, 2, 0, 48, 2, 1, 139, 1, 2, 0, 1]) ws (vs) := ⟨nf_in hl rfl, sgq_1385 (vc_Mo_ofEdge_8_0 (v_iv (n_v vs 1)) (v_iv (n_v vs 4)) (v_iv (n_v vs 5)) (w_ei ws (w_ar ws (n_v vs 0) 64)) (w_fi ws (n_v vs 0) 139) k1 k4 k5 d0 (shm_1385 f0) hK_0_64 kz_0_139)⟩
  refine ⟨(fun _ h => (by cases h)), [], trivial, ?_, (fun _ h => (by cases h))⟩
  rw [List.append_nil]
  exact List.forall_mem_cons.mpr ⟨⟨show (20 : Nat) < 100 from by decide, nf0⟩, (fun _ h => (by cases h))⟩
set_option maxHeartbeats 4000000 in
theorem vc_Mo_ofEdge_9_0 (x1 : Int) (x4 : Int) (x5 : Int) (x9 : Int) (x10 : Int) (bendMany_0 : Int → Int) (g0_0 : Int) (k1 : 0 ≤ x1 ∧ x1 ≤ 47) (k4 : 1 ≤ x4 ∧ x4 ≤ 25) (k5 : 0 ≤ x5 ∧ x5 ≤ 24) (k9 : 1 ≤ x9 ∧ x9 ≤ 1) (k10 : 1 ≤ x10 ∧ x10 ≤ 25) (d0 : x5 + 1 ≤ x10 ∧ x10 ≤ x5 + 1) (d1 : x4 + (-4294967296) ≤ x10 ∧ x10 ≤ x4 + 0) (d2 : x4 + (-4294967296) ≤ x5 ∧ x5 ≤ x4 + (-1)) (f0 : x10 = x5 + x9) (f1 : x4 ≤ (bendMany_0 (((48 * g0_0) + x1)) + 1)) (hK_0_64 : ∀ j : Int, 0 ≤ j → j < 192 → 0 ≤ bendMany_0 j ∧ bendMany_0 j ≤ 24) (kz_0_139 : 0 ≤ g0_0 ∧ g0_0 ≤ 3) : x10 ≤ (bendMany_0 (((48 * g0_0) + x1)) + 1) := by
  first | assumption | (clear hK_0_64; omega) | omega | grind
def o_Mo_ofEdge_9 : or_T := (205, 11, [(0, (2, 0, 0, [165])), (1, (0, 0, 47, [])), (4, (0, 1, 25, [])), (5, (0, 0, 24, [])), (9, (0, 1, 1, [])), (10, (0, 1, 25, []))], [(1, [10, 5, 9], []), (20, [4, 0, 1], [50, 1, 1, 1139, 1064, 0, 2, 1, 0, 4, 14, 3, 1, 64, 4, 7, 6, 2, 0, 48, 2, 1, 139, 1, 2, 0, 1])], [], [], [(20, [10, 0, 1], [50, 1, 1, 1139, 1064, 0, 2, 1, 0, 4, 14, 3, 1, 64, 4, 7, 6, 2, 0, 48, 2, 1, 139, 1, 2, 0, 1])], [], [(10, 5, 1, 1), (10, 4, -4294967296, 0), (5, 4, -4294967296, -1)])
theorem oo_Mo_ofEdge_9 {kA : Nat → ClassId} : or_ok PRD kA GG o_Mo_ofEdge_9 := by
  refine or_mk fun A ta ws vs hD hth hl => ?_
  intro t0 r0 t1 k1 t4 k4 t5 k5 t9 k9 t10 k10 d0 d1 d2 f0 f1
  have cr_0_64 := fdq_170 hD hth r0
  have hK_0_64 := elq_98 hD hth cr_0_64
  have kz_0_139 := fdq_171 hD hth r0
  have nf0 : fc_1 PRD (20, [10, 0, 1], [50, 1, 1, 1139, 1064, 0, 2, 1, 0, 4, 14, 3, 1, 64, 4, 7, 6, 2, 0, 48, 2, 1, 139, 1, 2, 0, 1]) ws (vs) := ⟨nf_in hl rfl, sgq_1385 (vc_Mo_ofEdge_9_0 (v_iv (n_v vs 1)) (v_iv (n_v vs 4)) (v_iv (n_v vs 5)) (v_iv (n_v vs 9)) (v_iv (n_v vs 10)) (w_ei ws (w_ar ws (n_v vs 0) 64)) (w_fi ws (n_v vs 0) 139) k1 k4 k5 k9 k10 d0 d1 d2 (shm_12 f0) (shm_1385 f1) hK_0_64 kz_0_139)⟩
  refine ⟨(fun _ h => (by cases h)), [], trivial, ?_, (fun _ h => (by cases h))⟩
  rw [List.append_nil]
  exact List.forall_mem_cons.mpr ⟨⟨show (20 : Nat) < 100 from by decide, nf0⟩, (fun _ h => (by cases h))⟩
set_option maxHeartbeats 4000000 in
theorem vc_Mo_ofEdge_10_0 (x1 : Int) (x4 : Int) (x5 : Int) (x9 : Int) (x10 : Int) (bendMany_0 : Int → Int) (g0_0 : Int) (k1 : 0 ≤ x1 ∧ x1 ≤ 47) (k4 : 1 ≤ x4 ∧ x4 ≤ 25) (k5 : 0 ≤ x5 ∧ x5 ≤ 24) (k9 : 1 ≤ x9 ∧ x9 ≤ 1) (k10 : 1 ≤ x10 ∧ x10 ≤ 25) (d0 : x5 + 1 ≤ x10 ∧ x10 ≤ x5 + 1) (d1 : x4 + (-4294967296) ≤ x10 ∧ x10 ≤ x4 + 0) (d2 : x4 + (-4294967296) ≤ x5 ∧ x5 ≤ x4 + (-1)) (f0 : x10 = x5 + x9) (f1 : x4 ≤ (bendMany_0 (((48 * g0_0) + x1)) + 1)) (hK_0_64 : ∀ j : Int, 0 ≤ j → j < 192 → 0 ≤ bendMany_0 j ∧ bendMany_0 j ≤ 24) (kz_0_139 : 0 ≤ g0_0 ∧ g0_0 ≤ 3) : x10 ≤ (bendMany_0 (((48 * g0_0) + x1)) + 1) := by
  first | assumption | (clear hK_0_64; omega) | omega | grind
def o_Mo_ofEdge_10 : or_T := (226, 11, [(0, (2, 0, 0, [165])), (1, (0, 0, 47, [])), (4, (0, 1, 25, [])), (5, (0, 0, 24, [])), (9, (0, 1, 1, [])), (10, (0, 1, 25, []))], [(1, [10, 5, 9], []), (20, [4, 0, 1], [50, 1, 1, 1139, 1064, 0, 2, 1, 0, 4, 14, 3, 1, 64, 4, 7, 6, 2, 0, 48, 2, 1, 139, 1, 2, 0, 1])], [], [], [(20, [10, 0, 1], [50, 1, 1, 1139, 1064, 0, 2, 1, 0, 4, 14, 3, 1, 64, 4, 7, 6, 2, 0, 48, 2, 1, 139, 1, 2, 0, 1])], [], [(10, 5, 1, 1), (10, 4, -4294967296, 0), (5, 4, -4294967296, -1)])
theorem oo_Mo_ofEdge_10 {kA : Nat → ClassId} : or_ok PRD kA GG o_Mo_ofEdge_10 := by
  refine or_mk fun A ta ws vs hD hth hl => ?_
  intro t0 r0 t1 k1 t4 k4 t5 k5 t9 k9 t10 k10 d0 d1 d2 f0 f1
  have cr_0_64 := fdq_170 hD hth r0
  have hK_0_64 := elq_98 hD hth cr_0_64
  have kz_0_139 := fdq_171 hD hth r0
  have nf0 : fc_1 PRD (20, [10, 0, 1], [50, 1, 1, 1139, 1064, 0, 2, 1, 0, 4, 14, 3, 1, 64, 4, 7, 6, 2, 0, 48, 2, 1, 139, 1, 2, 0, 1]) ws (vs) := ⟨nf_in hl rfl, sgq_1385 (vc_Mo_ofEdge_10_0 (v_iv (n_v vs 1)) (v_iv (n_v vs 4)) (v_iv (n_v vs 5)) (v_iv (n_v vs 9)) (v_iv (n_v vs 10)) (w_ei ws (w_ar ws (n_v vs 0) 64)) (w_fi ws (n_v vs 0) 139) k1 k4 k5 k9 k10 d0 d1 d2 (shm_12 f0) (shm_1385 f1) hK_0_64 kz_0_139)⟩
  refine ⟨(fun _ h => (by cases h)), [], trivial, ?_, (fun _ h => (by cases h))⟩
  rw [List.append_nil]
  exact List.forall_mem_cons.mpr ⟨⟨show (20 : Nat) < 100 from by decide, nf0⟩, (fun _ h => (by cases h))⟩
set_option maxHeartbeats 4000000 in
theorem vc_Mo_ofEdge_11_0 (x1 : Int) (x4 : Int) (x5 : Int) (x9 : Int) (x10 : Int) (x11 : Int) (nodeY_0 : Int → Int) (all_0 : Int → Int) (g0_0 : Int) (r_0 : Int) (bendMany_0 : Int → Int) (bendY_0 : Int → Int) (k1 : 0 ≤ x1 ∧ x1 ≤ 47) (k4 : 1 ≤ x4 ∧ x4 ≤ 25) (k5 : 0 ≤ x5 ∧ x5 ≤ 24) (k9 : 1 ≤ x9 ∧ x9 ≤ 1) (k10 : 1 ≤ x10 ∧ x10 ≤ 25) (k11 : (-900000000) ≤ x11 ∧ x11 ≤ 900000000) (d0 : x5 + 1 ≤ x10 ∧ x10 ≤ x5 + 1) (d1 : x4 + (-4294967296) ≤ x10 ∧ x10 ≤ x4 + 0) (d2 : x4 + (-4294967296) ≤ x5 ∧ x5 ≤ x4 + (-1)) (f0 : (x10 = 0) → (x11 = nodeY_0 (((24 * g0_0) + all_0 (((r_0 + 267) + x1)))))) (f1 : (x10 = (bendMany_0 (((48 * g0_0) + x1)) + 1)) → (x11 = nodeY_0 (((24 * g0_0) + all_0 (((r_0 + 315) + x1)))))) (f2 : (x10 = 0) ∨ ((x10 = (bendMany_0 (((48 * g0_0) + x1)) + 1)) ∨ (x11 = bendY_0 (((24 * ((48 * g0_0) + x1)) + (x10 - 1)))))) (f3 : x10 ≤ (bendMany_0 (((48 * g0_0) + x1)) + 1)) (f4 : x10 = x5 + x9) (f5 : x4 ≤ (bendMany_0 (((48 * g0_0) + x1)) + 1)) (hK_0_63 : ∀ j : Int, 0 ≤ j → j < 96 → (-300000000) ≤ nodeY_0 j ∧ nodeY_0 j ≤ 300000000) (hK_0_64 : ∀ j : Int, 0 ≤ j → j < 192 → 0 ≤ bendMany_0 j ∧ bendMany_0 j ≤ 24) (hK_0_66 : ∀ j : Int, 0 ≤ j → j < 4608 → (-900000000) ≤ bendY_0 j ∧ bendY_0 j ≤ 900000000) (kz_0_139 : 0 ≤ g0_0 ∧ g0_0 ≤ 3) : x5 ≤ (bendMany_0 (((48 * g0_0) + x1)) + 1) := by
  first | assumption | (clear f0 f1 f2 hK_0_63 hK_0_64 hK_0_66; omega) | (clear hK_0_63 hK_0_64 hK_0_66; grind) | omega | grind
def o_Mo_ofEdge_11 : or_T := (233, 12, [(0, (2, 0, 0, [165])), (1, (0, 0, 47, [])), (4, (0, 1, 25, [])), (5, (0, 0, 24, [])), (9, (0, 1, 1, [])), (10, (0, 1, 25, [])), (11, (0, -900000000, 900000000, []))], [(20, [10, 11, 0, 1], [50, 2, 2, 2139, 2005, 2063, 2002, 4, 6, 1, 2, 1, 0, 0, 0, 1, 2, 1, 1, 3, 2, 63, 4, 7, 6, 2, 0, 24, 2, 2, 139, 3, 2, 2, 4, 7, 4, 3, 2, 2, 5, 0, 267, 1, 3]), (20, [10, 0, 1, 11], [50, 2, 3, 1139, 1005, 1064, 1063, 1002, 4, 22, 1, 2, 1, 0, 4, 14, 3, 1, 64, 4, 7, 6, 2, 0, 48, 2, 1, 139, 1, 2, 0, 1, 1, 2, 1, 3, 3, 1, 63, 4, 7, 6, 2, 0, 24, 2, 1, 139, 3, 1, 2, 4, 7, 4, 3, 2, 1, 5, 0, 315, 1, 2]), (20, [10, 0, 1, 11], [50, 1, 2, 1139, 1064, 1066, 3, 6, 1, 2, 1, 0, 0, 0, 3, 22, 1, 2, 1, 0, 4, 14, 3, 1, 64, 4, 7, 6, 2, 0, 48, 2, 1, 139, 1, 2, 0, 1, 1, 2, 1, 3, 3, 1, 66, 4, 15, 6, 2, 0, 24, 4, 7, 6, 2, 0, 48, 2, 1, 139, 1, 2, 5, 2, 1, 0, 0, 1]), (20, [10, 0, 1], [50, 1, 1, 1139, 1064, 0, 2, 1, 0, 4, 14, 3, 1, 64, 4, 7, 6, 2, 0, 48, 2, 1, 139, 1, 2, 0, 1]), (1, [10, 5, 9], []), (20, [4, 0, 1], [50, 1, 1, 1139, 1064, 0, 2, 1, 0, 4, 14, 3, 1, 64, 4, 7, 6, 2, 0, 48, 2, 1, 139, 1, 2, 0, 1])], [], [], [(20, [5, 0, 1], [50, 1, 1, 1139, 1064, 0, 2, 1, 0, 4, 14, 3, 1, 64, 4, 7, 6, 2, 0, 48, 2, 1, 139, 1, 2, 0, 1])], [], [(10, 5, 1, 1), (10, 4, -4294967296, 0), (5, 4, -4294967296, -1)])
theorem oo_Mo_ofEdge_11 {kA : Nat → ClassId} : or_ok PRD kA GG o_Mo_ofEdge_11 := by
  refine or_mk fun A ta ws vs hD hth hl => ?_
  intro t0 r0 t1 k1 t4 k4 t5 k5 t9 k9 t10 k10 t11 k11 d0 d1 d2 f0 f1 f2 f3 f4 f5
  have cr_0_63 := fdq_173 hD hth r0
  have cr_0_64 := fdq_170 hD hth r0
  have cr_0_66 := fdq_287 hD hth r0
  have hK_0_63 := elq_100 hD hth cr_0_63
  have hK_0_64 := elq_98 hD hth cr_0_64
  have hK_0_66 := elq_183 hD hth cr_0_66
  have kz_0_139 := fdq_171 hD hth r0
  have nf0 : fc_1 PRD (20, [5, 0, 1], [50, 1, 1, 1139, 1064, 0, 2, 1, 0, 4, 14, 3, 1, 64, 4, 7, 6, 2, 0, 48, 2, 1, 139, 1, 2, 0, 1]) ws (vs) := ⟨nf_in hl rfl, sgq_1385 (vc_Mo_ofEdge_11_0 (v_iv (n_v vs 1)) (v_iv (n_v vs 4)) (v_iv (n_v vs 5)) (v_iv (n_v vs 9)) (v_iv (n_v vs 10)) (v_iv (n_v vs 11)) (w_ei ws (w_ar ws (n_v vs 0) 63)) (w_ei ws (w_ar ws (n_v vs 0) 2)) (w_fi ws (n_v vs 0) 139) (w_fi ws (n_v vs 0) 5) (w_ei ws (w_ar ws (n_v vs 0) 64)) (w_ei ws (w_ar ws (n_v vs 0) 66)) k1 k4 k5 k9 k10 k11 d0 d1 d2 (shm_1391 f0) (shm_1392 f1) (shm_1393 f2) (shm_1385 f3) (shm_12 f4) (shm_1385 f5) hK_0_63 hK_0_64 hK_0_66 kz_0_139)⟩
  refine ⟨(fun _ h => (by cases h)), [], trivial, ?_, (fun _ h => (by cases h))⟩
  rw [List.append_nil]
  exact List.forall_mem_cons.mpr ⟨⟨show (20 : Nat) < 100 from by decide, nf0⟩, (fun _ h => (by cases h))⟩
set_option maxHeartbeats 4000000 in
theorem vc_Mo_ofEdge_12_0 (x1 : Int) (x4 : Int) (x5 : Int) (x9 : Int) (x10 : Int) (x11 : Int) (nodeY_0 : Int → Int) (all_0 : Int → Int) (g0_0 : Int) (r_0 : Int) (bendMany_0 : Int → Int) (bendY_0 : Int → Int) (k1 : 0 ≤ x1 ∧ x1 ≤ 47) (k4 : 1 ≤ x4 ∧ x4 ≤ 25) (k5 : 0 ≤ x5 ∧ x5 ≤ 24) (k9 : 1 ≤ x9 ∧ x9 ≤ 1) (k10 : 1 ≤ x10 ∧ x10 ≤ 25) (k11 : (-300000000) ≤ x11 ∧ x11 ≤ 300000000) (d0 : x5 + 1 ≤ x10 ∧ x10 ≤ x5 + 1) (d1 : x4 + (-4294967296) ≤ x10 ∧ x10 ≤ x4 + 0) (d2 : x4 + (-4294967296) ≤ x5 ∧ x5 ≤ x4 + (-1)) (f0 : (x10 = 0) → (x11 = nodeY_0 (((24 * g0_0) + all_0 (((r_0 + 267) + x1)))))) (f1 : (x10 = (bendMany_0 (((48 * g0_0) + x1)) + 1)) → (x11 = nodeY_0 (((24 * g0_0) + all_0 (((r_0 + 315) + x1)))))) (f2 : (x10 = 0) ∨ ((x10 = (bendMany_0 (((48 * g0_0) + x1)) + 1)) ∨ (x11 = bendY_0 (((24 * ((48 * g0_0) + x1)) + (x10 - 1)))))) (f3 : x10 ≤ (bendMany_0 (((48 * g0_0) + x1)) + 1)) (f4 : x10 = x5 + x9) (f5 : x4 ≤ (bendMany_0 (((48 * g0_0) + x1)) + 1)) (hK_0_63 : ∀ j : Int, 0 ≤ j → j < 96 → (-300000000) ≤ nodeY_0 j ∧ nodeY_0 j ≤ 300000000) (hK_0_64 : ∀ j : Int, 0 ≤ j → j < 192 → 0 ≤ bendMany_0 j ∧ bendMany_0 j ≤ 24) (hK_0_66 : ∀ j : Int, 0 ≤ j → j < 4608 → (-900000000) ≤ bendY_0 j ∧ bendY_0 j ≤ 900000000) (kz_0_139 : 0 ≤ g0_0 ∧ g0_0 ≤ 3) : x5 ≤ (bendMany_0 (((48 * g0_0) + x1)) + 1) := by
  first | assumption | (clear f0 f1 f2 hK_0_63 hK_0_64 hK_0_66; omega) | (clear hK_0_63 hK_0_64 hK_0_66; grind) | omega | grind
def o_Mo_ofEdge_12 : or_T := (233, 12, [(0, (2, 0, 0, [165])), (1, (0, 0, 47, [])), (4, (0, 1, 25, [])), (5, (0, 0, 24, [])), (9, (0, 1, 1, [])), (10, (0, 1, 25, [])), (11, (0, -300000000, 300000000, []))], [(20, [10, 11, 0, 1], [50, 2, 2, 2139, 2005, 2063, 2002, 4, 6, 1, 2, 1, 0, 0, 0, 1, 2, 1, 1, 3, 2, 63, 4, 7, 6, 2, 0, 24, 2, 2, 139, 3, 2, 2, 4, 7, 4, 3, 2, 2, 5, 0, 267, 1, 3]), (20, [10, 0, 1, 11], [50, 2, 3, 1139, 1005, 1064, 1063, 1002, 4, 22, 1, 2, 1, 0, 4, 14, 3, 1, 64, 4, 7, 6, 2, 0, 48, 2, 1, 139, 1, 2, 0, 1, 1, 2, 1, 3, 3, 1, 63, 4, 7, 6, 2, 0, 24, 2, 1, 139, 3, 1, 2, 4, 7, 4, 3, 2, 1, 5, 0, 315, 1, 2]), (20, [10, 0, 1, 11], [50, 1, 2, 1139, 1064, 1066, 3, 6, 1, 2, 1, 0, 0, 0, 3, 22, 1, 2, 1, 0, 4, 14, 3, 1, 64, 4, 7, 6, 2, 0, 48, 2, 1, 139, 1, 2, 0, 1, 1, 2, 1, 3, 3, 1, 66, 4, 15, 6, 2, 0, 24, 4, 7, 6, 2, 0, 48, 2, 1, 139, 1, 2, 5, 2, 1, 0, 0, 1]), (20, [10, 0, 1], [50, 1, 1, 1139, 1064, 0, 2, 1, 0, 4, 14, 3, 1, 64, 4, 7, 6, 2, 0, 48, 2, 1, 139, 1, 2, 0, 1]), (1, [10, 5, 9], []), (20, [4, 0, 1], [50, 1, 1, 1139, 1064, 0, 2, 1, 0, 4, 14, 3, 1, 64, 4, 7, 6, 2, 0, 48, 2, 1, 139, 1, 2, 0, 1])], [], [], [(20, [5, 0, 1], [50, 1, 1, 1139, 1064, 0, 2, 1, 0, 4, 14, 3, 1, 64, 4, 7, 6, 2, 0, 48, 2, 1, 139, 1, 2, 0, 1])], [], [(10, 5, 1, 1), (10, 4, -4294967296, 0), (5, 4, -4294967296, -1)])
theorem oo_Mo_ofEdge_12 {kA : Nat → ClassId} : or_ok PRD kA GG o_Mo_ofEdge_12 := by
  refine or_mk fun A ta ws vs hD hth hl => ?_
  intro t0 r0 t1 k1 t4 k4 t5 k5 t9 k9 t10 k10 t11 k11 d0 d1 d2 f0 f1 f2 f3 f4 f5
  have cr_0_63 := fdq_173 hD hth r0
  have cr_0_64 := fdq_170 hD hth r0
  have cr_0_66 := fdq_287 hD hth r0
  have hK_0_63 := elq_100 hD hth cr_0_63
  have hK_0_64 := elq_98 hD hth cr_0_64
  have hK_0_66 := elq_183 hD hth cr_0_66
  have kz_0_139 := fdq_171 hD hth r0
  have nf0 : fc_1 PRD (20, [5, 0, 1], [50, 1, 1, 1139, 1064, 0, 2, 1, 0, 4, 14, 3, 1, 64, 4, 7, 6, 2, 0, 48, 2, 1, 139, 1, 2, 0, 1]) ws (vs) := ⟨nf_in hl rfl, sgq_1385 (vc_Mo_ofEdge_12_0 (v_iv (n_v vs 1)) (v_iv (n_v vs 4)) (v_iv (n_v vs 5)) (v_iv (n_v vs 9)) (v_iv (n_v vs 10)) (v_iv (n_v vs 11)) (w_ei ws (w_ar ws (n_v vs 0) 63)) (w_ei ws (w_ar ws (n_v vs 0) 2)) (w_fi ws (n_v vs 0) 139) (w_fi ws (n_v vs 0) 5) (w_ei ws (w_ar ws (n_v vs 0) 64)) (w_ei ws (w_ar ws (n_v vs 0) 66)) k1 k4 k5 k9 k10 k11 d0 d1 d2 (shm_1391 f0) (shm_1392 f1) (shm_1393 f2) (shm_1385 f3) (shm_12 f4) (shm_1385 f5) hK_0_63 hK_0_64 hK_0_66 kz_0_139)⟩
  refine ⟨(fun _ h => (by cases h)), [], trivial, ?_, (fun _ h => (by cases h))⟩
  rw [List.append_nil]
  exact List.forall_mem_cons.mpr ⟨⟨show (20 : Nat) < 100 from by decide, nf0⟩, (fun _ h => (by cases h))⟩
def n_Mo_ofEdge_an : List an_T := [(30, [(0, (2, 0, 0, [165])), (1, (0, 0, 47, [])), (2, (0, 2, 2, [])), (3, (1, (Int.negSucc 9223372036854775807), 9223372036854775807, [])), (5, (0, 1, 25, [])), (6, (0, 0, 24, []))], [], (0, 0), [(0, 0, 99970), (1, 5, 24), (0, 0, 100000), (0, 0, 0), (0, 0, 0)], [], [], [], 0, [], [(20, [4, 0, 1], [50, 1, 1, 1139, 1064, 0, 2, 1, 0, 4, 14, 3, 1, 64, 4, 7, 6, 2, 0, 48, 2, 1, 139, 1, 2, 0, 1])]), (45, [(0, (2, 0, 0, [165])), (1, (0, 0, 47, [])), (2, (0, 2, 2, [])), (3, (1, (Int.negSucc 9223372036854775807), 9223372036854775807, [])), (5, (0, 1, 25, [])), (6, (0, 0, 23, [])), (7, (0, 0, 1, [])), (8, (0, 0, 25, []))], [], (0, 0), [(0, 0, 99970), (1, 5, 24), (0, 0, 99955), (1, 7, 25), (0, 0, 100000)], [(6, 7, (Int.negSucc 999999999999), 0), (7, 4, (Int.negSucc 999999999999), 0)], [], [], 0, [], [(20, [4, 0, 1], [50, 1, 1, 1139, 1064, 0, 2, 1, 0, 4, 14, 3, 1, 64, 4, 7, 6, 2, 0, 48, 2, 1, 139, 1, 2, 0, 1])]), (88, [(0, (2, 0, 0, [165])), (1, (0, 0, 47, [])), (2, (0, 2, 2, [])), (3, (1, (Int.negSucc 9223372036854775807), 9223372036854775807, [])), (5, (0, 1, 25, [])), (6, (0, 0, 23, [])), (7, (0, 0, 0, [])), (8, (0, 0, 24, []))], [(0, (Int.negSucc 300000010), 300000000, []), (1, (Int.negSucc 299999999), 300000000, []), (1, (Int.negSucc 299999999), 300000000, [])], (0, 0), [(0, 0, 99970), (1, 5, 24), (0, 0, 99955), (1, 7, 25), (0, 0, 99912)], [(7, 4, (Int.negSucc 999999999999), (Int.negSucc 0))], [], [], 0, [], [(20, [4, 0, 1], [50, 1, 1, 1139, 1064, 0, 2, 1, 0, 4, 14, 3, 1, 64, 4, 7, 6, 2, 0, 48, 2, 1, 139, 1, 2, 0, 1])]), (96, [(0, (2, 0, 0, [165])), (1, (0, 0, 47, [])), (2, (0, 2, 2, [])), (3, (1, (Int.negSucc 9223372036854775807), 9223372036854775807, [])), (5, (0, 1, 25, [])), (6, (0, 0, 23, [])), (7, (0, 0, 0, [])), (8, (0, 0, 24, []))], [(0, (Int.negSucc 899999999), 900000000, []), (1, (Int.negSucc 300000010), 300000000, []), (1, (Int.negSucc 299999999), 300000000, []), (1, (Int.negSucc 299999999), 300000000, [])], (0, 0), [(0, 0, 99970), (1, 5, 24), (0, 0, 99955), (1, 7, 25), (0, 0, 99904)], [(7, 4, (Int.negSucc 999999999999), (Int.negSucc 0))], [], [], 0, [], [(20, [4, 0, 1], [50, 1, 1, 1139, 1064, 0, 2, 1, 0, 4, 14, 3, 1, 64, 4, 7, 6, 2, 0, 48, 2, 1, 139, 1, 2, 0, 1])]), (106, [(0, (2, 0, 0, [165])), (1, (0, 0, 47, [])), (2, (0, 2, 2, [])), (3, (1, (Int.negSucc 9223372036854775807), 9223372036854775807, [])), (5, (0, 1, 25, [])), (6, (0, 0, 23, [])), (7, (0, 0, 0, [])), (8, (0, 0, 24, []))], [(0, (Int.negSucc 300000010), 300000000, []), (1, (Int.negSucc 899999999), 900000000, []), (1, (Int.negSucc 300000010), 300000000, []), (1, (Int.negSucc 299999999), 300000000, []), (1, (Int.negSucc 299999999), 300000000, [])], (0, 0), [(0, 0, 99970), (1, 5, 24), (0, 0, 99955), (1, 7, 25), (0, 0, 99894)], [(7, 4, (Int.negSucc 999999999999), (Int.negSucc 0))], [], [], 0, [], [(20, [4, 0, 1], [50, 1, 1, 1139, 1064, 0, 2, 1, 0, 4, 14, 3, 1, 64, 4, 7, 6, 2, 0, 48, 2, 1, 139, 1, 2, 0, 1])]), (130, [(0, (2, 0, 0, [165])), (1, (0, 0, 47, [])), (2, (0, 2, 2, [])), (3, (1, (Int.negSucc 9223372036854775807), 9223372036854775807, [])), (5, (0, 1, 25, [])), (6, (0, 0, 23, [])), (7, (0, 0, 1, [])), (8, (0, 0, 24, []))], [], (0, 0), [(0, 0, 99970), (1, 5, 24), (0, 0, 99955), (1, 7, 25), (0, 0, 99870)], [(7, 4, (Int.negSucc 999999999999), (Int.negSucc 0))], [], [], 0, [], [(20, [4, 0, 1], [50, 1, 1, 1139, 1064, 0, 2, 1, 0, 4, 14, 3, 1, 64, 4, 7, 6, 2, 0, 48, 2, 1, 139, 1, 2, 0, 1])]), (160, [(0, (2, 0, 0, [165])), (1, (0, 0, 47, [])), (2, (0, 3, 8, [])), (3, (1, (Int.negSucc 9223372036854775807), 9223372036854775807, [])), (5, (0, 1, 25, [])), (6, (0, 0, 25, []))], [], (0, 0), [(0, 0, 99840), (1, 5, 25), (0, 0, 100000), (0, 0, 0), (0, 0, 0)], [(5, 4, (Int.negSucc 999999999999), 0)], [], [], 0, [], [(20, [4, 0, 1], [50, 1, 1, 1139, 1064, 0, 2, 1, 0, 4, 14, 3, 1, 64, 4, 7, 6, 2, 0, 48, 2, 1, 139, 1, 2, 0, 1])]), (174, [(0, (2, 0, 0, [165])), (1, (0, 0, 47, [])), (2, (0, 3, 8, [])), (3, (1, (Int.negSucc 9223372036854775807), 9223372036854775807, [])), (5, (0, 1, 25, [])), (6, (0, 0, 24, []))], [(0, (Int.negSucc 300000010), 300000000, [])], (0, 0), [(0, 0, 99840), (1, 5, 25), (0, 0, 99826), (0, 0, 0), (0, 0, 0)], [(5, 4, (Int.negSucc 999999999999), (Int.negSucc 0))], [], [], 0, [], [(20, [4, 0, 1], [50, 1, 1, 1139, 1064, 0, 2, 1, 0, 4, 14, 3, 1, 64, 4, 7, 6, 2, 0, 48, 2, 1, 139, 1, 2, 0, 1])]), (191, [(0, (2, 0, 0, [165])), (1, (0, 0, 47, [])), (2, (0, 3, 8, [])), (3, (1, (Int.negSucc 9223372036854775807), 9223372036854775807, [])), (5, (0, 1, 25, [])), (6, (0, 0, 24, [])), (7, (1, 0, 600000011, []))], [], (0, 0), [(0, 0, 99840), (1, 5, 25), (0, 0, 99809), (0, 0, 0), (0, 0, 0)], [(5, 4, (Int.negSucc 999999999999), (Int.negSucc 0))], [], [], 0, [], [(20, [4, 0, 1], [50, 1, 1, 1139, 1064, 0, 2, 1, 0, 4, 14, 3, 1, 64, 4, 7, 6, 2, 0, 48, 2, 1, 139, 1, 2, 0, 1])]), (198, [(0, (2, 0, 0, [165])), (1, (0, 0, 47, [])), (2, (0, 3, 8, [])), (3, (1, (Int.negSucc 9223372036854775807), 9223372036854775807, [])), (5, (0, 1, 25, [])), (6, (0, 0, 24, [])), (7, (1, 0, 600000011, []))], [(0, (Int.negSucc 899999999), 900000000, [])], (0, 0), [(0, 0, 99840), (1, 5, 25), (0, 0, 99802), (0, 0, 0), (0, 0, 0)], [(5, 4, (Int.negSucc 999999999999), (Int.negSucc 0))], [], [], 0, [], [(20, [4, 0, 1], [50, 1, 1, 1139, 1064, 0, 2, 1, 0, 4, 14, 3, 1, 64, 4, 7, 6, 2, 0, 48, 2, 1, 139, 1, 2, 0, 1])]), (215, [(0, (2, 0, 0, [165])), (1, (0, 0, 47, [])), (2, (0, 3, 8, [])), (3, (1, (Int.negSucc 9223372036854775807), 9223372036854775807, [])), (5, (0, 1, 25, [])), (6, (0, 0, 24, [])), (7, (1, 0, 600000011, [])), (9, (1, 0, 1800000000, []))], [], (0, 0), [(0, 0, 99840), (1, 5, 25), (0, 0, 99785), (0, 0, 0), (0, 0, 0)], [(5, 4, (Int.negSucc 999999999999), (Int.negSucc 0))], [], [], 0, [], [(20, [4, 0, 1], [50, 1, 1, 1139, 1064, 0, 2, 1, 0, 4, 14, 3, 1, 64, 4, 7, 6, 2, 0, 48, 2, 1, 139, 1, 2, 0, 1])]), (268, [(0, (2, 0, 0, [165])), (1, (0, 0, 47, [])), (2, (0, 3, 8, [])), (3, (1, (Int.negSucc 9223372036854775807), 9223372036854775807, [])), (5, (0, 1, 25, [])), (6, (0, 0, 24, [])), (7, (1, 0, 600000011, [])), (9, (1, 0, 1800000000, []))], [], (0, 0), [(0, 0, 99840), (1, 5, 25), (0, 0, 99732), (0, 0, 0), (0, 0, 0)], [(5, 4, (Int.negSucc 999999999999), (Int.negSucc 0))], [], [], 0, [], [(20, [4, 0, 1], [50, 1, 1, 1139, 1064, 0, 2, 1, 0, 4, 14, 3, 1, 64, 4, 7, 6, 2, 0, 48, 2, 1, 139, 1, 2, 0, 1])]), (282, [(0, (2, 0, 0, [165])), (1, (0, 0, 47, [])), (2, (0, 3, 8, [])), (3, (1, (Int.negSucc 9223372036854775807), 9223372036854775807, [])), (5, (0, 1, 25, [])), (6, (0, 0, 24, [])), (7, (1, 0, 600000011, [])), (9, (1, 0, 1800000000, []))], [], (0, 0), [(0, 0, 99840), (1, 5, 25), (0, 0, 99718), (0, 0, 0), (0, 0, 0)], [(5, 4, (Int.negSucc 999999999999), (Int.negSucc 0))], [], [], 0, [], [(20, [4, 0, 1], [50, 1, 1, 1139, 1064, 0, 2, 1, 0, 4, 14, 3, 1, 64, 4, 7, 6, 2, 0, 48, 2, 1, 139, 1, 2, 0, 1])])]
def t_Mo_ofEdge_ct : ct_L := [(0, 1107, e_Mo_isOn), (1, 405, e_Mo_has), (1, 475, e_Mo_nodes), (1, 1023, e_Mo_px), (1, 1026, e_Mo_pointsOf), (1, 1029, e_Mo_py), (1, 1085, e_Mo_ex), (1, 1088, e_Mo_ey), (561, 1137, e_jMath_abs2_v764), (561, 1137, e_jMath_abs2_v766f), (561, 1137, e_jMath_abs2_v144), (561, 1137, e_jMath_abs2_v767f), (633, 1137, e_jMath_abs2_v144), (633, 1137, e_jMath_abs2_v765), (633, 1137, e_jMath_abs2_v768)]
