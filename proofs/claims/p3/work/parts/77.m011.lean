
set_option maxHeartbeats 4000000 in
theorem vc_Mo_cost_at_ga_1_0 (x1 : Int) (x2 : Int) (x3 : Int) (x4 : Int) (x5 : Int) (x7 : Int) (x11 : Int) (x12 : Int) (pointMany_0 : Int) (costMany_1 : Int) (pointMany_1 : Int) (costMany_2 : Int) (pointMany_2 : Int) (costMany_3 : Int) (pointMany_3 : Int) (costMany_4 : Int) (pointMany_4 : Int) (costMany_5 : Int) (costA_5 : Int → Int) (costB_5 : Int → Int) (costW_5 : Int → Int) (costPlain_5 : Int → Int) (pointMany_5 : Int) (costMany_0 : Int) (costA_0 : Int → Int) (costA_1 : Int → Int) (costA_2 : Int → Int) (costA_3 : Int → Int) (costA_4 : Int → Int) (costB_0 : Int → Int) (costB_1 : Int → Int) (costB_2 : Int → Int) (costB_3 : Int → Int) (costB_4 : Int → Int) (costW_0 : Int → Int) (costW_1 : Int → Int) (costW_2 : Int → Int) (costW_3 : Int → Int) (costW_4 : Int → Int) (costPlain_0 : Int → Int) (costPlain_1 : Int → Int) (costPlain_2 : Int → Int) (costPlain_3 : Int → Int) (costPlain_4 : Int → Int) (k1 : 0 ≤ x1 ∧ x1 ≤ 75) (k2 : 0 ≤ x2 ∧ x2 ≤ 75) (k3 : 0 ≤ x3 ∧ x3 ≤ 72) (k4 : 0 ≤ x4 ∧ x4 ≤ 0) (k5 : 0 ≤ x5 ∧ x5 ≤ 199) (k7 : 0 ≤ x7 ∧ x7 ≤ 199) (k11 : 1 ≤ x11 ∧ x11 ≤ 1) (k12 : 1 ≤ x12 ∧ x12 ≤ 200) (d0 : x7 + 1 ≤ x12 ∧ x12 ≤ x7 + 1) (f0 : (0 ≤ x1) ∧ ((x1 + 1) ≤ pointMany_0)) (f1 : (0 ≤ x2) ∧ ((x2 + 1) ≤ pointMany_0)) (f3 : x12 = x7 + x11) (g4 : x7 = costMany_1) (f5 : costMany_1 = x5) (f6 : (0 ≤ x1) ∧ ((x1 + 1) ≤ pointMany_1)) (f7 : (0 ≤ x2) ∧ ((x2 + 1) ≤ pointMany_1)) (f10 : costMany_2 = x5) (f11 : (0 ≤ x1) ∧ ((x1 + 1) ≤ pointMany_2)) (f12 : (0 ≤ x2) ∧ ((x2 + 1) ≤ pointMany_2)) (f15 : costMany_3 = x5) (f16 : (0 ≤ x1) ∧ ((x1 + 1) ≤ pointMany_3)) (f17 : (0 ≤ x2) ∧ ((x2 + 1) ≤ pointMany_3)) (f20 : costMany_4 = x5) (f21 : (0 ≤ x1) ∧ ((x1 + 1) ≤ pointMany_4)) (f22 : (0 ≤ x2) ∧ ((x2 + 1) ≤ pointMany_4)) (f25 : costMany_5 = x5) (f26 : PCQ (pointMany_5) (costMany_5) (costA_5) (costB_5) (costW_5) (costPlain_5)) (f27 : (0 ≤ x1) ∧ ((x1 + 1) ≤ pointMany_5)) (f28 : (0 ≤ x2) ∧ ((x2 + 1) ≤ pointMany_5)) (fe_0_79_1 : pointMany_0 = pointMany_1) (fe_0_80_1 : costMany_0 = x12) (fe_0_79_2 : pointMany_1 = pointMany_2) (fe_0_80_2 : costMany_1 = costMany_2) (fe_0_79_3 : pointMany_2 = pointMany_3) (fe_0_80_3 : costMany_2 = costMany_3) (fe_0_79_4 : pointMany_3 = pointMany_4) (fe_0_80_4 : costMany_3 = costMany_4) (fe_0_79_5 : pointMany_4 = pointMany_5) (fe_0_80_5 : costMany_4 = costMany_5) (hE_0_83_1 : ∀ j : Int, costA_0 j = costA_1 j) (hE_0_83_2 : ∀ j : Int, costA_1 j = costA_2 j) (hE_0_83_3 : ∀ j : Int, costA_2 j = costA_3 j) (hE_0_83_4 : ∀ j : Int, costA_3 j = costA_4 j) (hE_0_83_5 : ∀ j : Int, 0 ≤ j → (j = x7 → costA_4 j = x1) ∧ (j ≠ x7 → costA_4 j = costA_5 j)) (hK_0_83 : ∀ j : Int, 0 ≤ j → j < 200 → 0 ≤ costA_0 j ∧ costA_0 j ≤ 75) (hE_0_84_1 : ∀ j : Int, costB_0 j = costB_1 j) (hE_0_84_2 : ∀ j : Int, costB_1 j = costB_2 j) (hE_0_84_3 : ∀ j : Int, costB_2 j = costB_3 j) (hE_0_84_4 : ∀ j : Int, 0 ≤ j → (j = x7 → costB_3 j = x2) ∧ (j ≠ x7 → costB_3 j = costB_4 j)) (hE_0_84_5 : ∀ j : Int, costB_4 j = costB_5 j) (hK_0_84 : ∀ j : Int, 0 ≤ j → j < 200 → 0 ≤ costB_0 j ∧ costB_0 j ≤ 75) (hE_0_85_1 : ∀ j : Int, costW_0 j = costW_1 j) (hE_0_85_2 : ∀ j : Int, costW_1 j = costW_2 j) (hE_0_85_3 : ∀ j : Int, 0 ≤ j → (j = x7 → costW_2 j = x3) ∧ (j ≠ x7 → costW_2 j = costW_3 j)) (hE_0_85_4 : ∀ j : Int, costW_3 j = costW_4 j) (hE_0_85_5 : ∀ j : Int, costW_4 j = costW_5 j) (hK_0_85 : ∀ j : Int, 0 ≤ j → j < 200 → 0 ≤ costW_0 j ∧ costW_0 j ≤ 72) (hE_0_86_1 : ∀ j : Int, costPlain_0 j = costPlain_1 j) (hE_0_86_2 : ∀ j : Int, 0 ≤ j → (j = x7 → costPlain_1 j = x4) ∧ (j ≠ x7 → costPlain_1 j = costPlain_2 j)) (hE_0_86_3 : ∀ j : Int, costPlain_2 j = costPlain_3 j) (hE_0_86_4 : ∀ j : Int, costPlain_3 j = costPlain_4 j) (hE_0_86_5 : ∀ j : Int, costPlain_4 j = costPlain_5 j) (hK_0_86 : ∀ j : Int, 0 ≤ j → j < 200 → 0 ≤ costPlain_0 j ∧ costPlain_0 j ≤ 1) (kz_0_79 : 0 ≤ pointMany_0 ∧ pointMany_0 ≤ 76) (kz_0_80 : 0 ≤ costMany_0 ∧ costMany_0 ≤ 200) : costMany_0 = (x5 + 1) := by
  subst fe_0_79_1
  subst fe_0_79_2
  subst fe_0_80_2
  subst fe_0_79_3
  subst fe_0_80_3
  subst fe_0_79_4
  subst fe_0_80_4
  subst fe_0_79_5
  subst fe_0_80_5
  have e_hE_0_83_1 := funext hE_0_83_1; subst e_hE_0_83_1
  have e_hE_0_83_2 := funext hE_0_83_2; subst e_hE_0_83_2
  have e_hE_0_83_3 := funext hE_0_83_3; subst e_hE_0_83_3
  have e_hE_0_83_4 := funext hE_0_83_4; subst e_hE_0_83_4
  have e_hE_0_84_1 := funext hE_0_84_1; subst e_hE_0_84_1
  have e_hE_0_84_2 := funext hE_0_84_2; subst e_hE_0_84_2
  have e_hE_0_84_3 := funext hE_0_84_3; subst e_hE_0_84_3
  have e_hE_0_84_5 := funext hE_0_84_5; subst e_hE_0_84_5
  have e_hE_0_85_1 := funext hE_0_85_1; subst e_hE_0_85_1
  have e_hE_0_85_2 := funext hE_0_85_2; subst e_hE_0_85_2
  have e_hE_0_85_4 := funext hE_0_85_4; subst e_hE_0_85_4
  have e_hE_0_85_5 := funext hE_0_85_5; subst e_hE_0_85_5
  have e_hE_0_86_1 := funext hE_0_86_1; subst e_hE_0_86_1
  have e_hE_0_86_3 := funext hE_0_86_3; subst e_hE_0_86_3
  have e_hE_0_86_4 := funext hE_0_86_4; subst e_hE_0_86_4
  have e_hE_0_86_5 := funext hE_0_86_5; subst e_hE_0_86_5
  omega
set_option maxHeartbeats 4000000 in
theorem vc_Mo_cost_at_ga_1_1 (x1 : Int) (x2 : Int) (x3 : Int) (x4 : Int) (x5 : Int) (x7 : Int) (x11 : Int) (x12 : Int) (pointMany_0 : Int) (costMany_1 : Int) (pointMany_1 : Int) (costMany_2 : Int) (pointMany_2 : Int) (costMany_3 : Int) (pointMany_3 : Int) (costMany_4 : Int) (pointMany_4 : Int) (costMany_5 : Int) (costA_5 : Int → Int) (costB_5 : Int → Int) (costW_5 : Int → Int) (costPlain_5 : Int → Int) (pointMany_5 : Int) (costMany_0 : Int) (costA_0 : Int → Int) (costA_1 : Int → Int) (costA_2 : Int → Int) (costA_3 : Int → Int) (costA_4 : Int → Int) (costB_0 : Int → Int) (costB_1 : Int → Int) (costB_2 : Int → Int) (costB_3 : Int → Int) (costB_4 : Int → Int) (costW_0 : Int → Int) (costW_1 : Int → Int) (costW_2 : Int → Int) (costW_3 : Int → Int) (costW_4 : Int → Int) (costPlain_0 : Int → Int) (costPlain_1 : Int → Int) (costPlain_2 : Int → Int) (costPlain_3 : Int → Int) (costPlain_4 : Int → Int) (k1 : 0 ≤ x1 ∧ x1 ≤ 75) (k2 : 0 ≤ x2 ∧ x2 ≤ 75) (k3 : 0 ≤ x3 ∧ x3 ≤ 72) (k4 : 0 ≤ x4 ∧ x4 ≤ 0) (k5 : 0 ≤ x5 ∧ x5 ≤ 199) (k7 : 0 ≤ x7 ∧ x7 ≤ 199) (k11 : 1 ≤ x11 ∧ x11 ≤ 1) (k12 : 1 ≤ x12 ∧ x12 ≤ 200) (d0 : x7 + 1 ≤ x12 ∧ x12 ≤ x7 + 1) (f0 : (0 ≤ x1) ∧ ((x1 + 1) ≤ pointMany_0)) (f1 : (0 ≤ x2) ∧ ((x2 + 1) ≤ pointMany_0)) (f3 : x12 = x7 + x11) (g4 : x7 = costMany_1) (f5 : costMany_1 = x5) (f6 : (0 ≤ x1) ∧ ((x1 + 1) ≤ pointMany_1)) (f7 : (0 ≤ x2) ∧ ((x2 + 1) ≤ pointMany_1)) (f10 : costMany_2 = x5) (f11 : (0 ≤ x1) ∧ ((x1 + 1) ≤ pointMany_2)) (f12 : (0 ≤ x2) ∧ ((x2 + 1) ≤ pointMany_2)) (f15 : costMany_3 = x5) (f16 : (0 ≤ x1) ∧ ((x1 + 1) ≤ pointMany_3)) (f17 : (0 ≤ x2) ∧ ((x2 + 1) ≤ pointMany_3)) (f20 : costMany_4 = x5) (f21 : (0 ≤ x1) ∧ ((x1 + 1) ≤ pointMany_4)) (f22 : (0 ≤ x2) ∧ ((x2 + 1) ≤ pointMany_4)) (f25 : costMany_5 = x5) (f26 : PCQ (pointMany_5) (costMany_5) (costA_5) (costB_5) (costW_5) (costPlain_5)) (f27 : (0 ≤ x1) ∧ ((x1 + 1) ≤ pointMany_5)) (f28 : (0 ≤ x2) ∧ ((x2 + 1) ≤ pointMany_5)) (fe_0_79_1 : pointMany_0 = pointMany_1) (fe_0_80_1 : costMany_0 = x12) (fe_0_79_2 : pointMany_1 = pointMany_2) (fe_0_80_2 : costMany_1 = costMany_2) (fe_0_79_3 : pointMany_2 = pointMany_3) (fe_0_80_3 : costMany_2 = costMany_3) (fe_0_79_4 : pointMany_3 = pointMany_4) (fe_0_80_4 : costMany_3 = costMany_4) (fe_0_79_5 : pointMany_4 = pointMany_5) (fe_0_80_5 : costMany_4 = costMany_5) (hE_0_83_1 : ∀ j : Int, costA_0 j = costA_1 j) (hE_0_83_2 : ∀ j : Int, costA_1 j = costA_2 j) (hE_0_83_3 : ∀ j : Int, costA_2 j = costA_3 j) (hE_0_83_4 : ∀ j : Int, costA_3 j = costA_4 j) (hE_0_83_5 : ∀ j : Int, 0 ≤ j → (j = x7 → costA_4 j = x1) ∧ (j ≠ x7 → costA_4 j = costA_5 j)) (hK_0_83 : ∀ j : Int, 0 ≤ j → j < 200 → 0 ≤ costA_0 j ∧ costA_0 j ≤ 75) (hE_0_84_1 : ∀ j : Int, costB_0 j = costB_1 j) (hE_0_84_2 : ∀ j : Int, costB_1 j = costB_2 j) (hE_0_84_3 : ∀ j : Int, costB_2 j = costB_3 j) (hE_0_84_4 : ∀ j : Int, 0 ≤ j → (j = x7 → costB_3 j = x2) ∧ (j ≠ x7 → costB_3 j = costB_4 j)) (hE_0_84_5 : ∀ j : Int, costB_4 j = costB_5 j) (hK_0_84 : ∀ j : Int, 0 ≤ j → j < 200 → 0 ≤ costB_0 j ∧ costB_0 j ≤ 75) (hE_0_85_1 : ∀ j : Int, costW_0 j = costW_1 j) (hE_0_85_2 : ∀ j : Int, costW_1 j = costW_2 j) (hE_0_85_3 : ∀ j : Int, 0 ≤ j → (j = x7 → costW_2 j = x3) ∧ (j ≠ x7 → costW_2 j = costW_3 j)) (hE_0_85_4 : ∀ j : Int, costW_3 j = costW_4 j) (hE_0_85_5 : ∀ j : Int, costW_4 j = costW_5 j) (hK_0_85 : ∀ j : Int, 0 ≤ j → j < 200 → 0 ≤ costW_0 j ∧ costW_0 j ≤ 72) (hE_0_86_1 : ∀ j : Int, costPlain_0 j = costPlain_1 j) (hE_0_86_2 : ∀ j : Int, 0 ≤ j → (j = x7 → costPlain_1 j = x4) ∧ (j ≠ x7 → costPlain_1 j = costPlain_2 j)) (hE_0_86_3 : ∀ j : Int, costPlain_2 j = costPlain_3 j) (hE_0_86_4 : ∀ j : Int, costPlain_3 j = costPlain_4 j) (hE_0_86_5 : ∀ j : Int, costPlain_4 j = costPlain_5 j) (hK_0_86 : ∀ j : Int, 0 ≤ j → j < 200 → 0 ≤ costPlain_0 j ∧ costPlain_0 j ≤ 1) (kz_0_79 : 0 ≤ pointMany_0 ∧ pointMany_0 ≤ 76) (kz_0_80 : 0 ≤ costMany_0 ∧ costMany_0 ≤ 200) : PCQ (pointMany_0) (costMany_0) (costA_0) (costB_0) (costW_0) (costPlain_0) := by
  subst fe_0_79_1
  subst fe_0_79_2
  subst fe_0_80_2
  subst fe_0_79_3
  subst fe_0_80_3
  subst fe_0_79_4
  subst fe_0_80_4
  subst fe_0_79_5
  subst fe_0_80_5
  have e_hE_0_83_1 := funext hE_0_83_1; subst e_hE_0_83_1
  have e_hE_0_83_2 := funext hE_0_83_2; subst e_hE_0_83_2
  have e_hE_0_83_3 := funext hE_0_83_3; subst e_hE_0_83_3
  have e_hE_0_83_4 := funext hE_0_83_4; subst e_hE_0_83_4
  have e_hE_0_84_1 := funext hE_0_84_1; subst e_hE_0_84_1
  have e_hE_0_84_2 := funext hE_0_84_2; subst e_hE_0_84_2
  have e_hE_0_84_3 := funext hE_0_84_3; subst e_hE_0_84_3
  have e_hE_0_84_5 := funext hE_0_84_5; subst e_hE_0_84_5
  have e_hE_0_85_1 := funext hE_0_85_1; subst e_hE_0_85_1
  have e_hE_0_85_2 := funext hE_0_85_2; subst e_hE_0_85_2
  have e_hE_0_85_4 := funext hE_0_85_4; subst e_hE_0_85_4
  have e_hE_0_85_5 := funext hE_0_85_5; subst e_hE_0_85_5
  have e_hE_0_86_1 := funext hE_0_86_1; subst e_hE_0_86_1
  have e_hE_0_86_3 := funext hE_0_86_3; subst e_hE_0_86_3
  have e_hE_0_86_4 := funext hE_0_86_4; subst e_hE_0_86_4
  have e_hE_0_86_5 := funext hE_0_86_5; subst e_hE_0_86_5
  exact pcq_cost (a := x1) (b := x2) (w := x3) (pl := x4) ‹PCQ _ _ _ _ _ _› (by omega) (by omega) (by omega) (by omega) (by omega) (by assumption) (by assumption) (by assumption) (by assumption) (by omega) (by omega) (by omega) (by omega)
def o_Mo_cost_at_ga_1 : or_T := (51, 13, [(0, (2, 0, 0, [165])), (1, (0, 0, 75, [])), (2, (0, 0, 75, [])), (3, (0, 0, 72, [])), (4, (0, 0, 0, [])), (5, (0, 0, 199, [])), (6, (2, 0, 0, [220])), (7, (0, 0, 199, [])), (8, (2, 0, 0, [221])), (9, (2, 0, 0, [222])), (10, (2, 0, 0, [223])), (11, (0, 1, 1, [])), (12, (0, 1, 200, []))], [(20, [1, 0], [50, 1, 0, 1079, 2, 6, 0, 2, 0, 0, 1, 0, 0, 6, 4, 2, 1, 0, 0, 1, 2, 1, 79]), (20, [2, 0], [50, 1, 0, 1079, 2, 6, 0, 2, 0, 0, 1, 0, 0, 6, 4, 2, 1, 0, 0, 1, 2, 1, 79]), (101, [0, 12], [80]), (1, [12, 7, 11], []), (9, [7, 0], [80]), (20, [0, 5], [50, 1, 0, 80, 1, 3, 2, 0, 80, 1, 1]), (20, [1, 0], [50, 1, 0, 1079, 2, 6, 0, 2, 0, 0, 1, 0, 0, 6, 4, 2, 1, 0, 0, 1, 2, 1, 79]), (20, [2, 0], [50, 1, 0, 1079, 2, 6, 0, 2, 0, 0, 1, 0, 0, 6, 4, 2, 1, 0, 0, 1, 2, 1, 79]), (100, [10, 7, 4], []), (9, [10, 0], [86]), (20, [0, 5], [50, 1, 0, 80, 1, 3, 2, 0, 80, 1, 1]), (20, [1, 0], [50, 1, 0, 1079, 2, 6, 0, 2, 0, 0, 1, 0, 0, 6, 4, 2, 1, 0, 0, 1, 2, 1, 79]), (20, [2, 0], [50, 1, 0, 1079, 2, 6, 0, 2, 0, 0, 1, 0, 0, 6, 4, 2, 1, 0, 0, 1, 2, 1, 79]), (100, [9, 7, 3], []), (9, [9, 0], [85]), (20, [0, 5], [50, 1, 0, 80, 1, 3, 2, 0, 80, 1, 1]), (20, [1, 0], [50, 1, 0, 1079, 2, 6, 0, 2, 0, 0, 1, 0, 0, 6, 4, 2, 1, 0, 0, 1, 2, 1, 79]), (20, [2, 0], [50, 1, 0, 1079, 2, 6, 0, 2, 0, 0, 1, 0, 0, 6, 4, 2, 1, 0, 0, 1, 2, 1, 79]), (100, [8, 7, 2], []), (9, [8, 0], [84]), (20, [0, 5], [50, 1, 0, 80, 1, 3, 2, 0, 80, 1, 1]), (20, [1, 0], [50, 1, 0, 1079, 2, 6, 0, 2, 0, 0, 1, 0, 0, 6, 4, 2, 1, 0, 0, 1, 2, 1, 79]), (20, [2, 0], [50, 1, 0, 1079, 2, 6, 0, 2, 0, 0, 1, 0, 0, 6, 4, 2, 1, 0, 0, 1, 2, 1, 79]), (100, [6, 7, 1], []), (9, [6, 0], [83]), (20, [0, 5], [50, 1, 0, 80, 1, 3, 2, 0, 80, 1, 1]), (20, [0], [60, 2, 4, 456, 79, 80, 83, 84, 85, 86]), (20, [1, 0], [50, 1, 0, 1079, 2, 6, 0, 2, 0, 0, 1, 0, 0, 6, 4, 2, 1, 0, 0, 1, 2, 1, 79]), (20, [2, 0], [50, 1, 0, 1079, 2, 6, 0, 2, 0, 0, 1, 0, 0, 6, 4, 2, 1, 0, 0, 1, 2, 1, 79])], [], [], [(20, [0, 5], [50, 1, 0, 80, 1, 3, 2, 0, 80, 4, 2, 1, 1, 0, 1]), (20, [0], [60, 2, 4, 456, 79, 80, 83, 84, 85, 86])], [], [(12, 7, 1, 1)])
theorem oo_Mo_cost_at_ga_1 {kA : Nat → ClassId} : or_ok PRD kA GG o_Mo_cost_at_ga_1 := by
  refine or_mk fun A ta ws vs hD hth hl => ?_
  intro t0 r0 t1 k1 t2 k2 t3 k3 t4 k4 t5 k5 t6 r6 t7 k7 t8 r8 t9 r9 t10 r10 t11 k11 t12 k12 d0 f0 f1 ta1 w1 le1 s1 f3 f4 f5 f6 f7 ta2 w2 le2 s2 f9 f10 f11 f12 ta3 w3 le3 s3 f14 f15 f16 f17 ta4 w4 le4 s4 f19 f20 f21 f22 ta5 w5 le5 s5 f24 f25 f26 f27 f28
  have s1 : (∀ b j, w_el ws b j = w_el w1 b j) ∧ ∀ b j, w_fd ws b j = if b = v_ad (n_v vs 0) ∧ j = 80 then n_v vs 12 else w_fd w1 b j := s1.2
  replace f4 := shm_555 f4
  have s2 : (∀ b j, w_el w1 b j = if b = v_ad (n_v vs 10) ∧ j = (v_iv (n_v vs 7)).toNat then v_iv (n_v vs 4) else w_el w2 b j) ∧ ∀ b k, w_fd w1 b k = w_fd w2 b k := s2.2
  replace f9 := shm_560 f9
  have s3 : (∀ b j, w_el w2 b j = if b = v_ad (n_v vs 9) ∧ j = (v_iv (n_v vs 7)).toNat then v_iv (n_v vs 3) else w_el w3 b j) ∧ ∀ b k, w_fd w2 b k = w_fd w3 b k := s3.2
  replace f14 := shm_561 f14
  have s4 : (∀ b j, w_el w3 b j = if b = v_ad (n_v vs 8) ∧ j = (v_iv (n_v vs 7)).toNat then v_iv (n_v vs 2) else w_el w4 b j) ∧ ∀ b k, w_fd w3 b k = w_fd w4 b k := s4.2
  replace f19 := shm_562 f19
  have s5 : (∀ b j, w_el w4 b j = if b = v_ad (n_v vs 6) ∧ j = (v_iv (n_v vs 7)).toNat then v_iv (n_v vs 1) else w_el w5 b j) ∧ ∀ b k, w_fd w4 b k = w_fd w5 b k := s5.2
  replace f24 := shm_556 f24
  replace f26 := shm_558 f26
  have ar_0_83_1 : w_ar w1 (n_v vs 0) 83 = w_ar ws (n_v vs 0) 83 := by show v_ad (w_fd w1 _ _) = v_ad (w_fd ws _ _); rw [s1.2, if_neg (fun e => absurd e.2 (by decide))]
  have ar_0_83_2 : w_ar w2 (n_v vs 0) 83 = w_ar ws (n_v vs 0) 83 := by rw [← ar_0_83_1]; show v_ad (w_fd w2 _ _) = v_ad (w_fd w1 _ _); rw [s2.2]
  have ar_0_83_3 : w_ar w3 (n_v vs 0) 83 = w_ar ws (n_v vs 0) 83 := by rw [← ar_0_83_2]; show v_ad (w_fd w3 _ _) = v_ad (w_fd w2 _ _); rw [s3.2]
  have ar_0_83_4 : w_ar w4 (n_v vs 0) 83 = w_ar ws (n_v vs 0) 83 := by rw [← ar_0_83_3]; show v_ad (w_fd w4 _ _) = v_ad (w_fd w3 _ _); rw [s4.2]
  have ar_0_83_5 : w_ar w5 (n_v vs 0) 83 = w_ar ws (n_v vs 0) 83 := by rw [← ar_0_83_4]; show v_ad (w_fd w5 _ _) = v_ad (w_fd w4 _ _); rw [s5.2]
  have cr_0_83 := fdq_126 hD hth r0
  have ar_0_84_1 : w_ar w1 (n_v vs 0) 84 = w_ar ws (n_v vs 0) 84 := by show v_ad (w_fd w1 _ _) = v_ad (w_fd ws _ _); rw [s1.2, if_neg (fun e => absurd e.2 (by decide))]
  have ar_0_84_2 : w_ar w2 (n_v vs 0) 84 = w_ar ws (n_v vs 0) 84 := by rw [← ar_0_84_1]; show v_ad (w_fd w2 _ _) = v_ad (w_fd w1 _ _); rw [s2.2]
  have ar_0_84_3 : w_ar w3 (n_v vs 0) 84 = w_ar ws (n_v vs 0) 84 := by rw [← ar_0_84_2]; show v_ad (w_fd w3 _ _) = v_ad (w_fd w2 _ _); rw [s3.2]
  have ar_0_84_4 : w_ar w4 (n_v vs 0) 84 = w_ar ws (n_v vs 0) 84 := by rw [← ar_0_84_3]; show v_ad (w_fd w4 _ _) = v_ad (w_fd w3 _ _); rw [s4.2]
  have ar_0_84_5 : w_ar w5 (n_v vs 0) 84 = w_ar ws (n_v vs 0) 84 := by rw [← ar_0_84_4]; show v_ad (w_fd w5 _ _) = v_ad (w_fd w4 _ _); rw [s5.2]
  have cr_0_84 := fdq_127 hD hth r0
  have ar_0_85_1 : w_ar w1 (n_v vs 0) 85 = w_ar ws (n_v vs 0) 85 := by show v_ad (w_fd w1 _ _) = v_ad (w_fd ws _ _); rw [s1.2, if_neg (fun e => absurd e.2 (by decide))]
  have ar_0_85_2 : w_ar w2 (n_v vs 0) 85 = w_ar ws (n_v vs 0) 85 := by rw [← ar_0_85_1]; show v_ad (w_fd w2 _ _) = v_ad (w_fd w1 _ _); rw [s2.2]
  have ar_0_85_3 : w_ar w3 (n_v vs 0) 85 = w_ar ws (n_v vs 0) 85 := by rw [← ar_0_85_2]; show v_ad (w_fd w3 _ _) = v_ad (w_fd w2 _ _); rw [s3.2]
  have ar_0_85_4 : w_ar w4 (n_v vs 0) 85 = w_ar ws (n_v vs 0) 85 := by rw [← ar_0_85_3]; show v_ad (w_fd w4 _ _) = v_ad (w_fd w3 _ _); rw [s4.2]
  have ar_0_85_5 : w_ar w5 (n_v vs 0) 85 = w_ar ws (n_v vs 0) 85 := by rw [← ar_0_85_4]; show v_ad (w_fd w5 _ _) = v_ad (w_fd w4 _ _); rw [s5.2]
  have cr_0_85 := fdq_128 hD hth r0
  have ar_0_86_1 : w_ar w1 (n_v vs 0) 86 = w_ar ws (n_v vs 0) 86 := by show v_ad (w_fd w1 _ _) = v_ad (w_fd ws _ _); rw [s1.2, if_neg (fun e => absurd e.2 (by decide))]
  have ar_0_86_2 : w_ar w2 (n_v vs 0) 86 = w_ar ws (n_v vs 0) 86 := by rw [← ar_0_86_1]; show v_ad (w_fd w2 _ _) = v_ad (w_fd w1 _ _); rw [s2.2]
  have ar_0_86_3 : w_ar w3 (n_v vs 0) 86 = w_ar ws (n_v vs 0) 86 := by rw [← ar_0_86_2]; show v_ad (w_fd w3 _ _) = v_ad (w_fd w2 _ _); rw [s3.2]
  have ar_0_86_4 : w_ar w4 (n_v vs 0) 86 = w_ar ws (n_v vs 0) 86 := by rw [← ar_0_86_3]; show v_ad (w_fd w4 _ _) = v_ad (w_fd w3 _ _); rw [s4.2]
  have ar_0_86_5 : w_ar w5 (n_v vs 0) 86 = w_ar ws (n_v vs 0) 86 := by rw [← ar_0_86_4]; show v_ad (w_fd w5 _ _) = v_ad (w_fd w4 _ _); rw [s5.2]
  have cr_0_86 := fdq_129 hD hth r0
  have ad_10 : v_ad (n_v vs 10) = w_ar ws (n_v vs 0) 86 := (congrArg v_ad f9).trans ar_0_86_2
  have ad_9 : v_ad (n_v vs 9) = w_ar ws (n_v vs 0) 85 := (congrArg v_ad f14).trans ar_0_85_3
  have ad_8 : v_ad (n_v vs 8) = w_ar ws (n_v vs 0) 84 := (congrArg v_ad f19).trans ar_0_84_4
  have ad_6 : v_ad (n_v vs 6) = w_ar ws (n_v vs 0) 83 := (congrArg v_ad f24).trans ar_0_83_5
  have g4 : v_iv (n_v vs 7) = w_fi w1 (n_v vs 0) 80 := congrArg v_iv f4
  simp only [ar_0_83_5, ar_0_84_5, ar_0_85_5, ar_0_86_5] at f26
  have fe_0_79_1 : w_fi ws (n_v vs 0) 79 = w_fi w1 (n_v vs 0) 79 := by show v_iv (w_fd _ _ _) = v_iv (w_fd _ _ _); rw [s1.2, if_neg (fun e => absurd e.2 (by decide))]
  have fe_0_80_1 : w_fi ws (n_v vs 0) 80 = v_iv (n_v vs 12) := by show v_iv (w_fd _ _ _) = _; rw [s1.2, if_pos ⟨rfl, rfl⟩]
  have fe_0_79_2 : w_fi w1 (n_v vs 0) 79 = w_fi w2 (n_v vs 0) 79 := congrArg v_iv (s2.2 _ _)
  have fe_0_80_2 : w_fi w1 (n_v vs 0) 80 = w_fi w2 (n_v vs 0) 80 := congrArg v_iv (s2.2 _ _)
  have fe_0_79_3 : w_fi w2 (n_v vs 0) 79 = w_fi w3 (n_v vs 0) 79 := congrArg v_iv (s3.2 _ _)
  have fe_0_80_3 : w_fi w2 (n_v vs 0) 80 = w_fi w3 (n_v vs 0) 80 := congrArg v_iv (s3.2 _ _)
  have fe_0_79_4 : w_fi w3 (n_v vs 0) 79 = w_fi w4 (n_v vs 0) 79 := congrArg v_iv (s4.2 _ _)
  have fe_0_80_4 : w_fi w3 (n_v vs 0) 80 = w_fi w4 (n_v vs 0) 80 := congrArg v_iv (s4.2 _ _)
  have fe_0_79_5 : w_fi w4 (n_v vs 0) 79 = w_fi w5 (n_v vs 0) 79 := congrArg v_iv (s5.2 _ _)
  have fe_0_80_5 : w_fi w4 (n_v vs 0) 80 = w_fi w5 (n_v vs 0) 80 := congrArg v_iv (s5.2 _ _)
  have hE_0_83_1 : ∀ j : Int, w_ei ws (w_ar ws (n_v vs 0) 83) j = w_ei w1 (w_ar ws (n_v vs 0) 83) j := fun j => s1.1 _ _
  have hE_0_83_2 : ∀ j : Int, w_ei w1 (w_ar ws (n_v vs 0) 83) j = w_ei w2 (w_ar ws (n_v vs 0) 83) j := el_kp s2.1 r10 cr_0_83 (by decide)
  have hE_0_83_3 : ∀ j : Int, w_ei w2 (w_ar ws (n_v vs 0) 83) j = w_ei w3 (w_ar ws (n_v vs 0) 83) j := el_kp s3.1 r9 cr_0_83 (by decide)
  have hE_0_83_4 : ∀ j : Int, w_ei w3 (w_ar ws (n_v vs 0) 83) j = w_ei w4 (w_ar ws (n_v vs 0) 83) j := el_kp s4.1 r8 cr_0_83 (by decide)
  have hE_0_83_5 : ∀ j : Int, 0 ≤ j → (j = v_iv (n_v vs 7) → w_ei w4 (w_ar ws (n_v vs 0) 83) j = v_iv (n_v vs 1)) ∧ (j ≠ v_iv (n_v vs 7) → w_ei w4 (w_ar ws (n_v vs 0) 83) j = w_ei w5 (w_ar ws (n_v vs 0) 83) j) := fun j hj => ⟨fun h => by unfold w_ei; rw [s5.1, if_pos ⟨ad_6.symm, by rw [h]⟩], fun h => by unfold w_ei; rw [s5.1, if_neg (fun e => h (by have := e.2; omega))]⟩
  have hK_0_83 := elq_67 hD hth cr_0_83
  have hE_0_84_1 : ∀ j : Int, w_ei ws (w_ar ws (n_v vs 0) 84) j = w_ei w1 (w_ar ws (n_v vs 0) 84) j := fun j => s1.1 _ _
  have hE_0_84_2 : ∀ j : Int, w_ei w1 (w_ar ws (n_v vs 0) 84) j = w_ei w2 (w_ar ws (n_v vs 0) 84) j := el_kp s2.1 r10 cr_0_84 (by decide)
  have hE_0_84_3 : ∀ j : Int, w_ei w2 (w_ar ws (n_v vs 0) 84) j = w_ei w3 (w_ar ws (n_v vs 0) 84) j := el_kp s3.1 r9 cr_0_84 (by decide)
  have hE_0_84_4 : ∀ j : Int, 0 ≤ j → (j = v_iv (n_v vs 7) → w_ei w3 (w_ar ws (n_v vs 0) 84) j = v_iv (n_v vs 2)) ∧ (j ≠ v_iv (n_v vs 7) → w_ei w3 (w_ar ws (n_v vs 0) 84) j = w_ei w4 (w_ar ws (n_v vs 0) 84) j) := fun j hj => ⟨fun h => by unfold w_ei; rw [s4.1, if_pos ⟨ad_8.symm, by rw [h]⟩], fun h => by unfold w_ei; rw [s4.1, if_neg (fun e => h (by have := e.2; omega))]⟩
  have hE_0_84_5 : ∀ j : Int, w_ei w4 (w_ar ws (n_v vs 0) 84) j = w_ei w5 (w_ar ws (n_v vs 0) 84) j := el_kp s5.1 r6 cr_0_84 (by decide)
  have hK_0_84 := elq_68 hD hth cr_0_84
  have hE_0_85_1 : ∀ j : Int, w_ei ws (w_ar ws (n_v vs 0) 85) j = w_ei w1 (w_ar ws (n_v vs 0) 85) j := fun j => s1.1 _ _
  have hE_0_85_2 : ∀ j : Int, w_ei w1 (w_ar ws (n_v vs 0) 85) j = w_ei w2 (w_ar ws (n_v vs 0) 85) j := el_kp s2.1 r10 cr_0_85 (by decide)
  have hE_0_85_3 : ∀ j : Int, 0 ≤ j → (j = v_iv (n_v vs 7) → w_ei w2 (w_ar ws (n_v vs 0) 85) j = v_iv (n_v vs 3)) ∧ (j ≠ v_iv (n_v vs 7) → w_ei w2 (w_ar ws (n_v vs 0) 85) j = w_ei w3 (w_ar ws (n_v vs 0) 85) j) := fun j hj => ⟨fun h => by unfold w_ei; rw [s3.1, if_pos ⟨ad_9.symm, by rw [h]⟩], fun h => by unfold w_ei; rw [s3.1, if_neg (fun e => h (by have := e.2; omega))]⟩
  have hE_0_85_4 : ∀ j : Int, w_ei w3 (w_ar ws (n_v vs 0) 85) j = w_ei w4 (w_ar ws (n_v vs 0) 85) j := el_kp s4.1 r8 cr_0_85 (by decide)
  have hE_0_85_5 : ∀ j : Int, w_ei w4 (w_ar ws (n_v vs 0) 85) j = w_ei w5 (w_ar ws (n_v vs 0) 85) j := el_kp s5.1 r6 cr_0_85 (by decide)
  have hK_0_85 := elq_69 hD hth cr_0_85
  have hE_0_86_1 : ∀ j : Int, w_ei ws (w_ar ws (n_v vs 0) 86) j = w_ei w1 (w_ar ws (n_v vs 0) 86) j := fun j => s1.1 _ _
  have hE_0_86_2 : ∀ j : Int, 0 ≤ j → (j = v_iv (n_v vs 7) → w_ei w1 (w_ar ws (n_v vs 0) 86) j = v_iv (n_v vs 4)) ∧ (j ≠ v_iv (n_v vs 7) → w_ei w1 (w_ar ws (n_v vs 0) 86) j = w_ei w2 (w_ar ws (n_v vs 0) 86) j) := fun j hj => ⟨fun h => by unfold w_ei; rw [s2.1, if_pos ⟨ad_10.symm, by rw [h]⟩], fun h => by unfold w_ei; rw [s2.1, if_neg (fun e => h (by have := e.2; omega))]⟩
  have hE_0_86_3 : ∀ j : Int, w_ei w2 (w_ar ws (n_v vs 0) 86) j = w_ei w3 (w_ar ws (n_v vs 0) 86) j := el_kp s3.1 r9 cr_0_86 (by decide)
  have hE_0_86_4 : ∀ j : Int, w_ei w3 (w_ar ws (n_v vs 0) 86) j = w_ei w4 (w_ar ws (n_v vs 0) 86) j := el_kp s4.1 r8 cr_0_86 (by decide)
  have hE_0_86_5 : ∀ j : Int, w_ei w4 (w_ar ws (n_v vs 0) 86) j = w_ei w5 (w_ar ws (n_v vs 0) 86) j := el_kp s5.1 r6 cr_0_86 (by decide)
  have hK_0_86 := elq_70 hD hth cr_0_86
  have kz_0_79 := fdq_147 hD hth r0
  have kz_0_80 := fdq_131 hD hth r0
  have nf0 : fc_1 PRD (20, [0, 5], [50, 1, 0, 80, 1, 3, 2, 0, 80, 4, 2, 1, 1, 0, 1]) ws (vs) := ⟨nf_in hl rfl, sgq_563 (vc_Mo_cost_at_ga_1_0 (v_iv (n_v vs 1)) (v_iv (n_v vs 2)) (v_iv (n_v vs 3)) (v_iv (n_v vs 4)) (v_iv (n_v vs 5)) (v_iv (n_v vs 7)) (v_iv (n_v vs 11)) (v_iv (n_v vs 12)) (w_fi ws (n_v vs 0) 79) (w_fi w1 (n_v vs 0) 80) (w_fi w1 (n_v vs 0) 79) (w_fi w2 (n_v vs 0) 80) (w_fi w2 (n_v vs 0) 79) (w_fi w3 (n_v vs 0) 80) (w_fi w3 (n_v vs 0) 79) (w_fi w4 (n_v vs 0) 80) (w_fi w4 (n_v vs 0) 79) (w_fi w5 (n_v vs 0) 80) (w_ei w5 (w_ar ws (n_v vs 0) 83)) (w_ei w5 (w_ar ws (n_v vs 0) 84)) (w_ei w5 (w_ar ws (n_v vs 0) 85)) (w_ei w5 (w_ar ws (n_v vs 0) 86)) (w_fi w5 (n_v vs 0) 79) (w_fi ws (n_v vs 0) 80) (w_ei ws (w_ar ws (n_v vs 0) 83)) (w_ei w1 (w_ar ws (n_v vs 0) 83)) (w_ei w2 (w_ar ws (n_v vs 0) 83)) (w_ei w3 (w_ar ws (n_v vs 0) 83)) (w_ei w4 (w_ar ws (n_v vs 0) 83)) (w_ei ws (w_ar ws (n_v vs 0) 84)) (w_ei w1 (w_ar ws (n_v vs 0) 84)) (w_ei w2 (w_ar ws (n_v vs 0) 84)) (w_ei w3 (w_ar ws (n_v vs 0) 84)) (w_ei w4 (w_ar ws (n_v vs 0) 84)) (w_ei ws (w_ar ws (n_v vs 0) 85)) (w_ei w1 (w_ar ws (n_v vs 0) 85)) (w_ei w2 (w_ar ws (n_v vs 0) 85)) (w_ei w3 (w_ar ws (n_v vs 0) 85)) (w_ei w4 (w_ar ws (n_v vs 0) 85)) (w_ei ws (w_ar ws (n_v vs 0) 86)) (w_ei w1 (w_ar ws (n_v vs 0) 86)) (w_ei w2 (w_ar ws (n_v vs 0) 86)) (w_ei w3 (w_ar ws (n_v vs 0) 86)) (w_ei w4 (w_ar ws (n_v vs 0) 86)) k1 k2 k3 k4 k5 k7 k11 k12 d0 (shm_559 f0) (shm_559 f1) (shm_12 f3) g4 (shm_557 f5) (shm_559 f6) (shm_559 f7) (shm_557 f10) (shm_559 f11) (shm_559 f12) (shm_557 f15) (shm_559 f16) (shm_559 f17) (shm_557 f20) (shm_559 f21) (shm_559 f22) (shm_557 f25) f26 (shm_559 f27) (shm_559 f28) fe_0_79_1 fe_0_80_1 fe_0_79_2 fe_0_80_2 fe_0_79_3 fe_0_80_3 fe_0_79_4 fe_0_80_4 fe_0_79_5 fe_0_80_5 hE_0_83_1 hE_0_83_2 hE_0_83_3 hE_0_83_4 hE_0_83_5 hK_0_83 hE_0_84_1 hE_0_84_2 hE_0_84_3 hE_0_84_4 hE_0_84_5 hK_0_84 hE_0_85_1 hE_0_85_2 hE_0_85_3 hE_0_85_4 hE_0_85_5 hK_0_85 hE_0_86_1 hE_0_86_2 hE_0_86_3 hE_0_86_4 hE_0_86_5 hK_0_86 kz_0_79 kz_0_80)⟩
  have nf1 : fc_1 PRD (20, [0], [60, 2, 4, 456, 79, 80, 83, 84, 85, 86]) ws (vs) := ⟨nf_in hl rfl, sgq_558 (vc_Mo_cost_at_ga_1_1 (v_iv (n_v vs 1)) (v_iv (n_v vs 2)) (v_iv (n_v vs 3)) (v_iv (n_v vs 4)) (v_iv (n_v vs 5)) (v_iv (n_v vs 7)) (v_iv (n_v vs 11)) (v_iv (n_v vs 12)) (w_fi ws (n_v vs 0) 79) (w_fi w1 (n_v vs 0) 80) (w_fi w1 (n_v vs 0) 79) (w_fi w2 (n_v vs 0) 80) (w_fi w2 (n_v vs 0) 79) (w_fi w3 (n_v vs 0) 80) (w_fi w3 (n_v vs 0) 79) (w_fi w4 (n_v vs 0) 80) (w_fi w4 (n_v vs 0) 79) (w_fi w5 (n_v vs 0) 80) (w_ei w5 (w_ar ws (n_v vs 0) 83)) (w_ei w5 (w_ar ws (n_v vs 0) 84)) (w_ei w5 (w_ar ws (n_v vs 0) 85)) (w_ei w5 (w_ar ws (n_v vs 0) 86)) (w_fi w5 (n_v vs 0) 79) (w_fi ws (n_v vs 0) 80) (w_ei ws (w_ar ws (n_v vs 0) 83)) (w_ei w1 (w_ar ws (n_v vs 0) 83)) (w_ei w2 (w_ar ws (n_v vs 0) 83)) (w_ei w3 (w_ar ws (n_v vs 0) 83)) (w_ei w4 (w_ar ws (n_v vs 0) 83)) (w_ei ws (w_ar ws (n_v vs 0) 84)) (w_ei w1 (w_ar ws (n_v vs 0) 84)) (w_ei w2 (w_ar ws (n_v vs 0) 84)) (w_ei w3 (w_ar ws (n_v vs 0) 84)) (w_ei w4 (w_ar ws (n_v vs 0) 84)) (w_ei ws (w_ar ws (n_v vs 0) 85)) (w_ei w1 (w_ar ws (n_v vs 0) 85)) (w_ei w2 (w_ar ws (n_v vs 0) 85)) (w_ei w3 (w_ar ws (n_v vs 0) 85)) (w_ei w4 (w_ar ws (n_v vs 0) 85)) (w_ei ws (w_ar ws (n_v vs 0) 86)) (w_ei w1 (w_ar ws (n_v vs 0) 86)) (w_ei w2 (w_ar ws (n_v vs 0) 86)) (w_ei w3 (w_ar ws (n_v vs 0) 86)) (w_ei w4 (w_ar ws (n_v vs 0) 86)) k1 k2 k3 k4 k5 k7 k11 k12 d0 (shm_559 f0) (shm_559 f1) (shm_12 f3) g4 (shm_557 f5) (shm_559 f6) (shm_559 f7) (shm_557 f10) (shm_559 f11) (shm_559 f12) (shm_557 f15) (shm_559 f16) (shm_559 f17) (shm_557 f20) (shm_559 f21) (shm_559 f22) (shm_557 f25) f26 (shm_559 f27) (shm_559 f28) fe_0_79_1 fe_0_80_1 fe_0_79_2 fe_0_80_2 fe_0_79_3 fe_0_80_3 fe_0_79_4 fe_0_80_4 fe_0_79_5 fe_0_80_5 hE_0_83_1 hE_0_83_2 hE_0_83_3 hE_0_83_4 hE_0_83_5 hK_0_83 hE_0_84_1 hE_0_84_2 hE_0_84_3 hE_0_84_4 hE_0_84_5 hK_0_84 hE_0_85_1 hE_0_85_2 hE_0_85_3 hE_0_85_4 hE_0_85_5 hK_0_85 hE_0_86_1 hE_0_86_2 hE_0_86_3 hE_0_86_4 hE_0_86_5 hK_0_86 kz_0_79 kz_0_80)⟩
  refine ⟨(fun _ h => (by cases h)), [], trivial, ?_, (fun _ h => (by cases h))⟩
  rw [List.append_nil]
  exact List.forall_mem_cons.mpr ⟨⟨show (20 : Nat) < 100 from by decide, nf0⟩, List.forall_mem_cons.mpr ⟨⟨show (20 : Nat) < 100 from by decide, nf1⟩, (fun _ h => (by cases h))⟩⟩
def n_Mo_cost_at_ga_an : List an_T := []
def t_Mo_cost_at_ga_ct : ct_L := []
set_option maxRecDepth 100000 in
theorem c_Mo_cost_at_ga {l : Launch} {D : va_G} {kA : Nat → ClassId} : ct_ok PRD l D kA GG y_Mo_cost_at_ga z_Mo_cost_at_ga e_Mo_cost_at_ga := chk_all_ok (FT := [(177, 13, 83), (180, 13, 84), (183, 13, 85), (186, 13, 86), (777, 13, 80)]) (PT := [(777, 13, 80, .int)]) (CT := t_Mo_cost_at_ga_ct) (KT := []) (NT := []) (AN := n_Mo_cost_at_ga_an) (OT := [o_Mo_cost_at_ga_0, o_Mo_cost_at_ga_1]) 0 200 (List.forall_mem_cons.mpr ⟨oo_Mo_cost_at_ga_0, List.forall_mem_cons.mpr ⟨oo_Mo_cost_at_ga_1, List.forall_mem_nil _⟩⟩) (by decide +kernel) ⟨List.forall_mem_cons.mpr ⟨gf_Mo_177, List.forall_mem_cons.mpr ⟨gf_Mo_180, List.forall_mem_cons.mpr ⟨gf_Mo_183, List.forall_mem_cons.mpr ⟨gf_Mo_186, List.forall_mem_cons.mpr ⟨gf_Mo_777, List.forall_mem_nil _⟩⟩⟩⟩⟩, List.forall_mem_cons.mpr ⟨pf_Mo_777, List.forall_mem_nil _⟩, List.forall_mem_nil _, List.forall_mem_nil _, List.forall_mem_nil _, GG_pl⟩ (by decide +kernel)

set_option maxHeartbeats 4000000 in
theorem vc_Mo_cost_at_gl_0_r0 (x1 : Int) (x2 : Int) (x5 : Int) (x7 : Int) (costMany_0 : Int) (all_0 : Int → Int) (turned_0 : Int → Int) (costA_0 : Int → Int) (costB_0 : Int → Int) (costW_0 : Int → Int) (costPlain_0 : Int → Int) (apartA_0 : Int → Int) (apartB_0 : Int → Int) (apart_0 : Int → Int) (r_0 : Int) (apartMany_0 : Int) (k1 : 0 ≤ x1 ∧ x1 ≤ 75) (k2 : 0 ≤ x2 ∧ x2 ≤ 75) (k5 : 0 ≤ x5 ∧ x5 ≤ 199) (k7 : 0 ≤ x7 ∧ x7 ≤ 200) (g0 : x7 = costMany_0) (f2 : costMany_0 = x5) (f3 : LCP (r_0) (costMany_0) (apartMany_0) (all_0) (turned_0) (costA_0) (costB_0) (costW_0) (costPlain_0) (apartA_0) (apartB_0) (apart_0)) (f4 : FRO (r_0) (all_0) (turned_0) (x5) (x1)) (f5 : TOO (r_0) (all_0) (turned_0) (x5) (x2)) (hK_0_83 : ∀ j : Int, 0 ≤ j → j < 200 → 0 ≤ costA_0 j ∧ costA_0 j ≤ 75) (hK_0_84 : ∀ j : Int, 0 ≤ j → j < 200 → 0 ≤ costB_0 j ∧ costB_0 j ≤ 75) (hK_0_85 : ∀ j : Int, 0 ≤ j → j < 200 → 0 ≤ costW_0 j ∧ costW_0 j ≤ 72) (hK_0_86 : ∀ j : Int, 0 ≤ j → j < 200 → 0 ≤ costPlain_0 j ∧ costPlain_0 j ≤ 1) (hK_0_87 : ∀ j : Int, 0 ≤ j → j < 200 → 0 ≤ apartA_0 j ∧ apartA_0 j ≤ 75) (hK_0_88 : ∀ j : Int, 0 ≤ j → j < 200 → 0 ≤ apartB_0 j ∧ apartB_0 j ≤ 75) (hK_0_89 : ∀ j : Int, 0 ≤ j → j < 200 → 0 ≤ apart_0 j ∧ apart_0 j ≤ 202) (hK_0_95 : ∀ j : Int, 0 ≤ j → j < 48 → 0 ≤ turned_0 j ∧ turned_0 j ≤ 1) (kz_0_80 : 0 ≤ costMany_0 ∧ costMany_0 ≤ 200) (kz_0_81 : 0 ≤ apartMany_0 ∧ apartMany_0 ≤ 200) : 0 ≤ x7 ∧ x7 ≤ 199 := by
  omega
def o_Mo_cost_at_gl_0 : or_T := (9, 8, [(0, (2, 0, 0, [165])), (1, (0, 0, 75, [])), (2, (0, 0, 75, [])), (5, (0, 0, 199, [])), (6, (2, 0, 0, [220])), (7, (0, 0, 200, []))], [(9, [7, 0], [80]), (9, [6, 0], [83]), (20, [0, 5], [50, 1, 0, 80, 1, 3, 2, 0, 80, 1, 1]), (20, [0], [60, 3, 9, 434, 5, 80, 81, 2, 95, 83, 84, 85, 86, 87, 88, 89]), (20, [0, 5, 1], [60, 1, 2, 432, 5, 2, 95]), (20, [0, 5, 2], [60, 1, 2, 433, 5, 2, 95])], [(7, (0, 0, 199, []))], [], [], [], [])
theorem oo_Mo_cost_at_gl_0 {kA : Nat → ClassId} : or_ok PRD kA GG o_Mo_cost_at_gl_0 := by
  refine or_mk fun A ta ws vs hD hth hl => ?_
  intro t0 r0 t1 k1 t2 k2 t5 k5 t6 r6 t7 k7 f0 f1 f2 f3 f4 f5
  replace f0 := shm_555 f0
  have cr_0_83 := fdq_126 hD hth r0
  have cr_0_84 := fdq_127 hD hth r0
  have cr_0_85 := fdq_128 hD hth r0
  have cr_0_86 := fdq_129 hD hth r0
  have cr_0_87 := fdq_119 hD hth r0
  have cr_0_88 := fdq_120 hD hth r0
  have cr_0_89 := fdq_121 hD hth r0
  have cr_0_95 := fdq_130 hD hth r0
  have g0 : v_iv (n_v vs 7) = w_fi ws (n_v vs 0) 80 := congrArg v_iv f0
  have hK_0_83 := elq_67 hD hth cr_0_83
  have hK_0_84 := elq_68 hD hth cr_0_84
  have hK_0_85 := elq_69 hD hth cr_0_85
  have hK_0_86 := elq_70 hD hth cr_0_86
  have hK_0_87 := elq_62 hD hth cr_0_87
  have hK_0_88 := elq_63 hD hth cr_0_88
  have hK_0_89 := elq_64 hD hth cr_0_89
  have hK_0_95 := elq_71 hD hth cr_0_95
  have kz_0_80 := fdq_131 hD hth r0
  have kz_0_81 := fdq_124 hD hth r0
  have hrf0 : 0 ≤ v_iv (n_v vs 7) ∧ v_iv (n_v vs 7) ≤ 199 := vc_Mo_cost_at_gl_0_r0 (v_iv (n_v vs 1)) (v_iv (n_v vs 2)) (v_iv (n_v vs 5)) (v_iv (n_v vs 7)) (w_fi ws (n_v vs 0) 80) (w_ei ws (w_ar ws (n_v vs 0) 2)) (w_ei ws (w_ar ws (n_v vs 0) 95)) (w_ei ws (w_ar ws (n_v vs 0) 83)) (w_ei ws (w_ar ws (n_v vs 0) 84)) (w_ei ws (w_ar ws (n_v vs 0) 85)) (w_ei ws (w_ar ws (n_v vs 0) 86)) (w_ei ws (w_ar ws (n_v vs 0) 87)) (w_ei ws (w_ar ws (n_v vs 0) 88)) (w_ei ws (w_ar ws (n_v vs 0) 89)) (w_fi ws (n_v vs 0) 5) (w_fi ws (n_v vs 0) 81) k1 k2 k5 k7 g0 (shm_557 f2) (shm_507 f3) (shm_508 f4) (shm_509 f5) hK_0_83 hK_0_84 hK_0_85 hK_0_86 hK_0_87 hK_0_88 hK_0_89 hK_0_95 kz_0_80 kz_0_81
  have rf7 : tv_ok ta (0, 0, 199, []) (n_v vs 7) := tv_in t7 (by first | omega | grind) (by first | omega | grind)
  refine ⟨List.forall_mem_cons.mpr ⟨rf7, (fun _ h => (by cases h))⟩, [], trivial, ?_, (fun _ h => (by cases h))⟩
  rw [List.append_nil]
  exact (fun _ h => (by cases h))
set_option maxHeartbeats 4000000 in
theorem vc_Mo_cost_at_gl_1_0 (x1 : Int) (x2 : Int) (x3 : Int) (x4 : Int) (x5 : Int) (x7 : Int) (x11 : Int) (x12 : Int) (all_0 : Int → Int) (turned_0 : Int → Int) (r_0 : Int) (costMany_1 : Int) (all_1 : Int → Int) (turned_1 : Int → Int) (r_1 : Int) (costMany_2 : Int) (all_2 : Int → Int) (turned_2 : Int → Int) (r_2 : Int) (costMany_3 : Int) (all_3 : Int → Int) (turned_3 : Int → Int) (r_3 : Int) (costMany_4 : Int) (all_4 : Int → Int) (turned_4 : Int → Int) (r_4 : Int) (costMany_5 : Int) (all_5 : Int → Int) (turned_5 : Int → Int) (costA_5 : Int → Int) (costB_5 : Int → Int) (costW_5 : Int → Int) (costPlain_5 : Int → Int) (apartA_5 : Int → Int) (apartB_5 : Int → Int) (apart_5 : Int → Int) (r_5 : Int) (apartMany_5 : Int) (costMany_0 : Int) (apartMany_0 : Int) (apartMany_1 : Int) (apartMany_2 : Int) (apartMany_3 : Int) (apartMany_4 : Int) (costA_0 : Int → Int) (costA_1 : Int → Int) (costA_2 : Int → Int) (costA_3 : Int → Int) (costA_4 : Int → Int) (costB_0 : Int → Int) (costB_1 : Int → Int) (costB_2 : Int → Int) (costB_3 : Int → Int) (costB_4 : Int → Int) (costW_0 : Int → Int) (costW_1 : Int → Int) (costW_2 : Int → Int) (costW_3 : Int → Int) (costW_4 : Int → Int) (costPlain_0 : Int → Int) (costPlain_1 : Int → Int) (costPlain_2 : Int → Int) (costPlain_3 : Int → Int) (costPlain_4 : Int → Int) (apartA_0 : Int → Int) (apartA_1 : Int → Int) (apartA_2 : Int → Int) (apartA_3 : Int → Int) (apartA_4 : Int → Int) (apartB_0 : Int → Int) (apartB_1 : Int → Int) (apartB_2 : Int → Int) (apartB_3 : Int → Int) (apartB_4 : Int → Int) (apart_0 : Int → Int) (apart_1 : Int → Int) (apart_2 : Int → Int) (apart_3 : Int → Int) (apart_4 : Int → Int) (k1 : 0 ≤ x1 ∧ x1 ≤ 75) (k2 : 0 ≤ x2 ∧ x2 ≤ 75) (k3 : 0 ≤ x3 ∧ x3 ≤ 9) (k4 : 1 ≤ x4 ∧ x4 ≤ 1) (k5 : 0 ≤ x5 ∧ x5 ≤ 199) (k7 : 0 ≤ x7 ∧ x7 ≤ 199) (k11 : 1 ≤ x11 ∧ x11 ≤ 1) (k12 : 1 ≤ x12 ∧ x12 ≤ 200) (d0 : x7 + 1 ≤ x12 ∧ x12 ≤ x7 + 1) (f0 : FRO (r_0) (all_0) (turned_0) (x5) (x1)) (f1 : TOO (r_0) (all_0) (turned_0) (x5) (x2)) (f3 : x12 = x7 + x11) (g4 : x7 = costMany_1) (f5 : costMany_1 = x5) (f6 : FRO (r_1) (all_1) (turned_1) (x5) (x1)) (f7 : TOO (r_1) (all_1) (turned_1) (x5) (x2)) (f10 : costMany_2 = x5) (f11 : FRO (r_2) (all_2) (turned_2) (x5) (x1)) (f12 : TOO (r_2) (all_2) (turned_2) (x5) (x2)) (f15 : costMany_3 = x5) (f16 : FRO (r_3) (all_3) (turned_3) (x5) (x1)) (f17 : TOO (r_3) (all_3) (turned_3) (x5) (x2)) (f20 : costMany_4 = x5) (f21 : FRO (r_4) (all_4) (turned_4) (x5) (x1)) (f22 : TOO (r_4) (all_4) (turned_4) (x5) (x2)) (f25 : costMany_5 = x5) (f26 : LCP (r_5) (costMany_5) (apartMany_5) (all_5) (turned_5) (costA_5) (costB_5) (costW_5) (costPlain_5) (apartA_5) (apartB_5) (apart_5)) (f27 : FRO (r_5) (all_5) (turned_5) (x5) (x1)) (f28 : TOO (r_5) (all_5) (turned_5) (x5) (x2)) (fe_0_5_1 : r_0 = r_1) (fe_0_80_1 : costMany_0 = x12) (fe_0_81_1 : apartMany_0 = apartMany_1) (fe_0_5_2 : r_1 = r_2) (fe_0_80_2 : costMany_1 = costMany_2) (fe_0_81_2 : apartMany_1 = apartMany_2) (fe_0_5_3 : r_2 = r_3) (fe_0_80_3 : costMany_2 = costMany_3) (fe_0_81_3 : apartMany_2 = apartMany_3) (fe_0_5_4 : r_3 = r_4) (fe_0_80_4 : costMany_3 = costMany_4) (fe_0_81_4 : apartMany_3 = apartMany_4) (fe_0_5_5 : r_4 = r_5) (fe_0_80_5 : costMany_4 = costMany_5) (fe_0_81_5 : apartMany_4 = apartMany_5) (hE_0_2_1 : ∀ j : Int, all_0 j = all_1 j) (hE_0_2_2 : ∀ j : Int, all_1 j = all_2 j) (hE_0_2_3 : ∀ j : Int, all_2 j = all_3 j) (hE_0_2_4 : ∀ j : Int, all_3 j = all_4 j) (hE_0_2_5 : ∀ j : Int, all_4 j = all_5 j) (hE_0_83_1 : ∀ j : Int, costA_0 j = costA_1 j) (hE_0_83_2 : ∀ j : Int, costA_1 j = costA_2 j) (hE_0_83_3 : ∀ j : Int, costA_2 j = costA_3 j) (hE_0_83_4 : ∀ j : Int, costA_3 j = costA_4 j) (hE_0_83_5 : ∀ j : Int, 0 ≤ j → (j = x7 → costA_4 j = x1) ∧ (j ≠ x7 → costA_4 j = costA_5 j)) (hK_0_83 : ∀ j : Int, 0 ≤ j → j < 200 → 0 ≤ costA_0 j ∧ costA_0 j ≤ 75) (hE_0_84_1 : ∀ j : Int, costB_0 j = costB_1 j) (hE_0_84_2 : ∀ j : Int, costB_1 j = costB_2 j) (hE_0_84_3 : ∀ j : Int, costB_2 j = costB_3 j) (hE_0_84_4 : ∀ j : Int, 0 ≤ j → (j = x7 → costB_3 j = x2) ∧ (j ≠ x7 → costB_3 j = costB_4 j)) (hE_0_84_5 : ∀ j : Int, costB_4 j = costB_5 j) (hK_0_84 : ∀ j : Int, 0 ≤ j → j < 200 → 0 ≤ costB_0 j ∧ costB_0 j ≤ 75) (hE_0_85_1 : ∀ j : Int, costW_0 j = costW_1 j) (hE_0_85_2 : ∀ j : Int, costW_1 j = costW_2 j) (hE_0_85_3 : ∀ j : Int, 0 ≤ j → (j = x7 → costW_2 j = x3) ∧ (j ≠ x7 → costW_2 j = costW_3 j)) (hE_0_85_4 : ∀ j : Int, costW_3 j = costW_4 j) (hE_0_85_5 : ∀ j : Int, costW_4 j = costW_5 j) (hK_0_85 : ∀ j : Int, 0 ≤ j → j < 200 → 0 ≤ costW_0 j ∧ costW_0 j ≤ 72) (hE_0_86_1 : ∀ j : Int, costPlain_0 j = costPlain_1 j) (hE_0_86_2 : ∀ j : Int, 0 ≤ j → (j = x7 → costPlain_1 j = x4) ∧ (j ≠ x7 → costPlain_1 j = costPlain_2 j)) (hE_0_86_3 : ∀ j : Int, costPlain_2 j = costPlain_3 j) (hE_0_86_4 : ∀ j : Int, costPlain_3 j = costPlain_4 j) (hE_0_86_5 : ∀ j : Int, costPlain_4 j = costPlain_5 j) (hK_0_86 : ∀ j : Int, 0 ≤ j → j < 200 → 0 ≤ costPlain_0 j ∧ costPlain_0 j ≤ 1) (hE_0_87_1 : ∀ j : Int, apartA_0 j = apartA_1 j) (hE_0_87_2 : ∀ j : Int, apartA_1 j = apartA_2 j) (hE_0_87_3 : ∀ j : Int, apartA_2 j = apartA_3 j) (hE_0_87_4 : ∀ j : Int, apartA_3 j = apartA_4 j) (hE_0_87_5 : ∀ j : Int, apartA_4 j = apartA_5 j) (hK_0_87 : ∀ j : Int, 0 ≤ j → j < 200 → 0 ≤ apartA_0 j ∧ apartA_0 j ≤ 75) (hE_0_88_1 : ∀ j : Int, apartB_0 j = apartB_1 j) (hE_0_88_2 : ∀ j : Int, apartB_1 j = apartB_2 j) (hE_0_88_3 : ∀ j : Int, apartB_2 j = apartB_3 j) (hE_0_88_4 : ∀ j : Int, apartB_3 j = apartB_4 j) (hE_0_88_5 : ∀ j : Int, apartB_4 j = apartB_5 j) (hK_0_88 : ∀ j : Int, 0 ≤ j → j < 200 → 0 ≤ apartB_0 j ∧ apartB_0 j ≤ 75) (hE_0_89_1 : ∀ j : Int, apart_0 j = apart_1 j) (hE_0_89_2 : ∀ j : Int, apart_1 j = apart_2 j) (hE_0_89_3 : ∀ j : Int, apart_2 j = apart_3 j) (hE_0_89_4 : ∀ j : Int, apart_3 j = apart_4 j) (hE_0_89_5 : ∀ j : Int, apart_4 j = apart_5 j) (hK_0_89 : ∀ j : Int, 0 ≤ j → j < 200 → 0 ≤ apart_0 j ∧ apart_0 j ≤ 202) (hE_0_95_1 : ∀ j : Int, turned_0 j = turned_1 j) (hE_0_95_2 : ∀ j : Int, turned_1 j = turned_2 j) (hE_0_95_3 : ∀ j : Int, turned_2 j = turned_3 j) (hE_0_95_4 : ∀ j : Int, turned_3 j = turned_4 j) (hE_0_95_5 : ∀ j : Int, turned_4 j = turned_5 j) (hK_0_95 : ∀ j : Int, 0 ≤ j → j < 48 → 0 ≤ turned_0 j ∧ turned_0 j ≤ 1) (kz_0_80 : 0 ≤ costMany_0 ∧ costMany_0 ≤ 200) (kz_0_81 : 0 ≤ apartMany_0 ∧ apartMany_0 ≤ 200) : costMany_0 = (x5 + 1) := by
  subst fe_0_5_1
  subst fe_0_81_1
  subst fe_0_5_2
  subst fe_0_80_2
  subst fe_0_81_2
  subst fe_0_5_3
  subst fe_0_80_3
  subst fe_0_81_3
  subst fe_0_5_4
  subst fe_0_80_4
  subst fe_0_81_4
  subst fe_0_5_5
  subst fe_0_80_5
  subst fe_0_81_5
  have e_hE_0_2_1 := funext hE_0_2_1; subst e_hE_0_2_1
  have e_hE_0_2_2 := funext hE_0_2_2; subst e_hE_0_2_2
  have e_hE_0_2_3 := funext hE_0_2_3; subst e_hE_0_2_3
  have e_hE_0_2_4 := funext hE_0_2_4; subst e_hE_0_2_4
  have e_hE_0_2_5 := funext hE_0_2_5; subst e_hE_0_2_5
  have e_hE_0_83_1 := funext hE_0_83_1; subst e_hE_0_83_1
  have e_hE_0_83_2 := funext hE_0_83_2; subst e_hE_0_83_2
  have e_hE_0_83_3 := funext hE_0_83_3; subst e_hE_0_83_3
  have e_hE_0_83_4 := funext hE_0_83_4; subst e_hE_0_83_4
  have e_hE_0_84_1 := funext hE_0_84_1; subst e_hE_0_84_1
  have e_hE_0_84_2 := funext hE_0_84_2; subst e_hE_0_84_2
  have e_hE_0_84_3 := funext hE_0_84_3; subst e_hE_0_84_3
  have e_hE_0_84_5 := funext hE_0_84_5; subst e_hE_0_84_5
  have e_hE_0_85_1 := funext hE_0_85_1; subst e_hE_0_85_1
  have e_hE_0_85_2 := funext hE_0_85_2; subst e_hE_0_85_2
  have e_hE_0_85_4 := funext hE_0_85_4; subst e_hE_0_85_4
  have e_hE_0_85_5 := funext hE_0_85_5; subst e_hE_0_85_5
  have e_hE_0_86_1 := funext hE_0_86_1; subst e_hE_0_86_1
  have e_hE_0_86_3 := funext hE_0_86_3; subst e_hE_0_86_3
  have e_hE_0_86_4 := funext hE_0_86_4; subst e_hE_0_86_4
  have e_hE_0_86_5 := funext hE_0_86_5; subst e_hE_0_86_5
  have e_hE_0_87_1 := funext hE_0_87_1; subst e_hE_0_87_1
  have e_hE_0_87_2 := funext hE_0_87_2; subst e_hE_0_87_2
  have e_hE_0_87_3 := funext hE_0_87_3; subst e_hE_0_87_3
  have e_hE_0_87_4 := funext hE_0_87_4; subst e_hE_0_87_4
  have e_hE_0_87_5 := funext hE_0_87_5; subst e_hE_0_87_5
  have e_hE_0_88_1 := funext hE_0_88_1; subst e_hE_0_88_1
  have e_hE_0_88_2 := funext hE_0_88_2; subst e_hE_0_88_2
  have e_hE_0_88_3 := funext hE_0_88_3; subst e_hE_0_88_3
  have e_hE_0_88_4 := funext hE_0_88_4; subst e_hE_0_88_4
  have e_hE_0_88_5 := funext hE_0_88_5; subst e_hE_0_88_5
  have e_hE_0_89_1 := funext hE_0_89_1; subst e_hE_0_89_1
  have e_hE_0_89_2 := funext hE_0_89_2; subst e_hE_0_89_2
  have e_hE_0_89_3 := funext hE_0_89_3; subst e_hE_0_89_3
  have e_hE_0_89_4 := funext hE_0_89_4; subst e_hE_0_89_4
  have e_hE_0_89_5 := funext hE_0_89_5; subst e_hE_0_89_5
  have e_hE_0_95_1 := funext hE_0_95_1; subst e_hE_0_95_1
  have e_hE_0_95_2 := funext hE_0_95_2; subst e_hE_0_95_2
  have e_hE_0_95_3 := funext hE_0_95_3; subst e_hE_0_95_3
  have e_hE_0_95_4 := funext hE_0_95_4; subst e_hE_0_95_4
  have e_hE_0_95_5 := funext hE_0_95_5; subst e_hE_0_95_5
  omega
set_option maxHeartbeats 4000000 in
theorem vc_Mo_cost_at_gl_1_1 (x1 : Int) (x2 : Int) (x3 : Int) (x4 : Int) (x5 : Int) (x7 : Int) (x11 : Int) (x12 : Int) (all_0 : Int → Int) (turned_0 : Int → Int) (r_0 : Int) (costMany_1 : Int) (all_1 : Int → Int) (turned_1 : Int → Int) (r_1 : Int) (costMany_2 : Int) (all_2 : Int → Int) (turned_2 : Int → Int) (r_2 : Int) (costMany_3 : Int) (all_3 : Int → Int) (turned_3 : Int → Int) (r_3 : Int) (costMany_4 : Int) (all_4 : Int → Int) (turned_4 : Int → Int) (r_4 : Int) (costMany_5 : Int) (all_5 : Int → Int) (turned_5 : Int → Int) (costA_5 : Int → Int) (costB_5 : Int → Int) (costW_5 : Int → Int) (costPlain_5 : Int → Int) (apartA_5 : Int → Int) (apartB_5 : Int → Int) (apart_5 : Int → Int) (r_5 : Int) (apartMany_5 : Int) (costMany_0 : Int) (apartMany_0 : Int) (apartMany_1 : Int) (apartMany_2 : Int) (apartMany_3 : Int) (apartMany_4 : Int) (costA_0 : Int → Int) (costA_1 : Int → Int) (costA_2 : Int → Int) (costA_3 : Int → Int) (costA_4 : Int → Int) (costB_0 : Int → Int) (costB_1 : Int → Int) (costB_2 : Int → Int) (costB_3 : Int → Int) (costB_4 : Int → Int) (costW_0 : Int → Int) (costW_1 : Int → Int) (costW_2 : Int → Int) (costW_3 : Int → Int) (costW_4 : Int → Int) (costPlain_0 : Int → Int) (costPlain_1 : Int → Int) (costPlain_2 : Int → Int) (costPlain_3 : Int → Int) (costPlain_4 : Int → Int) (apartA_0 : Int → Int) (apartA_1 : Int → Int) (apartA_2 : Int → Int) (apartA_3 : Int → Int) (apartA_4 : Int → Int) (apartB_0 : Int → Int) (apartB_1 : Int → Int) (apartB_2 : Int → Int) (apartB_3 : Int → Int) (apartB_4 : Int → Int) (apart_0 : Int → Int) (apart_1 : Int → Int) (apart_2 : Int → Int) (apart_3 : Int → Int) (apart_4 : Int → Int) (k1 : 0 ≤ x1 ∧ x1 ≤ 75) (k2 : 0 ≤ x2 ∧ x2 ≤ 75) (k3 : 0 ≤ x3 ∧ x3 ≤ 9) (k4 : 1 ≤ x4 ∧ x4 ≤ 1) (k5 : 0 ≤ x5 ∧ x5 ≤ 199) (k7 : 0 ≤ x7 ∧ x7 ≤ 199) (k11 : 1 ≤ x11 ∧ x11 ≤ 1) (k12 : 1 ≤ x12 ∧ x12 ≤ 200) (d0 : x7 + 1 ≤ x12 ∧ x12 ≤ x7 + 1) (f0 : FRO (r_0) (all_0) (turned_0) (x5) (x1)) (f1 : TOO (r_0) (all_0) (turned_0) (x5) (x2)) (f3 : x12 = x7 + x11) (g4 : x7 = costMany_1) (f5 : costMany_1 = x5) (f6 : FRO (r_1) (all_1) (turned_1) (x5) (x1)) (f7 : TOO (r_1) (all_1) (turned_1) (x5) (x2)) (f10 : costMany_2 = x5) (f11 : FRO (r_2) (all_2) (turned_2) (x5) (x1)) (f12 : TOO (r_2) (all_2) (turned_2) (x5) (x2)) (f15 : costMany_3 = x5) (f16 : FRO (r_3) (all_3) (turned_3) (x5) (x1)) (f17 : TOO (r_3) (all_3) (turned_3) (x5) (x2)) (f20 : costMany_4 = x5) (f21 : FRO (r_4) (all_4) (turned_4) (x5) (x1)) (f22 : TOO (r_4) (all_4) (turned_4) (x5) (x2)) (f25 : costMany_5 = x5) (f26 : LCP (r_5) (costMany_5) (apartMany_5) (all_5) (turned_5) (costA_5) (costB_5) (costW_5) (costPlain_5) (apartA_5) (apartB_5) (apart_5)) (f27 : FRO (r_5) (all_5) (turned_5) (x5) (x1)) (f28 : TOO (r_5) (all_5) (turned_5) (x5) (x2)) (fe_0_5_1 : r_0 = r_1) (fe_0_80_1 : costMany_0 = x12) (fe_0_81_1 : apartMany_0 = apartMany_1) (fe_0_5_2 : r_1 = r_2) (fe_0_80_2 : costMany_1 = costMany_2) (fe_0_81_2 : apartMany_1 = apartMany_2) (fe_0_5_3 : r_2 = r_3) (fe_0_80_3 : costMany_2 = costMany_3) (fe_0_81_3 : apartMany_2 = apartMany_3) (fe_0_5_4 : r_3 = r_4) (fe_0_80_4 : costMany_3 = costMany_4) (fe_0_81_4 : apartMany_3 = apartMany_4) (fe_0_5_5 : r_4 = r_5) (fe_0_80_5 : costMany_4 = costMany_5) (fe_0_81_5 : apartMany_4 = apartMany_5) (hE_0_2_1 : ∀ j : Int, all_0 j = all_1 j) (hE_0_2_2 : ∀ j : Int, all_1 j = all_2 j) (hE_0_2_3 : ∀ j : Int, all_2 j = all_3 j) (hE_0_2_4 : ∀ j : Int, all_3 j = all_4 j) (hE_0_2_5 : ∀ j : Int, all_4 j = all_5 j) (hE_0_83_1 : ∀ j : Int, costA_0 j = costA_1 j) (hE_0_83_2 : ∀ j : Int, costA_1 j = costA_2 j) (hE_0_83_3 : ∀ j : Int, costA_2 j = costA_3 j) (hE_0_83_4 : ∀ j : Int, costA_3 j = costA_4 j) (hE_0_83_5 : ∀ j : Int, 0 ≤ j → (j = x7 → costA_4 j = x1) ∧ (j ≠ x7 → costA_4 j = costA_5 j)) (hK_0_83 : ∀ j : Int, 0 ≤ j → j < 200 → 0 ≤ costA_0 j ∧ costA_0 j ≤ 75) (hE_0_84_1 : ∀ j : Int, costB_0 j = costB_1 j) (hE_0_84_2 : ∀ j : Int, costB_1 j = costB_2 j) (hE_0_84_3 : ∀ j : Int, costB_2 j = costB_3 j) (hE_0_84_4 : ∀ j : Int, 0 ≤ j → (j = x7 → costB_3 j = x2) ∧ (j ≠ x7 → costB_3 j = costB_4 j)) (hE_0_84_5 : ∀ j : Int, costB_4 j = costB_5 j) (hK_0_84 : ∀ j : Int, 0 ≤ j → j < 200 → 0 ≤ costB_0 j ∧ costB_0 j ≤ 75) (hE_0_85_1 : ∀ j : Int, costW_0 j = costW_1 j) (hE_0_85_2 : ∀ j : Int, costW_1 j = costW_2 j) (hE_0_85_3 : ∀ j : Int, 0 ≤ j → (j = x7 → costW_2 j = x3) ∧ (j ≠ x7 → costW_2 j = costW_3 j)) (hE_0_85_4 : ∀ j : Int, costW_3 j = costW_4 j) (hE_0_85_5 : ∀ j : Int, costW_4 j = costW_5 j) (hK_0_85 : ∀ j : Int, 0 ≤ j → j < 200 → 0 ≤ costW_0 j ∧ costW_0 j ≤ 72) (hE_0_86_1 : ∀ j : Int, costPlain_0 j = costPlain_1 j) (hE_0_86_2 : ∀ j : Int, 0 ≤ j → (j = x7 → costPlain_1 j = x4) ∧ (j ≠ x7 → costPlain_1 j = costPlain_2 j)) (hE_0_86_3 : ∀ j : Int, costPlain_2 j = costPlain_3 j) (hE_0_86_4 : ∀ j : Int, costPlain_3 j = costPlain_4 j) (hE_0_86_5 : ∀ j : Int, costPlain_4 j = costPlain_5 j) (hK_0_86 : ∀ j : Int, 0 ≤ j → j < 200 → 0 ≤ costPlain_0 j ∧ costPlain_0 j ≤ 1) (hE_0_87_1 : ∀ j : Int, apartA_0 j = apartA_1 j) (hE_0_87_2 : ∀ j : Int, apartA_1 j = apartA_2 j) (hE_0_87_3 : ∀ j : Int, apartA_2 j = apartA_3 j) (hE_0_87_4 : ∀ j : Int, apartA_3 j = apartA_4 j) (hE_0_87_5 : ∀ j : Int, apartA_4 j = apartA_5 j) (hK_0_87 : ∀ j : Int, 0 ≤ j → j < 200 → 0 ≤ apartA_0 j ∧ apartA_0 j ≤ 75) (hE_0_88_1 : ∀ j : Int, apartB_0 j = apartB_1 j) (hE_0_88_2 : ∀ j : Int, apartB_1 j = apartB_2 j) (hE_0_88_3 : ∀ j : Int, apartB_2 j = apartB_3 j) (hE_0_88_4 : ∀ j : Int, apartB_3 j = apartB_4 j) (hE_0_88_5 : ∀ j : Int, apartB_4 j = apartB_5 j) (hK_0_88 : ∀ j : Int, 0 ≤ j → j < 200 → 0 ≤ apartB_0 j ∧ apartB_0 j ≤ 75) (hE_0_89_1 : ∀ j : Int, apart_0 j = apart_1 j) (hE_0_89_2 : ∀ j : Int, apart_1 j = apart_2 j) (hE_0_89_3 : ∀ j : Int, apart_2 j = apart_3 j) (hE_0_89_4 : ∀ j : Int, apart_3 j = apart_4 j) (hE_0_89_5 : ∀ j : Int, apart_4 j = apart_5 j) (hK_0_89 : ∀ j : Int, 0 ≤ j → j < 200 → 0 ≤ apart_0 j ∧ apart_0 j ≤ 202) (hE_0_95_1 : ∀ j : Int, turned_0 j = turned_1 j) (hE_0_95_2 : ∀ j : Int, turned_1 j = turned_2 j) (hE_0_95_3 : ∀ j : Int, turned_2 j = turned_3 j) (hE_0_95_4 : ∀ j : Int, turned_3 j = turned_4 j) (hE_0_95_5 : ∀ j : Int, turned_4 j = turned_5 j) (hK_0_95 : ∀ j : Int, 0 ≤ j → j < 48 → 0 ≤ turned_0 j ∧ turned_0 j ≤ 1) (kz_0_80 : 0 ≤ costMany_0 ∧ costMany_0 ≤ 200) (kz_0_81 : 0 ≤ apartMany_0 ∧ apartMany_0 ≤ 200) : LCP (r_0) (costMany_0) (apartMany_0) (all_0) (turned_0) (costA_0) (costB_0) (costW_0) (costPlain_0) (apartA_0) (apartB_0) (apart_0) := by
  subst fe_0_5_1
  subst fe_0_81_1
  subst fe_0_5_2
  subst fe_0_80_2
  subst fe_0_81_2
  subst fe_0_5_3
  subst fe_0_80_3
  subst fe_0_81_3
  subst fe_0_5_4
  subst fe_0_80_4
  subst fe_0_81_4
  subst fe_0_5_5
  subst fe_0_80_5
  subst fe_0_81_5
  have e_hE_0_2_1 := funext hE_0_2_1; subst e_hE_0_2_1
  have e_hE_0_2_2 := funext hE_0_2_2; subst e_hE_0_2_2
  have e_hE_0_2_3 := funext hE_0_2_3; subst e_hE_0_2_3
  have e_hE_0_2_4 := funext hE_0_2_4; subst e_hE_0_2_4
  have e_hE_0_2_5 := funext hE_0_2_5; subst e_hE_0_2_5
  have e_hE_0_83_1 := funext hE_0_83_1; subst e_hE_0_83_1
  have e_hE_0_83_2 := funext hE_0_83_2; subst e_hE_0_83_2
  have e_hE_0_83_3 := funext hE_0_83_3; subst e_hE_0_83_3
  have e_hE_0_83_4 := funext hE_0_83_4; subst e_hE_0_83_4
  have e_hE_0_84_1 := funext hE_0_84_1; subst e_hE_0_84_1
  have e_hE_0_84_2 := funext hE_0_84_2; subst e_hE_0_84_2
  have e_hE_0_84_3 := funext hE_0_84_3; subst e_hE_0_84_3
  have e_hE_0_84_5 := funext hE_0_84_5; subst e_hE_0_84_5
  have e_hE_0_85_1 := funext hE_0_85_1; subst e_hE_0_85_1
  have e_hE_0_85_2 := funext hE_0_85_2; subst e_hE_0_85_2
  have e_hE_0_85_4 := funext hE_0_85_4; subst e_hE_0_85_4
  have e_hE_0_85_5 := funext hE_0_85_5; subst e_hE_0_85_5
  have e_hE_0_86_1 := funext hE_0_86_1; subst e_hE_0_86_1
  have e_hE_0_86_3 := funext hE_0_86_3; subst e_hE_0_86_3
  have e_hE_0_86_4 := funext hE_0_86_4; subst e_hE_0_86_4
  have e_hE_0_86_5 := funext hE_0_86_5; subst e_hE_0_86_5
  have e_hE_0_87_1 := funext hE_0_87_1; subst e_hE_0_87_1
  have e_hE_0_87_2 := funext hE_0_87_2; subst e_hE_0_87_2
  have e_hE_0_87_3 := funext hE_0_87_3; subst e_hE_0_87_3
  have e_hE_0_87_4 := funext hE_0_87_4; subst e_hE_0_87_4
  have e_hE_0_87_5 := funext hE_0_87_5; subst e_hE_0_87_5
  have e_hE_0_88_1 := funext hE_0_88_1; subst e_hE_0_88_1
  have e_hE_0_88_2 := funext hE_0_88_2; subst e_hE_0_88_2
  have e_hE_0_88_3 := funext hE_0_88_3; subst e_hE_0_88_3
  have e_hE_0_88_4 := funext hE_0_88_4; subst e_hE_0_88_4
  have e_hE_0_88_5 := funext hE_0_88_5; subst e_hE_0_88_5
  have e_hE_0_89_1 := funext hE_0_89_1; subst e_hE_0_89_1
  have e_hE_0_89_2 := funext hE_0_89_2; subst e_hE_0_89_2
  have e_hE_0_89_3 := funext hE_0_89_3; subst e_hE_0_89_3
  have e_hE_0_89_4 := funext hE_0_89_4; subst e_hE_0_89_4
  have e_hE_0_89_5 := funext hE_0_89_5; subst e_hE_0_89_5
  have e_hE_0_95_1 := funext hE_0_95_1; subst e_hE_0_95_1
  have e_hE_0_95_2 := funext hE_0_95_2; subst e_hE_0_95_2
  have e_hE_0_95_3 := funext hE_0_95_3; subst e_hE_0_95_3
  have e_hE_0_95_4 := funext hE_0_95_4; subst e_hE_0_95_4
  have e_hE_0_95_5 := funext hE_0_95_5; subst e_hE_0_95_5
  exact lcp_cost (a := x1) (b := x2) (w := x3) (pl := x4) ‹LCP _ _ _ _ _ _ _ _ _ _ _ _› (by omega) (by omega) (by assumption) (by assumption) (by omega) (by omega) (by omega) (by omega) (by assumption) (by assumption) (by assumption) (by assumption) (by omega) (by omega) (by omega) (by omega)
def o_Mo_cost_at_gl_1 : or_T := (51, 13, [(0, (2, 0, 0, [165])), (1, (0, 0, 75, [])), (2, (0, 0, 75, [])), (3, (0, 0, 9, [])), (4, (0, 1, 1, [])), (5, (0, 0, 199, [])), (6, (2, 0, 0, [220])), (7, (0, 0, 199, [])), (8, (2, 0, 0, [221])), (9, (2, 0, 0, [222])), (10, (2, 0, 0, [223])), (11, (0, 1, 1, [])), (12, (0, 1, 200, []))], [(20, [0, 5, 1], [60, 1, 2, 432, 5, 2, 95]), (20, [0, 5, 2], [60, 1, 2, 433, 5, 2, 95]), (101, [0, 12], [80]), (1, [12, 7, 11], []), (9, [7, 0], [80]), (20, [0, 5], [50, 1, 0, 80, 1, 3, 2, 0, 80, 1, 1]), (20, [0, 5, 1], [60, 1, 2, 432, 5, 2, 95]), (20, [0, 5, 2], [60, 1, 2, 433, 5, 2, 95]), (100, [10, 7, 4], []), (9, [10, 0], [86]), (20, [0, 5], [50, 1, 0, 80, 1, 3, 2, 0, 80, 1, 1]), (20, [0, 5, 1], [60, 1, 2, 432, 5, 2, 95]), (20, [0, 5, 2], [60, 1, 2, 433, 5, 2, 95]), (100, [9, 7, 3], []), (9, [9, 0], [85]), (20, [0, 5], [50, 1, 0, 80, 1, 3, 2, 0, 80, 1, 1]), (20, [0, 5, 1], [60, 1, 2, 432, 5, 2, 95]), (20, [0, 5, 2], [60, 1, 2, 433, 5, 2, 95]), (100, [8, 7, 2], []), (9, [8, 0], [84]), (20, [0, 5], [50, 1, 0, 80, 1, 3, 2, 0, 80, 1, 1]), (20, [0, 5, 1], [60, 1, 2, 432, 5, 2, 95]), (20, [0, 5, 2], [60, 1, 2, 433, 5, 2, 95]), (100, [6, 7, 1], []), (9, [6, 0], [83]), (20, [0, 5], [50, 1, 0, 80, 1, 3, 2, 0, 80, 1, 1]), (20, [0], [60, 3, 9, 434, 5, 80, 81, 2, 95, 83, 84, 85, 86, 87, 88, 89]), (20, [0, 5, 1], [60, 1, 2, 432, 5, 2, 95]), (20, [0, 5, 2], [60, 1, 2, 433, 5, 2, 95])], [], [], [(20, [0, 5], [50, 1, 0, 80, 1, 3, 2, 0, 80, 4, 2, 1, 1, 0, 1]), (20, [0], [60, 3, 9, 434, 5, 80, 81, 2, 95, 83, 84, 85, 86, 87, 88, 89])], [], [(12, 7, 1, 1)])
set_option maxRecDepth 100000 in
theorem oo_Mo_cost_at_gl_1 {kA : Nat → ClassId} : or_ok PRD kA GG o_Mo_cost_at_gl_1 := by
  refine or_mk fun A ta ws vs hD hth hl => ?_
  intro t0 r0 t1 k1 t2 k2 t3 k3 t4 k4 t5 k5 t6 r6 t7 k7 t8 r8 t9 r9 t10 r10 t11 k11 t12 k12 d0 f0 f1 ta1 w1 le1 s1 f3 f4 f5 f6 f7 ta2 w2 le2 s2 f9 f10 f11 f12 ta3 w3 le3 s3 f14 f15 f16 f17 ta4 w4 le4 s4 f19 f20 f21 f22 ta5 w5 le5 s5 f24 f25 f26 f27 f28
  have s1 : (∀ b j, w_el ws b j = w_el w1 b j) ∧ ∀ b j, w_fd ws b j = if b = v_ad (n_v vs 0) ∧ j = 80 then n_v vs 12 else w_fd w1 b j := s1.2
  replace f4 := shm_555 f4
  replace f6 := shm_508 f6
  replace f7 := shm_509 f7
  have s2 : (∀ b j, w_el w1 b j = if b = v_ad (n_v vs 10) ∧ j = (v_iv (n_v vs 7)).toNat then v_iv (n_v vs 4) else w_el w2 b j) ∧ ∀ b k, w_fd w1 b k = w_fd w2 b k := s2.2
  replace f9 := shm_560 f9
  replace f11 := shm_508 f11
  replace f12 := shm_509 f12
  have s3 : (∀ b j, w_el w2 b j = if b = v_ad (n_v vs 9) ∧ j = (v_iv (n_v vs 7)).toNat then v_iv (n_v vs 3) else w_el w3 b j) ∧ ∀ b k, w_fd w2 b k = w_fd w3 b k := s3.2
  replace f14 := shm_561 f14
  replace f16 := shm_508 f16
  replace f17 := shm_509 f17
  have s4 : (∀ b j, w_el w3 b j = if b = v_ad (n_v vs 8) ∧ j = (v_iv (n_v vs 7)).toNat then v_iv (n_v vs 2) else w_el w4 b j) ∧ ∀ b k, w_fd w3 b k = w_fd w4 b k := s4.2
  replace f19 := shm_562 f19
  replace f21 := shm_508 f21
  replace f22 := shm_509 f22
  have s5 : (∀ b j, w_el w4 b j = if b = v_ad (n_v vs 6) ∧ j = (v_iv (n_v vs 7)).toNat then v_iv (n_v vs 1) else w_el w5 b j) ∧ ∀ b k, w_fd w4 b k = w_fd w5 b k := s5.2
  replace f24 := shm_556 f24
  replace f26 := shm_507 f26
  replace f27 := shm_508 f27
  replace f28 := shm_509 f28
  have ar_0_2_1 : w_ar w1 (n_v vs 0) 2 = w_ar ws (n_v vs 0) 2 := by show v_ad (w_fd w1 _ _) = v_ad (w_fd ws _ _); rw [s1.2, if_neg (fun e => absurd e.2 (by decide))]
  have ar_0_2_2 : w_ar w2 (n_v vs 0) 2 = w_ar ws (n_v vs 0) 2 := by rw [← ar_0_2_1]; show v_ad (w_fd w2 _ _) = v_ad (w_fd w1 _ _); rw [s2.2]
  have ar_0_2_3 : w_ar w3 (n_v vs 0) 2 = w_ar ws (n_v vs 0) 2 := by rw [← ar_0_2_2]; show v_ad (w_fd w3 _ _) = v_ad (w_fd w2 _ _); rw [s3.2]
  have ar_0_2_4 : w_ar w4 (n_v vs 0) 2 = w_ar ws (n_v vs 0) 2 := by rw [← ar_0_2_3]; show v_ad (w_fd w4 _ _) = v_ad (w_fd w3 _ _); rw [s4.2]
  have ar_0_2_5 : w_ar w5 (n_v vs 0) 2 = w_ar ws (n_v vs 0) 2 := by rw [← ar_0_2_4]; show v_ad (w_fd w5 _ _) = v_ad (w_fd w4 _ _); rw [s5.2]
  have cr_0_2 := fdq_10 hD hth r0
  have ar_0_83_1 : w_ar w1 (n_v vs 0) 83 = w_ar ws (n_v vs 0) 83 := by show v_ad (w_fd w1 _ _) = v_ad (w_fd ws _ _); rw [s1.2, if_neg (fun e => absurd e.2 (by decide))]
  have ar_0_83_2 : w_ar w2 (n_v vs 0) 83 = w_ar ws (n_v vs 0) 83 := by rw [← ar_0_83_1]; show v_ad (w_fd w2 _ _) = v_ad (w_fd w1 _ _); rw [s2.2]
  have ar_0_83_3 : w_ar w3 (n_v vs 0) 83 = w_ar ws (n_v vs 0) 83 := by rw [← ar_0_83_2]; show v_ad (w_fd w3 _ _) = v_ad (w_fd w2 _ _); rw [s3.2]
  have ar_0_83_4 : w_ar w4 (n_v vs 0) 83 = w_ar ws (n_v vs 0) 83 := by rw [← ar_0_83_3]; show v_ad (w_fd w4 _ _) = v_ad (w_fd w3 _ _); rw [s4.2]
  have ar_0_83_5 : w_ar w5 (n_v vs 0) 83 = w_ar ws (n_v vs 0) 83 := by rw [← ar_0_83_4]; show v_ad (w_fd w5 _ _) = v_ad (w_fd w4 _ _); rw [s5.2]
  have cr_0_83 := fdq_126 hD hth r0
  have ar_0_84_1 : w_ar w1 (n_v vs 0) 84 = w_ar ws (n_v vs 0) 84 := by show v_ad (w_fd w1 _ _) = v_ad (w_fd ws _ _); rw [s1.2, if_neg (fun e => absurd e.2 (by decide))]
  have ar_0_84_2 : w_ar w2 (n_v vs 0) 84 = w_ar ws (n_v vs 0) 84 := by rw [← ar_0_84_1]; show v_ad (w_fd w2 _ _) = v_ad (w_fd w1 _ _); rw [s2.2]
  have ar_0_84_3 : w_ar w3 (n_v vs 0) 84 = w_ar ws (n_v vs 0) 84 := by rw [← ar_0_84_2]; show v_ad (w_fd w3 _ _) = v_ad (w_fd w2 _ _); rw [s3.2]
  have ar_0_84_4 : w_ar w4 (n_v vs 0) 84 = w_ar ws (n_v vs 0) 84 := by rw [← ar_0_84_3]; show v_ad (w_fd w4 _ _) = v_ad (w_fd w3 _ _); rw [s4.2]
  have ar_0_84_5 : w_ar w5 (n_v vs 0) 84 = w_ar ws (n_v vs 0) 84 := by rw [← ar_0_84_4]; show v_ad (w_fd w5 _ _) = v_ad (w_fd w4 _ _); rw [s5.2]
  have cr_0_84 := fdq_127 hD hth r0
  have ar_0_85_1 : w_ar w1 (n_v vs 0) 85 = w_ar ws (n_v vs 0) 85 := by show v_ad (w_fd w1 _ _) = v_ad (w_fd ws _ _); rw [s1.2, if_neg (fun e => absurd e.2 (by decide))]
  have ar_0_85_2 : w_ar w2 (n_v vs 0) 85 = w_ar ws (n_v vs 0) 85 := by rw [← ar_0_85_1]; show v_ad (w_fd w2 _ _) = v_ad (w_fd w1 _ _); rw [s2.2]
  have ar_0_85_3 : w_ar w3 (n_v vs 0) 85 = w_ar ws (n_v vs 0) 85 := by rw [← ar_0_85_2]; show v_ad (w_fd w3 _ _) = v_ad (w_fd w2 _ _); rw [s3.2]
  have ar_0_85_4 : w_ar w4 (n_v vs 0) 85 = w_ar ws (n_v vs 0) 85 := by rw [← ar_0_85_3]; show v_ad (w_fd w4 _ _) = v_ad (w_fd w3 _ _); rw [s4.2]
  have ar_0_85_5 : w_ar w5 (n_v vs 0) 85 = w_ar ws (n_v vs 0) 85 := by rw [← ar_0_85_4]; show v_ad (w_fd w5 _ _) = v_ad (w_fd w4 _ _); rw [s5.2]
  have cr_0_85 := fdq_128 hD hth r0
  have ar_0_86_1 : w_ar w1 (n_v vs 0) 86 = w_ar ws (n_v vs 0) 86 := by show v_ad (w_fd w1 _ _) = v_ad (w_fd ws _ _); rw [s1.2, if_neg (fun e => absurd e.2 (by decide))]
  have ar_0_86_2 : w_ar w2 (n_v vs 0) 86 = w_ar ws (n_v vs 0) 86 := by rw [← ar_0_86_1]; show v_ad (w_fd w2 _ _) = v_ad (w_fd w1 _ _); rw [s2.2]
  have ar_0_86_3 : w_ar w3 (n_v vs 0) 86 = w_ar ws (n_v vs 0) 86 := by rw [← ar_0_86_2]; show v_ad (w_fd w3 _ _) = v_ad (w_fd w2 _ _); rw [s3.2]
  have ar_0_86_4 : w_ar w4 (n_v vs 0) 86 = w_ar ws (n_v vs 0) 86 := by rw [← ar_0_86_3]; show v_ad (w_fd w4 _ _) = v_ad (w_fd w3 _ _); rw [s4.2]
  have ar_0_86_5 : w_ar w5 (n_v vs 0) 86 = w_ar ws (n_v vs 0) 86 := by rw [← ar_0_86_4]; show v_ad (w_fd w5 _ _) = v_ad (w_fd w4 _ _); rw [s5.2]
  have cr_0_86 := fdq_129 hD hth r0
  have ar_0_87_1 : w_ar w1 (n_v vs 0) 87 = w_ar ws (n_v vs 0) 87 := by show v_ad (w_fd w1 _ _) = v_ad (w_fd ws _ _); rw [s1.2, if_neg (fun e => absurd e.2 (by decide))]
  have ar_0_87_2 : w_ar w2 (n_v vs 0) 87 = w_ar ws (n_v vs 0) 87 := by rw [← ar_0_87_1]; show v_ad (w_fd w2 _ _) = v_ad (w_fd w1 _ _); rw [s2.2]
  have ar_0_87_3 : w_ar w3 (n_v vs 0) 87 = w_ar ws (n_v vs 0) 87 := by rw [← ar_0_87_2]; show v_ad (w_fd w3 _ _) = v_ad (w_fd w2 _ _); rw [s3.2]
  have ar_0_87_4 : w_ar w4 (n_v vs 0) 87 = w_ar ws (n_v vs 0) 87 := by rw [← ar_0_87_3]; show v_ad (w_fd w4 _ _) = v_ad (w_fd w3 _ _); rw [s4.2]
  have ar_0_87_5 : w_ar w5 (n_v vs 0) 87 = w_ar ws (n_v vs 0) 87 := by rw [← ar_0_87_4]; show v_ad (w_fd w5 _ _) = v_ad (w_fd w4 _ _); rw [s5.2]
  have cr_0_87 := fdq_119 hD hth r0
  have ar_0_88_1 : w_ar w1 (n_v vs 0) 88 = w_ar ws (n_v vs 0) 88 := by show v_ad (w_fd w1 _ _) = v_ad (w_fd ws _ _); rw [s1.2, if_neg (fun e => absurd e.2 (by decide))]
  have ar_0_88_2 : w_ar w2 (n_v vs 0) 88 = w_ar ws (n_v vs 0) 88 := by rw [← ar_0_88_1]; show v_ad (w_fd w2 _ _) = v_ad (w_fd w1 _ _); rw [s2.2]
  have ar_0_88_3 : w_ar w3 (n_v vs 0) 88 = w_ar ws (n_v vs 0) 88 := by rw [← ar_0_88_2]; show v_ad (w_fd w3 _ _) = v_ad (w_fd w2 _ _); rw [s3.2]
  have ar_0_88_4 : w_ar w4 (n_v vs 0) 88 = w_ar ws (n_v vs 0) 88 := by rw [← ar_0_88_3]; show v_ad (w_fd w4 _ _) = v_ad (w_fd w3 _ _); rw [s4.2]
  have ar_0_88_5 : w_ar w5 (n_v vs 0) 88 = w_ar ws (n_v vs 0) 88 := by rw [← ar_0_88_4]; show v_ad (w_fd w5 _ _) = v_ad (w_fd w4 _ _); rw [s5.2]
  have cr_0_88 := fdq_120 hD hth r0
  have ar_0_89_1 : w_ar w1 (n_v vs 0) 89 = w_ar ws (n_v vs 0) 89 := by show v_ad (w_fd w1 _ _) = v_ad (w_fd ws _ _); rw [s1.2, if_neg (fun e => absurd e.2 (by decide))]
  have ar_0_89_2 : w_ar w2 (n_v vs 0) 89 = w_ar ws (n_v vs 0) 89 := by rw [← ar_0_89_1]; show v_ad (w_fd w2 _ _) = v_ad (w_fd w1 _ _); rw [s2.2]
  have ar_0_89_3 : w_ar w3 (n_v vs 0) 89 = w_ar ws (n_v vs 0) 89 := by rw [← ar_0_89_2]; show v_ad (w_fd w3 _ _) = v_ad (w_fd w2 _ _); rw [s3.2]
  have ar_0_89_4 : w_ar w4 (n_v vs 0) 89 = w_ar ws (n_v vs 0) 89 := by rw [← ar_0_89_3]; show v_ad (w_fd w4 _ _) = v_ad (w_fd w3 _ _); rw [s4.2]
  have ar_0_89_5 : w_ar w5 (n_v vs 0) 89 = w_ar ws (n_v vs 0) 89 := by rw [← ar_0_89_4]; show v_ad (w_fd w5 _ _) = v_ad (w_fd w4 _ _); rw [s5.2]
  have cr_0_89 := fdq_121 hD hth r0
  have ar_0_95_1 : w_ar w1 (n_v vs 0) 95 = w_ar ws (n_v vs 0) 95 := by show v_ad (w_fd w1 _ _) = v_ad (w_fd ws _ _); rw [s1.2, if_neg (fun e => absurd e.2 (by decide))]
  have ar_0_95_2 : w_ar w2 (n_v vs 0) 95 = w_ar ws (n_v vs 0) 95 := by rw [← ar_0_95_1]; show v_ad (w_fd w2 _ _) = v_ad (w_fd w1 _ _); rw [s2.2]
  have ar_0_95_3 : w_ar w3 (n_v vs 0) 95 = w_ar ws (n_v vs 0) 95 := by rw [← ar_0_95_2]; show v_ad (w_fd w3 _ _) = v_ad (w_fd w2 _ _); rw [s3.2]
  have ar_0_95_4 : w_ar w4 (n_v vs 0) 95 = w_ar ws (n_v vs 0) 95 := by rw [← ar_0_95_3]; show v_ad (w_fd w4 _ _) = v_ad (w_fd w3 _ _); rw [s4.2]
  have ar_0_95_5 : w_ar w5 (n_v vs 0) 95 = w_ar ws (n_v vs 0) 95 := by rw [← ar_0_95_4]; show v_ad (w_fd w5 _ _) = v_ad (w_fd w4 _ _); rw [s5.2]
  have cr_0_95 := fdq_130 hD hth r0
  have ad_10 : v_ad (n_v vs 10) = w_ar ws (n_v vs 0) 86 := (congrArg v_ad f9).trans ar_0_86_2
  have ad_9 : v_ad (n_v vs 9) = w_ar ws (n_v vs 0) 85 := (congrArg v_ad f14).trans ar_0_85_3
  have ad_8 : v_ad (n_v vs 8) = w_ar ws (n_v vs 0) 84 := (congrArg v_ad f19).trans ar_0_84_4
  have ad_6 : v_ad (n_v vs 6) = w_ar ws (n_v vs 0) 83 := (congrArg v_ad f24).trans ar_0_83_5
  have g4 : v_iv (n_v vs 7) = w_fi w1 (n_v vs 0) 80 := congrArg v_iv f4
  simp only [ar_0_2_1, ar_0_95_1, ar_0_2_2, ar_0_95_2, ar_0_2_3, ar_0_95_3, ar_0_2_4, ar_0_95_4, ar_0_2_5, ar_0_83_5, ar_0_84_5, ar_0_85_5, ar_0_86_5, ar_0_87_5, ar_0_88_5, ar_0_89_5, ar_0_95_5] at f6 f7 f11 f12 f16 f17 f21 f22 f26 f27 f28
  have fe_0_5_1 : w_fi ws (n_v vs 0) 5 = w_fi w1 (n_v vs 0) 5 := by show v_iv (w_fd _ _ _) = v_iv (w_fd _ _ _); rw [s1.2, if_neg (fun e => absurd e.2 (by decide))]
  have fe_0_80_1 : w_fi ws (n_v vs 0) 80 = v_iv (n_v vs 12) := by show v_iv (w_fd _ _ _) = _; rw [s1.2, if_pos ⟨rfl, rfl⟩]
  have fe_0_81_1 : w_fi ws (n_v vs 0) 81 = w_fi w1 (n_v vs 0) 81 := by show v_iv (w_fd _ _ _) = v_iv (w_fd _ _ _); rw [s1.2, if_neg (fun e => absurd e.2 (by decide))]
  have fe_0_5_2 : w_fi w1 (n_v vs 0) 5 = w_fi w2 (n_v vs 0) 5 := congrArg v_iv (s2.2 _ _)
  have fe_0_80_2 : w_fi w1 (n_v vs 0) 80 = w_fi w2 (n_v vs 0) 80 := congrArg v_iv (s2.2 _ _)
  have fe_0_81_2 : w_fi w1 (n_v vs 0) 81 = w_fi w2 (n_v vs 0) 81 := congrArg v_iv (s2.2 _ _)
  have fe_0_5_3 : w_fi w2 (n_v vs 0) 5 = w_fi w3 (n_v vs 0) 5 := congrArg v_iv (s3.2 _ _)
  have fe_0_80_3 : w_fi w2 (n_v vs 0) 80 = w_fi w3 (n_v vs 0) 80 := congrArg v_iv (s3.2 _ _)
  have fe_0_81_3 : w_fi w2 (n_v vs 0) 81 = w_fi w3 (n_v vs 0) 81 := congrArg v_iv (s3.2 _ _)
  have fe_0_5_4 : w_fi w3 (n_v vs 0) 5 = w_fi w4 (n_v vs 0) 5 := congrArg v_iv (s4.2 _ _)
  have fe_0_80_4 : w_fi w3 (n_v vs 0) 80 = w_fi w4 (n_v vs 0) 80 := congrArg v_iv (s4.2 _ _)
  have fe_0_81_4 : w_fi w3 (n_v vs 0) 81 = w_fi w4 (n_v vs 0) 81 := congrArg v_iv (s4.2 _ _)
  have fe_0_5_5 : w_fi w4 (n_v vs 0) 5 = w_fi w5 (n_v vs 0) 5 := congrArg v_iv (s5.2 _ _)
  have fe_0_80_5 : w_fi w4 (n_v vs 0) 80 = w_fi w5 (n_v vs 0) 80 := congrArg v_iv (s5.2 _ _)
  have fe_0_81_5 : w_fi w4 (n_v vs 0) 81 = w_fi w5 (n_v vs 0) 81 := congrArg v_iv (s5.2 _ _)
  have hE_0_2_1 : ∀ j : Int, w_ei ws (w_ar ws (n_v vs 0) 2) j = w_ei w1 (w_ar ws (n_v vs 0) 2) j := fun j => s1.1 _ _
  have hE_0_2_2 : ∀ j : Int, w_ei w1 (w_ar ws (n_v vs 0) 2) j = w_ei w2 (w_ar ws (n_v vs 0) 2) j := el_kp s2.1 r10 cr_0_2 (by decide)
  have hE_0_2_3 : ∀ j : Int, w_ei w2 (w_ar ws (n_v vs 0) 2) j = w_ei w3 (w_ar ws (n_v vs 0) 2) j := el_kp s3.1 r9 cr_0_2 (by decide)
  have hE_0_2_4 : ∀ j : Int, w_ei w3 (w_ar ws (n_v vs 0) 2) j = w_ei w4 (w_ar ws (n_v vs 0) 2) j := el_kp s4.1 r8 cr_0_2 (by decide)
  have hE_0_2_5 : ∀ j : Int, w_ei w4 (w_ar ws (n_v vs 0) 2) j = w_ei w5 (w_ar ws (n_v vs 0) 2) j := el_kp s5.1 r6 cr_0_2 (by decide)
  have hE_0_83_1 : ∀ j : Int, w_ei ws (w_ar ws (n_v vs 0) 83) j = w_ei w1 (w_ar ws (n_v vs 0) 83) j := fun j => s1.1 _ _
  have hE_0_83_2 : ∀ j : Int, w_ei w1 (w_ar ws (n_v vs 0) 83) j = w_ei w2 (w_ar ws (n_v vs 0) 83) j := el_kp s2.1 r10 cr_0_83 (by decide)
  have hE_0_83_3 : ∀ j : Int, w_ei w2 (w_ar ws (n_v vs 0) 83) j = w_ei w3 (w_ar ws (n_v vs 0) 83) j := el_kp s3.1 r9 cr_0_83 (by decide)
  have hE_0_83_4 : ∀ j : Int, w_ei w3 (w_ar ws (n_v vs 0) 83) j = w_ei w4 (w_ar ws (n_v vs 0) 83) j := el_kp s4.1 r8 cr_0_83 (by decide)
  have hE_0_83_5 : ∀ j : Int, 0 ≤ j → (j = v_iv (n_v vs 7) → w_ei w4 (w_ar ws (n_v vs 0) 83) j = v_iv (n_v vs 1)) ∧ (j ≠ v_iv (n_v vs 7) → w_ei w4 (w_ar ws (n_v vs 0) 83) j = w_ei w5 (w_ar ws (n_v vs 0) 83) j) := fun j hj => ⟨fun h => by unfold w_ei; rw [s5.1, if_pos ⟨ad_6.symm, by rw [h]⟩], fun h => by unfold w_ei; rw [s5.1, if_neg (fun e => h (by have := e.2; omega))]⟩
  have hK_0_83 := elq_67 hD hth cr_0_83
  have hE_0_84_1 : ∀ j : Int, w_ei ws (w_ar ws (n_v vs 0) 84) j = w_ei w1 (w_ar ws (n_v vs 0) 84) j := fun j => s1.1 _ _
  have hE_0_84_2 : ∀ j : Int, w_ei w1 (w_ar ws (n_v vs 0) 84) j = w_ei w2 (w_ar ws (n_v vs 0) 84) j := el_kp s2.1 r10 cr_0_84 (by decide)
  have hE_0_84_3 : ∀ j : Int, w_ei w2 (w_ar ws (n_v vs 0) 84) j = w_ei w3 (w_ar ws (n_v vs 0) 84) j := el_kp s3.1 r9 cr_0_84 (by decide)
  have hE_0_84_4 : ∀ j : Int, 0 ≤ j → (j = v_iv (n_v vs 7) → w_ei w3 (w_ar ws (n_v vs 0) 84) j = v_iv (n_v vs 2)) ∧ (j ≠ v_iv (n_v vs 7) → w_ei w3 (w_ar ws (n_v vs 0) 84) j = w_ei w4 (w_ar ws (n_v vs 0) 84) j) := fun j hj => ⟨fun h => by unfold w_ei; rw [s4.1, if_pos ⟨ad_8.symm, by rw [h]⟩], fun h => by unfold w_ei; rw [s4.1, if_neg (fun e => h (by have := e.2; omega))]⟩
  have hE_0_84_5 : ∀ j : Int, w_ei w4 (w_ar ws (n_v vs 0) 84) j = w_ei w5 (w_ar ws (n_v vs 0) 84) j := el_kp s5.1 r6 cr_0_84 (by decide)
  have hK_0_84 := elq_68 hD hth cr_0_84
  have hE_0_85_1 : ∀ j : Int, w_ei ws (w_ar ws (n_v vs 0) 85) j = w_ei w1 (w_ar ws (n_v vs 0) 85) j := fun j => s1.1 _ _
  have hE_0_85_2 : ∀ j : Int, w_ei w1 (w_ar ws (n_v vs 0) 85) j = w_ei w2 (w_ar ws (n_v vs 0) 85) j := el_kp s2.1 r10 cr_0_85 (by decide)
  have hE_0_85_3 : ∀ j : Int, 0 ≤ j → (j = v_iv (n_v vs 7) → w_ei w2 (w_ar ws (n_v vs 0) 85) j = v_iv (n_v vs 3)) ∧ (j ≠ v_iv (n_v vs 7) → w_ei w2 (w_ar ws (n_v vs 0) 85) j = w_ei w3 (w_ar ws (n_v vs 0) 85) j) := fun j hj => ⟨fun h => by unfold w_ei; rw [s3.1, if_pos ⟨ad_9.symm, by rw [h]⟩], fun h => by unfold w_ei; rw [s3.1, if_neg (fun e => h (by have := e.2; omega))]⟩
  have hE_0_85_4 : ∀ j : Int, w_ei w3 (w_ar ws (n_v vs 0) 85) j = w_ei w4 (w_ar ws (n_v vs 0) 85) j := el_kp s4.1 r8 cr_0_85 (by decide)
  have hE_0_85_5 : ∀ j : Int, w_ei w4 (w_ar ws (n_v vs 0) 85) j = w_ei w5 (w_ar ws (n_v vs 0) 85) j := el_kp s5.1 r6 cr_0_85 (by decide)
  have hK_0_85 := elq_69 hD hth cr_0_85
  have hE_0_86_1 : ∀ j : Int, w_ei ws (w_ar ws (n_v vs 0) 86) j = w_ei w1 (w_ar ws (n_v vs 0) 86) j := fun j => s1.1 _ _
  have hE_0_86_2 : ∀ j : Int, 0 ≤ j → (j = v_iv (n_v vs 7) → w_ei w1 (w_ar ws (n_v vs 0) 86) j = v_iv (n_v vs 4)) ∧ (j ≠ v_iv (n_v vs 7) → w_ei w1 (w_ar ws (n_v vs 0) 86) j = w_ei w2 (w_ar ws (n_v vs 0) 86) j) := fun j hj => ⟨fun h => by unfold w_ei; rw [s2.1, if_pos ⟨ad_10.symm, by rw [h]⟩], fun h => by unfold w_ei; rw [s2.1, if_neg (fun e => h (by have := e.2; omega))]⟩
  have hE_0_86_3 : ∀ j : Int, w_ei w2 (w_ar ws (n_v vs 0) 86) j = w_ei w3 (w_ar ws (n_v vs 0) 86) j := el_kp s3.1 r9 cr_0_86 (by decide)
  have hE_0_86_4 : ∀ j : Int, w_ei w3 (w_ar ws (n_v vs 0) 86) j = w_ei w4 (w_ar ws (n_v vs 0) 86) j := el_kp s4.1 r8 cr_0_86 (by decide)
  have hE_0_86_5 : ∀ j : Int, w_ei w4 (w_ar ws (n_v vs 0) 86) j = w_ei w5 (w_ar ws (n_v vs 0) 86) j := el_kp s5.1 r6 cr_0_86 (by decide)
  have hK_0_86 := elq_70 hD hth cr_0_86
  have hE_0_87_1 : ∀ j : Int, w_ei ws (w_ar ws (n_v vs 0) 87) j = w_ei w1 (w_ar ws (n_v vs 0) 87) j := fun j => s1.1 _ _
  have hE_0_87_2 : ∀ j : Int, w_ei w1 (w_ar ws (n_v vs 0) 87) j = w_ei w2 (w_ar ws (n_v vs 0) 87) j := el_kp s2.1 r10 cr_0_87 (by decide)
  have hE_0_87_3 : ∀ j : Int, w_ei w2 (w_ar ws (n_v vs 0) 87) j = w_ei w3 (w_ar ws (n_v vs 0) 87) j := el_kp s3.1 r9 cr_0_87 (by decide)
  have hE_0_87_4 : ∀ j : Int, w_ei w3 (w_ar ws (n_v vs 0) 87) j = w_ei w4 (w_ar ws (n_v vs 0) 87) j := el_kp s4.1 r8 cr_0_87 (by decide)
  have hE_0_87_5 : ∀ j : Int, w_ei w4 (w_ar ws (n_v vs 0) 87) j = w_ei w5 (w_ar ws (n_v vs 0) 87) j := el_kp s5.1 r6 cr_0_87 (by decide)
  have hK_0_87 := elq_62 hD hth cr_0_87
  have hE_0_88_1 : ∀ j : Int, w_ei ws (w_ar ws (n_v vs 0) 88) j = w_ei w1 (w_ar ws (n_v vs 0) 88) j := fun j => s1.1 _ _
  have hE_0_88_2 : ∀ j : Int, w_ei w1 (w_ar ws (n_v vs 0) 88) j = w_ei w2 (w_ar ws (n_v vs 0) 88) j := el_kp s2.1 r10 cr_0_88 (by decide)
  have hE_0_88_3 : ∀ j : Int, w_ei w2 (w_ar ws (n_v vs 0) 88) j = w_ei w3 (w_ar ws (n_v vs 0) 88) j := el_kp s3.1 r9 cr_0_88 (by decide)
  have hE_0_88_4 : ∀ j : Int, w_ei w3 (w_ar ws (n_v vs 0) 88) j = w_ei w4 (w_ar ws (n_v vs 0) 88) j := el_kp s4.1 r8 cr_0_88 (by decide)
  have hE_0_88_5 : ∀ j : Int, w_ei w4 (w_ar ws (n_v vs 0) 88) j = w_ei w5 (w_ar ws (n_v vs 0) 88) j := el_kp s5.1 r6 cr_0_88 (by decide)
  have hK_0_88 := elq_63 hD hth cr_0_88
  have hE_0_89_1 : ∀ j : Int, w_ei ws (w_ar ws (n_v vs 0) 89) j = w_ei w1 (w_ar ws (n_v vs 0) 89) j := fun j => s1.1 _ _
  have hE_0_89_2 : ∀ j : Int, w_ei w1 (w_ar ws (n_v vs 0) 89) j = w_ei w2 (w_ar ws (n_v vs 0) 89) j := el_kp s2.1 r10 cr_0_89 (by decide)
  have hE_0_89_3 : ∀ j : Int, w_ei w2 (w_ar ws (n_v vs 0) 89) j = w_ei w3 (w_ar ws (n_v vs 0) 89) j := el_kp s3.1 r9 cr_0_89 (by decide)
  have hE_0_89_4 : ∀ j : Int, w_ei w3 (w_ar ws (n_v vs 0) 89) j = w_ei w4 (w_ar ws (n_v vs 0) 89) j := el_kp s4.1 r8 cr_0_89 (by decide)
  have hE_0_89_5 : ∀ j : Int, w_ei w4 (w_ar ws (n_v vs 0) 89) j = w_ei w5 (w_ar ws (n_v vs 0) 89) j := el_kp s5.1 r6 cr_0_89 (by decide)
  have hK_0_89 := elq_64 hD hth cr_0_89
  have hE_0_95_1 : ∀ j : Int, w_ei ws (w_ar ws (n_v vs 0) 95) j = w_ei w1 (w_ar ws (n_v vs 0) 95) j := fun j => s1.1 _ _
  have hE_0_95_2 : ∀ j : Int, w_ei w1 (w_ar ws (n_v vs 0) 95) j = w_ei w2 (w_ar ws (n_v vs 0) 95) j := el_kp s2.1 r10 cr_0_95 (by decide)
  have hE_0_95_3 : ∀ j : Int, w_ei w2 (w_ar ws (n_v vs 0) 95) j = w_ei w3 (w_ar ws (n_v vs 0) 95) j := el_kp s3.1 r9 cr_0_95 (by decide)
  have hE_0_95_4 : ∀ j : Int, w_ei w3 (w_ar ws (n_v vs 0) 95) j = w_ei w4 (w_ar ws (n_v vs 0) 95) j := el_kp s4.1 r8 cr_0_95 (by decide)
  have hE_0_95_5 : ∀ j : Int, w_ei w4 (w_ar ws (n_v vs 0) 95) j = w_ei w5 (w_ar ws (n_v vs 0) 95) j := el_kp s5.1 r6 cr_0_95 (by decide)
  have hK_0_95 := elq_71 hD hth cr_0_95
  have kz_0_80 := fdq_131 hD hth r0
  have kz_0_81 := fdq_124 hD hth r0
  have nf0 : fc_1 PRD (20, [0, 5], [50, 1, 0, 80, 1, 3, 2, 0, 80, 4, 2, 1, 1, 0, 1]) ws (vs) := ⟨nf_in hl rfl, sgq_563 (vc_Mo_cost_at_gl_1_0 (v_iv (n_v vs 1)) (v_iv (n_v vs 2)) (v_iv (n_v vs 3)) (v_iv (n_v vs 4)) (v_iv (n_v vs 5)) (v_iv (n_v vs 7)) (v_iv (n_v vs 11)) (v_iv (n_v vs 12)) (w_ei ws (w_ar ws (n_v vs 0) 2)) (w_ei ws (w_ar ws (n_v vs 0) 95)) (w_fi ws (n_v vs 0) 5) (w_fi w1 (n_v vs 0) 80) (w_ei w1 (w_ar ws (n_v vs 0) 2)) (w_ei w1 (w_ar ws (n_v vs 0) 95)) (w_fi w1 (n_v vs 0) 5) (w_fi w2 (n_v vs 0) 80) (w_ei w2 (w_ar ws (n_v vs 0) 2)) (w_ei w2 (w_ar ws (n_v vs 0) 95)) (w_fi w2 (n_v vs 0) 5) (w_fi w3 (n_v vs 0) 80) (w_ei w3 (w_ar ws (n_v vs 0) 2)) (w_ei w3 (w_ar ws (n_v vs 0) 95)) (w_fi w3 (n_v vs 0) 5) (w_fi w4 (n_v vs 0) 80) (w_ei w4 (w_ar ws (n_v vs 0) 2)) (w_ei w4 (w_ar ws (n_v vs 0) 95)) (w_fi w4 (n_v vs 0) 5) (w_fi w5 (n_v vs 0) 80) (w_ei w5 (w_ar ws (n_v vs 0) 2)) (w_ei w5 (w_ar ws (n_v vs 0) 95)) (w_ei w5 (w_ar ws (n_v vs 0) 83)) (w_ei w5 (w_ar ws (n_v vs 0) 84)) (w_ei w5 (w_ar ws (n_v vs 0) 85)) (w_ei w5 (w_ar ws (n_v vs 0) 86)) (w_ei w5 (w_ar ws (n_v vs 0) 87)) (w_ei w5 (w_ar ws (n_v vs 0) 88)) (w_ei w5 (w_ar ws (n_v vs 0) 89)) (w_fi w5 (n_v vs 0) 5) (w_fi w5 (n_v vs 0) 81) (w_fi ws (n_v vs 0) 80) (w_fi ws (n_v vs 0) 81) (w_fi w1 (n_v vs 0) 81) (w_fi w2 (n_v vs 0) 81) (w_fi w3 (n_v vs 0) 81) (w_fi w4 (n_v vs 0) 81) (w_ei ws (w_ar ws (n_v vs 0) 83)) (w_ei w1 (w_ar ws (n_v vs 0) 83)) (w_ei w2 (w_ar ws (n_v vs 0) 83)) (w_ei w3 (w_ar ws (n_v vs 0) 83)) (w_ei w4 (w_ar ws (n_v vs 0) 83)) (w_ei ws (w_ar ws (n_v vs 0) 84)) (w_ei w1 (w_ar ws (n_v vs 0) 84)) (w_ei w2 (w_ar ws (n_v vs 0) 84)) (w_ei w3 (w_ar ws (n_v vs 0) 84)) (w_ei w4 (w_ar ws (n_v vs 0) 84)) (w_ei ws (w_ar ws (n_v vs 0) 85)) (w_ei w1 (w_ar ws (n_v vs 0) 85)) (w_ei w2 (w_ar ws (n_v vs 0) 85)) (w_ei w3 (w_ar ws (n_v vs 0) 85)) (w_ei w4 (w_ar ws (n_v vs 0) 85)) (w_ei ws (w_ar ws (n_v vs 0) 86)) (w_ei w1 (w_ar ws (n_v vs 0) 86)) (w_ei w2 (w_ar ws (n_v vs 0) 86)) (w_ei w3 (w_ar ws (n_v vs 0) 86)) (w_ei w4 (w_ar ws (n_v vs 0) 86)) (w_ei ws (w_ar ws (n_v vs 0) 87)) (w_ei w1 (w_ar ws (n_v vs 0) 87)) (w_ei w2 (w_ar ws (n_v vs 0) 87)) (w_ei w3 (w_ar ws (n_v vs 0) 87)) (w_ei w4 (w_ar ws (n_v vs 0) 87)) (w_ei ws (w_ar ws (n_v vs 0) 88)) (w_ei w1 (w_ar ws (n_v vs 0) 88)) (w_ei w2 (w_ar ws (n_v vs 0) 88)) (w_ei w3 (w_ar ws (n_v vs 0) 88)) (w_ei w4 (w_ar ws (n_v vs 0) 88)) (w_ei ws (w_ar ws (n_v vs 0) 89)) (w_ei w1 (w_ar ws (n_v vs 0) 89)) (w_ei w2 (w_ar ws (n_v vs 0) 89)) (w_ei w3 (w_ar ws (n_v vs 0) 89)) (w_ei w4 (w_ar ws (n_v vs 0) 89)) k1 k2 k3 k4 k5 k7 k11 k12 d0 (shm_508 f0) (shm_509 f1) (shm_12 f3) g4 (shm_557 f5) f6 f7 (shm_557 f10) f11 f12 (shm_557 f15) f16 f17 (shm_557 f20) f21 f22 (shm_557 f25) f26 f27 f28 fe_0_5_1 fe_0_80_1 fe_0_81_1 fe_0_5_2 fe_0_80_2 fe_0_81_2 fe_0_5_3 fe_0_80_3 fe_0_81_3 fe_0_5_4 fe_0_80_4 fe_0_81_4 fe_0_5_5 fe_0_80_5 fe_0_81_5 hE_0_2_1 hE_0_2_2 hE_0_2_3 hE_0_2_4 hE_0_2_5 hE_0_83_1 hE_0_83_2 hE_0_83_3 hE_0_83_4 hE_0_83_5 hK_0_83 hE_0_84_1 hE_0_84_2 hE_0_84_3 hE_0_84_4 hE_0_84_5 hK_0_84 hE_0_85_1 hE_0_85_2 hE_0_85_3 hE_0_85_4 hE_0_85_5 hK_0_85 hE_0_86_1 hE_0_86_2 hE_0_86_3 hE_0_86_4 hE_0_86_5 hK_0_86 hE_0_87_1 hE_0_87_2 hE_0_87_3 hE_0_87_4 hE_0_87_5 hK_0_87 hE_0_88_1 hE_0_88_2 hE_0_88_3 hE_0_88_4 hE_0_88_5 hK_0_88 hE_0_89_1 hE_0_89_2 hE_0_89_3 hE_0_89_4 hE_0_89_5 hK_0_89 hE_0_95_1 hE_0_95_2 hE_0_95_3 hE_0_95_4 hE_0_95_5 hK_0_95 kz_0_80 kz_0_81)⟩
  have nf1 : fc_1 PRD (20, [0], [60, 3, 9, 434, 5, 80, 81, 2, 95, 83, 84, 85, 86, 87, 88, 89]) ws (vs) := ⟨nf_in hl rfl, sgq_507 (vc_Mo_cost_at_gl_1_1 (v_iv (n_v vs 1)) (v_iv (n_v vs 2)) (v_iv (n_v vs 3)) (v_iv (n_v vs 4)) (v_iv (n_v vs 5)) (v_iv (n_v vs 7)) (v_iv (n_v vs 11)) (v_iv (n_v vs 12)) (w_ei ws (w_ar ws (n_v vs 0) 2)) (w_ei ws (w_ar ws (n_v vs 0) 95)) (w_fi ws (n_v vs 0) 5) (w_fi w1 (n_v vs 0) 80) (w_ei w1 (w_ar ws (n_v vs 0) 2)) (w_ei w1 (w_ar ws (n_v vs 0) 95)) (w_fi w1 (n_v vs 0) 5) (w_fi w2 (n_v vs 0) 80) (w_ei w2 (w_ar ws (n_v vs 0) 2)) (w_ei w2 (w_ar ws (n_v vs 0) 95)) (w_fi w2 (n_v vs 0) 5) (w_fi w3 (n_v vs 0) 80) (w_ei w3 (w_ar ws (n_v vs 0) 2)) (w_ei w3 (w_ar ws (n_v vs 0) 95)) (w_fi w3 (n_v vs 0) 5) (w_fi w4 (n_v vs 0) 80) (w_ei w4 (w_ar ws (n_v vs 0) 2)) (w_ei w4 (w_ar ws (n_v vs 0) 95)) (w_fi w4 (n_v vs 0) 5) (w_fi w5 (n_v vs 0) 80) (w_ei w5 (w_ar ws (n_v vs 0) 2)) (w_ei w5 (w_ar ws (n_v vs 0) 95)) (w_ei w5 (w_ar ws (n_v vs 0) 83)) (w_ei w5 (w_ar ws (n_v vs 0) 84)) (w_ei w5 (w_ar ws (n_v vs 0) 85)) (w_ei w5 (w_ar ws (n_v vs 0) 86)) (w_ei w5 (w_ar ws (n_v vs 0) 87)) (w_ei w5 (w_ar ws (n_v vs 0) 88)) (w_ei w5 (w_ar ws (n_v vs 0) 89)) (w_fi w5 (n_v vs 0) 5) (w_fi w5 (n_v vs 0) 81) (w_fi ws (n_v vs 0) 80) (w_fi ws (n_v vs 0) 81) (w_fi w1 (n_v vs 0) 81) (w_fi w2 (n_v vs 0) 81) (w_fi w3 (n_v vs 0) 81) (w_fi w4 (n_v vs 0) 81) (w_ei ws (w_ar ws (n_v vs 0) 83)) (w_ei w1 (w_ar ws (n_v vs 0) 83)) (w_ei w2 (w_ar ws (n_v vs 0) 83)) (w_ei w3 (w_ar ws (n_v vs 0) 83)) (w_ei w4 (w_ar ws (n_v vs 0) 83)) (w_ei ws (w_ar ws (n_v vs 0) 84)) (w_ei w1 (w_ar ws (n_v vs 0) 84)) (w_ei w2 (w_ar ws (n_v vs 0) 84)) (w_ei w3 (w_ar ws (n_v vs 0) 84)) (w_ei w4 (w_ar ws (n_v vs 0) 84)) (w_ei ws (w_ar ws (n_v vs 0) 85)) (w_ei w1 (w_ar ws (n_v vs 0) 85)) (w_ei w2 (w_ar ws (n_v vs 0) 85)) (w_ei w3 (w_ar ws (n_v vs 0) 85)) (w_ei w4 (w_ar ws (n_v vs 0) 85)) (w_ei ws (w_ar ws (n_v vs 0) 86)) (w_ei w1 (w_ar ws (n_v vs 0) 86)) (w_ei w2 (w_ar ws (n_v vs 0) 86)) (w_ei w3 (w_ar ws (n_v vs 0) 86)) (w_ei w4 (w_ar ws (n_v vs 0) 86)) (w_ei ws (w_ar ws (n_v vs 0) 87)) (w_ei w1 (w_ar ws (n_v vs 0) 87)) (w_ei w2 (w_ar ws (n_v vs 0) 87)) (w_ei w3 (w_ar ws (n_v vs 0) 87)) (w_ei w4 (w_ar ws (n_v vs 0) 87)) (w_ei ws (w_ar ws (n_v vs 0) 88)) (w_ei w1 (w_ar ws (n_v vs 0) 88)) (w_ei w2 (w_ar ws (n_v vs 0) 88)) (w_ei w3 (w_ar ws (n_v vs 0) 88)) (w_ei w4 (w_ar ws (n_v vs 0) 88)) (w_ei ws (w_ar ws (n_v vs 0) 89)) (w_ei w1 (w_ar ws (n_v vs 0) 89)) (w_ei w2 (w_ar ws (n_v vs 0) 89)) (w_ei w3 (w_ar ws (n_v vs 0) 89)) (w_ei w4 (w_ar ws (n_v vs 0) 89)) k1 k2 k3 k4 k5 k7 k11 k12 d0 (shm_508 f0) (shm_509 f1) (shm_12 f3) g4 (shm_557 f5) f6 f7 (shm_557 f10) f11 f12 (shm_557 f15) f16 f17 (shm_557 f20) f21 f22 (shm_557 f25) f26 f27 f28 fe_0_5_1 fe_0_80_1 fe_0_81_1 fe_0_5_2 fe_0_80_2 fe_0_81_2 fe_0_5_3 fe_0_80_3 fe_0_81_3 fe_0_5_4 fe_0_80_4 fe_0_81_4 fe_0_5_5 fe_0_80_5 fe_0_81_5 hE_0_2_1 hE_0_2_2 hE_0_2_3 hE_0_2_4 hE_0_2_5 hE_0_83_1 hE_0_83_2 hE_0_83_3 hE_0_83_4 hE_0_83_5 hK_0_83 hE_0_84_1 hE_0_84_2 hE_0_84_3 hE_0_84_4 hE_0_84_5 hK_0_84 hE_0_85_1 hE_0_85_2 hE_0_85_3 hE_0_85_4 hE_0_85_5 hK_0_85 hE_0_86_1 hE_0_86_2 hE_0_86_3 hE_0_86_4 hE_0_86_5 hK_0_86 hE_0_87_1 hE_0_87_2 hE_0_87_3 hE_0_87_4 hE_0_87_5 hK_0_87 hE_0_88_1 hE_0_88_2 hE_0_88_3 hE_0_88_4 hE_0_88_5 hK_0_88 hE_0_89_1 hE_0_89_2 hE_0_89_3 hE_0_89_4 hE_0_89_5 hK_0_89 hE_0_95_1 hE_0_95_2 hE_0_95_3 hE_0_95_4 hE_0_95_5 hK_0_95 kz_0_80 kz_0_81)⟩
  refine ⟨(fun _ h => (by cases h)), [], trivial, ?_, (fun _ h => (by cases h))⟩
  rw [List.append_nil]
  exact List.forall_mem_cons.mpr ⟨⟨show (20 : Nat) < 100 from by decide, nf0⟩, List.forall_mem_cons.mpr ⟨⟨show (20 : Nat) < 100 from by decide, nf1⟩, (fun _ h => (by cases h))⟩⟩
def n_Mo_cost_at_gl_an : List an_T := []
def t_Mo_cost_at_gl_ct : ct_L := []
set_option maxRecDepth 100000 in
theorem c_Mo_cost_at_gl {l : Launch} {D : va_G} {kA : Nat → ClassId} : ct_ok PRD l D kA GG y_Mo_cost_at_gl z_Mo_cost_at_gl e_Mo_cost_at_gl := chk_all_ok (FT := [(177, 13, 83), (180, 13, 84), (183, 13, 85), (186, 13, 86), (777, 13, 80)]) (PT := [(777, 13, 80, .int)]) (CT := t_Mo_cost_at_gl_ct) (KT := []) (NT := []) (AN := n_Mo_cost_at_gl_an) (OT := [o_Mo_cost_at_gl_0, o_Mo_cost_at_gl_1]) 0 200 (List.forall_mem_cons.mpr ⟨oo_Mo_cost_at_gl_0, List.forall_mem_cons.mpr ⟨oo_Mo_cost_at_gl_1, List.forall_mem_nil _⟩⟩) (by decide +kernel) ⟨List.forall_mem_cons.mpr ⟨gf_Mo_177, List.forall_mem_cons.mpr ⟨gf_Mo_180, List.forall_mem_cons.mpr ⟨gf_Mo_183, List.forall_mem_cons.mpr ⟨gf_Mo_186, List.forall_mem_cons.mpr ⟨gf_Mo_777, List.forall_mem_nil _⟩⟩⟩⟩⟩, List.forall_mem_cons.mpr ⟨pf_Mo_777, List.forall_mem_nil _⟩, List.forall_mem_nil _, List.forall_mem_nil _, List.forall_mem_nil _, GG_pl⟩ (by decide +kernel)
set_option maxHeartbeats 4000000 in
theorem vc_Mo_dx_0_0 (x0 : Int) (x1 : Int) (x2 : Int) (k0 : 1 ≤ x0 ∧ x0 ≤ 3) (k1 : 2 ≤ x1 ∧ x1 ≤ 2) (k2 : 0 ≤ x2 ∧ x2 ≤ 0) (f0 : x0 ≠ x1) (f1 : x0 ≠ 0) : ((x0 = 0) ∧ (x2 = 1)) ∨ (((x0 = 2) ∧ (x2 = (-1))) ∨ ((x0 ≠ 0) ∧ ((x0 ≠ 2) ∧ (x2 = 0)))) := by
  first | assumption | omega | grind
def o_Mo_dx_0 : or_T := (18, 3, [(0, (0, 1, 3, [])), (1, (0, 2, 2, [])), (2, (0, 0, 0, []))], [(7, [0, 1], [1]), (8, [0], [1])], [], [], [(20, [0, 2], [50, 0, 0, 3, 14, 2, 6, 1, 2, 1, 0, 0, 0, 1, 2, 1, 1, 0, 1, 3, 14, 2, 6, 1, 2, 1, 0, 0, 2, 1, 2, 1, 1, 0, -1, 2, 6, 7, 2, 1, 0, 0, 0, 2, 6, 7, 2, 1, 0, 0, 2, 1, 2, 1, 1, 0, 0])], [], [])
theorem oo_Mo_dx_0 {kA : Nat → ClassId} : or_ok PRD kA GG o_Mo_dx_0 := by
  refine or_mk fun A ta ws vs hD hth hl => ?_
  intro t0 k0 t1 k1 t2 k2 f0 f1
  have nf0 : fc_1 PRD (20, [0, 2], [50, 0, 0, 3, 14, 2, 6, 1, 2, 1, 0, 0, 0, 1, 2, 1, 1, 0, 1, 3, 14, 2, 6, 1, 2, 1, 0, 0, 2, 1, 2, 1, 1, 0, -1, 2, 6, 7, 2, 1, 0, 0, 0, 2, 6, 7, 2, 1, 0, 0, 2, 1, 2, 1, 1, 0, 0]) ws (vs) := ⟨nf_in hl rfl, sgq_564 (vc_Mo_dx_0_0 (v_iv (n_v vs 0)) (v_iv (n_v vs 1)) (v_iv (n_v vs 2)) k0 k1 k2 (shm_40 f0) (shm_142 f1))⟩
  refine ⟨(fun _ h => (by cases h)), [], trivial, ?_, (fun _ h => (by cases h))⟩
  rw [List.append_nil]
  exact List.forall_mem_cons.mpr ⟨⟨show (20 : Nat) < 100 from by decide, nf0⟩, (fun _ h => (by cases h))⟩
set_option maxHeartbeats 4000000 in
theorem vc_Mo_dx_1_0 (x0 : Int) (x1 : Int) (x2 : Int) (k0 : 2 ≤ x0 ∧ x0 ≤ 2) (k1 : 2 ≤ x1 ∧ x1 ≤ 2) (k2 : (-1) ≤ x2 ∧ x2 ≤ (-1)) (f0 : x0 = x1) (f1 : x0 ≠ 0) : ((x0 = 0) ∧ (x2 = 1)) ∨ (((x0 = 2) ∧ (x2 = (-1))) ∨ ((x0 ≠ 0) ∧ ((x0 ≠ 2) ∧ (x2 = 0)))) := by
  first | assumption | omega | grind
def o_Mo_dx_1 : or_T := (18, 3, [(0, (0, 2, 2, [])), (1, (0, 2, 2, [])), (2, (0, -1, -1, []))], [(7, [0, 1], [0]), (8, [0], [1])], [], [], [(20, [0, 2], [50, 0, 0, 3, 14, 2, 6, 1, 2, 1, 0, 0, 0, 1, 2, 1, 1, 0, 1, 3, 14, 2, 6, 1, 2, 1, 0, 0, 2, 1, 2, 1, 1, 0, -1, 2, 6, 7, 2, 1, 0, 0, 0, 2, 6, 7, 2, 1, 0, 0, 2, 1, 2, 1, 1, 0, 0])], [], [])
theorem oo_Mo_dx_1 {kA : Nat → ClassId} : or_ok PRD kA GG o_Mo_dx_1 := by
  refine or_mk fun A ta ws vs hD hth hl => ?_
  intro t0 k0 t1 k1 t2 k2 f0 f1
  have nf0 : fc_1 PRD (20, [0, 2], [50, 0, 0, 3, 14, 2, 6, 1, 2, 1, 0, 0, 0, 1, 2, 1, 1, 0, 1, 3, 14, 2, 6, 1, 2, 1, 0, 0, 2, 1, 2, 1, 1, 0, -1, 2, 6, 7, 2, 1, 0, 0, 0, 2, 6, 7, 2, 1, 0, 0, 2, 1, 2, 1, 1, 0, 0]) ws (vs) := ⟨nf_in hl rfl, sgq_564 (vc_Mo_dx_1_0 (v_iv (n_v vs 0)) (v_iv (n_v vs 1)) (v_iv (n_v vs 2)) k0 k1 k2 (shm_37 f0) (shm_142 f1))⟩
  refine ⟨(fun _ h => (by cases h)), [], trivial, ?_, (fun _ h => (by cases h))⟩
  rw [List.append_nil]
  exact List.forall_mem_cons.mpr ⟨⟨show (20 : Nat) < 100 from by decide, nf0⟩, (fun _ h => (by cases h))⟩
set_option maxHeartbeats 4000000 in
theorem vc_Mo_dx_2_0 (x0 : Int) (x1 : Int) (k0 : 0 ≤ x0 ∧ x0 ≤ 0) (k1 : 1 ≤ x1 ∧ x1 ≤ 1) (f0 : x0 = 0) : ((x0 = 0) ∧ (x1 = 1)) ∨ (((x0 = 2) ∧ (x1 = (-1))) ∨ ((x0 ≠ 0) ∧ ((x0 ≠ 2) ∧ (x1 = 0)))) := by
  first | assumption | omega | grind
def o_Mo_dx_2 : or_T := (18, 2, [(0, (0, 0, 0, [])), (1, (0, 1, 1, []))], [(8, [0], [0])], [], [], [(20, [0, 1], [50, 0, 0, 3, 14, 2, 6, 1, 2, 1, 0, 0, 0, 1, 2, 1, 1, 0, 1, 3, 14, 2, 6, 1, 2, 1, 0, 0, 2, 1, 2, 1, 1, 0, -1, 2, 6, 7, 2, 1, 0, 0, 0, 2, 6, 7, 2, 1, 0, 0, 2, 1, 2, 1, 1, 0, 0])], [], [])
theorem oo_Mo_dx_2 {kA : Nat → ClassId} : or_ok PRD kA GG o_Mo_dx_2 := by
  refine or_mk fun A ta ws vs hD hth hl => ?_
  intro t0 k0 t1 k1 f0
  have nf0 : fc_1 PRD (20, [0, 1], [50, 0, 0, 3, 14, 2, 6, 1, 2, 1, 0, 0, 0, 1, 2, 1, 1, 0, 1, 3, 14, 2, 6, 1, 2, 1, 0, 0, 2, 1, 2, 1, 1, 0, -1, 2, 6, 7, 2, 1, 0, 0, 0, 2, 6, 7, 2, 1, 0, 0, 2, 1, 2, 1, 1, 0, 0]) ws (vs) := ⟨nf_in hl rfl, sgq_564 (vc_Mo_dx_2_0 (v_iv (n_v vs 0)) (v_iv (n_v vs 1)) k0 k1 (shm_192 f0))⟩
  refine ⟨(fun _ h => (by cases h)), [], trivial, ?_, (fun _ h => (by cases h))⟩
  rw [List.append_nil]
  exact List.forall_mem_cons.mpr ⟨⟨show (20 : Nat) < 100 from by decide, nf0⟩, (fun _ h => (by cases h))⟩
def n_Mo_dx_an : List an_T := []
def t_Mo_dx_ct : ct_L := []
set_option maxRecDepth 100000 in
theorem c_Mo_dx {l : Launch} {D : va_G} {kA : Nat → ClassId} : ct_ok PRD l D kA GG y_Mo_dx z_Mo_dx e_Mo_dx := chk_all_ok (FT := []) (PT := []) (CT := t_Mo_dx_ct) (KT := []) (NT := []) (AN := n_Mo_dx_an) (OT := [o_Mo_dx_0, o_Mo_dx_1, o_Mo_dx_2]) 0 200 (List.forall_mem_cons.mpr ⟨oo_Mo_dx_0, List.forall_mem_cons.mpr ⟨oo_Mo_dx_1, List.forall_mem_cons.mpr ⟨oo_Mo_dx_2, List.forall_mem_nil _⟩⟩⟩) (by decide +kernel) ⟨List.forall_mem_nil _, List.forall_mem_nil _, List.forall_mem_nil _, List.forall_mem_nil _, List.forall_mem_nil _, GG_pl⟩ (by decide +kernel)
set_option maxHeartbeats 4000000 in
theorem vc_Mo_dy_0_0 (x0 : Int) (x1 : Int) (x2 : Int) (x3 : Int) (k0 : 0 ≤ x0 ∧ x0 ≤ 2) (k1 : 1 ≤ x1 ∧ x1 ≤ 1) (k2 : 3 ≤ x2 ∧ x2 ≤ 3) (k3 : 0 ≤ x3 ∧ x3 ≤ 0) (f0 : x0 ≠ x2) (f1 : x0 ≠ x1) : ((x0 = 1) ∧ (x3 = 1)) ∨ (((x0 = 3) ∧ (x3 = (-1))) ∨ ((x0 ≠ 1) ∧ ((x0 ≠ 3) ∧ (x3 = 0)))) := by
  first | assumption | omega | grind
def o_Mo_dy_0 : or_T := (19, 4, [(0, (0, 0, 2, [])), (1, (0, 1, 1, [])), (2, (0, 3, 3, [])), (3, (0, 0, 0, []))], [(7, [0, 2], [1]), (7, [0, 1], [1])], [], [], [(20, [0, 3], [50, 0, 0, 3, 14, 2, 6, 1, 2, 1, 0, 0, 1, 1, 2, 1, 1, 0, 1, 3, 14, 2, 6, 1, 2, 1, 0, 0, 3, 1, 2, 1, 1, 0, -1, 2, 6, 7, 2, 1, 0, 0, 1, 2, 6, 7, 2, 1, 0, 0, 3, 1, 2, 1, 1, 0, 0])], [], [])
theorem oo_Mo_dy_0 {kA : Nat → ClassId} : or_ok PRD kA GG o_Mo_dy_0 := by
  refine or_mk fun A ta ws vs hD hth hl => ?_
  intro t0 k0 t1 k1 t2 k2 t3 k3 f0 f1
  have nf0 : fc_1 PRD (20, [0, 3], [50, 0, 0, 3, 14, 2, 6, 1, 2, 1, 0, 0, 1, 1, 2, 1, 1, 0, 1, 3, 14, 2, 6, 1, 2, 1, 0, 0, 3, 1, 2, 1, 1, 0, -1, 2, 6, 7, 2, 1, 0, 0, 1, 2, 6, 7, 2, 1, 0, 0, 3, 1, 2, 1, 1, 0, 0]) ws (vs) := ⟨nf_in hl rfl, sgq_565 (vc_Mo_dy_0_0 (v_iv (n_v vs 0)) (v_iv (n_v vs 1)) (v_iv (n_v vs 2)) (v_iv (n_v vs 3)) k0 k1 k2 k3 (shm_40 f0) (shm_40 f1))⟩
  refine ⟨(fun _ h => (by cases h)), [], trivial, ?_, (fun _ h => (by cases h))⟩
  rw [List.append_nil]
  exact List.forall_mem_cons.mpr ⟨⟨show (20 : Nat) < 100 from by decide, nf0⟩, (fun _ h => (by cases h))⟩
set_option maxHeartbeats 4000000 in
theorem vc_Mo_dy_1_0 (x0 : Int) (x1 : Int) (x2 : Int) (x3 : Int) (k0 : 3 ≤ x0 ∧ x0 ≤ 3) (k1 : 1 ≤ x1 ∧ x1 ≤ 1) (k2 : 3 ≤ x2 ∧ x2 ≤ 3) (k3 : (-1) ≤ x3 ∧ x3 ≤ (-1)) (f0 : x0 = x2) (f1 : x0 ≠ x1) : ((x0 = 1) ∧ (x3 = 1)) ∨ (((x0 = 3) ∧ (x3 = (-1))) ∨ ((x0 ≠ 1) ∧ ((x0 ≠ 3) ∧ (x3 = 0)))) := by
  first | assumption | omega | grind
def o_Mo_dy_1 : or_T := (19, 4, [(0, (0, 3, 3, [])), (1, (0, 1, 1, [])), (2, (0, 3, 3, [])), (3, (0, -1, -1, []))], [(7, [0, 2], [0]), (7, [0, 1], [1])], [], [], [(20, [0, 3], [50, 0, 0, 3, 14, 2, 6, 1, 2, 1, 0, 0, 1, 1, 2, 1, 1, 0, 1, 3, 14, 2, 6, 1, 2, 1, 0, 0, 3, 1, 2, 1, 1, 0, -1, 2, 6, 7, 2, 1, 0, 0, 1, 2, 6, 7, 2, 1, 0, 0, 3, 1, 2, 1, 1, 0, 0])], [], [])
theorem oo_Mo_dy_1 {kA : Nat → ClassId} : or_ok PRD kA GG o_Mo_dy_1 := by
  refine or_mk fun A ta ws vs hD hth hl => ?_
  intro t0 k0 t1 k1 t2 k2 t3 k3 f0 f1
  have nf0 : fc_1 PRD (20, [0, 3], [50, 0, 0, 3, 14, 2, 6, 1, 2, 1, 0, 0, 1, 1, 2, 1, 1, 0, 1, 3, 14, 2, 6, 1, 2, 1, 0, 0, 3, 1, 2, 1, 1, 0, -1, 2, 6, 7, 2, 1, 0, 0, 1, 2, 6, 7, 2, 1, 0, 0, 3, 1, 2, 1, 1, 0, 0]) ws (vs) := ⟨nf_in hl rfl, sgq_565 (vc_Mo_dy_1_0 (v_iv (n_v vs 0)) (v_iv (n_v vs 1)) (v_iv (n_v vs 2)) (v_iv (n_v vs 3)) k0 k1 k2 k3 (shm_37 f0) (shm_40 f1))⟩
  refine ⟨(fun _ h => (by cases h)), [], trivial, ?_, (fun _ h => (by cases h))⟩
  rw [List.append_nil]
  exact List.forall_mem_cons.mpr ⟨⟨show (20 : Nat) < 100 from by decide, nf0⟩, (fun _ h => (by cases h))⟩
set_option maxHeartbeats 4000000 in
theorem vc_Mo_dy_2_0 (x0 : Int) (x1 : Int) (x2 : Int) (k0 : 1 ≤ x0 ∧ x0 ≤ 1) (k1 : 1 ≤ x1 ∧ x1 ≤ 1) (k2 : 1 ≤ x2 ∧ x2 ≤ 1) (f0 : x0 = x1) : ((x0 = 1) ∧ (x2 = 1)) ∨ (((x0 = 3) ∧ (x2 = (-1))) ∨ ((x0 ≠ 1) ∧ ((x0 ≠ 3) ∧ (x2 = 0)))) := by
  first | assumption | omega | grind
def o_Mo_dy_2 : or_T := (19, 3, [(0, (0, 1, 1, [])), (1, (0, 1, 1, [])), (2, (0, 1, 1, []))], [(7, [0, 1], [0])], [], [], [(20, [0, 2], [50, 0, 0, 3, 14, 2, 6, 1, 2, 1, 0, 0, 1, 1, 2, 1, 1, 0, 1, 3, 14, 2, 6, 1, 2, 1, 0, 0, 3, 1, 2, 1, 1, 0, -1, 2, 6, 7, 2, 1, 0, 0, 1, 2, 6, 7, 2, 1, 0, 0, 3, 1, 2, 1, 1, 0, 0])], [], [])
theorem oo_Mo_dy_2 {kA : Nat → ClassId} : or_ok PRD kA GG o_Mo_dy_2 := by
  refine or_mk fun A ta ws vs hD hth hl => ?_
  intro t0 k0 t1 k1 t2 k2 f0
  have nf0 : fc_1 PRD (20, [0, 2], [50, 0, 0, 3, 14, 2, 6, 1, 2, 1, 0, 0, 1, 1, 2, 1, 1, 0, 1, 3, 14, 2, 6, 1, 2, 1, 0, 0, 3, 1, 2, 1, 1, 0, -1, 2, 6, 7, 2, 1, 0, 0, 1, 2, 6, 7, 2, 1, 0, 0, 3, 1, 2, 1, 1, 0, 0]) ws (vs) := ⟨nf_in hl rfl, sgq_565 (vc_Mo_dy_2_0 (v_iv (n_v vs 0)) (v_iv (n_v vs 1)) (v_iv (n_v vs 2)) k0 k1 k2 (shm_37 f0))⟩
  refine ⟨(fun _ h => (by cases h)), [], trivial, ?_, (fun _ h => (by cases h))⟩
  rw [List.append_nil]
  exact List.forall_mem_cons.mpr ⟨⟨show (20 : Nat) < 100 from by decide, nf0⟩, (fun _ h => (by cases h))⟩
def n_Mo_dy_an : List an_T := []
def t_Mo_dy_ct : ct_L := []
set_option maxRecDepth 100000 in
theorem c_Mo_dy {l : Launch} {D : va_G} {kA : Nat → ClassId} : ct_ok PRD l D kA GG y_Mo_dy z_Mo_dy e_Mo_dy := chk_all_ok (FT := []) (PT := []) (CT := t_Mo_dy_ct) (KT := []) (NT := []) (AN := n_Mo_dy_an) (OT := [o_Mo_dy_0, o_Mo_dy_1, o_Mo_dy_2]) 0 200 (List.forall_mem_cons.mpr ⟨oo_Mo_dy_0, List.forall_mem_cons.mpr ⟨oo_Mo_dy_1, List.forall_mem_cons.mpr ⟨oo_Mo_dy_2, List.forall_mem_nil _⟩⟩⟩) (by decide +kernel) ⟨List.forall_mem_nil _, List.forall_mem_nil _, List.forall_mem_nil _, List.forall_mem_nil _, List.forall_mem_nil _, GG_pl⟩ (by decide +kernel)
set_option maxHeartbeats 4000000 in
theorem vc_Mo_feed_0_0 (x6 : Int) (x7 : Int) (x9 : Int) (x11 : Int) (taped_0 : Int) (tape_0 : Int → Int) (tape_0o8 : Int → Int) (k6 : 0 ≤ x6 ∧ x6 ≤ 2000) (k7 : (-1) ≤ x7 ∧ x7 ≤ 2000) (k9 : 0 ≤ x9 ∧ x9 ≤ 1980) (k11 : 20 ≤ x11 ∧ x11 ≤ 2000) (d0 : x9 + 20 ≤ x11 ∧ x11 ≤ x9 + 20) (g2 : x9 = taped_0) (f3 : (((taped_0 + 20) ≤ 2000) ∧ ((x6 = (taped_0 + 20)) ∧ (x7 = x6))) ∨ ((1981 ≤ taped_0) ∧ ((x6 = taped_0) ∧ (x7 = (-1))))) (hK_0_1 : ∀ j : Int, 0 ≤ j → j < 2000 → (-128) ≤ tape_0 j ∧ tape_0 j ≤ 127) (hK_8_0 : ∀ j : Int, 0 ≤ j → j < 2000 → (-128) ≤ tape_0o8 j ∧ tape_0o8 j ≤ 127) (kz_0_0 : 0 ≤ taped_0 ∧ taped_0 ≤ 2000) : x7 = x6 := by
  first | with_reducible assumption | ((try and_intros) <;> first | with_reducible assumption | (clear f3 hK_0_1 hK_8_0; omega)) | ((try and_intros) <;> first | with_reducible assumption | (clear hK_0_1 hK_8_0; omega)) | omega
def o_Mo_feed_0 : or_T := (15, 13, [(0, (2, 0, 0, [165])), (6, (0, 0, 2000, [])), (7, (0, -1, 2000, [])), (8, (2, 0, 0, [8])), (9, (0, 0, 1980, [])), (11, (0, 20, 2000, []))], [(9, [9, 0], [0]), (20, [0, 6, 7], [50, 1, 0, 0, 3, 32, 2, 11, 0, 7, 4, 3, 2, 0, 0, 0, 20, 0, 2000, 2, 11, 1, 2, 1, 1, 4, 3, 2, 0, 0, 0, 20, 1, 2, 1, 2, 1, 1, 2, 7, 0, 2, 0, 1981, 2, 0, 0, 2, 7, 1, 2, 1, 1, 2, 0, 0, 1, 2, 1, 2, 0, -1])], [], [], [(20, [7, 6], [50, 0, 0, 1, 2, 1, 0, 1, 1])], [], [(11, 9, 20, 20)])
theorem oo_Mo_feed_0 {kA : Nat → ClassId} : or_ok PRD kA GG o_Mo_feed_0 := by
  refine or_mk fun A ta ws vs hD hth hl => ?_
  intro t0 r0 t6 k6 t7 k7 t8 r8 t9 k9 t11 k11 d0 f2 f3
  replace f2 := shm_163 f2
  have cr_0_1 := fdq_39 hD hth r0
  have cr_8_0 := fdq_95 hD hth r8
  have g2 : v_iv (n_v vs 9) = w_fi ws (n_v vs 0) 0 := congrArg v_iv f2
  have hK_0_1 := elq_7 hD hth cr_0_1
  have hK_8_0 := elq_33 hD hth cr_8_0
  have kz_0_0 := fdq_148 hD hth r0
  have nf0 : fc_1 PRD (20, [7, 6], [50, 0, 0, 1, 2, 1, 0, 1, 1]) ws (vs) := ⟨nf_in hl rfl, sgq_48 (vc_Mo_feed_0_0 (v_iv (n_v vs 6)) (v_iv (n_v vs 7)) (v_iv (n_v vs 9)) (v_iv (n_v vs 11)) (w_fi ws (n_v vs 0) 0) (w_ei ws (w_ar ws (n_v vs 0) 1)) (w_ei ws (w_ar ws (n_v vs 8) 0)) k6 k7 k9 k11 d0 g2 (shm_566 f3) hK_0_1 hK_8_0 kz_0_0)⟩
  refine ⟨(fun _ h => (by cases h)), [], trivial, ?_, (fun _ h => (by cases h))⟩
  rw [List.append_nil]
  exact List.forall_mem_cons.mpr ⟨⟨show (20 : Nat) < 100 from by decide, nf0⟩, (fun _ h => (by cases h))⟩
set_option maxHeartbeats 4000000 in
theorem vc_Mo_feed_1_0 (x6 : Int) (x7 : Int) (x9 : Int) (x11 : Int) (x13 : Int) (taped_0 : Int) (tape_0 : Int → Int) (tape_0o8 : Int → Int) (k6 : 0 ≤ x6 ∧ x6 ≤ 2000) (k7 : (-1) ≤ x7 ∧ x7 ≤ 2000) (k9 : 0 ≤ x9 ∧ x9 ≤ 1980) (k11 : 20 ≤ x11 ∧ x11 ≤ 2000) (k13 : 0 ≤ x13 ∧ x13 ≤ 0) (d0 : x9 + 20 ≤ x11 ∧ x11 ≤ x9 + 20) (f0 : x7 = x6) (g3 : x9 = taped_0) (f4 : (((taped_0 + 20) ≤ 2000) ∧ ((x6 = (taped_0 + 20)) ∧ (x7 = x6))) ∨ ((1981 ≤ taped_0) ∧ ((x6 = taped_0) ∧ (x7 = (-1))))) (hK_0_1 : ∀ j : Int, 0 ≤ j → j < 2000 → (-128) ≤ tape_0 j ∧ tape_0 j ≤ 127) (hK_8_0 : ∀ j : Int, 0 ≤ j → j < 2000 → (-128) ≤ tape_0o8 j ∧ tape_0o8 j ≤ 127) (kz_0_0 : 0 ≤ taped_0 ∧ taped_0 ≤ 2000) : (taped_0 + 20) = (x6 + x13) := by
  first | with_reducible assumption | ((try and_intros) <;> first | with_reducible assumption | (clear f4 hK_0_1 hK_8_0; omega)) | ((try and_intros) <;> first | with_reducible assumption | (clear hK_0_1 hK_8_0; omega)) | omega
set_option maxHeartbeats 4000000 in
theorem vc_Mo_feed_1_1 (x1 : Int) (x2 : Int) (x3 : Int) (x4 : Int) (x5 : Int) (x6 : Int) (x7 : Int) (x9 : Int) (x13 : Int) (taped_0 : Int) (tape_0 : Int → Int) (tape_0o8 : Int → Int) (k1 : (-2147483648) ≤ x1 ∧ x1 ≤ 2147483647) (k2 : (-2147483648) ≤ x2 ∧ x2 ≤ 2147483647) (k3 : (-2147483648) ≤ x3 ∧ x3 ≤ 2147483647) (k4 : (-2147483648) ≤ x4 ∧ x4 ≤ 2147483647) (k5 : (-2147483648) ≤ x5 ∧ x5 ≤ 2147483647) (k6 : 0 ≤ x6 ∧ x6 ≤ 2000) (k7 : (-1) ≤ x7 ∧ x7 ≤ 2000) (k9 : 0 ≤ x9 ∧ x9 ≤ 1980) (k13 : 0 ≤ x13 ∧ x13 ≤ 0) (f0 : x7 = x6) (g3 : x9 = taped_0) (f5 : TFX (taped_0) (tape_0) (tape_0o8) (x1) (x2) (x3) (x4) (x5) (x6) (x7)) (kz_0_0 : 0 ≤ taped_0 ∧ taped_0 ≤ 2000) : TFL (taped_0) (tape_0) (tape_0o8) (x1) (x2) (x3) (x4) (x5) (x13) := by
  first | subst g3 | skip
  first
    | exact tfl_0 ‹TFX _ _ _ _ _ _ _ _ _ _› (by have h := tfx_u ‹TFX _ _ _ _ _ _ _ _ _ _›; omega) (by omega)
    | exact tfl_s (m := x26) ‹TFL _ _ _ _ _ _ _ _ _› (by omega) (by assumption) (by omega) (by assumption) (by assumption) (by omega) (by omega) (by omega) (by omega) (by omega)
    | exact tfl_s (m := x25) ‹TFL _ _ _ _ _ _ _ _ _› (by omega) (by assumption) (by omega) (by assumption) (by assumption) (by omega) (by omega) (by omega) (by omega) (by omega)
    | exact tfl_s (m := x24) ‹TFL _ _ _ _ _ _ _ _ _› (by omega) (by assumption) (by omega) (by assumption) (by assumption) (by omega) (by omega) (by omega) (by omega) (by omega)
    | exact tfl_s (m := x23) ‹TFL _ _ _ _ _ _ _ _ _› (by omega) (by assumption) (by omega) (by assumption) (by assumption) (by omega) (by omega) (by omega) (by omega) (by omega)
    | exact tfl_s (m := x22) ‹TFL _ _ _ _ _ _ _ _ _› (by omega) (by assumption) (by omega) (by assumption) (by assumption) (by omega) (by omega) (by omega) (by omega) (by omega)
    | exact tfl_s (m := x27) ‹TFL _ _ _ _ _ _ _ _ _› (by omega) (by assumption) (by omega) (by assumption) (by assumption) (by omega) (by omega) (by omega) (by omega) (by omega)
def o_Mo_feed_1 : or_T := (18, 14, [(0, (2, 0, 0, [165])), (1, (0, -2147483648, 2147483647, [])), (2, (0, -2147483648, 2147483647, [])), (3, (0, -2147483648, 2147483647, [])), (4, (0, -2147483648, 2147483647, [])), (5, (0, -2147483648, 2147483647, [])), (6, (0, 0, 2000, [])), (7, (0, -1, 2000, [])), (8, (2, 0, 0, [8])), (9, (0, 0, 1980, [])), (11, (0, 20, 2000, [])), (13, (0, 0, 0, []))], [(20, [7, 6], [50, 0, 0, 1, 2, 1, 0, 1, 1]), (9, [9, 0], [0]), (20, [0, 6, 7], [50, 1, 0, 0, 3, 32, 2, 11, 0, 7, 4, 3, 2, 0, 0, 0, 20, 0, 2000, 2, 11, 1, 2, 1, 1, 4, 3, 2, 0, 0, 0, 20, 1, 2, 1, 2, 1, 1, 2, 7, 0, 2, 0, 1981, 2, 0, 0, 2, 7, 1, 2, 1, 1, 2, 0, 0, 1, 2, 1, 2, 0, -1]), (20, [0, 8, 1, 2, 3, 4, 5, 6, 7], [60, 1, 2, 1107, 0, 1, 1000])], [], [], [(20, [0, 6, 13], [50, 1, 0, 0, 1, 7, 4, 3, 2, 0, 0, 0, 20, 4, 2, 1, 1, 1, 2]), (20, [0, 8, 1, 2, 3, 4, 5, 13], [60, 1, 2, 1108, 0, 1, 1000]), (24, [0, 0], []), (24, [1, 1], []), (24, [2, 2], []), (24, [3, 3], []), (24, [4, 4], []), (24, [5, 5], [])], [], [(11, 9, 20, 20)])
theorem oo_Mo_feed_1 {kA : Nat → ClassId} : or_ok PRD kA GG o_Mo_feed_1 := by
  refine or_mk fun A ta ws vs hD hth hl => ?_
  intro t0 r0 t1 k1 t2 k2 t3 k3 t4 k4 t5 k5 t6 k6 t7 k7 t8 r8 t9 k9 t11 k11 t13 k13 d0 f0 f3 f4 f5
  replace f3 := shm_163 f3
  have cr_0_1 := fdq_39 hD hth r0
  have cr_8_0 := fdq_95 hD hth r8
  have g3 : v_iv (n_v vs 9) = w_fi ws (n_v vs 0) 0 := congrArg v_iv f3
  have hK_0_1 := elq_7 hD hth cr_0_1
  have hK_8_0 := elq_33 hD hth cr_8_0
  have kz_0_0 := fdq_148 hD hth r0
  have nf0 : fc_1 PRD (20, [0, 6, 13], [50, 1, 0, 0, 1, 7, 4, 3, 2, 0, 0, 0, 20, 4, 2, 1, 1, 1, 2]) ws (vs) := ⟨nf_in hl rfl, sgq_568 (vc_Mo_feed_1_0 (v_iv (n_v vs 6)) (v_iv (n_v vs 7)) (v_iv (n_v vs 9)) (v_iv (n_v vs 11)) (v_iv (n_v vs 13)) (w_fi ws (n_v vs 0) 0) (w_ei ws (w_ar ws (n_v vs 0) 1)) (w_ei ws (w_ar ws (n_v vs 8) 0)) k6 k7 k9 k11 k13 d0 (shm_48 f0) g3 (shm_566 f4) hK_0_1 hK_8_0 kz_0_0)⟩
  have nf1 : fc_1 PRD (20, [0, 8, 1, 2, 3, 4, 5, 13], [60, 1, 2, 1108, 0, 1, 1000]) ws (vs) := ⟨nf_in hl rfl, sgq_569 (vc_Mo_feed_1_1 (v_iv (n_v vs 1)) (v_iv (n_v vs 2)) (v_iv (n_v vs 3)) (v_iv (n_v vs 4)) (v_iv (n_v vs 5)) (v_iv (n_v vs 6)) (v_iv (n_v vs 7)) (v_iv (n_v vs 9)) (v_iv (n_v vs 13)) (w_fi ws (n_v vs 0) 0) (w_ei ws (w_ar ws (n_v vs 0) 1)) (w_ei ws (w_ar ws (n_v vs 8) 0)) k1 k2 k3 k4 k5 k6 k7 k9 k13 (shm_48 f0) g3 (shm_567 f5) kz_0_0)⟩
  have nf2 : fc_1 PRD (24, [0, 0], []) ws (vs) := by
    refine ⟨nf_in hl rfl, sgq_1 ?_⟩
    · show n_v vs 0 = n_v vs 0
      first | rfl | simp only [true_and]
  have nf3 : fc_1 PRD (24, [1, 1], []) ws (vs) := by
    refine ⟨nf_in hl rfl, sgq_1 ?_⟩
    · show n_v vs 1 = n_v vs 1
      first | rfl | simp only [true_and]
  have nf4 : fc_1 PRD (24, [2, 2], []) ws (vs) := by
    refine ⟨nf_in hl rfl, sgq_1 ?_⟩
    · show n_v vs 2 = n_v vs 2
      first | rfl | simp only [true_and]
  have nf5 : fc_1 PRD (24, [3, 3], []) ws (vs) := by
    refine ⟨nf_in hl rfl, sgq_1 ?_⟩
    · show n_v vs 3 = n_v vs 3
      first | rfl | simp only [true_and]
  have nf6 : fc_1 PRD (24, [4, 4], []) ws (vs) := by
    refine ⟨nf_in hl rfl, sgq_1 ?_⟩
    · show n_v vs 4 = n_v vs 4
      first | rfl | simp only [true_and]
  have nf7 : fc_1 PRD (24, [5, 5], []) ws (vs) := by
    refine ⟨nf_in hl rfl, sgq_1 ?_⟩
    · show n_v vs 5 = n_v vs 5
      first | rfl | simp only [true_and]
  refine ⟨(fun _ h => (by cases h)), [], trivial, ?_, (fun _ h => (by cases h))⟩
  rw [List.append_nil]
  exact List.forall_mem_cons.mpr ⟨⟨show (20 : Nat) < 100 from by decide, nf0⟩, List.forall_mem_cons.mpr ⟨⟨show (20 : Nat) < 100 from by decide, nf1⟩, List.forall_mem_cons.mpr ⟨⟨show (24 : Nat) < 100 from by decide, nf2⟩, List.forall_mem_cons.mpr ⟨⟨show (24 : Nat) < 100 from by decide, nf3⟩, List.forall_mem_cons.mpr ⟨⟨show (24 : Nat) < 100 from by decide, nf4⟩, List.forall_mem_cons.mpr ⟨⟨show (24 : Nat) < 100 from by decide, nf5⟩, List.forall_mem_cons.mpr ⟨⟨show (24 : Nat) < 100 from by decide, nf6⟩, List.forall_mem_cons.mpr ⟨⟨show (24 : Nat) < 100 from by decide, nf7⟩, (fun _ h => (by cases h))⟩⟩⟩⟩⟩⟩⟩⟩
set_option maxHeartbeats 4000000 in
theorem vc_Mo_feed_2_0 (x6 : Int) (x7 : Int) (x9 : Int) (x11 : Int) (taped_0 : Int) (tape_0 : Int → Int) (tape_0o8 : Int → Int) (k6 : 0 ≤ x6 ∧ x6 ≤ 2000) (k7 : (-1) ≤ x7 ∧ x7 ≤ 2000) (k9 : 1981 ≤ x9 ∧ x9 ≤ 2000) (k11 : 2001 ≤ x11 ∧ x11 ≤ 2020) (d0 : x9 + 20 ≤ x11 ∧ x11 ≤ x9 + 20) (g2 : x9 = taped_0) (f3 : (((taped_0 + 20) ≤ 2000) ∧ ((x6 = (taped_0 + 20)) ∧ (x7 = x6))) ∨ ((1981 ≤ taped_0) ∧ ((x6 = taped_0) ∧ (x7 = (-1))))) (hK_0_1 : ∀ j : Int, 0 ≤ j → j < 2000 → (-128) ≤ tape_0 j ∧ tape_0 j ≤ 127) (hK_8_0 : ∀ j : Int, 0 ≤ j → j < 2000 → (-128) ≤ tape_0o8 j ∧ tape_0o8 j ≤ 127) (kz_0_0 : 0 ≤ taped_0 ∧ taped_0 ≤ 2000) : taped_0 = x6 := by
  first | with_reducible assumption | ((try and_intros) <;> first | with_reducible assumption | (clear f3 hK_0_1 hK_8_0; omega)) | ((try and_intros) <;> first | with_reducible assumption | (clear hK_0_1 hK_8_0; omega)) | omega
set_option maxHeartbeats 4000000 in
theorem vc_Mo_feed_2_1 (x6 : Int) (x7 : Int) (x9 : Int) (x11 : Int) (x13 : Int) (taped_0 : Int) (tape_0 : Int → Int) (tape_0o8 : Int → Int) (k6 : 0 ≤ x6 ∧ x6 ≤ 2000) (k7 : (-1) ≤ x7 ∧ x7 ≤ 2000) (k9 : 1981 ≤ x9 ∧ x9 ≤ 2000) (k11 : 2001 ≤ x11 ∧ x11 ≤ 2020) (k13 : (-1) ≤ x13 ∧ x13 ≤ (-1)) (d0 : x9 + 20 ≤ x11 ∧ x11 ≤ x9 + 20) (g2 : x9 = taped_0) (f3 : (((taped_0 + 20) ≤ 2000) ∧ ((x6 = (taped_0 + 20)) ∧ (x7 = x6))) ∨ ((1981 ≤ taped_0) ∧ ((x6 = taped_0) ∧ (x7 = (-1))))) (hK_0_1 : ∀ j : Int, 0 ≤ j → j < 2000 → (-128) ≤ tape_0 j ∧ tape_0 j ≤ 127) (hK_8_0 : ∀ j : Int, 0 ≤ j → j < 2000 → (-128) ≤ tape_0o8 j ∧ tape_0o8 j ≤ 127) (kz_0_0 : 0 ≤ taped_0 ∧ taped_0 ≤ 2000) : x13 = x7 := by
  first | with_reducible assumption | ((try and_intros) <;> first | with_reducible assumption | (clear f3 hK_0_1 hK_8_0; omega)) | ((try and_intros) <;> first | with_reducible assumption | (clear hK_0_1 hK_8_0; omega)) | omega
set_option maxHeartbeats 4000000 in
theorem vc_Mo_feed_2_2 (x1 : Int) (x2 : Int) (x3 : Int) (x4 : Int) (x5 : Int) (x6 : Int) (x7 : Int) (x9 : Int) (x11 : Int) (taped_0 : Int) (tape_0 : Int → Int) (tape_0o8 : Int → Int) (k1 : (-2147483648) ≤ x1 ∧ x1 ≤ 2147483647) (k2 : (-2147483648) ≤ x2 ∧ x2 ≤ 2147483647) (k3 : (-2147483648) ≤ x3 ∧ x3 ≤ 2147483647) (k4 : (-2147483648) ≤ x4 ∧ x4 ≤ 2147483647) (k5 : (-2147483648) ≤ x5 ∧ x5 ≤ 2147483647) (k6 : 0 ≤ x6 ∧ x6 ≤ 2000) (k7 : (-1) ≤ x7 ∧ x7 ≤ 2000) (k9 : 1981 ≤ x9 ∧ x9 ≤ 2000) (k11 : 2001 ≤ x11 ∧ x11 ≤ 2020) (d0 : x9 + 20 ≤ x11 ∧ x11 ≤ x9 + 20) (g2 : x9 = taped_0) (f4 : TFX (taped_0) (tape_0) (tape_0o8) (x1) (x2) (x3) (x4) (x5) (x6) (x7)) (kz_0_0 : 0 ≤ taped_0 ∧ taped_0 ≤ 2000) : TEQ (tape_0) (tape_0o8) (x6) := by
  exact teq_x ‹TFX _ _ _ _ _ _ _ _ _ _› (by have h := tfx_u ‹TFX _ _ _ _ _ _ _ _ _ _›; omega)
def o_Mo_feed_2 : or_T := (14, 14, [(0, (2, 0, 0, [165])), (1, (0, -2147483648, 2147483647, [])), (2, (0, -2147483648, 2147483647, [])), (3, (0, -2147483648, 2147483647, [])), (4, (0, -2147483648, 2147483647, [])), (5, (0, -2147483648, 2147483647, [])), (6, (0, 0, 2000, [])), (7, (0, -1, 2000, [])), (8, (2, 0, 0, [8])), (9, (0, 1981, 2000, [])), (11, (0, 2001, 2020, [])), (13, (0, -1, -1, []))], [(9, [9, 0], [0]), (20, [0, 6, 7], [50, 1, 0, 0, 3, 32, 2, 11, 0, 7, 4, 3, 2, 0, 0, 0, 20, 0, 2000, 2, 11, 1, 2, 1, 1, 4, 3, 2, 0, 0, 0, 20, 1, 2, 1, 2, 1, 1, 2, 7, 0, 2, 0, 1981, 2, 0, 0, 2, 7, 1, 2, 1, 1, 2, 0, 0, 1, 2, 1, 2, 0, -1]), (20, [0, 8, 1, 2, 3, 4, 5, 6, 7], [60, 1, 2, 1107, 0, 1, 1000])], [], [], [(20, [0, 6], [50, 1, 0, 0, 1, 3, 2, 0, 0, 1, 1]), (20, [13, 7], [50, 0, 0, 1, 2, 1, 0, 1, 1]), (20, [0, 8, 6], [60, 0, 2, 1109, 1, 1000])], [], [(11, 9, 20, 20)])
theorem oo_Mo_feed_2 {kA : Nat → ClassId} : or_ok PRD kA GG o_Mo_feed_2 := by
  refine or_mk fun A ta ws vs hD hth hl => ?_
  intro t0 r0 t1 k1 t2 k2 t3 k3 t4 k4 t5 k5 t6 k6 t7 k7 t8 r8 t9 k9 t11 k11 t13 k13 d0 f2 f3 f4
  replace f2 := shm_163 f2
  have cr_0_1 := fdq_39 hD hth r0
  have cr_8_0 := fdq_95 hD hth r8
  have g2 : v_iv (n_v vs 9) = w_fi ws (n_v vs 0) 0 := congrArg v_iv f2
  have hK_0_1 := elq_7 hD hth cr_0_1
  have hK_8_0 := elq_33 hD hth cr_8_0
  have kz_0_0 := fdq_148 hD hth r0
  have nf0 : fc_1 PRD (20, [0, 6], [50, 1, 0, 0, 1, 3, 2, 0, 0, 1, 1]) ws (vs) := ⟨nf_in hl rfl, sgq_570 (vc_Mo_feed_2_0 (v_iv (n_v vs 6)) (v_iv (n_v vs 7)) (v_iv (n_v vs 9)) (v_iv (n_v vs 11)) (w_fi ws (n_v vs 0) 0) (w_ei ws (w_ar ws (n_v vs 0) 1)) (w_ei ws (w_ar ws (n_v vs 8) 0)) k6 k7 k9 k11 d0 g2 (shm_566 f3) hK_0_1 hK_8_0 kz_0_0)⟩
  have nf1 : fc_1 PRD (20, [13, 7], [50, 0, 0, 1, 2, 1, 0, 1, 1]) ws (vs) := ⟨nf_in hl rfl, sgq_48 (vc_Mo_feed_2_1 (v_iv (n_v vs 6)) (v_iv (n_v vs 7)) (v_iv (n_v vs 9)) (v_iv (n_v vs 11)) (v_iv (n_v vs 13)) (w_fi ws (n_v vs 0) 0) (w_ei ws (w_ar ws (n_v vs 0) 1)) (w_ei ws (w_ar ws (n_v vs 8) 0)) k6 k7 k9 k11 k13 d0 g2 (shm_566 f3) hK_0_1 hK_8_0 kz_0_0)⟩
  have nf2 : fc_1 PRD (20, [0, 8, 6], [60, 0, 2, 1109, 1, 1000]) ws (vs) := ⟨nf_in hl rfl, sgq_571 (vc_Mo_feed_2_2 (v_iv (n_v vs 1)) (v_iv (n_v vs 2)) (v_iv (n_v vs 3)) (v_iv (n_v vs 4)) (v_iv (n_v vs 5)) (v_iv (n_v vs 6)) (v_iv (n_v vs 7)) (v_iv (n_v vs 9)) (v_iv (n_v vs 11)) (w_fi ws (n_v vs 0) 0) (w_ei ws (w_ar ws (n_v vs 0) 1)) (w_ei ws (w_ar ws (n_v vs 8) 0)) k1 k2 k3 k4 k5 k6 k7 k9 k11 d0 g2 (shm_567 f4) kz_0_0)⟩
  refine ⟨(fun _ h => (by cases h)), [], trivial, ?_, (fun _ h => (by cases h))⟩
  rw [List.append_nil]
  exact List.forall_mem_cons.mpr ⟨⟨show (20 : Nat) < 100 from by decide, nf0⟩, List.forall_mem_cons.mpr ⟨⟨show (20 : Nat) < 100 from by decide, nf1⟩, List.forall_mem_cons.mpr ⟨⟨show (20 : Nat) < 100 from by decide, nf2⟩, (fun _ h => (by cases h))⟩⟩⟩
set_option maxHeartbeats 4000000 in
theorem vc_Mo_feed_3_0 (x6 : Int) (x15 : Int) (taped_0 : Int) (tape_0 : Int → Int) (tape_0o8 : Int → Int) (k6 : 0 ≤ x6 ∧ x6 ≤ 2000) (k15 : 20 ≤ x15 ∧ x15 ≤ 20) (f2 : (taped_0 + 20) = (x6 + x15)) (hK_0_1 : ∀ j : Int, 0 ≤ j → j < 2000 → (-128) ≤ tape_0 j ∧ tape_0 j ≤ 127) (hK_8_0 : ∀ j : Int, 0 ≤ j → j < 2000 → (-128) ≤ tape_0o8 j ∧ tape_0o8 j ≤ 127) (kz_0_0 : 0 ≤ taped_0 ∧ taped_0 ≤ 2000) : taped_0 = x6 := by
  first | with_reducible assumption | ((try and_intros) <;> first | with_reducible assumption | (clear hK_0_1 hK_8_0; omega)) | omega
set_option maxHeartbeats 4000000 in
theorem vc_Mo_feed_3_1 (x6 : Int) (x7 : Int) (x15 : Int) (x16 : Int) (taped_0 : Int) (tape_0 : Int → Int) (tape_0o8 : Int → Int) (k6 : 0 ≤ x6 ∧ x6 ≤ 2000) (k7 : (-1) ≤ x7 ∧ x7 ≤ 2000) (k15 : 20 ≤ x15 ∧ x15 ≤ 20) (k16 : 20 ≤ x16 ∧ x16 ≤ 2000) (g0 : x16 = taped_0) (f2 : (taped_0 + 20) = (x6 + x15)) (f3 : x7 = x6) (hK_0_1 : ∀ j : Int, 0 ≤ j → j < 2000 → (-128) ≤ tape_0 j ∧ tape_0 j ≤ 127) (hK_8_0 : ∀ j : Int, 0 ≤ j → j < 2000 → (-128) ≤ tape_0o8 j ∧ tape_0o8 j ≤ 127) (kz_0_0 : 0 ≤ taped_0 ∧ taped_0 ≤ 2000) : x16 = x7 := by
  first | with_reducible assumption | ((try and_intros) <;> first | with_reducible assumption | (clear hK_0_1 hK_8_0; omega)) | omega
set_option maxHeartbeats 4000000 in
theorem vc_Mo_feed_3_2 (x1 : Int) (x2 : Int) (x3 : Int) (x4 : Int) (x5 : Int) (x6 : Int) (x15 : Int) (taped_0 : Int) (tape_0 : Int → Int) (tape_0o8 : Int → Int) (k1 : (-2147483648) ≤ x1 ∧ x1 ≤ 2147483647) (k2 : (-2147483648) ≤ x2 ∧ x2 ≤ 2147483647) (k3 : (-2147483648) ≤ x3 ∧ x3 ≤ 2147483647) (k4 : (-2147483648) ≤ x4 ∧ x4 ≤ 2147483647) (k5 : (-2147483648) ≤ x5 ∧ x5 ≤ 2147483647) (k6 : 0 ≤ x6 ∧ x6 ≤ 2000) (k15 : 20 ≤ x15 ∧ x15 ≤ 20) (f2 : (taped_0 + 20) = (x6 + x15)) (f4 : TFL (taped_0) (tape_0) (tape_0o8) (x1) (x2) (x3) (x4) (x5) (x15)) (kz_0_0 : 0 ≤ taped_0 ∧ taped_0 ≤ 2000) : TEQ (tape_0) (tape_0o8) (x6) := by
  exact teq_l ‹TFL _ _ _ _ _ _ _ _ _› (by omega)
def o_Mo_feed_3 : or_T := (116, 18, [(0, (2, 0, 0, [165])), (1, (0, -2147483648, 2147483647, [])), (2, (0, -2147483648, 2147483647, [])), (3, (0, -2147483648, 2147483647, [])), (4, (0, -2147483648, 2147483647, [])), (5, (0, -2147483648, 2147483647, [])), (6, (0, 0, 2000, [])), (7, (0, -1, 2000, [])), (8, (2, 0, 0, [8])), (15, (0, 20, 20, [])), (16, (0, 20, 2000, []))], [(9, [16, 9], [0]), (20, [9, 6, 15], [50, 1, 0, 0, 1, 7, 4, 3, 2, 0, 0, 0, 20, 4, 2, 1, 1, 1, 2]), (20, [7, 6], [50, 0, 0, 1, 2, 1, 0, 1, 1]), (20, [9, 8, 10, 11, 12, 13, 14, 15], [60, 1, 2, 1108, 0, 1, 1000]), (24, [0, 9], []), (24, [1, 10], []), (24, [2, 11], []), (24, [3, 12], []), (24, [4, 13], []), (24, [5, 14], [])], [], [], [(20, [0, 6], [50, 1, 0, 0, 1, 3, 2, 0, 0, 1, 1]), (20, [16, 7], [50, 0, 0, 1, 2, 1, 0, 1, 1]), (20, [0, 8, 6], [60, 0, 2, 1109, 1, 1000])], [], [])
theorem oo_Mo_feed_3 {kA : Nat → ClassId} : or_ok PRD kA GG o_Mo_feed_3 := by
  refine or_mk fun A ta ws vs hD hth hl => ?_
  intro t0 r0 t1 k1 t2 k2 t3 k3 t4 k4 t5 k5 t6 k6 t7 k7 t8 r8 t15 k15 t16 k16 f0 f2 f3 f4 f5 f6 f7 f8 f9 f10
  replace f0 := shm_163 f0
  replace f2 := shm_568 f2
  replace f4 := shm_569 f4
  replace f5 := shm_5 f5
  replace f6 := shm_5 f6
  replace f7 := shm_5 f7
  replace f8 := shm_5 f8
  replace f9 := shm_5 f9
  replace f10 := shm_5 f10
  have q9 : n_v vs 9 = n_v vs 0 := f5.symm
  have q10 : n_v vs 10 = n_v vs 1 := f6.symm
  have q11 : n_v vs 11 = n_v vs 2 := f7.symm
  have q12 : n_v vs 12 = n_v vs 3 := f8.symm
  have q13 : n_v vs 13 = n_v vs 4 := f9.symm
  have q14 : n_v vs 14 = n_v vs 5 := f10.symm
  simp only [q9, q10, q11, q12, q13, q14] at f0 f2 f4
  have cr_0_1 := fdq_39 hD hth r0
  have cr_8_0 := fdq_95 hD hth r8
  have g0 : v_iv (n_v vs 16) = w_fi ws (n_v vs 0) 0 := congrArg v_iv f0
  have hK_0_1 := elq_7 hD hth cr_0_1
  have hK_8_0 := elq_33 hD hth cr_8_0
  have kz_0_0 := fdq_148 hD hth r0
  have nf0 : fc_1 PRD (20, [0, 6], [50, 1, 0, 0, 1, 3, 2, 0, 0, 1, 1]) ws (vs) := ⟨nf_in hl rfl, sgq_570 (vc_Mo_feed_3_0 (v_iv (n_v vs 6)) (v_iv (n_v vs 15)) (w_fi ws (n_v vs 0) 0) (w_ei ws (w_ar ws (n_v vs 0) 1)) (w_ei ws (w_ar ws (n_v vs 8) 0)) k6 k15 f2 hK_0_1 hK_8_0 kz_0_0)⟩
  have nf1 : fc_1 PRD (20, [16, 7], [50, 0, 0, 1, 2, 1, 0, 1, 1]) ws (vs) := ⟨nf_in hl rfl, sgq_48 (vc_Mo_feed_3_1 (v_iv (n_v vs 6)) (v_iv (n_v vs 7)) (v_iv (n_v vs 15)) (v_iv (n_v vs 16)) (w_fi ws (n_v vs 0) 0) (w_ei ws (w_ar ws (n_v vs 0) 1)) (w_ei ws (w_ar ws (n_v vs 8) 0)) k6 k7 k15 k16 g0 f2 (shm_48 f3) hK_0_1 hK_8_0 kz_0_0)⟩
  have nf2 : fc_1 PRD (20, [0, 8, 6], [60, 0, 2, 1109, 1, 1000]) ws (vs) := ⟨nf_in hl rfl, sgq_571 (vc_Mo_feed_3_2 (v_iv (n_v vs 1)) (v_iv (n_v vs 2)) (v_iv (n_v vs 3)) (v_iv (n_v vs 4)) (v_iv (n_v vs 5)) (v_iv (n_v vs 6)) (v_iv (n_v vs 15)) (w_fi ws (n_v vs 0) 0) (w_ei ws (w_ar ws (n_v vs 0) 1)) (w_ei ws (w_ar ws (n_v vs 8) 0)) k1 k2 k3 k4 k5 k6 k15 f2 f4 kz_0_0)⟩
  refine ⟨(fun _ h => (by cases h)), [], trivial, ?_, (fun _ h => (by cases h))⟩
  rw [List.append_nil]
  exact List.forall_mem_cons.mpr ⟨⟨show (20 : Nat) < 100 from by decide, nf0⟩, List.forall_mem_cons.mpr ⟨⟨show (20 : Nat) < 100 from by decide, nf1⟩, List.forall_mem_cons.mpr ⟨⟨show (20 : Nat) < 100 from by decide, nf2⟩, (fun _ h => (by cases h))⟩⟩⟩
set_option maxHeartbeats 4000000 in
theorem vc_Mo_feed_4_0 (x6 : Int) (x7 : Int) (x15 : Int) (x16 : Int) (x30 : Int) (x32 : Int) (x33 : Int) (taped_0 : Int) (taped_1 : Int) (taped_2 : Int) (tape_2 : Int → Int) (tape_2o8 : Int → Int) (tape_0 : Int → Int) (tape_1 : Int → Int) (tape_0o8 : Int → Int) (tape_1o8 : Int → Int) (k6 : 0 ≤ x6 ∧ x6 ≤ 2000) (k7 : (-1) ≤ x7 ∧ x7 ≤ 2000) (k15 : 16 ≤ x15 ∧ x15 ≤ 19) (k16 : 16 ≤ x16 ∧ x16 ≤ 1999) (k30 : (-128) ≤ x30 ∧ x30 ≤ 127) (k32 : 17 ≤ x32 ∧ x32 ≤ 2000) (k33 : 17 ≤ x33 ∧ x33 ≤ 20) (d0 : x15 + 1 ≤ x33 ∧ x33 ≤ x15 + 1) (d2 : x16 + 1 ≤ x32 ∧ x32 ≤ x16 + 1) (g0 : x32 = taped_0) (f3 : x7 = x6) (g12 : x16 = taped_1) (f13 : (taped_1 + 20) = (x6 + x15)) (fe_0_0_2 : taped_1 = taped_2) (hE_0_1_1 : ∀ j : Int, tape_0 j = tape_1 j) (hE_0_1_2 : ∀ j : Int, 0 ≤ j → (j = x16 → tape_1 j = x30) ∧ (j ≠ x16 → tape_1 j = tape_2 j)) (hK_0_1 : ∀ j : Int, 0 ≤ j → j < 2000 → (-128) ≤ tape_0 j ∧ tape_0 j ≤ 127) (hE_8_0_1 : ∀ j : Int, tape_0o8 j = tape_1o8 j) (hE_8_0_2 : ∀ j : Int, tape_1o8 j = tape_2o8 j) (hK_8_0 : ∀ j : Int, 0 ≤ j → j < 2000 → (-128) ≤ tape_0o8 j ∧ tape_0o8 j ≤ 127) (kz_0_0 : 0 ≤ taped_0 ∧ taped_0 ≤ 2000) : (taped_0 + 20) = (x6 + x33) := by
  subst fe_0_0_2
  have e_hE_0_1_1 := funext hE_0_1_1; subst e_hE_0_1_1
  have e_hE_8_0_1 := funext hE_8_0_1; subst e_hE_8_0_1
  have e_hE_8_0_2 := funext hE_8_0_2; subst e_hE_8_0_2
  first | with_reducible assumption | ((try and_intros) <;> first | with_reducible assumption | (clear hE_0_1_1 hE_0_1_2 hK_0_1 hE_8_0_1 hE_8_0_2 hK_8_0; omega)) | omega
set_option maxHeartbeats 4000000 in
theorem vc_Mo_feed_4_1 (x1 : Int) (x2 : Int) (x3 : Int) (x4 : Int) (x5 : Int) (x15 : Int) (x16 : Int) (x23 : Int) (x24 : Int) (x25 : Int) (x26 : Int) (x27 : Int) (x28 : Int) (x29 : Int) (x30 : Int) (x32 : Int) (x33 : Int) (taped_0 : Int) (taped_1 : Int) (taped_2 : Int) (tape_2 : Int → Int) (tape_2o8 : Int → Int) (tape_0 : Int → Int) (tape_1 : Int → Int) (tape_0o8 : Int → Int) (tape_1o8 : Int → Int) (k1 : (-2147483648) ≤ x1 ∧ x1 ≤ 2147483647) (k2 : (-2147483648) ≤ x2 ∧ x2 ≤ 2147483647) (k3 : (-2147483648) ≤ x3 ∧ x3 ≤ 2147483647) (k4 : (-2147483648) ≤ x4 ∧ x4 ≤ 2147483647) (k5 : (-2147483648) ≤ x5 ∧ x5 ≤ 2147483647) (k15 : 16 ≤ x15 ∧ x15 ≤ 19) (k16 : 16 ≤ x16 ∧ x16 ≤ 1999) (k23 : 24 ≤ x23 ∧ x23 ≤ 24) (k26 : 0 ≤ x26 ∧ x26 ≤ 3) (k27 : 0 ≤ x27 ∧ x27 ≤ 24) (k28 : 0 ≤ x28 ∧ x28 ≤ 24) (k29 : (-2147483648) ≤ x29 ∧ x29 ≤ 2147483647) (k30 : (-128) ≤ x30 ∧ x30 ≤ 127) (k32 : 17 ≤ x32 ∧ x32 ≤ 2000) (k33 : 17 ≤ x33 ∧ x33 ≤ 20) (d0 : x15 + 1 ≤ x33 ∧ x33 ≤ x15 + 1) (d2 : x16 + 1 ≤ x32 ∧ x32 ≤ x16 + 1) (g0 : x32 = taped_0) (f2 : x33 = x15 + 1) (g12 : x16 = taped_1) (f16 : x30 = (x29 + 128) % 256 - 128) (f17 : x29 = x5 / ((2 ^ (x28).toNat : Nat) : Int)) (f18 : x28 = x23 - x27) (f19 : x27 = 8 * x26) (f20 : x26 = x15 % 4) (f29 : TFL (taped_2) (tape_2) (tape_2o8) (x1) (x2) (x3) (x4) (x5) (x15)) (fe_0_0_2 : taped_1 = taped_2) (hE_0_1_1 : ∀ j : Int, tape_0 j = tape_1 j) (hE_0_1_2 : ∀ j : Int, 0 ≤ j → (j = x16 → tape_1 j = x30) ∧ (j ≠ x16 → tape_1 j = tape_2 j)) (hE_8_0_1 : ∀ j : Int, tape_0o8 j = tape_1o8 j) (hE_8_0_2 : ∀ j : Int, tape_1o8 j = tape_2o8 j) (kz_0_0 : 0 ≤ taped_0 ∧ taped_0 ≤ 2000) : TFL (taped_0) (tape_0) (tape_0o8) (x1) (x2) (x3) (x4) (x5) (x33) := by
  subst fe_0_0_2
  have e_hE_0_1_1 := funext hE_0_1_1; subst e_hE_0_1_1
  have e_hE_8_0_1 := funext hE_8_0_1; subst e_hE_8_0_1
  have e_hE_8_0_2 := funext hE_8_0_2; subst e_hE_8_0_2
  first | subst g0 | skip
  first | subst g12 | skip
  first
    | exact tfl_0 ‹TFX _ _ _ _ _ _ _ _ _ _› (by have h := tfx_u ‹TFX _ _ _ _ _ _ _ _ _ _›; omega) (by omega)
    | exact tfl_s (m := x26) ‹TFL _ _ _ _ _ _ _ _ _› (by omega) (by assumption) (by omega) (by assumption) (by assumption) (by omega) (by omega) (by omega) (by omega) (by omega)
    | exact tfl_s (m := x25) ‹TFL _ _ _ _ _ _ _ _ _› (by omega) (by assumption) (by omega) (by assumption) (by assumption) (by omega) (by omega) (by omega) (by omega) (by omega)
    | exact tfl_s (m := x24) ‹TFL _ _ _ _ _ _ _ _ _› (by omega) (by assumption) (by omega) (by assumption) (by assumption) (by omega) (by omega) (by omega) (by omega) (by omega)
    | exact tfl_s (m := x23) ‹TFL _ _ _ _ _ _ _ _ _› (by omega) (by assumption) (by omega) (by assumption) (by assumption) (by omega) (by omega) (by omega) (by omega) (by omega)
    | exact tfl_s (m := x22) ‹TFL _ _ _ _ _ _ _ _ _› (by omega) (by assumption) (by omega) (by assumption) (by assumption) (by omega) (by omega) (by omega) (by omega) (by omega)
    | exact tfl_s (m := x27) ‹TFL _ _ _ _ _ _ _ _ _› (by omega) (by assumption) (by omega) (by assumption) (by assumption) (by omega) (by omega) (by omega) (by omega) (by omega)
def o_Mo_feed_4 : or_T := (18, 34, [(0, (2, 0, 0, [165])), (1, (0, -2147483648, 2147483647, [])), (2, (0, -2147483648, 2147483647, [])), (3, (0, -2147483648, 2147483647, [])), (4, (0, -2147483648, 2147483647, [])), (5, (0, -2147483648, 2147483647, [])), (6, (0, 0, 2000, [])), (7, (0, -1, 2000, [])), (8, (2, 0, 0, [8])), (9, (2, 0, 0, [165])), (10, (0, -2147483648, 2147483647, [])), (11, (0, -2147483648, 2147483647, [])), (12, (0, -2147483648, 2147483647, [])), (13, (0, -2147483648, 2147483647, [])), (14, (0, -2147483648, 2147483647, [])), (15, (0, 16, 19, [])), (16, (0, 16, 1999, [])), (17, (0, 20, 20, [])), (18, (0, 4, 4, [])), (19, (0, 8, 8, [])), (20, (0, 12, 12, [])), (21, (0, 16, 16, [])), (22, (2, 0, 0, [166])), (23, (0, 24, 24, [])), (24, (0, 8, 8, [])), (25, (0, 3, 3, [])), (26, (0, 0, 3, [])), (27, (0, 0, 24, [])), (28, (0, 0, 24, [])), (29, (0, -2147483648, 2147483647, [])), (30, (0, -128, 127, [])), (31, (0, 1, 1, [])), (32, (0, 17, 2000, [])), (33, (0, 17, 20, []))], [(9, [32, 9], [0]), (9, [22, 9], [1]), (6, [33, 15], [1]), (20, [7, 6], [50, 0, 0, 1, 2, 1, 0, 1, 1]), (24, [0, 9], []), (24, [1, 10], []), (24, [2, 11], []), (24, [3, 12], []), (24, [4, 13], []), (24, [5, 14], []), (101, [9, 32], [0]), (1, [32, 16, 31], []), (9, [16, 9], [0]), (20, [9, 6, 15], [50, 1, 0, 0, 1, 7, 4, 3, 2, 0, 0, 0, 20, 4, 2, 1, 1, 1, 2]), (20, [7, 6], [50, 0, 0, 1, 2, 1, 0, 1, 1]), (100, [22, 16, 30], []), (17, [30, 29], []), (19, [29, 14, 28], []), (2, [28, 23, 27], []), (3, [27, 24, 26], []), (12, [26, 15], [4]), (16, [26, 15, 25], [0]), (7, [15, 21], [3]), (7, [15, 20], [3]), (7, [15, 19], [3]), (7, [15, 18], [3]), (7, [15, 17], [2]), (20, [9, 6, 15], [50, 1, 0, 0, 1, 7, 4, 3, 2, 0, 0, 0, 20, 4, 2, 1, 1, 1, 2]), (20, [7, 6], [50, 0, 0, 1, 2, 1, 0, 1, 1]), (20, [9, 8, 10, 11, 12, 13, 14, 15], [60, 1, 2, 1108, 0, 1, 1000])], [], [], [(20, [9, 6, 33], [50, 1, 0, 0, 1, 7, 4, 3, 2, 0, 0, 0, 20, 4, 2, 1, 1, 1, 2]), (20, [9, 8, 10, 11, 12, 13, 14, 33], [60, 1, 2, 1108, 0, 1, 1000])], [], [(33, 15, 1, 1), (33, 16, -4294967296, 1), (32, 16, 1, 1), (32, 15, -4294967296, 1981), (1, 10, -4294967296, 0), (2, 11, -4294967296, 0), (3, 12, -4294967296, 0), (4, 13, -4294967296, 0), (5, 14, -4294967296, 0), (10, 1, -4294967296, 0), (11, 2, -4294967296, 0), (12, 3, -4294967296, 0), (13, 4, -4294967296, 0), (14, 5, -4294967296, 0), (15, 16, -4294967296, 0), (16, 15, -4294967296, 1980)])
theorem oo_Mo_feed_4 {kA : Nat → ClassId} : or_ok PRD kA GG o_Mo_feed_4 := by
  refine or_mk fun A ta ws vs hD hth hl => ?_
  intro t0 r0 t1 k1 t2 k2 t3 k3 t4 k4 t5 k5 t6 k6 t7 k7 t8 r8 t9 r9 t10 k10 t11 k11 t12 k12 t13 k13 t14 k14 t15 k15 t16 k16 t17 k17 t18 k18 t19 k19 t20 k20 t21 k21 t22 r22 t23 k23 t24 k24 t25 k25 t26 k26 t27 k27 t28 k28 t29 k29 t30 k30 t31 k31 t32 k32 t33 k33 d0 d1 d2 d3 d4 d5 d6 d7 d8 d9 d10 d11 d12 d13 d14 d15 f0 f1 f2 f3 f4 f5 f6 f7 f8 f9 ta1 w1 le1 s1 f11 f12 f13 f14 ta2 w2 le2 s2 f16 f17 f18 f19 f20 f21 f22 f23 f24 f25 f26 f27 f28 f29
  replace f0 := shm_163 f0
  replace f1 := shm_215 f1
  replace f2 := shm_4 f2
  replace f3 := shm_48 f3
  replace f4 := shm_5 f4
  replace f5 := shm_5 f5
  replace f6 := shm_5 f6
  replace f7 := shm_5 f7
  replace f8 := shm_5 f8
  replace f9 := shm_5 f9
  have s1 : (∀ b j, w_el ws b j = w_el w1 b j) ∧ ∀ b j, w_fd ws b j = if b = v_ad (n_v vs 9) ∧ j = 0 then n_v vs 32 else w_fd w1 b j := s1.2
  replace f12 := shm_163 f12
  replace f13 := shm_568 f13
  have s2 : (∀ b j, w_el w1 b j = if b = v_ad (n_v vs 22) ∧ j = (v_iv (n_v vs 16)).toNat then v_iv (n_v vs 30) else w_el w2 b j) ∧ ∀ b k, w_fd w1 b k = w_fd w2 b k := s2.2
  replace f16 := shm_439 f16
  replace f17 := shm_572 f17
  replace f18 := shm_14 f18
  replace f19 := shm_38 f19
  rw [show v_iv (n_v vs 24) = 8 from by omega] at f19
  replace f20 := shm_573 f20
  replace f29 := shm_569 f29
  have q9 : n_v vs 9 = n_v vs 0 := f4.symm
  have q10 : n_v vs 10 = n_v vs 1 := f5.symm
  have q11 : n_v vs 11 = n_v vs 2 := f6.symm
  have q12 : n_v vs 12 = n_v vs 3 := f7.symm
  have q13 : n_v vs 13 = n_v vs 4 := f8.symm
  have q14 : n_v vs 14 = n_v vs 5 := f9.symm
  simp only [q9] at f0 f1
  rw [q9] at s1
  simp only [q9, q14, q10, q11, q12, q13] at f12 f13 f17 f29
  have ar_0_1_1 : w_ar w1 (n_v vs 0) 1 = w_ar ws (n_v vs 0) 1 := by show v_ad (w_fd w1 _ _) = v_ad (w_fd ws _ _); rw [s1.2, if_neg (fun e => absurd e.2 (by decide))]
  have ar_0_1_2 : w_ar w2 (n_v vs 0) 1 = w_ar ws (n_v vs 0) 1 := by rw [← ar_0_1_1]; show v_ad (w_fd w2 _ _) = v_ad (w_fd w1 _ _); rw [s2.2]
  have cr_0_1 := fdq_39 hD hth r0
  have ar_8_0_1 : w_ar w1 (n_v vs 8) 0 = w_ar ws (n_v vs 8) 0 := by show v_ad (w_fd w1 _ _) = v_ad (w_fd ws _ _); rw [s1.2, if_neg (fun e => by have e1 := e.1; have e2 := r8; rw [e1, r0] at e2; exact absurd (Option.some.inj e2) (by decide))]
  have ar_8_0_2 : w_ar w2 (n_v vs 8) 0 = w_ar ws (n_v vs 8) 0 := by rw [← ar_8_0_1]; show v_ad (w_fd w2 _ _) = v_ad (w_fd w1 _ _); rw [s2.2]
  have cr_8_0 := fdq_95 hD hth r8
  have ad_22 : v_ad (n_v vs 22) = w_ar ws (n_v vs 0) 1 := congrArg v_ad f1
  have g0 : v_iv (n_v vs 32) = w_fi ws (n_v vs 0) 0 := congrArg v_iv f0
  have g12 : v_iv (n_v vs 16) = w_fi w1 (n_v vs 0) 0 := congrArg v_iv f12
  simp only [ar_0_1_2, ar_8_0_2] at f29
  have fe_0_0_2 : w_fi w1 (n_v vs 0) 0 = w_fi w2 (n_v vs 0) 0 := congrArg v_iv (s2.2 _ _)
  have hE_0_1_1 : ∀ j : Int, w_ei ws (w_ar ws (n_v vs 0) 1) j = w_ei w1 (w_ar ws (n_v vs 0) 1) j := fun j => s1.1 _ _
  have hE_0_1_2 : ∀ j : Int, 0 ≤ j → (j = v_iv (n_v vs 16) → w_ei w1 (w_ar ws (n_v vs 0) 1) j = v_iv (n_v vs 30)) ∧ (j ≠ v_iv (n_v vs 16) → w_ei w1 (w_ar ws (n_v vs 0) 1) j = w_ei w2 (w_ar ws (n_v vs 0) 1) j) := fun j hj => ⟨fun h => by unfold w_ei; rw [s2.1, if_pos ⟨ad_22.symm, by rw [h]⟩], fun h => by unfold w_ei; rw [s2.1, if_neg (fun e => h (by have := e.2; omega))]⟩
  have hK_0_1 := elq_7 hD hth cr_0_1
  have hE_8_0_1 : ∀ j : Int, w_ei ws (w_ar ws (n_v vs 8) 0) j = w_ei w1 (w_ar ws (n_v vs 8) 0) j := fun j => s1.1 _ _
  have hE_8_0_2 : ∀ j : Int, w_ei w1 (w_ar ws (n_v vs 8) 0) j = w_ei w2 (w_ar ws (n_v vs 8) 0) j := el_kp s2.1 r22 cr_8_0 (by decide)
  have hK_8_0 := elq_33 hD hth cr_8_0
  have kz_0_0 := fdq_148 hD hth r0
  have nf0 : fc_1 PRD (20, [9, 6, 33], [50, 1, 0, 0, 1, 7, 4, 3, 2, 0, 0, 0, 20, 4, 2, 1, 1, 1, 2]) ws (vs) := by
    refine ⟨nf_in hl rfl, sgq_568 ?_⟩
    · show (w_fi ws (n_v vs 9) 0 + 20) = (v_iv (n_v vs 6) + v_iv (n_v vs 33))
      rw [q9]
      exact vc_Mo_feed_4_0 (v_iv (n_v vs 6)) (v_iv (n_v vs 7)) (v_iv (n_v vs 15)) (v_iv (n_v vs 16)) (v_iv (n_v vs 30)) (v_iv (n_v vs 32)) (v_iv (n_v vs 33)) (w_fi ws (n_v vs 0) 0) (w_fi w1 (n_v vs 0) 0) (w_fi w2 (n_v vs 0) 0) (w_ei w2 (w_ar ws (n_v vs 0) 1)) (w_ei w2 (w_ar ws (n_v vs 8) 0)) (w_ei ws (w_ar ws (n_v vs 0) 1)) (w_ei w1 (w_ar ws (n_v vs 0) 1)) (w_ei ws (w_ar ws (n_v vs 8) 0)) (w_ei w1 (w_ar ws (n_v vs 8) 0)) k6 k7 k15 k16 k30 k32 k33 d0 d2 g0 f3 g12 f13 fe_0_0_2 hE_0_1_1 hE_0_1_2 hK_0_1 hE_8_0_1 hE_8_0_2 hK_8_0 kz_0_0
  have nf1 : fc_1 PRD (20, [9, 8, 10, 11, 12, 13, 14, 33], [60, 1, 2, 1108, 0, 1, 1000]) ws (vs) := by
    refine ⟨nf_in hl rfl, sgq_569 ?_⟩
    · show TFL (w_fi ws (n_v vs 9) 0) (w_ei ws (w_ar ws (n_v vs 9) 1)) (w_ei ws (w_ar ws (n_v vs 8) 0)) (v_iv (n_v vs 10)) (v_iv (n_v vs 11)) (v_iv (n_v vs 12)) (v_iv (n_v vs 13)) (v_iv (n_v vs 14)) (v_iv (n_v vs 33))
      simp only [q9, q10, q11, q12, q13, q14]
      exact vc_Mo_feed_4_1 (v_iv (n_v vs 1)) (v_iv (n_v vs 2)) (v_iv (n_v vs 3)) (v_iv (n_v vs 4)) (v_iv (n_v vs 5)) (v_iv (n_v vs 15)) (v_iv (n_v vs 16)) (v_iv (n_v vs 23)) (v_iv (n_v vs 24)) (v_iv (n_v vs 25)) (v_iv (n_v vs 26)) (v_iv (n_v vs 27)) (v_iv (n_v vs 28)) (v_iv (n_v vs 29)) (v_iv (n_v vs 30)) (v_iv (n_v vs 32)) (v_iv (n_v vs 33)) (w_fi ws (n_v vs 0) 0) (w_fi w1 (n_v vs 0) 0) (w_fi w2 (n_v vs 0) 0) (w_ei w2 (w_ar ws (n_v vs 0) 1)) (w_ei w2 (w_ar ws (n_v vs 8) 0)) (w_ei ws (w_ar ws (n_v vs 0) 1)) (w_ei w1 (w_ar ws (n_v vs 0) 1)) (w_ei ws (w_ar ws (n_v vs 8) 0)) (w_ei w1 (w_ar ws (n_v vs 8) 0)) k1 k2 k3 k4 k5 k15 k16 k23 k26 k27 k28 k29 k30 k32 k33 d0 d2 g0 f2 g12 f16 f17 f18 f19 f20 f29 fe_0_0_2 hE_0_1_1 hE_0_1_2 hE_8_0_1 hE_8_0_2 kz_0_0
  refine ⟨(fun _ h => (by cases h)), [], trivial, ?_, (fun _ h => (by cases h))⟩
  rw [List.append_nil]
  exact List.forall_mem_cons.mpr ⟨⟨show (20 : Nat) < 100 from by decide, nf0⟩, List.forall_mem_cons.mpr ⟨⟨show (20 : Nat) < 100 from by decide, nf1⟩, (fun _ h => (by cases h))⟩⟩
set_option maxHeartbeats 4000000 in
theorem vc_Mo_feed_5_0 (x6 : Int) (x7 : Int) (x15 : Int) (x16 : Int) (x30 : Int) (x32 : Int) (x33 : Int) (taped_0 : Int) (taped_1 : Int) (taped_2 : Int) (tape_2 : Int → Int) (tape_2o8 : Int → Int) (tape_0 : Int → Int) (tape_1 : Int → Int) (tape_0o8 : Int → Int) (tape_1o8 : Int → Int) (k6 : 0 ≤ x6 ∧ x6 ≤ 2000) (k7 : (-1) ≤ x7 ∧ x7 ≤ 2000) (k15 : 12 ≤ x15 ∧ x15 ≤ 15) (k16 : 12 ≤ x16 ∧ x16 ≤ 1995) (k30 : (-128) ≤ x30 ∧ x30 ≤ 127) (k32 : 13 ≤ x32 ∧ x32 ≤ 1996) (k33 : 13 ≤ x33 ∧ x33 ≤ 16) (d0 : x15 + 1 ≤ x33 ∧ x33 ≤ x15 + 1) (d2 : x16 + 1 ≤ x32 ∧ x32 ≤ x16 + 1) (g0 : x32 = taped_0) (f3 : x7 = x6) (g12 : x16 = taped_1) (f13 : (taped_1 + 20) = (x6 + x15)) (fe_0_0_2 : taped_1 = taped_2) (hE_0_1_1 : ∀ j : Int, tape_0 j = tape_1 j) (hE_0_1_2 : ∀ j : Int, 0 ≤ j → (j = x16 → tape_1 j = x30) ∧ (j ≠ x16 → tape_1 j = tape_2 j)) (hK_0_1 : ∀ j : Int, 0 ≤ j → j < 2000 → (-128) ≤ tape_0 j ∧ tape_0 j ≤ 127) (hE_8_0_1 : ∀ j : Int, tape_0o8 j = tape_1o8 j) (hE_8_0_2 : ∀ j : Int, tape_1o8 j = tape_2o8 j) (hK_8_0 : ∀ j : Int, 0 ≤ j → j < 2000 → (-128) ≤ tape_0o8 j ∧ tape_0o8 j ≤ 127) (kz_0_0 : 0 ≤ taped_0 ∧ taped_0 ≤ 2000) : (taped_0 + 20) = (x6 + x33) := by
  subst fe_0_0_2
  have e_hE_0_1_1 := funext hE_0_1_1; subst e_hE_0_1_1
  have e_hE_8_0_1 := funext hE_8_0_1; subst e_hE_8_0_1
  have e_hE_8_0_2 := funext hE_8_0_2; subst e_hE_8_0_2
  first | with_reducible assumption | ((try and_intros) <;> first | with_reducible assumption | (clear hE_0_1_1 hE_0_1_2 hK_0_1 hE_8_0_1 hE_8_0_2 hK_8_0; omega)) | omega
set_option maxHeartbeats 4000000 in
theorem vc_Mo_feed_5_1 (x1 : Int) (x2 : Int) (x3 : Int) (x4 : Int) (x5 : Int) (x15 : Int) (x16 : Int) (x23 : Int) (x24 : Int) (x25 : Int) (x26 : Int) (x27 : Int) (x28 : Int) (x29 : Int) (x30 : Int) (x32 : Int) (x33 : Int) (taped_0 : Int) (taped_1 : Int) (taped_2 : Int) (tape_2 : Int → Int) (tape_2o8 : Int → Int) (tape_0 : Int → Int) (tape_1 : Int → Int) (tape_0o8 : Int → Int) (tape_1o8 : Int → Int) (k1 : (-2147483648) ≤ x1 ∧ x1 ≤ 2147483647) (k2 : (-2147483648) ≤ x2 ∧ x2 ≤ 2147483647) (k3 : (-2147483648) ≤ x3 ∧ x3 ≤ 2147483647) (k4 : (-2147483648) ≤ x4 ∧ x4 ≤ 2147483647) (k5 : (-2147483648) ≤ x5 ∧ x5 ≤ 2147483647) (k15 : 12 ≤ x15 ∧ x15 ≤ 15) (k16 : 12 ≤ x16 ∧ x16 ≤ 1995) (k23 : 24 ≤ x23 ∧ x23 ≤ 24) (k26 : 0 ≤ x26 ∧ x26 ≤ 3) (k27 : 0 ≤ x27 ∧ x27 ≤ 24) (k28 : 0 ≤ x28 ∧ x28 ≤ 24) (k29 : (-2147483648) ≤ x29 ∧ x29 ≤ 2147483647) (k30 : (-128) ≤ x30 ∧ x30 ≤ 127) (k32 : 13 ≤ x32 ∧ x32 ≤ 1996) (k33 : 13 ≤ x33 ∧ x33 ≤ 16) (d0 : x15 + 1 ≤ x33 ∧ x33 ≤ x15 + 1) (d2 : x16 + 1 ≤ x32 ∧ x32 ≤ x16 + 1) (g0 : x32 = taped_0) (f2 : x33 = x15 + 1) (g12 : x16 = taped_1) (f16 : x30 = (x29 + 128) % 256 - 128) (f17 : x29 = x4 / ((2 ^ (x28).toNat : Nat) : Int)) (f18 : x28 = x23 - x27) (f19 : x27 = 8 * x26) (f20 : x26 = x15 % 4) (f29 : TFL (taped_2) (tape_2) (tape_2o8) (x1) (x2) (x3) (x4) (x5) (x15)) (fe_0_0_2 : taped_1 = taped_2) (hE_0_1_1 : ∀ j : Int, tape_0 j = tape_1 j) (hE_0_1_2 : ∀ j : Int, 0 ≤ j → (j = x16 → tape_1 j = x30) ∧ (j ≠ x16 → tape_1 j = tape_2 j)) (hE_8_0_1 : ∀ j : Int, tape_0o8 j = tape_1o8 j) (hE_8_0_2 : ∀ j : Int, tape_1o8 j = tape_2o8 j) (kz_0_0 : 0 ≤ taped_0 ∧ taped_0 ≤ 2000) : TFL (taped_0) (tape_0) (tape_0o8) (x1) (x2) (x3) (x4) (x5) (x33) := by
  subst fe_0_0_2
  have e_hE_0_1_1 := funext hE_0_1_1; subst e_hE_0_1_1
  have e_hE_8_0_1 := funext hE_8_0_1; subst e_hE_8_0_1
  have e_hE_8_0_2 := funext hE_8_0_2; subst e_hE_8_0_2
  first | subst g0 | skip
  first | subst g12 | skip
  first
    | exact tfl_0 ‹TFX _ _ _ _ _ _ _ _ _ _› (by have h := tfx_u ‹TFX _ _ _ _ _ _ _ _ _ _›; omega) (by omega)
    | exact tfl_s (m := x26) ‹TFL _ _ _ _ _ _ _ _ _› (by omega) (by assumption) (by omega) (by assumption) (by assumption) (by omega) (by omega) (by omega) (by omega) (by omega)
    | exact tfl_s (m := x25) ‹TFL _ _ _ _ _ _ _ _ _› (by omega) (by assumption) (by omega) (by assumption) (by assumption) (by omega) (by omega) (by omega) (by omega) (by omega)
    | exact tfl_s (m := x24) ‹TFL _ _ _ _ _ _ _ _ _› (by omega) (by assumption) (by omega) (by assumption) (by assumption) (by omega) (by omega) (by omega) (by omega) (by omega)
    | exact tfl_s (m := x23) ‹TFL _ _ _ _ _ _ _ _ _› (by omega) (by assumption) (by omega) (by assumption) (by assumption) (by omega) (by omega) (by omega) (by omega) (by omega)
    | exact tfl_s (m := x22) ‹TFL _ _ _ _ _ _ _ _ _› (by omega) (by assumption) (by omega) (by assumption) (by assumption) (by omega) (by omega) (by omega) (by omega) (by omega)
    | exact tfl_s (m := x27) ‹TFL _ _ _ _ _ _ _ _ _› (by omega) (by assumption) (by omega) (by assumption) (by assumption) (by omega) (by omega) (by omega) (by omega) (by omega)
def o_Mo_feed_5 : or_T := (18, 34, [(0, (2, 0, 0, [165])), (1, (0, -2147483648, 2147483647, [])), (2, (0, -2147483648, 2147483647, [])), (3, (0, -2147483648, 2147483647, [])), (4, (0, -2147483648, 2147483647, [])), (5, (0, -2147483648, 2147483647, [])), (6, (0, 0, 2000, [])), (7, (0, -1, 2000, [])), (8, (2, 0, 0, [8])), (9, (2, 0, 0, [165])), (10, (0, -2147483648, 2147483647, [])), (11, (0, -2147483648, 2147483647, [])), (12, (0, -2147483648, 2147483647, [])), (13, (0, -2147483648, 2147483647, [])), (14, (0, -2147483648, 2147483647, [])), (15, (0, 12, 15, [])), (16, (0, 12, 1995, [])), (17, (0, 20, 20, [])), (18, (0, 4, 4, [])), (19, (0, 8, 8, [])), (20, (0, 12, 12, [])), (21, (0, 16, 16, [])), (22, (2, 0, 0, [166])), (23, (0, 24, 24, [])), (24, (0, 8, 8, [])), (25, (0, 3, 3, [])), (26, (0, 0, 3, [])), (27, (0, 0, 24, [])), (28, (0, 0, 24, [])), (29, (0, -2147483648, 2147483647, [])), (30, (0, -128, 127, [])), (31, (0, 1, 1, [])), (32, (0, 13, 1996, [])), (33, (0, 13, 16, []))], [(9, [32, 9], [0]), (9, [22, 9], [1]), (6, [33, 15], [1]), (20, [7, 6], [50, 0, 0, 1, 2, 1, 0, 1, 1]), (24, [0, 9], []), (24, [1, 10], []), (24, [2, 11], []), (24, [3, 12], []), (24, [4, 13], []), (24, [5, 14], []), (101, [9, 32], [0]), (1, [32, 16, 31], []), (9, [16, 9], [0]), (20, [9, 6, 15], [50, 1, 0, 0, 1, 7, 4, 3, 2, 0, 0, 0, 20, 4, 2, 1, 1, 1, 2]), (20, [7, 6], [50, 0, 0, 1, 2, 1, 0, 1, 1]), (100, [22, 16, 30], []), (17, [30, 29], []), (19, [29, 13, 28], []), (2, [28, 23, 27], []), (3, [27, 24, 26], []), (12, [26, 15], [4]), (16, [26, 15, 25], [0]), (7, [15, 21], [2]), (7, [15, 20], [3]), (7, [15, 19], [3]), (7, [15, 18], [3]), (7, [15, 17], [2]), (20, [9, 6, 15], [50, 1, 0, 0, 1, 7, 4, 3, 2, 0, 0, 0, 20, 4, 2, 1, 1, 1, 2]), (20, [7, 6], [50, 0, 0, 1, 2, 1, 0, 1, 1]), (20, [9, 8, 10, 11, 12, 13, 14, 15], [60, 1, 2, 1108, 0, 1, 1000])], [], [], [(20, [9, 6, 33], [50, 1, 0, 0, 1, 7, 4, 3, 2, 0, 0, 0, 20, 4, 2, 1, 1, 1, 2]), (20, [9, 8, 10, 11, 12, 13, 14, 33], [60, 1, 2, 1108, 0, 1, 1000])], [], [(33, 15, 1, 1), (33, 16, -4294967296, 1), (32, 16, 1, 1), (32, 15, -4294967296, 1981), (1, 10, -4294967296, 0), (2, 11, -4294967296, 0), (3, 12, -4294967296, 0), (4, 13, -4294967296, 0), (5, 14, -4294967296, 0), (10, 1, -4294967296, 0), (11, 2, -4294967296, 0), (12, 3, -4294967296, 0), (13, 4, -4294967296, 0), (14, 5, -4294967296, 0), (15, 16, -4294967296, 0), (16, 15, -4294967296, 1980)])
theorem oo_Mo_feed_5 {kA : Nat → ClassId} : or_ok PRD kA GG o_Mo_feed_5 := by
  refine or_mk fun A ta ws vs hD hth hl => ?_
  intro t0 r0 t1 k1 t2 k2 t3 k3 t4 k4 t5 k5 t6 k6 t7 k7 t8 r8 t9 r9 t10 k10 t11 k11 t12 k12 t13 k13 t14 k14 t15 k15 t16 k16 t17 k17 t18 k18 t19 k19 t20 k20 t21 k21 t22 r22 t23 k23 t24 k24 t25 k25 t26 k26 t27 k27 t28 k28 t29 k29 t30 k30 t31 k31 t32 k32 t33 k33 d0 d1 d2 d3 d4 d5 d6 d7 d8 d9 d10 d11 d12 d13 d14 d15 f0 f1 f2 f3 f4 f5 f6 f7 f8 f9 ta1 w1 le1 s1 f11 f12 f13 f14 ta2 w2 le2 s2 f16 f17 f18 f19 f20 f21 f22 f23 f24 f25 f26 f27 f28 f29
  replace f0 := shm_163 f0
  replace f1 := shm_215 f1
  replace f2 := shm_4 f2
  replace f3 := shm_48 f3
  replace f4 := shm_5 f4
  replace f5 := shm_5 f5
  replace f6 := shm_5 f6
  replace f7 := shm_5 f7
  replace f8 := shm_5 f8
  replace f9 := shm_5 f9
  have s1 : (∀ b j, w_el ws b j = w_el w1 b j) ∧ ∀ b j, w_fd ws b j = if b = v_ad (n_v vs 9) ∧ j = 0 then n_v vs 32 else w_fd w1 b j := s1.2
  replace f12 := shm_163 f12
  replace f13 := shm_568 f13
  have s2 : (∀ b j, w_el w1 b j = if b = v_ad (n_v vs 22) ∧ j = (v_iv (n_v vs 16)).toNat then v_iv (n_v vs 30) else w_el w2 b j) ∧ ∀ b k, w_fd w1 b k = w_fd w2 b k := s2.2
  replace f16 := shm_439 f16
  replace f17 := shm_572 f17
  replace f18 := shm_14 f18
  replace f19 := shm_38 f19
  rw [show v_iv (n_v vs 24) = 8 from by omega] at f19
  replace f20 := shm_573 f20
  replace f29 := shm_569 f29
  have q9 : n_v vs 9 = n_v vs 0 := f4.symm
  have q10 : n_v vs 10 = n_v vs 1 := f5.symm
  have q11 : n_v vs 11 = n_v vs 2 := f6.symm
  have q12 : n_v vs 12 = n_v vs 3 := f7.symm
  have q13 : n_v vs 13 = n_v vs 4 := f8.symm
  have q14 : n_v vs 14 = n_v vs 5 := f9.symm
  simp only [q9] at f0 f1
  rw [q9] at s1
  simp only [q9, q13, q10, q11, q12, q14] at f12 f13 f17 f29
  have ar_0_1_1 : w_ar w1 (n_v vs 0) 1 = w_ar ws (n_v vs 0) 1 := by show v_ad (w_fd w1 _ _) = v_ad (w_fd ws _ _); rw [s1.2, if_neg (fun e => absurd e.2 (by decide))]
  have ar_0_1_2 : w_ar w2 (n_v vs 0) 1 = w_ar ws (n_v vs 0) 1 := by rw [← ar_0_1_1]; show v_ad (w_fd w2 _ _) = v_ad (w_fd w1 _ _); rw [s2.2]
  have cr_0_1 := fdq_39 hD hth r0
  have ar_8_0_1 : w_ar w1 (n_v vs 8) 0 = w_ar ws (n_v vs 8) 0 := by show v_ad (w_fd w1 _ _) = v_ad (w_fd ws _ _); rw [s1.2, if_neg (fun e => by have e1 := e.1; have e2 := r8; rw [e1, r0] at e2; exact absurd (Option.some.inj e2) (by decide))]
  have ar_8_0_2 : w_ar w2 (n_v vs 8) 0 = w_ar ws (n_v vs 8) 0 := by rw [← ar_8_0_1]; show v_ad (w_fd w2 _ _) = v_ad (w_fd w1 _ _); rw [s2.2]
  have cr_8_0 := fdq_95 hD hth r8
  have ad_22 : v_ad (n_v vs 22) = w_ar ws (n_v vs 0) 1 := congrArg v_ad f1
  have g0 : v_iv (n_v vs 32) = w_fi ws (n_v vs 0) 0 := congrArg v_iv f0
  have g12 : v_iv (n_v vs 16) = w_fi w1 (n_v vs 0) 0 := congrArg v_iv f12
  simp only [ar_0_1_2, ar_8_0_2] at f29
  have fe_0_0_2 : w_fi w1 (n_v vs 0) 0 = w_fi w2 (n_v vs 0) 0 := congrArg v_iv (s2.2 _ _)
  have hE_0_1_1 : ∀ j : Int, w_ei ws (w_ar ws (n_v vs 0) 1) j = w_ei w1 (w_ar ws (n_v vs 0) 1) j := fun j => s1.1 _ _
  have hE_0_1_2 : ∀ j : Int, 0 ≤ j → (j = v_iv (n_v vs 16) → w_ei w1 (w_ar ws (n_v vs 0) 1) j = v_iv (n_v vs 30)) ∧ (j ≠ v_iv (n_v vs 16) → w_ei w1 (w_ar ws (n_v vs 0) 1) j = w_ei w2 (w_ar ws (n_v vs 0) 1) j) := fun j hj => ⟨fun h => by unfold w_ei; rw [s2.1, if_pos ⟨ad_22.symm, by rw [h]⟩], fun h => by unfold w_ei; rw [s2.1, if_neg (fun e => h (by have := e.2; omega))]⟩
  have hK_0_1 := elq_7 hD hth cr_0_1
  have hE_8_0_1 : ∀ j : Int, w_ei ws (w_ar ws (n_v vs 8) 0) j = w_ei w1 (w_ar ws (n_v vs 8) 0) j := fun j => s1.1 _ _
  have hE_8_0_2 : ∀ j : Int, w_ei w1 (w_ar ws (n_v vs 8) 0) j = w_ei w2 (w_ar ws (n_v vs 8) 0) j := el_kp s2.1 r22 cr_8_0 (by decide)
  have hK_8_0 := elq_33 hD hth cr_8_0
  have kz_0_0 := fdq_148 hD hth r0
  have nf0 : fc_1 PRD (20, [9, 6, 33], [50, 1, 0, 0, 1, 7, 4, 3, 2, 0, 0, 0, 20, 4, 2, 1, 1, 1, 2]) ws (vs) := by
    refine ⟨nf_in hl rfl, sgq_568 ?_⟩
    · show (w_fi ws (n_v vs 9) 0 + 20) = (v_iv (n_v vs 6) + v_iv (n_v vs 33))
      rw [q9]
      exact vc_Mo_feed_5_0 (v_iv (n_v vs 6)) (v_iv (n_v vs 7)) (v_iv (n_v vs 15)) (v_iv (n_v vs 16)) (v_iv (n_v vs 30)) (v_iv (n_v vs 32)) (v_iv (n_v vs 33)) (w_fi ws (n_v vs 0) 0) (w_fi w1 (n_v vs 0) 0) (w_fi w2 (n_v vs 0) 0) (w_ei w2 (w_ar ws (n_v vs 0) 1)) (w_ei w2 (w_ar ws (n_v vs 8) 0)) (w_ei ws (w_ar ws (n_v vs 0) 1)) (w_ei w1 (w_ar ws (n_v vs 0) 1)) (w_ei ws (w_ar ws (n_v vs 8) 0)) (w_ei w1 (w_ar ws (n_v vs 8) 0)) k6 k7 k15 k16 k30 k32 k33 d0 d2 g0 f3 g12 f13 fe_0_0_2 hE_0_1_1 hE_0_1_2 hK_0_1 hE_8_0_1 hE_8_0_2 hK_8_0 kz_0_0
  have nf1 : fc_1 PRD (20, [9, 8, 10, 11, 12, 13, 14, 33], [60, 1, 2, 1108, 0, 1, 1000]) ws (vs) := by
    refine ⟨nf_in hl rfl, sgq_569 ?_⟩
    · show TFL (w_fi ws (n_v vs 9) 0) (w_ei ws (w_ar ws (n_v vs 9) 1)) (w_ei ws (w_ar ws (n_v vs 8) 0)) (v_iv (n_v vs 10)) (v_iv (n_v vs 11)) (v_iv (n_v vs 12)) (v_iv (n_v vs 13)) (v_iv (n_v vs 14)) (v_iv (n_v vs 33))
      simp only [q9, q10, q11, q12, q13, q14]
      exact vc_Mo_feed_5_1 (v_iv (n_v vs 1)) (v_iv (n_v vs 2)) (v_iv (n_v vs 3)) (v_iv (n_v vs 4)) (v_iv (n_v vs 5)) (v_iv (n_v vs 15)) (v_iv (n_v vs 16)) (v_iv (n_v vs 23)) (v_iv (n_v vs 24)) (v_iv (n_v vs 25)) (v_iv (n_v vs 26)) (v_iv (n_v vs 27)) (v_iv (n_v vs 28)) (v_iv (n_v vs 29)) (v_iv (n_v vs 30)) (v_iv (n_v vs 32)) (v_iv (n_v vs 33)) (w_fi ws (n_v vs 0) 0) (w_fi w1 (n_v vs 0) 0) (w_fi w2 (n_v vs 0) 0) (w_ei w2 (w_ar ws (n_v vs 0) 1)) (w_ei w2 (w_ar ws (n_v vs 8) 0)) (w_ei ws (w_ar ws (n_v vs 0) 1)) (w_ei w1 (w_ar ws (n_v vs 0) 1)) (w_ei ws (w_ar ws (n_v vs 8) 0)) (w_ei w1 (w_ar ws (n_v vs 8) 0)) k1 k2 k3 k4 k5 k15 k16 k23 k26 k27 k28 k29 k30 k32 k33 d0 d2 g0 f2 g12 f16 f17 f18 f19 f20 f29 fe_0_0_2 hE_0_1_1 hE_0_1_2 hE_8_0_1 hE_8_0_2 kz_0_0
  refine ⟨(fun _ h => (by cases h)), [], trivial, ?_, (fun _ h => (by cases h))⟩
  rw [List.append_nil]
  exact List.forall_mem_cons.mpr ⟨⟨show (20 : Nat) < 100 from by decide, nf0⟩, List.forall_mem_cons.mpr ⟨⟨show (20 : Nat) < 100 from by decide, nf1⟩, (fun _ h => (by cases h))⟩⟩
set_option maxHeartbeats 4000000 in
theorem vc_Mo_feed_6_0 (x6 : Int) (x7 : Int) (x15 : Int) (x16 : Int) (x29 : Int) (x31 : Int) (x32 : Int) (taped_0 : Int) (taped_1 : Int) (taped_2 : Int) (tape_2 : Int → Int) (tape_2o8 : Int → Int) (tape_0 : Int → Int) (tape_1 : Int → Int) (tape_0o8 : Int → Int) (tape_1o8 : Int → Int) (k6 : 0 ≤ x6 ∧ x6 ≤ 2000) (k7 : (-1) ≤ x7 ∧ x7 ≤ 2000) (k15 : 8 ≤ x15 ∧ x15 ≤ 11) (k16 : 8 ≤ x16 ∧ x16 ≤ 1991) (k29 : (-128) ≤ x29 ∧ x29 ≤ 127) (k31 : 9 ≤ x31 ∧ x31 ≤ 1992) (k32 : 9 ≤ x32 ∧ x32 ≤ 12) (d0 : x15 + 1 ≤ x32 ∧ x32 ≤ x15 + 1) (d2 : x16 + 1 ≤ x31 ∧ x31 ≤ x16 + 1) (g0 : x31 = taped_0) (f3 : x7 = x6) (g12 : x16 = taped_1) (f13 : (taped_1 + 20) = (x6 + x15)) (fe_0_0_2 : taped_1 = taped_2) (hE_0_1_1 : ∀ j : Int, tape_0 j = tape_1 j) (hE_0_1_2 : ∀ j : Int, 0 ≤ j → (j = x16 → tape_1 j = x29) ∧ (j ≠ x16 → tape_1 j = tape_2 j)) (hK_0_1 : ∀ j : Int, 0 ≤ j → j < 2000 → (-128) ≤ tape_0 j ∧ tape_0 j ≤ 127) (hE_8_0_1 : ∀ j : Int, tape_0o8 j = tape_1o8 j) (hE_8_0_2 : ∀ j : Int, tape_1o8 j = tape_2o8 j) (hK_8_0 : ∀ j : Int, 0 ≤ j → j < 2000 → (-128) ≤ tape_0o8 j ∧ tape_0o8 j ≤ 127) (kz_0_0 : 0 ≤ taped_0 ∧ taped_0 ≤ 2000) : (taped_0 + 20) = (x6 + x32) := by
  subst fe_0_0_2
  have e_hE_0_1_1 := funext hE_0_1_1; subst e_hE_0_1_1
  have e_hE_8_0_1 := funext hE_8_0_1; subst e_hE_8_0_1
  have e_hE_8_0_2 := funext hE_8_0_2; subst e_hE_8_0_2
  first | with_reducible assumption | ((try and_intros) <;> first | with_reducible assumption | (clear hE_0_1_1 hE_0_1_2 hK_0_1 hE_8_0_1 hE_8_0_2 hK_8_0; omega)) | omega
set_option maxHeartbeats 4000000 in
theorem vc_Mo_feed_6_1 (x1 : Int) (x2 : Int) (x3 : Int) (x4 : Int) (x5 : Int) (x15 : Int) (x16 : Int) (x22 : Int) (x23 : Int) (x24 : Int) (x25 : Int) (x26 : Int) (x27 : Int) (x28 : Int) (x29 : Int) (x31 : Int) (x32 : Int) (taped_0 : Int) (taped_1 : Int) (taped_2 : Int) (tape_2 : Int → Int) (tape_2o8 : Int → Int) (tape_0 : Int → Int) (tape_1 : Int → Int) (tape_0o8 : Int → Int) (tape_1o8 : Int → Int) (k1 : (-2147483648) ≤ x1 ∧ x1 ≤ 2147483647) (k2 : (-2147483648) ≤ x2 ∧ x2 ≤ 2147483647) (k3 : (-2147483648) ≤ x3 ∧ x3 ≤ 2147483647) (k4 : (-2147483648) ≤ x4 ∧ x4 ≤ 2147483647) (k5 : (-2147483648) ≤ x5 ∧ x5 ≤ 2147483647) (k15 : 8 ≤ x15 ∧ x15 ≤ 11) (k16 : 8 ≤ x16 ∧ x16 ≤ 1991) (k22 : 24 ≤ x22 ∧ x22 ≤ 24) (k25 : 0 ≤ x25 ∧ x25 ≤ 3) (k26 : 0 ≤ x26 ∧ x26 ≤ 24) (k27 : 0 ≤ x27 ∧ x27 ≤ 24) (k28 : (-2147483648) ≤ x28 ∧ x28 ≤ 2147483647) (k29 : (-128) ≤ x29 ∧ x29 ≤ 127) (k31 : 9 ≤ x31 ∧ x31 ≤ 1992) (k32 : 9 ≤ x32 ∧ x32 ≤ 12) (d0 : x15 + 1 ≤ x32 ∧ x32 ≤ x15 + 1) (d2 : x16 + 1 ≤ x31 ∧ x31 ≤ x16 + 1) (g0 : x31 = taped_0) (f2 : x32 = x15 + 1) (g12 : x16 = taped_1) (f16 : x29 = (x28 + 128) % 256 - 128) (f17 : x28 = x3 / ((2 ^ (x27).toNat : Nat) : Int)) (f18 : x27 = x22 - x26) (f19 : x26 = 8 * x25) (f20 : x25 = x15 % 4) (f28 : TFL (taped_2) (tape_2) (tape_2o8) (x1) (x2) (x3) (x4) (x5) (x15)) (fe_0_0_2 : taped_1 = taped_2) (hE_0_1_1 : ∀ j : Int, tape_0 j = tape_1 j) (hE_0_1_2 : ∀ j : Int, 0 ≤ j → (j = x16 → tape_1 j = x29) ∧ (j ≠ x16 → tape_1 j = tape_2 j)) (hE_8_0_1 : ∀ j : Int, tape_0o8 j = tape_1o8 j) (hE_8_0_2 : ∀ j : Int, tape_1o8 j = tape_2o8 j) (kz_0_0 : 0 ≤ taped_0 ∧ taped_0 ≤ 2000) : TFL (taped_0) (tape_0) (tape_0o8) (x1) (x2) (x3) (x4) (x5) (x32) := by
  subst fe_0_0_2
  have e_hE_0_1_1 := funext hE_0_1_1; subst e_hE_0_1_1
  have e_hE_8_0_1 := funext hE_8_0_1; subst e_hE_8_0_1
  have e_hE_8_0_2 := funext hE_8_0_2; subst e_hE_8_0_2
  first | subst g0 | skip
  first | subst g12 | skip
  first
    | exact tfl_0 ‹TFX _ _ _ _ _ _ _ _ _ _› (by have h := tfx_u ‹TFX _ _ _ _ _ _ _ _ _ _›; omega) (by omega)
    | exact tfl_s (m := x26) ‹TFL _ _ _ _ _ _ _ _ _› (by omega) (by assumption) (by omega) (by assumption) (by assumption) (by omega) (by omega) (by omega) (by omega) (by omega)
    | exact tfl_s (m := x25) ‹TFL _ _ _ _ _ _ _ _ _› (by omega) (by assumption) (by omega) (by assumption) (by assumption) (by omega) (by omega) (by omega) (by omega) (by omega)
    | exact tfl_s (m := x24) ‹TFL _ _ _ _ _ _ _ _ _› (by omega) (by assumption) (by omega) (by assumption) (by assumption) (by omega) (by omega) (by omega) (by omega) (by omega)
    | exact tfl_s (m := x23) ‹TFL _ _ _ _ _ _ _ _ _› (by omega) (by assumption) (by omega) (by assumption) (by assumption) (by omega) (by omega) (by omega) (by omega) (by omega)
    | exact tfl_s (m := x22) ‹TFL _ _ _ _ _ _ _ _ _› (by omega) (by assumption) (by omega) (by assumption) (by assumption) (by omega) (by omega) (by omega) (by omega) (by omega)
    | exact tfl_s (m := x27) ‹TFL _ _ _ _ _ _ _ _ _› (by omega) (by assumption) (by omega) (by assumption) (by assumption) (by omega) (by omega) (by omega) (by omega) (by omega)
def o_Mo_feed_6 : or_T := (18, 33, [(0, (2, 0, 0, [165])), (1, (0, -2147483648, 2147483647, [])), (2, (0, -2147483648, 2147483647, [])), (3, (0, -2147483648, 2147483647, [])), (4, (0, -2147483648, 2147483647, [])), (5, (0, -2147483648, 2147483647, [])), (6, (0, 0, 2000, [])), (7, (0, -1, 2000, [])), (8, (2, 0, 0, [8])), (15, (0, 8, 11, [])), (16, (0, 8, 1991, [])), (21, (2, 0, 0, [166])), (22, (0, 24, 24, [])), (23, (0, 8, 8, [])), (25, (0, 0, 3, [])), (26, (0, 0, 24, [])), (27, (0, 0, 24, [])), (28, (0, -2147483648, 2147483647, [])), (29, (0, -128, 127, [])), (31, (0, 9, 1992, [])), (32, (0, 9, 12, []))], [(9, [31, 9], [0]), (9, [21, 9], [1]), (6, [32, 15], [1]), (20, [7, 6], [50, 0, 0, 1, 2, 1, 0, 1, 1]), (24, [0, 9], []), (24, [1, 10], []), (24, [2, 11], []), (24, [3, 12], []), (24, [4, 13], []), (24, [5, 14], []), (101, [9, 31], [0]), (9, [16, 9], [0]), (20, [9, 6, 15], [50, 1, 0, 0, 1, 7, 4, 3, 2, 0, 0, 0, 20, 4, 2, 1, 1, 1, 2]), (100, [21, 16, 29], []), (17, [29, 28], []), (19, [28, 12, 27], []), (2, [27, 22, 26], []), (3, [26, 23, 25], []), (12, [25, 15], [4]), (20, [9, 8, 10, 11, 12, 13, 14, 15], [60, 1, 2, 1108, 0, 1, 1000])], [], [], [(20, [9, 6, 32], [50, 1, 0, 0, 1, 7, 4, 3, 2, 0, 0, 0, 20, 4, 2, 1, 1, 1, 2]), (20, [9, 8, 10, 11, 12, 13, 14, 32], [60, 1, 2, 1108, 0, 1, 1000])], [], [(32, 15, 1, 1), (32, 16, -4294967296, 1), (31, 16, 1, 1), (15, 16, -4294967296, 0), (16, 15, -4294967296, 1980)])
theorem oo_Mo_feed_6 {kA : Nat → ClassId} : or_ok PRD kA GG o_Mo_feed_6 := by
  refine or_mk fun A ta ws vs hD hth hl => ?_
  intro t0 r0 t1 k1 t2 k2 t3 k3 t4 k4 t5 k5 t6 k6 t7 k7 t8 r8 t15 k15 t16 k16 t21 r21 t22 k22 t23 k23 t25 k25 t26 k26 t27 k27 t28 k28 t29 k29 t31 k31 t32 k32 d0 d1 d2 d14 d15 f0 f1 f2 f3 f4 f5 f6 f7 f8 f9 ta1 w1 le1 s1 f12 f13 ta2 w2 le2 s2 f16 f17 f18 f19 f20 f28
  replace f0 := shm_163 f0
  replace f1 := shm_215 f1
  replace f2 := shm_4 f2
  replace f3 := shm_48 f3
  replace f4 := shm_5 f4
  replace f5 := shm_5 f5
  replace f6 := shm_5 f6
  replace f7 := shm_5 f7
  replace f8 := shm_5 f8
  replace f9 := shm_5 f9
  have s1 : (∀ b j, w_el ws b j = w_el w1 b j) ∧ ∀ b j, w_fd ws b j = if b = v_ad (n_v vs 9) ∧ j = 0 then n_v vs 31 else w_fd w1 b j := s1.2
  replace f12 := shm_163 f12
  replace f13 := shm_568 f13
  have s2 : (∀ b j, w_el w1 b j = if b = v_ad (n_v vs 21) ∧ j = (v_iv (n_v vs 16)).toNat then v_iv (n_v vs 29) else w_el w2 b j) ∧ ∀ b k, w_fd w1 b k = w_fd w2 b k := s2.2
  replace f16 := shm_439 f16
  replace f17 := shm_572 f17
  replace f18 := shm_14 f18
  replace f19 := shm_38 f19
  rw [show v_iv (n_v vs 23) = 8 from by omega] at f19
  replace f20 := shm_573 f20
  replace f28 := shm_569 f28
  have q9 : n_v vs 9 = n_v vs 0 := f4.symm
  have q10 : n_v vs 10 = n_v vs 1 := f5.symm
  have q11 : n_v vs 11 = n_v vs 2 := f6.symm
  have q12 : n_v vs 12 = n_v vs 3 := f7.symm
  have q13 : n_v vs 13 = n_v vs 4 := f8.symm
  have q14 : n_v vs 14 = n_v vs 5 := f9.symm
  simp only [q9] at f0 f1
  rw [q9] at s1
  simp only [q9, q12, q10, q11, q13, q14] at f12 f13 f17 f28
  have ar_0_1_1 : w_ar w1 (n_v vs 0) 1 = w_ar ws (n_v vs 0) 1 := by show v_ad (w_fd w1 _ _) = v_ad (w_fd ws _ _); rw [s1.2, if_neg (fun e => absurd e.2 (by decide))]
  have ar_0_1_2 : w_ar w2 (n_v vs 0) 1 = w_ar ws (n_v vs 0) 1 := by rw [← ar_0_1_1]; show v_ad (w_fd w2 _ _) = v_ad (w_fd w1 _ _); rw [s2.2]
  have cr_0_1 := fdq_39 hD hth r0
  have ar_8_0_1 : w_ar w1 (n_v vs 8) 0 = w_ar ws (n_v vs 8) 0 := by show v_ad (w_fd w1 _ _) = v_ad (w_fd ws _ _); rw [s1.2, if_neg (fun e => by have e1 := e.1; have e2 := r8; rw [e1, r0] at e2; exact absurd (Option.some.inj e2) (by decide))]
  have ar_8_0_2 : w_ar w2 (n_v vs 8) 0 = w_ar ws (n_v vs 8) 0 := by rw [← ar_8_0_1]; show v_ad (w_fd w2 _ _) = v_ad (w_fd w1 _ _); rw [s2.2]
  have cr_8_0 := fdq_95 hD hth r8
  have ad_21 : v_ad (n_v vs 21) = w_ar ws (n_v vs 0) 1 := congrArg v_ad f1
  have g0 : v_iv (n_v vs 31) = w_fi ws (n_v vs 0) 0 := congrArg v_iv f0
  have g12 : v_iv (n_v vs 16) = w_fi w1 (n_v vs 0) 0 := congrArg v_iv f12
  simp only [ar_0_1_2, ar_8_0_2] at f28
  have fe_0_0_2 : w_fi w1 (n_v vs 0) 0 = w_fi w2 (n_v vs 0) 0 := congrArg v_iv (s2.2 _ _)
  have hE_0_1_1 : ∀ j : Int, w_ei ws (w_ar ws (n_v vs 0) 1) j = w_ei w1 (w_ar ws (n_v vs 0) 1) j := fun j => s1.1 _ _
  have hE_0_1_2 : ∀ j : Int, 0 ≤ j → (j = v_iv (n_v vs 16) → w_ei w1 (w_ar ws (n_v vs 0) 1) j = v_iv (n_v vs 29)) ∧ (j ≠ v_iv (n_v vs 16) → w_ei w1 (w_ar ws (n_v vs 0) 1) j = w_ei w2 (w_ar ws (n_v vs 0) 1) j) := fun j hj => ⟨fun h => by unfold w_ei; rw [s2.1, if_pos ⟨ad_21.symm, by rw [h]⟩], fun h => by unfold w_ei; rw [s2.1, if_neg (fun e => h (by have := e.2; omega))]⟩
  have hK_0_1 := elq_7 hD hth cr_0_1
  have hE_8_0_1 : ∀ j : Int, w_ei ws (w_ar ws (n_v vs 8) 0) j = w_ei w1 (w_ar ws (n_v vs 8) 0) j := fun j => s1.1 _ _
  have hE_8_0_2 : ∀ j : Int, w_ei w1 (w_ar ws (n_v vs 8) 0) j = w_ei w2 (w_ar ws (n_v vs 8) 0) j := el_kp s2.1 r21 cr_8_0 (by decide)
  have hK_8_0 := elq_33 hD hth cr_8_0
  have kz_0_0 := fdq_148 hD hth r0
  have nf0 : fc_1 PRD (20, [9, 6, 32], [50, 1, 0, 0, 1, 7, 4, 3, 2, 0, 0, 0, 20, 4, 2, 1, 1, 1, 2]) ws (vs) := by
    refine ⟨nf_in hl rfl, sgq_568 ?_⟩
    · show (w_fi ws (n_v vs 9) 0 + 20) = (v_iv (n_v vs 6) + v_iv (n_v vs 32))
      rw [q9]
      exact vc_Mo_feed_6_0 (v_iv (n_v vs 6)) (v_iv (n_v vs 7)) (v_iv (n_v vs 15)) (v_iv (n_v vs 16)) (v_iv (n_v vs 29)) (v_iv (n_v vs 31)) (v_iv (n_v vs 32)) (w_fi ws (n_v vs 0) 0) (w_fi w1 (n_v vs 0) 0) (w_fi w2 (n_v vs 0) 0) (w_ei w2 (w_ar ws (n_v vs 0) 1)) (w_ei w2 (w_ar ws (n_v vs 8) 0)) (w_ei ws (w_ar ws (n_v vs 0) 1)) (w_ei w1 (w_ar ws (n_v vs 0) 1)) (w_ei ws (w_ar ws (n_v vs 8) 0)) (w_ei w1 (w_ar ws (n_v vs 8) 0)) k6 k7 k15 k16 k29 k31 k32 d0 d2 g0 f3 g12 f13 fe_0_0_2 hE_0_1_1 hE_0_1_2 hK_0_1 hE_8_0_1 hE_8_0_2 hK_8_0 kz_0_0
  have nf1 : fc_1 PRD (20, [9, 8, 10, 11, 12, 13, 14, 32], [60, 1, 2, 1108, 0, 1, 1000]) ws (vs) := by
    refine ⟨nf_in hl rfl, sgq_569 ?_⟩
    · show TFL (w_fi ws (n_v vs 9) 0) (w_ei ws (w_ar ws (n_v vs 9) 1)) (w_ei ws (w_ar ws (n_v vs 8) 0)) (v_iv (n_v vs 10)) (v_iv (n_v vs 11)) (v_iv (n_v vs 12)) (v_iv (n_v vs 13)) (v_iv (n_v vs 14)) (v_iv (n_v vs 32))
      simp only [q9, q10, q11, q12, q13, q14]
      exact vc_Mo_feed_6_1 (v_iv (n_v vs 1)) (v_iv (n_v vs 2)) (v_iv (n_v vs 3)) (v_iv (n_v vs 4)) (v_iv (n_v vs 5)) (v_iv (n_v vs 15)) (v_iv (n_v vs 16)) (v_iv (n_v vs 22)) (v_iv (n_v vs 23)) (v_iv (n_v vs 24)) (v_iv (n_v vs 25)) (v_iv (n_v vs 26)) (v_iv (n_v vs 27)) (v_iv (n_v vs 28)) (v_iv (n_v vs 29)) (v_iv (n_v vs 31)) (v_iv (n_v vs 32)) (w_fi ws (n_v vs 0) 0) (w_fi w1 (n_v vs 0) 0) (w_fi w2 (n_v vs 0) 0) (w_ei w2 (w_ar ws (n_v vs 0) 1)) (w_ei w2 (w_ar ws (n_v vs 8) 0)) (w_ei ws (w_ar ws (n_v vs 0) 1)) (w_ei w1 (w_ar ws (n_v vs 0) 1)) (w_ei ws (w_ar ws (n_v vs 8) 0)) (w_ei w1 (w_ar ws (n_v vs 8) 0)) k1 k2 k3 k4 k5 k15 k16 k22 k25 k26 k27 k28 k29 k31 k32 d0 d2 g0 f2 g12 f16 f17 f18 f19 f20 f28 fe_0_0_2 hE_0_1_1 hE_0_1_2 hE_8_0_1 hE_8_0_2 kz_0_0
  refine ⟨(fun _ h => (by cases h)), [], trivial, ?_, (fun _ h => (by cases h))⟩
  rw [List.append_nil]
  exact List.forall_mem_cons.mpr ⟨⟨show (20 : Nat) < 100 from by decide, nf0⟩, List.forall_mem_cons.mpr ⟨⟨show (20 : Nat) < 100 from by decide, nf1⟩, (fun _ h => (by cases h))⟩⟩
set_option maxHeartbeats 4000000 in
theorem vc_Mo_feed_7_0 (x6 : Int) (x7 : Int) (x15 : Int) (x16 : Int) (x28 : Int) (x30 : Int) (x31 : Int) (taped_0 : Int) (taped_1 : Int) (taped_2 : Int) (tape_2 : Int → Int) (tape_2o8 : Int → Int) (tape_0 : Int → Int) (tape_1 : Int → Int) (tape_0o8 : Int → Int) (tape_1o8 : Int → Int) (k6 : 0 ≤ x6 ∧ x6 ≤ 2000) (k7 : (-1) ≤ x7 ∧ x7 ≤ 2000) (k15 : 4 ≤ x15 ∧ x15 ≤ 7) (k16 : 4 ≤ x16 ∧ x16 ≤ 1987) (k28 : (-128) ≤ x28 ∧ x28 ≤ 127) (k30 : 5 ≤ x30 ∧ x30 ≤ 1988) (k31 : 5 ≤ x31 ∧ x31 ≤ 8) (d0 : x15 + 1 ≤ x31 ∧ x31 ≤ x15 + 1) (d2 : x16 + 1 ≤ x30 ∧ x30 ≤ x16 + 1) (g0 : x30 = taped_0) (f3 : x7 = x6) (g12 : x16 = taped_1) (f13 : (taped_1 + 20) = (x6 + x15)) (fe_0_0_2 : taped_1 = taped_2) (hE_0_1_1 : ∀ j : Int, tape_0 j = tape_1 j) (hE_0_1_2 : ∀ j : Int, 0 ≤ j → (j = x16 → tape_1 j = x28) ∧ (j ≠ x16 → tape_1 j = tape_2 j)) (hK_0_1 : ∀ j : Int, 0 ≤ j → j < 2000 → (-128) ≤ tape_0 j ∧ tape_0 j ≤ 127) (hE_8_0_1 : ∀ j : Int, tape_0o8 j = tape_1o8 j) (hE_8_0_2 : ∀ j : Int, tape_1o8 j = tape_2o8 j) (hK_8_0 : ∀ j : Int, 0 ≤ j → j < 2000 → (-128) ≤ tape_0o8 j ∧ tape_0o8 j ≤ 127) (kz_0_0 : 0 ≤ taped_0 ∧ taped_0 ≤ 2000) : (taped_0 + 20) = (x6 + x31) := by
  subst fe_0_0_2
  have e_hE_0_1_1 := funext hE_0_1_1; subst e_hE_0_1_1
  have e_hE_8_0_1 := funext hE_8_0_1; subst e_hE_8_0_1
  have e_hE_8_0_2 := funext hE_8_0_2; subst e_hE_8_0_2
  first | with_reducible assumption | ((try and_intros) <;> first | with_reducible assumption | (clear hE_0_1_1 hE_0_1_2 hK_0_1 hE_8_0_1 hE_8_0_2 hK_8_0; omega)) | omega
set_option maxHeartbeats 4000000 in
theorem vc_Mo_feed_7_1 (x1 : Int) (x2 : Int) (x3 : Int) (x4 : Int) (x5 : Int) (x15 : Int) (x16 : Int) (x21 : Int) (x22 : Int) (x23 : Int) (x24 : Int) (x25 : Int) (x26 : Int) (x27 : Int) (x28 : Int) (x30 : Int) (x31 : Int) (taped_0 : Int) (taped_1 : Int) (taped_2 : Int) (tape_2 : Int → Int) (tape_2o8 : Int → Int) (tape_0 : Int → Int) (tape_1 : Int → Int) (tape_0o8 : Int → Int) (tape_1o8 : Int → Int) (k1 : (-2147483648) ≤ x1 ∧ x1 ≤ 2147483647) (k2 : (-2147483648) ≤ x2 ∧ x2 ≤ 2147483647) (k3 : (-2147483648) ≤ x3 ∧ x3 ≤ 2147483647) (k4 : (-2147483648) ≤ x4 ∧ x4 ≤ 2147483647) (k5 : (-2147483648) ≤ x5 ∧ x5 ≤ 2147483647) (k15 : 4 ≤ x15 ∧ x15 ≤ 7) (k16 : 4 ≤ x16 ∧ x16 ≤ 1987) (k21 : 24 ≤ x21 ∧ x21 ≤ 24) (k24 : 0 ≤ x24 ∧ x24 ≤ 3) (k25 : 0 ≤ x25 ∧ x25 ≤ 24) (k26 : 0 ≤ x26 ∧ x26 ≤ 24) (k27 : (-2147483648) ≤ x27 ∧ x27 ≤ 2147483647) (k28 : (-128) ≤ x28 ∧ x28 ≤ 127) (k30 : 5 ≤ x30 ∧ x30 ≤ 1988) (k31 : 5 ≤ x31 ∧ x31 ≤ 8) (d0 : x15 + 1 ≤ x31 ∧ x31 ≤ x15 + 1) (d2 : x16 + 1 ≤ x30 ∧ x30 ≤ x16 + 1) (g0 : x30 = taped_0) (f2 : x31 = x15 + 1) (g12 : x16 = taped_1) (f16 : x28 = (x27 + 128) % 256 - 128) (f17 : x27 = x2 / ((2 ^ (x26).toNat : Nat) : Int)) (f18 : x26 = x21 - x25) (f19 : x25 = 8 * x24) (f20 : x24 = x15 % 4) (f27 : TFL (taped_2) (tape_2) (tape_2o8) (x1) (x2) (x3) (x4) (x5) (x15)) (fe_0_0_2 : taped_1 = taped_2) (hE_0_1_1 : ∀ j : Int, tape_0 j = tape_1 j) (hE_0_1_2 : ∀ j : Int, 0 ≤ j → (j = x16 → tape_1 j = x28) ∧ (j ≠ x16 → tape_1 j = tape_2 j)) (hE_8_0_1 : ∀ j : Int, tape_0o8 j = tape_1o8 j) (hE_8_0_2 : ∀ j : Int, tape_1o8 j = tape_2o8 j) (kz_0_0 : 0 ≤ taped_0 ∧ taped_0 ≤ 2000) : TFL (taped_0) (tape_0) (tape_0o8) (x1) (x2) (x3) (x4) (x5) (x31) := by
  subst fe_0_0_2
  have e_hE_0_1_1 := funext hE_0_1_1; subst e_hE_0_1_1
  have e_hE_8_0_1 := funext hE_8_0_1; subst e_hE_8_0_1
  have e_hE_8_0_2 := funext hE_8_0_2; subst e_hE_8_0_2
  first | subst g0 | skip
  first | subst g12 | skip
  first
    | exact tfl_0 ‹TFX _ _ _ _ _ _ _ _ _ _› (by have h := tfx_u ‹TFX _ _ _ _ _ _ _ _ _ _›; omega) (by omega)
    | exact tfl_s (m := x26) ‹TFL _ _ _ _ _ _ _ _ _› (by omega) (by assumption) (by omega) (by assumption) (by assumption) (by omega) (by omega) (by omega) (by omega) (by omega)
    | exact tfl_s (m := x25) ‹TFL _ _ _ _ _ _ _ _ _› (by omega) (by assumption) (by omega) (by assumption) (by assumption) (by omega) (by omega) (by omega) (by omega) (by omega)
    | exact tfl_s (m := x24) ‹TFL _ _ _ _ _ _ _ _ _› (by omega) (by assumption) (by omega) (by assumption) (by assumption) (by omega) (by omega) (by omega) (by omega) (by omega)
    | exact tfl_s (m := x23) ‹TFL _ _ _ _ _ _ _ _ _› (by omega) (by assumption) (by omega) (by assumption) (by assumption) (by omega) (by omega) (by omega) (by omega) (by omega)
    | exact tfl_s (m := x22) ‹TFL _ _ _ _ _ _ _ _ _› (by omega) (by assumption) (by omega) (by assumption) (by assumption) (by omega) (by omega) (by omega) (by omega) (by omega)
    | exact tfl_s (m := x27) ‹TFL _ _ _ _ _ _ _ _ _› (by omega) (by assumption) (by omega) (by assumption) (by assumption) (by omega) (by omega) (by omega) (by omega) (by omega)
def o_Mo_feed_7 : or_T := (18, 32, [(0, (2, 0, 0, [165])), (1, (0, -2147483648, 2147483647, [])), (2, (0, -2147483648, 2147483647, [])), (3, (0, -2147483648, 2147483647, [])), (4, (0, -2147483648, 2147483647, [])), (5, (0, -2147483648, 2147483647, [])), (6, (0, 0, 2000, [])), (7, (0, -1, 2000, [])), (8, (2, 0, 0, [8])), (15, (0, 4, 7, [])), (16, (0, 4, 1987, [])), (20, (2, 0, 0, [166])), (21, (0, 24, 24, [])), (22, (0, 8, 8, [])), (24, (0, 0, 3, [])), (25, (0, 0, 24, [])), (26, (0, 0, 24, [])), (27, (0, -2147483648, 2147483647, [])), (28, (0, -128, 127, [])), (30, (0, 5, 1988, [])), (31, (0, 5, 8, []))], [(9, [30, 9], [0]), (9, [20, 9], [1]), (6, [31, 15], [1]), (20, [7, 6], [50, 0, 0, 1, 2, 1, 0, 1, 1]), (24, [0, 9], []), (24, [1, 10], []), (24, [2, 11], []), (24, [3, 12], []), (24, [4, 13], []), (24, [5, 14], []), (101, [9, 30], [0]), (9, [16, 9], [0]), (20, [9, 6, 15], [50, 1, 0, 0, 1, 7, 4, 3, 2, 0, 0, 0, 20, 4, 2, 1, 1, 1, 2]), (100, [20, 16, 28], []), (17, [28, 27], []), (19, [27, 11, 26], []), (2, [26, 21, 25], []), (3, [25, 22, 24], []), (12, [24, 15], [4]), (20, [9, 8, 10, 11, 12, 13, 14, 15], [60, 1, 2, 1108, 0, 1, 1000])], [], [], [(20, [9, 6, 31], [50, 1, 0, 0, 1, 7, 4, 3, 2, 0, 0, 0, 20, 4, 2, 1, 1, 1, 2]), (20, [9, 8, 10, 11, 12, 13, 14, 31], [60, 1, 2, 1108, 0, 1, 1000])], [], [(31, 15, 1, 1), (31, 16, -4294967296, 1), (30, 16, 1, 1), (15, 16, -4294967296, 0), (16, 15, -4294967296, 1980)])
theorem oo_Mo_feed_7 {kA : Nat → ClassId} : or_ok PRD kA GG o_Mo_feed_7 := by
  refine or_mk fun A ta ws vs hD hth hl => ?_
  intro t0 r0 t1 k1 t2 k2 t3 k3 t4 k4 t5 k5 t6 k6 t7 k7 t8 r8 t15 k15 t16 k16 t20 r20 t21 k21 t22 k22 t24 k24 t25 k25 t26 k26 t27 k27 t28 k28 t30 k30 t31 k31 d0 d1 d2 d14 d15 f0 f1 f2 f3 f4 f5 f6 f7 f8 f9 ta1 w1 le1 s1 f12 f13 ta2 w2 le2 s2 f16 f17 f18 f19 f20 f27
  replace f0 := shm_163 f0
  replace f1 := shm_215 f1
  replace f2 := shm_4 f2
  replace f3 := shm_48 f3
  replace f4 := shm_5 f4
  replace f5 := shm_5 f5
  replace f6 := shm_5 f6
  replace f7 := shm_5 f7
  replace f8 := shm_5 f8
  replace f9 := shm_5 f9
  have s1 : (∀ b j, w_el ws b j = w_el w1 b j) ∧ ∀ b j, w_fd ws b j = if b = v_ad (n_v vs 9) ∧ j = 0 then n_v vs 30 else w_fd w1 b j := s1.2
  replace f12 := shm_163 f12
  replace f13 := shm_568 f13
  have s2 : (∀ b j, w_el w1 b j = if b = v_ad (n_v vs 20) ∧ j = (v_iv (n_v vs 16)).toNat then v_iv (n_v vs 28) else w_el w2 b j) ∧ ∀ b k, w_fd w1 b k = w_fd w2 b k := s2.2
  replace f16 := shm_439 f16
  replace f17 := shm_572 f17
  replace f18 := shm_14 f18
  replace f19 := shm_38 f19
  rw [show v_iv (n_v vs 22) = 8 from by omega] at f19
  replace f20 := shm_573 f20
  replace f27 := shm_569 f27
  have q9 : n_v vs 9 = n_v vs 0 := f4.symm
  have q10 : n_v vs 10 = n_v vs 1 := f5.symm
  have q11 : n_v vs 11 = n_v vs 2 := f6.symm
  have q12 : n_v vs 12 = n_v vs 3 := f7.symm
  have q13 : n_v vs 13 = n_v vs 4 := f8.symm
  have q14 : n_v vs 14 = n_v vs 5 := f9.symm
  simp only [q9] at f0 f1
  rw [q9] at s1
  simp only [q9, q11, q10, q12, q13, q14] at f12 f13 f17 f27
  have ar_0_1_1 : w_ar w1 (n_v vs 0) 1 = w_ar ws (n_v vs 0) 1 := by show v_ad (w_fd w1 _ _) = v_ad (w_fd ws _ _); rw [s1.2, if_neg (fun e => absurd e.2 (by decide))]
  have ar_0_1_2 : w_ar w2 (n_v vs 0) 1 = w_ar ws (n_v vs 0) 1 := by rw [← ar_0_1_1]; show v_ad (w_fd w2 _ _) = v_ad (w_fd w1 _ _); rw [s2.2]
  have cr_0_1 := fdq_39 hD hth r0
  have ar_8_0_1 : w_ar w1 (n_v vs 8) 0 = w_ar ws (n_v vs 8) 0 := by show v_ad (w_fd w1 _ _) = v_ad (w_fd ws _ _); rw [s1.2, if_neg (fun e => by have e1 := e.1; have e2 := r8; rw [e1, r0] at e2; exact absurd (Option.some.inj e2) (by decide))]
  have ar_8_0_2 : w_ar w2 (n_v vs 8) 0 = w_ar ws (n_v vs 8) 0 := by rw [← ar_8_0_1]; show v_ad (w_fd w2 _ _) = v_ad (w_fd w1 _ _); rw [s2.2]
  have cr_8_0 := fdq_95 hD hth r8
  have ad_20 : v_ad (n_v vs 20) = w_ar ws (n_v vs 0) 1 := congrArg v_ad f1
  have g0 : v_iv (n_v vs 30) = w_fi ws (n_v vs 0) 0 := congrArg v_iv f0
  have g12 : v_iv (n_v vs 16) = w_fi w1 (n_v vs 0) 0 := congrArg v_iv f12
  simp only [ar_0_1_2, ar_8_0_2] at f27
  have fe_0_0_2 : w_fi w1 (n_v vs 0) 0 = w_fi w2 (n_v vs 0) 0 := congrArg v_iv (s2.2 _ _)
  have hE_0_1_1 : ∀ j : Int, w_ei ws (w_ar ws (n_v vs 0) 1) j = w_ei w1 (w_ar ws (n_v vs 0) 1) j := fun j => s1.1 _ _
  have hE_0_1_2 : ∀ j : Int, 0 ≤ j → (j = v_iv (n_v vs 16) → w_ei w1 (w_ar ws (n_v vs 0) 1) j = v_iv (n_v vs 28)) ∧ (j ≠ v_iv (n_v vs 16) → w_ei w1 (w_ar ws (n_v vs 0) 1) j = w_ei w2 (w_ar ws (n_v vs 0) 1) j) := fun j hj => ⟨fun h => by unfold w_ei; rw [s2.1, if_pos ⟨ad_20.symm, by rw [h]⟩], fun h => by unfold w_ei; rw [s2.1, if_neg (fun e => h (by have := e.2; omega))]⟩
  have hK_0_1 := elq_7 hD hth cr_0_1
  have hE_8_0_1 : ∀ j : Int, w_ei ws (w_ar ws (n_v vs 8) 0) j = w_ei w1 (w_ar ws (n_v vs 8) 0) j := fun j => s1.1 _ _
  have hE_8_0_2 : ∀ j : Int, w_ei w1 (w_ar ws (n_v vs 8) 0) j = w_ei w2 (w_ar ws (n_v vs 8) 0) j := el_kp s2.1 r20 cr_8_0 (by decide)
  have hK_8_0 := elq_33 hD hth cr_8_0
  have kz_0_0 := fdq_148 hD hth r0
  have nf0 : fc_1 PRD (20, [9, 6, 31], [50, 1, 0, 0, 1, 7, 4, 3, 2, 0, 0, 0, 20, 4, 2, 1, 1, 1, 2]) ws (vs) := by
    refine ⟨nf_in hl rfl, sgq_568 ?_⟩
    · show (w_fi ws (n_v vs 9) 0 + 20) = (v_iv (n_v vs 6) + v_iv (n_v vs 31))
      rw [q9]
      exact vc_Mo_feed_7_0 (v_iv (n_v vs 6)) (v_iv (n_v vs 7)) (v_iv (n_v vs 15)) (v_iv (n_v vs 16)) (v_iv (n_v vs 28)) (v_iv (n_v vs 30)) (v_iv (n_v vs 31)) (w_fi ws (n_v vs 0) 0) (w_fi w1 (n_v vs 0) 0) (w_fi w2 (n_v vs 0) 0) (w_ei w2 (w_ar ws (n_v vs 0) 1)) (w_ei w2 (w_ar ws (n_v vs 8) 0)) (w_ei ws (w_ar ws (n_v vs 0) 1)) (w_ei w1 (w_ar ws (n_v vs 0) 1)) (w_ei ws (w_ar ws (n_v vs 8) 0)) (w_ei w1 (w_ar ws (n_v vs 8) 0)) k6 k7 k15 k16 k28 k30 k31 d0 d2 g0 f3 g12 f13 fe_0_0_2 hE_0_1_1 hE_0_1_2 hK_0_1 hE_8_0_1 hE_8_0_2 hK_8_0 kz_0_0
  have nf1 : fc_1 PRD (20, [9, 8, 10, 11, 12, 13, 14, 31], [60, 1, 2, 1108, 0, 1, 1000]) ws (vs) := by
    refine ⟨nf_in hl rfl, sgq_569 ?_⟩
    · show TFL (w_fi ws (n_v vs 9) 0) (w_ei ws (w_ar ws (n_v vs 9) 1)) (w_ei ws (w_ar ws (n_v vs 8) 0)) (v_iv (n_v vs 10)) (v_iv (n_v vs 11)) (v_iv (n_v vs 12)) (v_iv (n_v vs 13)) (v_iv (n_v vs 14)) (v_iv (n_v vs 31))
      simp only [q9, q10, q11, q12, q13, q14]
      exact vc_Mo_feed_7_1 (v_iv (n_v vs 1)) (v_iv (n_v vs 2)) (v_iv (n_v vs 3)) (v_iv (n_v vs 4)) (v_iv (n_v vs 5)) (v_iv (n_v vs 15)) (v_iv (n_v vs 16)) (v_iv (n_v vs 21)) (v_iv (n_v vs 22)) (v_iv (n_v vs 23)) (v_iv (n_v vs 24)) (v_iv (n_v vs 25)) (v_iv (n_v vs 26)) (v_iv (n_v vs 27)) (v_iv (n_v vs 28)) (v_iv (n_v vs 30)) (v_iv (n_v vs 31)) (w_fi ws (n_v vs 0) 0) (w_fi w1 (n_v vs 0) 0) (w_fi w2 (n_v vs 0) 0) (w_ei w2 (w_ar ws (n_v vs 0) 1)) (w_ei w2 (w_ar ws (n_v vs 8) 0)) (w_ei ws (w_ar ws (n_v vs 0) 1)) (w_ei w1 (w_ar ws (n_v vs 0) 1)) (w_ei ws (w_ar ws (n_v vs 8) 0)) (w_ei w1 (w_ar ws (n_v vs 8) 0)) k1 k2 k3 k4 k5 k15 k16 k21 k24 k25 k26 k27 k28 k30 k31 d0 d2 g0 f2 g12 f16 f17 f18 f19 f20 f27 fe_0_0_2 hE_0_1_1 hE_0_1_2 hE_8_0_1 hE_8_0_2 kz_0_0
  refine ⟨(fun _ h => (by cases h)), [], trivial, ?_, (fun _ h => (by cases h))⟩
  rw [List.append_nil]
  exact List.forall_mem_cons.mpr ⟨⟨show (20 : Nat) < 100 from by decide, nf0⟩, List.forall_mem_cons.mpr ⟨⟨show (20 : Nat) < 100 from by decide, nf1⟩, (fun _ h => (by cases h))⟩⟩
set_option maxHeartbeats 4000000 in
theorem vc_Mo_feed_8_0 (x6 : Int) (x7 : Int) (x15 : Int) (x16 : Int) (x27 : Int) (x29 : Int) (x30 : Int) (taped_0 : Int) (taped_1 : Int) (taped_2 : Int) (tape_2 : Int → Int) (tape_2o8 : Int → Int) (tape_0 : Int → Int) (tape_1 : Int → Int) (tape_0o8 : Int → Int) (tape_1o8 : Int → Int) (k6 : 0 ≤ x6 ∧ x6 ≤ 2000) (k7 : (-1) ≤ x7 ∧ x7 ≤ 2000) (k15 : 0 ≤ x15 ∧ x15 ≤ 3) (k16 : 0 ≤ x16 ∧ x16 ≤ 1983) (k27 : (-128) ≤ x27 ∧ x27 ≤ 127) (k29 : 1 ≤ x29 ∧ x29 ≤ 1984) (k30 : 1 ≤ x30 ∧ x30 ≤ 4) (d0 : x15 + 1 ≤ x30 ∧ x30 ≤ x15 + 1) (d2 : x16 + 1 ≤ x29 ∧ x29 ≤ x16 + 1) (g0 : x29 = taped_0) (f3 : x7 = x6) (g12 : x16 = taped_1) (f13 : (taped_1 + 20) = (x6 + x15)) (fe_0_0_2 : taped_1 = taped_2) (hE_0_1_1 : ∀ j : Int, tape_0 j = tape_1 j) (hE_0_1_2 : ∀ j : Int, 0 ≤ j → (j = x16 → tape_1 j = x27) ∧ (j ≠ x16 → tape_1 j = tape_2 j)) (hK_0_1 : ∀ j : Int, 0 ≤ j → j < 2000 → (-128) ≤ tape_0 j ∧ tape_0 j ≤ 127) (hE_8_0_1 : ∀ j : Int, tape_0o8 j = tape_1o8 j) (hE_8_0_2 : ∀ j : Int, tape_1o8 j = tape_2o8 j) (hK_8_0 : ∀ j : Int, 0 ≤ j → j < 2000 → (-128) ≤ tape_0o8 j ∧ tape_0o8 j ≤ 127) (kz_0_0 : 0 ≤ taped_0 ∧ taped_0 ≤ 2000) : (taped_0 + 20) = (x6 + x30) := by
  subst fe_0_0_2
  have e_hE_0_1_1 := funext hE_0_1_1; subst e_hE_0_1_1
  have e_hE_8_0_1 := funext hE_8_0_1; subst e_hE_8_0_1
  have e_hE_8_0_2 := funext hE_8_0_2; subst e_hE_8_0_2
  first | with_reducible assumption | ((try and_intros) <;> first | with_reducible assumption | (clear hE_0_1_1 hE_0_1_2 hK_0_1 hE_8_0_1 hE_8_0_2 hK_8_0; omega)) | omega
set_option maxHeartbeats 4000000 in
theorem vc_Mo_feed_8_1 (x1 : Int) (x2 : Int) (x3 : Int) (x4 : Int) (x5 : Int) (x15 : Int) (x16 : Int) (x20 : Int) (x22 : Int) (x23 : Int) (x24 : Int) (x25 : Int) (x26 : Int) (x27 : Int) (x29 : Int) (x30 : Int) (taped_0 : Int) (taped_1 : Int) (taped_2 : Int) (tape_2 : Int → Int) (tape_2o8 : Int → Int) (tape_0 : Int → Int) (tape_1 : Int → Int) (tape_0o8 : Int → Int) (tape_1o8 : Int → Int) (k1 : (-2147483648) ≤ x1 ∧ x1 ≤ 2147483647) (k2 : (-2147483648) ≤ x2 ∧ x2 ≤ 2147483647) (k3 : (-2147483648) ≤ x3 ∧ x3 ≤ 2147483647) (k4 : (-2147483648) ≤ x4 ∧ x4 ≤ 2147483647) (k5 : (-2147483648) ≤ x5 ∧ x5 ≤ 2147483647) (k15 : 0 ≤ x15 ∧ x15 ≤ 3) (k16 : 0 ≤ x16 ∧ x16 ≤ 1983) (k20 : 24 ≤ x20 ∧ x20 ≤ 24) (k23 : 0 ≤ x23 ∧ x23 ≤ 3) (k24 : 0 ≤ x24 ∧ x24 ≤ 24) (k25 : 0 ≤ x25 ∧ x25 ≤ 24) (k26 : (-2147483648) ≤ x26 ∧ x26 ≤ 2147483647) (k27 : (-128) ≤ x27 ∧ x27 ≤ 127) (k29 : 1 ≤ x29 ∧ x29 ≤ 1984) (k30 : 1 ≤ x30 ∧ x30 ≤ 4) (d0 : x15 + 1 ≤ x30 ∧ x30 ≤ x15 + 1) (d2 : x16 + 1 ≤ x29 ∧ x29 ≤ x16 + 1) (g0 : x29 = taped_0) (f2 : x30 = x15 + 1) (g12 : x16 = taped_1) (f16 : x27 = (x26 + 128) % 256 - 128) (f17 : x26 = x1 / ((2 ^ (x25).toNat : Nat) : Int)) (f18 : x25 = x20 - x24) (f19 : x24 = 8 * x23) (f20 : x23 = x15 % 4) (f26 : TFL (taped_2) (tape_2) (tape_2o8) (x1) (x2) (x3) (x4) (x5) (x15)) (fe_0_0_2 : taped_1 = taped_2) (hE_0_1_1 : ∀ j : Int, tape_0 j = tape_1 j) (hE_0_1_2 : ∀ j : Int, 0 ≤ j → (j = x16 → tape_1 j = x27) ∧ (j ≠ x16 → tape_1 j = tape_2 j)) (hE_8_0_1 : ∀ j : Int, tape_0o8 j = tape_1o8 j) (hE_8_0_2 : ∀ j : Int, tape_1o8 j = tape_2o8 j) (kz_0_0 : 0 ≤ taped_0 ∧ taped_0 ≤ 2000) : TFL (taped_0) (tape_0) (tape_0o8) (x1) (x2) (x3) (x4) (x5) (x30) := by
  subst fe_0_0_2
  have e_hE_0_1_1 := funext hE_0_1_1; subst e_hE_0_1_1
  have e_hE_8_0_1 := funext hE_8_0_1; subst e_hE_8_0_1
  have e_hE_8_0_2 := funext hE_8_0_2; subst e_hE_8_0_2
  first | subst g0 | skip
  first | subst g12 | skip
  first
    | exact tfl_0 ‹TFX _ _ _ _ _ _ _ _ _ _› (by have h := tfx_u ‹TFX _ _ _ _ _ _ _ _ _ _›; omega) (by omega)
    | exact tfl_s (m := x26) ‹TFL _ _ _ _ _ _ _ _ _› (by omega) (by assumption) (by omega) (by assumption) (by assumption) (by omega) (by omega) (by omega) (by omega) (by omega)
    | exact tfl_s (m := x25) ‹TFL _ _ _ _ _ _ _ _ _› (by omega) (by assumption) (by omega) (by assumption) (by assumption) (by omega) (by omega) (by omega) (by omega) (by omega)
    | exact tfl_s (m := x24) ‹TFL _ _ _ _ _ _ _ _ _› (by omega) (by assumption) (by omega) (by assumption) (by assumption) (by omega) (by omega) (by omega) (by omega) (by omega)
    | exact tfl_s (m := x23) ‹TFL _ _ _ _ _ _ _ _ _› (by omega) (by assumption) (by omega) (by assumption) (by assumption) (by omega) (by omega) (by omega) (by omega) (by omega)
    | exact tfl_s (m := x22) ‹TFL _ _ _ _ _ _ _ _ _› (by omega) (by assumption) (by omega) (by assumption) (by assumption) (by omega) (by omega) (by omega) (by omega) (by omega)
    | exact tfl_s (m := x27) ‹TFL _ _ _ _ _ _ _ _ _› (by omega) (by assumption) (by omega) (by assumption) (by assumption) (by omega) (by omega) (by omega) (by omega) (by omega)
def o_Mo_feed_8 : or_T := (18, 31, [(0, (2, 0, 0, [165])), (1, (0, -2147483648, 2147483647, [])), (2, (0, -2147483648, 2147483647, [])), (3, (0, -2147483648, 2147483647, [])), (4, (0, -2147483648, 2147483647, [])), (5, (0, -2147483648, 2147483647, [])), (6, (0, 0, 2000, [])), (7, (0, -1, 2000, [])), (8, (2, 0, 0, [8])), (15, (0, 0, 3, [])), (16, (0, 0, 1983, [])), (19, (2, 0, 0, [166])), (20, (0, 24, 24, [])), (21, (0, 8, 8, [])), (23, (0, 0, 3, [])), (24, (0, 0, 24, [])), (25, (0, 0, 24, [])), (26, (0, -2147483648, 2147483647, [])), (27, (0, -128, 127, [])), (29, (0, 1, 1984, [])), (30, (0, 1, 4, []))], [(9, [29, 9], [0]), (9, [19, 9], [1]), (6, [30, 15], [1]), (20, [7, 6], [50, 0, 0, 1, 2, 1, 0, 1, 1]), (24, [0, 9], []), (24, [1, 10], []), (24, [2, 11], []), (24, [3, 12], []), (24, [4, 13], []), (24, [5, 14], []), (101, [9, 29], [0]), (9, [16, 9], [0]), (20, [9, 6, 15], [50, 1, 0, 0, 1, 7, 4, 3, 2, 0, 0, 0, 20, 4, 2, 1, 1, 1, 2]), (100, [19, 16, 27], []), (17, [27, 26], []), (19, [26, 10, 25], []), (2, [25, 20, 24], []), (3, [24, 21, 23], []), (12, [23, 15], [4]), (20, [9, 8, 10, 11, 12, 13, 14, 15], [60, 1, 2, 1108, 0, 1, 1000])], [], [], [(20, [9, 6, 30], [50, 1, 0, 0, 1, 7, 4, 3, 2, 0, 0, 0, 20, 4, 2, 1, 1, 1, 2]), (20, [9, 8, 10, 11, 12, 13, 14, 30], [60, 1, 2, 1108, 0, 1, 1000])], [], [(30, 15, 1, 1), (30, 16, -4294967296, 1), (29, 16, 1, 1), (15, 16, -4294967296, 0), (16, 15, -4294967296, 1980)])
theorem oo_Mo_feed_8 {kA : Nat → ClassId} : or_ok PRD kA GG o_Mo_feed_8 := by
  refine or_mk fun A ta ws vs hD hth hl => ?_
  intro t0 r0 t1 k1 t2 k2 t3 k3 t4 k4 t5 k5 t6 k6 t7 k7 t8 r8 t15 k15 t16 k16 t19 r19 t20 k20 t21 k21 t23 k23 t24 k24 t25 k25 t26 k26 t27 k27 t29 k29 t30 k30 d0 d1 d2 d14 d15 f0 f1 f2 f3 f4 f5 f6 f7 f8 f9 ta1 w1 le1 s1 f12 f13 ta2 w2 le2 s2 f16 f17 f18 f19 f20 f26
  replace f0 := shm_163 f0
  replace f1 := shm_215 f1
  replace f2 := shm_4 f2
  replace f3 := shm_48 f3
  replace f4 := shm_5 f4
  replace f5 := shm_5 f5
  replace f6 := shm_5 f6
  replace f7 := shm_5 f7
  replace f8 := shm_5 f8
  replace f9 := shm_5 f9
  have s1 : (∀ b j, w_el ws b j = w_el w1 b j) ∧ ∀ b j, w_fd ws b j = if b = v_ad (n_v vs 9) ∧ j = 0 then n_v vs 29 else w_fd w1 b j := s1.2
  replace f12 := shm_163 f12
  replace f13 := shm_568 f13
  have s2 : (∀ b j, w_el w1 b j = if b = v_ad (n_v vs 19) ∧ j = (v_iv (n_v vs 16)).toNat then v_iv (n_v vs 27) else w_el w2 b j) ∧ ∀ b k, w_fd w1 b k = w_fd w2 b k := s2.2
  replace f16 := shm_439 f16
  replace f17 := shm_572 f17
  replace f18 := shm_14 f18
  replace f19 := shm_38 f19
  rw [show v_iv (n_v vs 21) = 8 from by omega] at f19
  replace f20 := shm_573 f20
  replace f26 := shm_569 f26
  have q9 : n_v vs 9 = n_v vs 0 := f4.symm
  have q10 : n_v vs 10 = n_v vs 1 := f5.symm
  have q11 : n_v vs 11 = n_v vs 2 := f6.symm
  have q12 : n_v vs 12 = n_v vs 3 := f7.symm
  have q13 : n_v vs 13 = n_v vs 4 := f8.symm
  have q14 : n_v vs 14 = n_v vs 5 := f9.symm
  simp only [q9] at f0 f1
  rw [q9] at s1
  simp only [q9, q10, q11, q12, q13, q14] at f12 f13 f17 f26
  have ar_0_1_1 : w_ar w1 (n_v vs 0) 1 = w_ar ws (n_v vs 0) 1 := by show v_ad (w_fd w1 _ _) = v_ad (w_fd ws _ _); rw [s1.2, if_neg (fun e => absurd e.2 (by decide))]
  have ar_0_1_2 : w_ar w2 (n_v vs 0) 1 = w_ar ws (n_v vs 0) 1 := by rw [← ar_0_1_1]; show v_ad (w_fd w2 _ _) = v_ad (w_fd w1 _ _); rw [s2.2]
  have cr_0_1 := fdq_39 hD hth r0
  have ar_8_0_1 : w_ar w1 (n_v vs 8) 0 = w_ar ws (n_v vs 8) 0 := by show v_ad (w_fd w1 _ _) = v_ad (w_fd ws _ _); rw [s1.2, if_neg (fun e => by have e1 := e.1; have e2 := r8; rw [e1, r0] at e2; exact absurd (Option.some.inj e2) (by decide))]
  have ar_8_0_2 : w_ar w2 (n_v vs 8) 0 = w_ar ws (n_v vs 8) 0 := by rw [← ar_8_0_1]; show v_ad (w_fd w2 _ _) = v_ad (w_fd w1 _ _); rw [s2.2]
  have cr_8_0 := fdq_95 hD hth r8
  have ad_19 : v_ad (n_v vs 19) = w_ar ws (n_v vs 0) 1 := congrArg v_ad f1
  have g0 : v_iv (n_v vs 29) = w_fi ws (n_v vs 0) 0 := congrArg v_iv f0
  have g12 : v_iv (n_v vs 16) = w_fi w1 (n_v vs 0) 0 := congrArg v_iv f12
  simp only [ar_0_1_2, ar_8_0_2] at f26
  have fe_0_0_2 : w_fi w1 (n_v vs 0) 0 = w_fi w2 (n_v vs 0) 0 := congrArg v_iv (s2.2 _ _)
  have hE_0_1_1 : ∀ j : Int, w_ei ws (w_ar ws (n_v vs 0) 1) j = w_ei w1 (w_ar ws (n_v vs 0) 1) j := fun j => s1.1 _ _
  have hE_0_1_2 : ∀ j : Int, 0 ≤ j → (j = v_iv (n_v vs 16) → w_ei w1 (w_ar ws (n_v vs 0) 1) j = v_iv (n_v vs 27)) ∧ (j ≠ v_iv (n_v vs 16) → w_ei w1 (w_ar ws (n_v vs 0) 1) j = w_ei w2 (w_ar ws (n_v vs 0) 1) j) := fun j hj => ⟨fun h => by unfold w_ei; rw [s2.1, if_pos ⟨ad_19.symm, by rw [h]⟩], fun h => by unfold w_ei; rw [s2.1, if_neg (fun e => h (by have := e.2; omega))]⟩
  have hK_0_1 := elq_7 hD hth cr_0_1
  have hE_8_0_1 : ∀ j : Int, w_ei ws (w_ar ws (n_v vs 8) 0) j = w_ei w1 (w_ar ws (n_v vs 8) 0) j := fun j => s1.1 _ _
  have hE_8_0_2 : ∀ j : Int, w_ei w1 (w_ar ws (n_v vs 8) 0) j = w_ei w2 (w_ar ws (n_v vs 8) 0) j := el_kp s2.1 r19 cr_8_0 (by decide)
  have hK_8_0 := elq_33 hD hth cr_8_0
  have kz_0_0 := fdq_148 hD hth r0
  have nf0 : fc_1 PRD (20, [9, 6, 30], [50, 1, 0, 0, 1, 7, 4, 3, 2, 0, 0, 0, 20, 4, 2, 1, 1, 1, 2]) ws (vs) := by
    refine ⟨nf_in hl rfl, sgq_568 ?_⟩
    · show (w_fi ws (n_v vs 9) 0 + 20) = (v_iv (n_v vs 6) + v_iv (n_v vs 30))
      rw [q9]
      exact vc_Mo_feed_8_0 (v_iv (n_v vs 6)) (v_iv (n_v vs 7)) (v_iv (n_v vs 15)) (v_iv (n_v vs 16)) (v_iv (n_v vs 27)) (v_iv (n_v vs 29)) (v_iv (n_v vs 30)) (w_fi ws (n_v vs 0) 0) (w_fi w1 (n_v vs 0) 0) (w_fi w2 (n_v vs 0) 0) (w_ei w2 (w_ar ws (n_v vs 0) 1)) (w_ei w2 (w_ar ws (n_v vs 8) 0)) (w_ei ws (w_ar ws (n_v vs 0) 1)) (w_ei w1 (w_ar ws (n_v vs 0) 1)) (w_ei ws (w_ar ws (n_v vs 8) 0)) (w_ei w1 (w_ar ws (n_v vs 8) 0)) k6 k7 k15 k16 k27 k29 k30 d0 d2 g0 f3 g12 f13 fe_0_0_2 hE_0_1_1 hE_0_1_2 hK_0_1 hE_8_0_1 hE_8_0_2 hK_8_0 kz_0_0
  have nf1 : fc_1 PRD (20, [9, 8, 10, 11, 12, 13, 14, 30], [60, 1, 2, 1108, 0, 1, 1000]) ws (vs) := by
    refine ⟨nf_in hl rfl, sgq_569 ?_⟩
    · show TFL (w_fi ws (n_v vs 9) 0) (w_ei ws (w_ar ws (n_v vs 9) 1)) (w_ei ws (w_ar ws (n_v vs 8) 0)) (v_iv (n_v vs 10)) (v_iv (n_v vs 11)) (v_iv (n_v vs 12)) (v_iv (n_v vs 13)) (v_iv (n_v vs 14)) (v_iv (n_v vs 30))
      simp only [q9, q10, q11, q12, q13, q14]
      exact vc_Mo_feed_8_1 (v_iv (n_v vs 1)) (v_iv (n_v vs 2)) (v_iv (n_v vs 3)) (v_iv (n_v vs 4)) (v_iv (n_v vs 5)) (v_iv (n_v vs 15)) (v_iv (n_v vs 16)) (v_iv (n_v vs 20)) (v_iv (n_v vs 22)) (v_iv (n_v vs 23)) (v_iv (n_v vs 24)) (v_iv (n_v vs 25)) (v_iv (n_v vs 26)) (v_iv (n_v vs 27)) (v_iv (n_v vs 29)) (v_iv (n_v vs 30)) (w_fi ws (n_v vs 0) 0) (w_fi w1 (n_v vs 0) 0) (w_fi w2 (n_v vs 0) 0) (w_ei w2 (w_ar ws (n_v vs 0) 1)) (w_ei w2 (w_ar ws (n_v vs 8) 0)) (w_ei ws (w_ar ws (n_v vs 0) 1)) (w_ei w1 (w_ar ws (n_v vs 0) 1)) (w_ei ws (w_ar ws (n_v vs 8) 0)) (w_ei w1 (w_ar ws (n_v vs 8) 0)) k1 k2 k3 k4 k5 k15 k16 k20 k23 k24 k25 k26 k27 k29 k30 d0 d2 g0 f2 g12 f16 f17 f18 f19 f20 f26 fe_0_0_2 hE_0_1_1 hE_0_1_2 hE_8_0_1 hE_8_0_2 kz_0_0
  refine ⟨(fun _ h => (by cases h)), [], trivial, ?_, (fun _ h => (by cases h))⟩
  rw [List.append_nil]
  exact List.forall_mem_cons.mpr ⟨⟨show (20 : Nat) < 100 from by decide, nf0⟩, List.forall_mem_cons.mpr ⟨⟨show (20 : Nat) < 100 from by decide, nf1⟩, (fun _ h => (by cases h))⟩⟩
def n_Mo_feed_an : List an_T := [(18, [(0, (2, 0, 0, [165])), (1, (0, (Int.negSucc 2147483647), 2147483647, [])), (2, (0, (Int.negSucc 2147483647), 2147483647, [])), (3, (0, (Int.negSucc 2147483647), 2147483647, [])), (4, (0, (Int.negSucc 2147483647), 2147483647, [])), (5, (0, (Int.negSucc 2147483647), 2147483647, [])), (6, (0, 0, 20, []))], [], (0, 0), [(0, 0, 99982), (1, 15, 20), (0, 0, 100000)], [(1, 10, (Int.negSucc 999999999999), 0), (2, 11, (Int.negSucc 999999999999), 0), (3, 12, (Int.negSucc 999999999999), 0), (4, 13, (Int.negSucc 999999999999), 0), (5, 14, (Int.negSucc 999999999999), 0), (10, 1, (Int.negSucc 999999999999), 0), (11, 2, (Int.negSucc 999999999999), 0), (12, 3, (Int.negSucc 999999999999), 0), (13, 4, (Int.negSucc 999999999999), 0), (14, 5, (Int.negSucc 999999999999), 0), (15, 16, (Int.negSucc 999999999999), 0), (16, 15, (Int.negSucc 999999999999), 1980)], [((0, 0), (0, 0, 2000, []))], [(2, 0, 0, [165]), (0, (Int.negSucc 2147483647), 2147483647, []), (0, (Int.negSucc 2147483647), 2147483647, []), (0, (Int.negSucc 2147483647), 2147483647, []), (0, (Int.negSucc 2147483647), 2147483647, []), (0, (Int.negSucc 2147483647), 2147483647, []), (0, 0, 2000, []), (0, (Int.negSucc 0), 2000, []), (2, 0, 0, [8])], 0, [], [(20, [9, 6, 15], [50, 1, 0, 0, 1, 7, 4, 3, 2, 0, 0, 0, 20, 4, 2, 1, 1, 1, 2]), (20, [7, 6], [50, 0, 0, 1, 2, 1, 0, 1, 1]), (20, [9, 8, 10, 11, 12, 13, 14, 15], [60, 1, 2, 1108, 0, 1, 1000]), (24, [0, 9], []), (24, [1, 10], []), (24, [2, 11], []), (24, [3, 12], []), (24, [4, 13], []), (24, [5, 14], [])])]
def t_Mo_feed_ct : ct_L := []
set_option maxRecDepth 100000 in
theorem c_Mo_feed {l : Launch} {D : va_G} {kA : Nat → ClassId} : ct_ok PRD l D kA GG y_Mo_feed z_Mo_feed e_Mo_feed := chk_all_ok (FT := [(9, 13, 1), (383, 13, 0)]) (PT := [(383, 13, 0, .int)]) (CT := t_Mo_feed_ct) (KT := []) (NT := []) (AN := n_Mo_feed_an) (OT := [o_Mo_feed_0, o_Mo_feed_1, o_Mo_feed_2, o_Mo_feed_3, o_Mo_feed_4, o_Mo_feed_5, o_Mo_feed_6, o_Mo_feed_7, o_Mo_feed_8]) 3 628 (List.forall_mem_cons.mpr ⟨oo_Mo_feed_0, List.forall_mem_cons.mpr ⟨oo_Mo_feed_1, List.forall_mem_cons.mpr ⟨oo_Mo_feed_2, List.forall_mem_cons.mpr ⟨oo_Mo_feed_3, List.forall_mem_cons.mpr ⟨oo_Mo_feed_4, List.forall_mem_cons.mpr ⟨oo_Mo_feed_5, List.forall_mem_cons.mpr ⟨oo_Mo_feed_6, List.forall_mem_cons.mpr ⟨oo_Mo_feed_7, List.forall_mem_cons.mpr ⟨oo_Mo_feed_8, List.forall_mem_nil _⟩⟩⟩⟩⟩⟩⟩⟩⟩) (by decide +kernel) ⟨List.forall_mem_cons.mpr ⟨gf_Mo_9, List.forall_mem_cons.mpr ⟨gf_Mo_383, List.forall_mem_nil _⟩⟩, List.forall_mem_cons.mpr ⟨pf_Mo_383, List.forall_mem_nil _⟩, List.forall_mem_nil _, List.forall_mem_nil _, List.forall_mem_nil _, GG_pl⟩ (by decide +kernel)
set_option maxHeartbeats 4000000 in
theorem vc_Mo_fitsFace_0_0 (x1 : Int) (x2 : Int) (x4 : Int) (x6 : Int) (x7 : Int) (x8 : Int) (x9 : Int) (x10 : Int) (faceNodes_0 : Int → Int) (ends_0 : Int → Int) (k1 : 0 ≤ x1 ∧ x1 ≤ 79) (k2 : 0 ≤ x2 ∧ x2 ≤ 119) (k4 : 0 ≤ x4 ∧ x4 ≤ 33554431) (k6 : 0 ≤ x6 ∧ x6 ≤ 33554431) (k7 : (-1) ≤ x7 ∧ x7 ≤ (-1)) (k8 : (-2147483648) ≤ x8 ∧ x8 ≤ 2147483647) (k9 : 1 ≤ x9 ∧ x9 ≤ 33554431) (k10 : 0 ≤ x10 ∧ x10 ≤ 0) (f0 : x9 ≠ 0) (f1 : bvp (x9) = bvp (x4) &&& bvp (x8)) (f2 : bvp (x8) = bvp (x6) ^^^ bvp (x7)) (h3 : x6 = faceNodes_0 (x2)) (h5 : x4 = ends_0 (x1)) (hK_0_50 : ∀ j : Int, 0 ≤ j → j < 80 → 0 ≤ ends_0 j ∧ ends_0 j ≤ 33554431) (hK_0_51 : ∀ j : Int, 0 ≤ j → j < 120 → 0 ≤ faceNodes_0 j ∧ faceNodes_0 j ≤ 33554431) : FIT (ends_0) (faceNodes_0) (x1) (x2) (x10) := by
  first | subst h3 | skip
  first | subst h5 | skip
  unfold FIT
  have key : x9 = 0 ↔ ∀ i, 0 ≤ i → i < 32 → bit (ends_0 x1) i → bit (faceNodes_0 x2) i := by
    constructor
    · intro h i a b c
      apply Classical.byContradiction
      intro d
      have e1 := (bit_xor (n := x8) (a := faceNodes_0 x2) (b := x7) (by assumption) (by omega) a b).mpr d
      have e2 := (bit_and (n := x9) (by assumption) i).mpr ⟨c, e1⟩
      rw [h] at e2
      exact bit_zero i e2
    · intro h
      refine bit_none (fun i a b c => ?_) (by omega) (by omega)
      have e2 := (bit_and (n := x9) (by assumption) i).mp c
      exact (bit_xor (n := x8) (a := faceNodes_0 x2) (b := x7) (by assumption) (by omega) a b).mp e2.2 (h i a b e2.1)
  rw [← key]
  omega
def o_Mo_fitsFace_0 : or_T := (23, 11, [(0, (2, 0, 0, [165])), (1, (0, 0, 79, [])), (2, (0, 0, 119, [])), (3, (2, 0, 0, [193])), (4, (0, 0, 33554431, [])), (5, (2, 0, 0, [194])), (6, (0, 0, 33554431, [])), (7, (0, -1, -1, [])), (8, (0, -2147483648, 2147483647, [])), (9, (0, 1, 33554431, [])), (10, (0, 0, 0, []))], [(8, [9], [1]), (16, [9, 4, 8], [0]), (16, [8, 6, 7], [2]), (10, [6, 5, 2], []), (9, [5, 0], [51]), (10, [4, 3, 1], []), (9, [3, 0], [50])], [], [], [(20, [0, 1, 2, 10], [60, 0, 2, 115, 50, 51])], [], [])
theorem oo_Mo_fitsFace_0 {kA : Nat → ClassId} : or_ok PRD kA GG o_Mo_fitsFace_0 := by
  refine or_mk fun A ta ws vs hD hth hl => ?_
  intro t0 r0 t1 k1 t2 k2 t3 r3 t4 k4 t5 r5 t6 k6 t7 k7 t8 k8 t9 k9 t10 k10 f0 f1 f2 f3 f4 f5 f6
  replace f3 := shm_107 f3
  replace f4 := shm_535 f4
  replace f5 := shm_107 f5
  replace f6 := shm_528 f6
  have cr_0_50 := fdq_139 hD hth r0
  have cr_0_51 := fdq_141 hD hth r0
  have ad_5 : v_ad (n_v vs 5) = w_ar ws (n_v vs 0) 51 := congrArg v_ad f4
  have ad_3 : v_ad (n_v vs 3) = w_ar ws (n_v vs 0) 50 := congrArg v_ad f6
  simp only [ad_5] at f3
  have h3 : v_iv (n_v vs 6) = w_ei ws (w_ar ws (n_v vs 0) 51) (v_iv (n_v vs 2)) := f3
  simp only [ad_3] at f5
  have h5 : v_iv (n_v vs 4) = w_ei ws (w_ar ws (n_v vs 0) 50) (v_iv (n_v vs 1)) := f5
  have hK_0_50 := elq_78 hD hth cr_0_50
  have hK_0_51 := elq_79 hD hth cr_0_51
  have nf0 : fc_1 PRD (20, [0, 1, 2, 10], [60, 0, 2, 115, 50, 51]) ws (vs) := ⟨nf_in hl rfl, sgq_574 (vc_Mo_fitsFace_0_0 (v_iv (n_v vs 1)) (v_iv (n_v vs 2)) (v_iv (n_v vs 4)) (v_iv (n_v vs 6)) (v_iv (n_v vs 7)) (v_iv (n_v vs 8)) (v_iv (n_v vs 9)) (v_iv (n_v vs 10)) (w_ei ws (w_ar ws (n_v vs 0) 51)) (w_ei ws (w_ar ws (n_v vs 0) 50)) k1 k2 k4 k6 k7 k8 k9 k10 (shm_142 f0) (shm_11 f1) (shm_33 f2) h3 h5 hK_0_50 hK_0_51)⟩
  refine ⟨(fun _ h => (by cases h)), [], trivial, ?_, (fun _ h => (by cases h))⟩
  rw [List.append_nil]
  exact List.forall_mem_cons.mpr ⟨⟨show (20 : Nat) < 100 from by decide, nf0⟩, (fun _ h => (by cases h))⟩
set_option maxHeartbeats 4000000 in
theorem vc_Mo_fitsFace_1_0 (x1 : Int) (x2 : Int) (x4 : Int) (x6 : Int) (x7 : Int) (x8 : Int) (x9 : Int) (x10 : Int) (faceNodes_0 : Int → Int) (ends_0 : Int → Int) (k1 : 0 ≤ x1 ∧ x1 ≤ 79) (k2 : 0 ≤ x2 ∧ x2 ≤ 119) (k4 : 0 ≤ x4 ∧ x4 ≤ 33554431) (k6 : 0 ≤ x6 ∧ x6 ≤ 33554431) (k7 : (-1) ≤ x7 ∧ x7 ≤ (-1)) (k8 : (-2147483648) ≤ x8 ∧ x8 ≤ 2147483647) (k9 : 0 ≤ x9 ∧ x9 ≤ 0) (k10 : 1 ≤ x10 ∧ x10 ≤ 1) (f0 : x9 = 0) (f1 : bvp (x9) = bvp (x4) &&& bvp (x8)) (f2 : bvp (x8) = bvp (x6) ^^^ bvp (x7)) (h3 : x6 = faceNodes_0 (x2)) (h5 : x4 = ends_0 (x1)) (hK_0_50 : ∀ j : Int, 0 ≤ j → j < 80 → 0 ≤ ends_0 j ∧ ends_0 j ≤ 33554431) (hK_0_51 : ∀ j : Int, 0 ≤ j → j < 120 → 0 ≤ faceNodes_0 j ∧ faceNodes_0 j ≤ 33554431) : FIT (ends_0) (faceNodes_0) (x1) (x2) (x10) := by
  first | subst h3 | skip
  first | subst h5 | skip
  unfold FIT
  have key : x9 = 0 ↔ ∀ i, 0 ≤ i → i < 32 → bit (ends_0 x1) i → bit (faceNodes_0 x2) i := by
    constructor
    · intro h i a b c
      apply Classical.byContradiction
      intro d
      have e1 := (bit_xor (n := x8) (a := faceNodes_0 x2) (b := x7) (by assumption) (by omega) a b).mpr d
      have e2 := (bit_and (n := x9) (by assumption) i).mpr ⟨c, e1⟩
      rw [h] at e2
      exact bit_zero i e2
    · intro h
      refine bit_none (fun i a b c => ?_) (by omega) (by omega)
      have e2 := (bit_and (n := x9) (by assumption) i).mp c
      exact (bit_xor (n := x8) (a := faceNodes_0 x2) (b := x7) (by assumption) (by omega) a b).mp e2.2 (h i a b e2.1)
  rw [← key]
  omega
def o_Mo_fitsFace_1 : or_T := (23, 11, [(0, (2, 0, 0, [165])), (1, (0, 0, 79, [])), (2, (0, 0, 119, [])), (3, (2, 0, 0, [193])), (4, (0, 0, 33554431, [])), (5, (2, 0, 0, [194])), (6, (0, 0, 33554431, [])), (7, (0, -1, -1, [])), (8, (0, -2147483648, 2147483647, [])), (9, (0, 0, 0, [])), (10, (0, 1, 1, []))], [(8, [9], [0]), (16, [9, 4, 8], [0]), (16, [8, 6, 7], [2]), (10, [6, 5, 2], []), (9, [5, 0], [51]), (10, [4, 3, 1], []), (9, [3, 0], [50])], [], [], [(20, [0, 1, 2, 10], [60, 0, 2, 115, 50, 51])], [], [])
theorem oo_Mo_fitsFace_1 {kA : Nat → ClassId} : or_ok PRD kA GG o_Mo_fitsFace_1 := by
  refine or_mk fun A ta ws vs hD hth hl => ?_
  intro t0 r0 t1 k1 t2 k2 t3 r3 t4 k4 t5 r5 t6 k6 t7 k7 t8 k8 t9 k9 t10 k10 f0 f1 f2 f3 f4 f5 f6
  replace f3 := shm_107 f3
  replace f4 := shm_535 f4
  replace f5 := shm_107 f5
  replace f6 := shm_528 f6
  have cr_0_50 := fdq_139 hD hth r0
  have cr_0_51 := fdq_141 hD hth r0
  have ad_5 : v_ad (n_v vs 5) = w_ar ws (n_v vs 0) 51 := congrArg v_ad f4
  have ad_3 : v_ad (n_v vs 3) = w_ar ws (n_v vs 0) 50 := congrArg v_ad f6
  simp only [ad_5] at f3
  have h3 : v_iv (n_v vs 6) = w_ei ws (w_ar ws (n_v vs 0) 51) (v_iv (n_v vs 2)) := f3
  simp only [ad_3] at f5
  have h5 : v_iv (n_v vs 4) = w_ei ws (w_ar ws (n_v vs 0) 50) (v_iv (n_v vs 1)) := f5
  have hK_0_50 := elq_78 hD hth cr_0_50
  have hK_0_51 := elq_79 hD hth cr_0_51
  have nf0 : fc_1 PRD (20, [0, 1, 2, 10], [60, 0, 2, 115, 50, 51]) ws (vs) := ⟨nf_in hl rfl, sgq_574 (vc_Mo_fitsFace_1_0 (v_iv (n_v vs 1)) (v_iv (n_v vs 2)) (v_iv (n_v vs 4)) (v_iv (n_v vs 6)) (v_iv (n_v vs 7)) (v_iv (n_v vs 8)) (v_iv (n_v vs 9)) (v_iv (n_v vs 10)) (w_ei ws (w_ar ws (n_v vs 0) 51)) (w_ei ws (w_ar ws (n_v vs 0) 50)) k1 k2 k4 k6 k7 k8 k9 k10 (shm_192 f0) (shm_11 f1) (shm_33 f2) h3 h5 hK_0_50 hK_0_51)⟩
  refine ⟨(fun _ h => (by cases h)), [], trivial, ?_, (fun _ h => (by cases h))⟩
  rw [List.append_nil]
  exact List.forall_mem_cons.mpr ⟨⟨show (20 : Nat) < 100 from by decide, nf0⟩, (fun _ h => (by cases h))⟩
def n_Mo_fitsFace_an : List an_T := []
def t_Mo_fitsFace_ct : ct_L := []
set_option maxRecDepth 100000 in
theorem c_Mo_fitsFace {l : Launch} {D : va_G} {kA : Nat → ClassId} : ct_ok PRD l D kA GG y_Mo_fitsFace z_Mo_fitsFace e_Mo_fitsFace := chk_all_ok (FT := [(96, 13, 50), (99, 13, 51)]) (PT := []) (CT := t_Mo_fitsFace_ct) (KT := []) (NT := []) (AN := n_Mo_fitsFace_an) (OT := [o_Mo_fitsFace_0, o_Mo_fitsFace_1]) 0 200 (List.forall_mem_cons.mpr ⟨oo_Mo_fitsFace_0, List.forall_mem_cons.mpr ⟨oo_Mo_fitsFace_1, List.forall_mem_nil _⟩⟩) (by decide +kernel) ⟨List.forall_mem_cons.mpr ⟨gf_Mo_96, List.forall_mem_cons.mpr ⟨gf_Mo_99, List.forall_mem_nil _⟩⟩, List.forall_mem_nil _, List.forall_mem_nil _, List.forall_mem_nil _, List.forall_mem_nil _, GG_pl⟩ (by decide +kernel)

set_option maxHeartbeats 4000000 in
theorem vc_Mo_flood_0_0 (x1 : Int) (x2 : Int) (x3 : Int) (pt_0 : Int → Int) (ph_0 : Int → Int) (pn_0 : Int) (pm_0 : Int) (seen_0 : Int → Int) (k1 : 0 ≤ x1 ∧ x1 ≤ 24) (k2 : (-1) ≤ x2 ∧ x2 ≤ 24) (k3 : 0 ≤ x3 ∧ x3 ≤ 0) (f0 : GOK (pn_0) (pm_0) (pt_0) (ph_0)) (f1 : 1 * x1 + ((-1) * pn_0 + 0) ≤ (-1)) (hK_0_33 : ∀ j : Int, 0 ≤ j → j < 80 → 0 ≤ pt_0 j ∧ pt_0 j ≤ 24) (hK_0_34 : ∀ j : Int, 0 ≤ j → j < 80 → 0 ≤ ph_0 j ∧ ph_0 j ≤ 24) (hK_0_38 : ∀ j : Int, 0 ≤ j → j < 26 → 0 ≤ seen_0 j ∧ seen_0 j ≤ 1) (kz_0_31 : 0 ≤ pn_0 ∧ pn_0 ≤ 25) (kz_0_32 : 0 ≤ pm_0 ∧ pm_0 ≤ 80) : FL0 (seen_0) (x1) (x3) := by
  first
    | (intro j a b; omega)
    | (intro j a b
       by_cases e : j = x6
       · rw [((by assumption : ∀ j : Int, 0 ≤ j → (j = x6 → seen_0 j = _) ∧ (j ≠ x6 → seen_0 j = seen_1 j)) j a).1 e]; omega
       · rw [((by assumption : ∀ j : Int, 0 ≤ j → (j = x6 → seen_0 j = _) ∧ (j ≠ x6 → seen_0 j = seen_1 j)) j a).2 e]; exact ‹FL0 _ _ _› j a (by omega))
def o_Mo_flood_0 : or_T := (2, 4, [(0, (2, 0, 0, [165])), (1, (0, 0, 24, [])), (2, (0, -1, 24, [])), (3, (0, 0, 0, []))], [(20, [0], [60, 2, 2, 75, 31, 32, 33, 34]), (20, [1, 0], [30, -1, 1, 0, 0, -1, 1, 31])], [], [], [(20, [0, 1, 3], [60, 0, 1, 76, 38]), (24, [0, 0], []), (24, [1, 1], []), (24, [2, 2], [])], [], [])
theorem oo_Mo_flood_0 {kA : Nat → ClassId} : or_ok PRD kA GG o_Mo_flood_0 := by
  refine or_mk fun A ta ws vs hD hth hl => ?_
  intro t0 r0 t1 k1 t2 k2 t3 k3 f0 f1
  have cr_0_33 := fdq_117 hD hth r0
  have cr_0_34 := fdq_118 hD hth r0
  have cr_0_38 := fdq_149 hD hth r0
  have hK_0_33 := elq_60 hD hth cr_0_33
  have hK_0_34 := elq_61 hD hth cr_0_34
  have hK_0_38 := elq_83 hD hth cr_0_38
  have kz_0_31 := fdq_145 hD hth r0
  have kz_0_32 := fdq_140 hD hth r0
  have nf0 : fc_1 PRD (20, [0, 1, 3], [60, 0, 1, 76, 38]) ws (vs) := ⟨nf_in hl rfl, sgq_576 (vc_Mo_flood_0_0 (v_iv (n_v vs 1)) (v_iv (n_v vs 2)) (v_iv (n_v vs 3)) (w_ei ws (w_ar ws (n_v vs 0) 33)) (w_ei ws (w_ar ws (n_v vs 0) 34)) (w_fi ws (n_v vs 0) 31) (w_fi ws (n_v vs 0) 32) (w_ei ws (w_ar ws (n_v vs 0) 38)) k1 k2 k3 (shm_575 f0) (shm_553 f1) hK_0_33 hK_0_34 hK_0_38 kz_0_31 kz_0_32)⟩
  have nf1 : fc_1 PRD (24, [0, 0], []) ws (vs) := by
    refine ⟨nf_in hl rfl, sgq_1 ?_⟩
    · show n_v vs 0 = n_v vs 0
      first | rfl | simp only [true_and]
  have nf2 : fc_1 PRD (24, [1, 1], []) ws (vs) := by
    refine ⟨nf_in hl rfl, sgq_1 ?_⟩
    · show n_v vs 1 = n_v vs 1
      first | rfl | simp only [true_and]
  have nf3 : fc_1 PRD (24, [2, 2], []) ws (vs) := by
    refine ⟨nf_in hl rfl, sgq_1 ?_⟩
    · show n_v vs 2 = n_v vs 2
      first | rfl | simp only [true_and]
  refine ⟨(fun _ h => (by cases h)), [], trivial, ?_, (fun _ h => (by cases h))⟩
  rw [List.append_nil]
  exact List.forall_mem_cons.mpr ⟨⟨show (20 : Nat) < 100 from by decide, nf0⟩, List.forall_mem_cons.mpr ⟨⟨show (24 : Nat) < 100 from by decide, nf1⟩, List.forall_mem_cons.mpr ⟨⟨show (24 : Nat) < 100 from by decide, nf2⟩, List.forall_mem_cons.mpr ⟨⟨show (24 : Nat) < 100 from by decide, nf3⟩, (fun _ h => (by cases h))⟩⟩⟩⟩
set_option maxHeartbeats 4000000 in
theorem vc_Mo_flood_1_0 (x1 : Int) (x2 : Int) (x4 : Int) (x5 : Int) (x6 : Int) (x7 : Int) (x8 : Int) (pn_0 : Int) (pt_0 : Int → Int) (ph_0 : Int → Int) (pm_0 : Int) (seen_0 : Int → Int) (alive_0 : Int → Int) (gx : Int) (k1 : 0 ≤ x1 ∧ x1 ≤ 24) (k2 : (-1) ≤ x2 ∧ x2 ≤ 24) (k4 : 0 ≤ x4 ∧ x4 ≤ 24) (k5 : (-1) ≤ x5 ∧ x5 ≤ 24) (k6 : 0 ≤ x6 ∧ x6 ≤ 25) (k7 : 0 ≤ x7 ∧ x7 ≤ 25) (k8 : 1 ≤ x8 ∧ x8 ≤ 1) (d0 : x7 + 0 ≤ x6 ∧ x6 ≤ x7 + 4294967296) (d1 : x4 + (-4294967296) ≤ x1 ∧ x1 ≤ x4 + 0) (d2 : x5 + (-4294967296) ≤ x2 ∧ x2 ≤ x5 + 0) (d3 : x1 + (-4294967296) ≤ x4 ∧ x4 ≤ x1 + 0) (d4 : x2 + (-4294967296) ≤ x5 ∧ x5 ≤ x2 + 0) (f0 : x7 ≤ x6) (g1 : x7 = pn_0) (f2 : GOK (pn_0) (pm_0) (pt_0) (ph_0)) (f3 : 1 * x1 + ((-1) * pn_0 + 0) ≤ (-1)) (f4 : FL0 (seen_0) (x1) (x6)) (hK_0_33 : ∀ j : Int, 0 ≤ j → j < 80 → 0 ≤ pt_0 j ∧ pt_0 j ≤ 24) (hK_0_34 : ∀ j : Int, 0 ≤ j → j < 80 → 0 ≤ ph_0 j ∧ ph_0 j ≤ 24) (hK_0_35 : ∀ j : Int, 0 ≤ j → j < 80 → 0 ≤ alive_0 j ∧ alive_0 j ≤ 1) (hK_0_38 : ∀ j : Int, 0 ≤ j → j < 26 → 0 ≤ seen_0 j ∧ seen_0 j ≤ 1) (kz_0_31 : 0 ≤ pn_0 ∧ pn_0 ≤ 25) (kz_0_32 : 0 ≤ pm_0 ∧ pm_0 ≤ 80) (ex2 : gx = 60) (ex3 : (-2) ≤ gx ∧ gx ≤ 60) : GOK (pn_0) (pm_0) (pt_0) (ph_0) := by
  first | assumption
set_option maxHeartbeats 4000000 in
theorem vc_Mo_flood_1_2 (x1 : Int) (x2 : Int) (x4 : Int) (x5 : Int) (x6 : Int) (x7 : Int) (x8 : Int) (pn_0 : Int) (pt_0 : Int → Int) (ph_0 : Int → Int) (pm_0 : Int) (seen_0 : Int → Int) (alive_0 : Int → Int) (gx : Int) (k1 : 0 ≤ x1 ∧ x1 ≤ 24) (k2 : (-1) ≤ x2 ∧ x2 ≤ 24) (k4 : 0 ≤ x4 ∧ x4 ≤ 24) (k5 : (-1) ≤ x5 ∧ x5 ≤ 24) (k6 : 0 ≤ x6 ∧ x6 ≤ 25) (k7 : 0 ≤ x7 ∧ x7 ≤ 25) (k8 : 1 ≤ x8 ∧ x8 ≤ 1) (d0 : x7 + 0 ≤ x6 ∧ x6 ≤ x7 + 4294967296) (d1 : x4 + (-4294967296) ≤ x1 ∧ x1 ≤ x4 + 0) (d2 : x5 + (-4294967296) ≤ x2 ∧ x2 ≤ x5 + 0) (d3 : x1 + (-4294967296) ≤ x4 ∧ x4 ≤ x1 + 0) (d4 : x2 + (-4294967296) ≤ x5 ∧ x5 ≤ x2 + 0) (f0 : x7 ≤ x6) (g1 : x7 = pn_0) (f2 : GOK (pn_0) (pm_0) (pt_0) (ph_0)) (f3 : 1 * x1 + ((-1) * pn_0 + 0) ≤ (-1)) (f4 : FL0 (seen_0) (x1) (x6)) (hK_0_33 : ∀ j : Int, 0 ≤ j → j < 80 → 0 ≤ pt_0 j ∧ pt_0 j ≤ 24) (hK_0_34 : ∀ j : Int, 0 ≤ j → j < 80 → 0 ≤ ph_0 j ∧ ph_0 j ≤ 24) (hK_0_35 : ∀ j : Int, 0 ≤ j → j < 80 → 0 ≤ alive_0 j ∧ alive_0 j ≤ 1) (hK_0_38 : ∀ j : Int, 0 ≤ j → j < 26 → 0 ≤ seen_0 j ∧ seen_0 j ≤ 1) (kz_0_31 : 0 ≤ pn_0 ∧ pn_0 ≤ 25) (kz_0_32 : 0 ≤ pm_0 ∧ pm_0 ≤ 80) (ex2 : gx = 60) (ex3 : (-2) ≤ gx ∧ gx ≤ 60) : FL1 (pn_0) (pm_0) (pt_0) (ph_0) (alive_0) (seen_0) (x1) (x2) := by
  first
    | exact ⟨fun y h0 h1 hs => by rw [(‹FL0 _ _ _› y h0 (by omega)).mp hs]; exact rc_refl _ _, (‹FL0 _ _ _› _ (by omega) (by omega)).mpr rfl⟩
    | assumption
set_option maxHeartbeats 4000000 in
theorem vc_Mo_flood_1_3 (x1 : Int) (x2 : Int) (x4 : Int) (x5 : Int) (x6 : Int) (x7 : Int) (x8 : Int) (pn_0 : Int) (pt_0 : Int → Int) (ph_0 : Int → Int) (pm_0 : Int) (seen_0 : Int → Int) (alive_0 : Int → Int) (gx : Int) (k1 : 0 ≤ x1 ∧ x1 ≤ 24) (k2 : (-1) ≤ x2 ∧ x2 ≤ 24) (k4 : 0 ≤ x4 ∧ x4 ≤ 24) (k5 : (-1) ≤ x5 ∧ x5 ≤ 24) (k6 : 0 ≤ x6 ∧ x6 ≤ 25) (k7 : 0 ≤ x7 ∧ x7 ≤ 25) (k8 : 1 ≤ x8 ∧ x8 ≤ 1) (d0 : x7 + 0 ≤ x6 ∧ x6 ≤ x7 + 4294967296) (d1 : x4 + (-4294967296) ≤ x1 ∧ x1 ≤ x4 + 0) (d2 : x5 + (-4294967296) ≤ x2 ∧ x2 ≤ x5 + 0) (d3 : x1 + (-4294967296) ≤ x4 ∧ x4 ≤ x1 + 0) (d4 : x2 + (-4294967296) ≤ x5 ∧ x5 ≤ x2 + 0) (f0 : x7 ≤ x6) (g1 : x7 = pn_0) (f2 : GOK (pn_0) (pm_0) (pt_0) (ph_0)) (f3 : 1 * x1 + ((-1) * pn_0 + 0) ≤ (-1)) (f4 : FL0 (seen_0) (x1) (x6)) (hK_0_33 : ∀ j : Int, 0 ≤ j → j < 80 → 0 ≤ pt_0 j ∧ pt_0 j ≤ 24) (hK_0_34 : ∀ j : Int, 0 ≤ j → j < 80 → 0 ≤ ph_0 j ∧ ph_0 j ≤ 24) (hK_0_35 : ∀ j : Int, 0 ≤ j → j < 80 → 0 ≤ alive_0 j ∧ alive_0 j ≤ 1) (hK_0_38 : ∀ j : Int, 0 ≤ j → j < 26 → 0 ≤ seen_0 j ∧ seen_0 j ≤ 1) (kz_0_31 : 0 ≤ pn_0 ∧ pn_0 ≤ 25) (kz_0_32 : 0 ≤ pm_0 ∧ pm_0 ≤ 80) (ex2 : gx = 60) (ex3 : (-2) ≤ gx ∧ gx ≤ 60) : FL3 (pm_0) (pt_0) (ph_0) (alive_0) (seen_0) (x2) (x8) := by
  first
    | (intro h; omega)
    | (have h := ‹FL2 _ _ _ _ _ _ _›; intro h0 f a b; exact h h0 f a (by omega))
set_option maxHeartbeats 4000000 in
theorem vc_Mo_flood_1_4 (x1 : Int) (x2 : Int) (x4 : Int) (x5 : Int) (x6 : Int) (x7 : Int) (x8 : Int) (pn_0 : Int) (pt_0 : Int → Int) (ph_0 : Int → Int) (pm_0 : Int) (seen_0 : Int → Int) (alive_0 : Int → Int) (gx : Int) (k1 : 0 ≤ x1 ∧ x1 ≤ 24) (k2 : (-1) ≤ x2 ∧ x2 ≤ 24) (k4 : 0 ≤ x4 ∧ x4 ≤ 24) (k5 : (-1) ≤ x5 ∧ x5 ≤ 24) (k6 : 0 ≤ x6 ∧ x6 ≤ 25) (k7 : 0 ≤ x7 ∧ x7 ≤ 25) (k8 : 1 ≤ x8 ∧ x8 ≤ 1) (d0 : x7 + 0 ≤ x6 ∧ x6 ≤ x7 + 4294967296) (d1 : x4 + (-4294967296) ≤ x1 ∧ x1 ≤ x4 + 0) (d2 : x5 + (-4294967296) ≤ x2 ∧ x2 ≤ x5 + 0) (d3 : x1 + (-4294967296) ≤ x4 ∧ x4 ≤ x1 + 0) (d4 : x2 + (-4294967296) ≤ x5 ∧ x5 ≤ x2 + 0) (f0 : x7 ≤ x6) (g1 : x7 = pn_0) (f2 : GOK (pn_0) (pm_0) (pt_0) (ph_0)) (f3 : 1 * x1 + ((-1) * pn_0 + 0) ≤ (-1)) (f4 : FL0 (seen_0) (x1) (x6)) (hK_0_33 : ∀ j : Int, 0 ≤ j → j < 80 → 0 ≤ pt_0 j ∧ pt_0 j ≤ 24) (hK_0_34 : ∀ j : Int, 0 ≤ j → j < 80 → 0 ≤ ph_0 j ∧ ph_0 j ≤ 24) (hK_0_35 : ∀ j : Int, 0 ≤ j → j < 80 → 0 ≤ alive_0 j ∧ alive_0 j ≤ 1) (hK_0_38 : ∀ j : Int, 0 ≤ j → j < 26 → 0 ≤ seen_0 j ∧ seen_0 j ≤ 1) (kz_0_31 : 0 ≤ pn_0 ∧ pn_0 ≤ 25) (kz_0_32 : 0 ≤ pm_0 ∧ pm_0 ≤ 80) (ex2 : gx = 60) (ex3 : (-2) ≤ gx ∧ gx ≤ 60) : FLM (seen_0) (x8) (gx) := by
  first
    | (have := czb seen_0 (n := 26) (by omega); unfold FLM; omega)
    | (have := ‹FLN _ _ _›; unfold FLM FLN at *; omega)
def o_Mo_flood_1 : or_T := (34, 9, [(0, (2, 0, 0, [165])), (1, (0, 0, 24, [])), (2, (0, -1, 24, [])), (3, (2, 0, 0, [165])), (4, (0, 0, 24, [])), (5, (0, -1, 24, [])), (6, (0, 0, 25, [])), (7, (0, 0, 25, [])), (8, (0, 1, 1, []))], [(7, [6, 7], [3]), (9, [7, 3], [31]), (20, [3], [60, 2, 2, 75, 31, 32, 33, 34]), (20, [4, 3], [30, -1, 1, 0, 0, -1, 1, 31]), (20, [3, 4, 6], [60, 0, 1, 76, 38]), (24, [0, 3], []), (24, [1, 4], []), (24, [2, 5], [])], [], [(0, -2, 60, [])], [(20, [3], [60, 2, 2, 75, 31, 32, 33, 34]), (20, [4, 3], [30, -1, 1, 0, 0, -1, 1, 31]), (20, [3, 4, 5], [60, 2, 4, 77, 31, 32, 33, 34, 35, 38]), (20, [3, 5, 8], [60, 1, 4, 79, 32, 33, 34, 35, 38]), (20, [3, 8, 9], [60, 0, 1, 81, 38]), (24, [0, 3], []), (24, [1, 4], []), (24, [2, 5], [])], [], [(6, 7, 0, 4294967296), (1, 4, -4294967296, 0), (2, 5, -4294967296, 0), (4, 1, -4294967296, 0), (5, 2, -4294967296, 0)])
theorem oo_Mo_flood_1 {kA : Nat → ClassId} : or_ok PRD kA GG o_Mo_flood_1 := by
  refine or_mk fun A ta ws vs hD hth hl => ?_
  intro t0 r0 t1 k1 t2 k2 t3 r3 t4 k4 t5 k5 t6 k6 t7 k7 t8 k8 d0 d1 d2 d3 d4 f0 f1 f2 f3 f4 f5 f6 f7
  replace f0 := shm_2 f0
  replace f1 := shm_577 f1
  replace f2 := shm_575 f2
  replace f3 := shm_553 f3
  replace f4 := shm_576 f4
  replace f5 := shm_5 f5
  replace f6 := shm_5 f6
  replace f7 := shm_5 f7
  have q3 : n_v vs 3 = n_v vs 0 := f5.symm
  have q4 : n_v vs 4 = n_v vs 1 := f6.symm
  have q5 : n_v vs 5 = n_v vs 2 := f7.symm
  simp only [q3, q4] at f1 f2 f3 f4
  have cr_0_33 := fdq_117 hD hth r0
  have cr_0_34 := fdq_118 hD hth r0
  have cr_0_35 := fdq_132 hD hth r0
  have cr_0_38 := fdq_149 hD hth r0
  have g1 : v_iv (n_v vs 7) = w_fi ws (n_v vs 0) 31 := congrArg v_iv f1
  have hK_0_33 := elq_60 hD hth cr_0_33
  have hK_0_34 := elq_61 hD hth cr_0_34
  have hK_0_35 := elq_72 hD hth cr_0_35
  have hK_0_38 := elq_83 hD hth cr_0_38
  have kz_0_31 := fdq_145 hD hth r0
  have kz_0_32 := fdq_140 hD hth r0
  first | have hN := fln_pos ‹FLN _ _ _› (by omega) | skip
  obtain ⟨x, ex, hx⟩ := iv_ex (ta := ta) (lo := (-2)) (hi := 60) (z := 60) (by omega) (by omega) (by omega) (by omega)
  have ex2 : v_iv (Value.int x) = 60 := ex
  have ex3 : (-2) ≤ v_iv (Value.int x) ∧ v_iv (Value.int x) ≤ 60 := tv_rng hx
  have e_0 : n_v (vs ++ [Value.int x]) 0 = n_v vs 0 := n_v_old (by rw [hl]; decide)
  have e_1 : n_v (vs ++ [Value.int x]) 1 = n_v vs 1 := n_v_old (by rw [hl]; decide)
  have e_2 : n_v (vs ++ [Value.int x]) 2 = n_v vs 2 := n_v_old (by rw [hl]; decide)
  have e_3 : n_v (vs ++ [Value.int x]) 3 = n_v vs 3 := n_v_old (by rw [hl]; decide)
  have e_4 : n_v (vs ++ [Value.int x]) 4 = n_v vs 4 := n_v_old (by rw [hl]; decide)
  have e_5 : n_v (vs ++ [Value.int x]) 5 = n_v vs 5 := n_v_old (by rw [hl]; decide)
  have e_8 : n_v (vs ++ [Value.int x]) 8 = n_v vs 8 := n_v_old (by rw [hl]; decide)
  have e_9 : n_v (vs ++ [Value.int x]) 9 = Value.int x := n_v_new hl
  have nf0 : fc_1 PRD (20, [3], [60, 2, 2, 75, 31, 32, 33, 34]) ws (vs ++ [Value.int x]) := by
    refine ⟨nf_inA hl rfl, sgq_575 ?_⟩
    · show GOK (w_fi ws (n_v (vs ++ [Value.int x]) 3) 31) (w_fi ws (n_v (vs ++ [Value.int x]) 3) 32) (w_ei ws (w_ar ws (n_v (vs ++ [Value.int x]) 3) 33)) (w_ei ws (w_ar ws (n_v (vs ++ [Value.int x]) 3) 34))
      simp only [e_3, q3]
      exact vc_Mo_flood_1_0 (v_iv (n_v vs 1)) (v_iv (n_v vs 2)) (v_iv (n_v vs 4)) (v_iv (n_v vs 5)) (v_iv (n_v vs 6)) (v_iv (n_v vs 7)) (v_iv (n_v vs 8)) (w_fi ws (n_v vs 0) 31) (w_ei ws (w_ar ws (n_v vs 0) 33)) (w_ei ws (w_ar ws (n_v vs 0) 34)) (w_fi ws (n_v vs 0) 32) (w_ei ws (w_ar ws (n_v vs 0) 38)) (w_ei ws (w_ar ws (n_v vs 0) 35)) (v_iv (Value.int x)) k1 k2 k4 k5 k6 k7 k8 d0 d1 d2 d3 d4 f0 g1 f2 f3 f4 hK_0_33 hK_0_34 hK_0_35 hK_0_38 kz_0_31 kz_0_32 ex2 ex3
  have nf1 : fc_1 PRD (20, [4, 3], [30, -1, 1, 0, 0, -1, 1, 31]) ws (vs ++ [Value.int x]) := by
    refine ⟨nf_inA hl rfl, sgq_553 ?_⟩
    · show 1 * v_iv (n_v (vs ++ [Value.int x]) 4) + ((-1) * w_fi ws (n_v (vs ++ [Value.int x]) 3) 31 + 0) ≤ (-1)
      simp only [e_3, e_4, q3, q4]
      omega
  have nf2 : fc_1 PRD (20, [3, 4, 5], [60, 2, 4, 77, 31, 32, 33, 34, 35, 38]) ws (vs ++ [Value.int x]) := by
    refine ⟨nf_inA hl rfl, sgq_578 ?_⟩
    · show FL1 (w_fi ws (n_v (vs ++ [Value.int x]) 3) 31) (w_fi ws (n_v (vs ++ [Value.int x]) 3) 32) (w_ei ws (w_ar ws (n_v (vs ++ [Value.int x]) 3) 33)) (w_ei ws (w_ar ws (n_v (vs ++ [Value.int x]) 3) 34)) (w_ei ws (w_ar ws (n_v (vs ++ [Value.int x]) 3) 35)) (w_ei ws (w_ar ws (n_v (vs ++ [Value.int x]) 3) 38)) (v_iv (n_v (vs ++ [Value.int x]) 4)) (v_iv (n_v (vs ++ [Value.int x]) 5))
      simp only [e_3, e_4, e_5, q3, q4, q5]
      exact vc_Mo_flood_1_2 (v_iv (n_v vs 1)) (v_iv (n_v vs 2)) (v_iv (n_v vs 4)) (v_iv (n_v vs 5)) (v_iv (n_v vs 6)) (v_iv (n_v vs 7)) (v_iv (n_v vs 8)) (w_fi ws (n_v vs 0) 31) (w_ei ws (w_ar ws (n_v vs 0) 33)) (w_ei ws (w_ar ws (n_v vs 0) 34)) (w_fi ws (n_v vs 0) 32) (w_ei ws (w_ar ws (n_v vs 0) 38)) (w_ei ws (w_ar ws (n_v vs 0) 35)) (v_iv (Value.int x)) k1 k2 k4 k5 k6 k7 k8 d0 d1 d2 d3 d4 f0 g1 f2 f3 f4 hK_0_33 hK_0_34 hK_0_35 hK_0_38 kz_0_31 kz_0_32 ex2 ex3
  have nf3 : fc_1 PRD (20, [3, 5, 8], [60, 1, 4, 79, 32, 33, 34, 35, 38]) ws (vs ++ [Value.int x]) := by
    refine ⟨nf_inA hl rfl, sgq_579 ?_⟩
    · show FL3 (w_fi ws (n_v (vs ++ [Value.int x]) 3) 32) (w_ei ws (w_ar ws (n_v (vs ++ [Value.int x]) 3) 33)) (w_ei ws (w_ar ws (n_v (vs ++ [Value.int x]) 3) 34)) (w_ei ws (w_ar ws (n_v (vs ++ [Value.int x]) 3) 35)) (w_ei ws (w_ar ws (n_v (vs ++ [Value.int x]) 3) 38)) (v_iv (n_v (vs ++ [Value.int x]) 5)) (v_iv (n_v (vs ++ [Value.int x]) 8))
      simp only [e_3, e_5, e_8, q3, q5]
      exact vc_Mo_flood_1_3 (v_iv (n_v vs 1)) (v_iv (n_v vs 2)) (v_iv (n_v vs 4)) (v_iv (n_v vs 5)) (v_iv (n_v vs 6)) (v_iv (n_v vs 7)) (v_iv (n_v vs 8)) (w_fi ws (n_v vs 0) 31) (w_ei ws (w_ar ws (n_v vs 0) 33)) (w_ei ws (w_ar ws (n_v vs 0) 34)) (w_fi ws (n_v vs 0) 32) (w_ei ws (w_ar ws (n_v vs 0) 38)) (w_ei ws (w_ar ws (n_v vs 0) 35)) (v_iv (Value.int x)) k1 k2 k4 k5 k6 k7 k8 d0 d1 d2 d3 d4 f0 g1 f2 f3 f4 hK_0_33 hK_0_34 hK_0_35 hK_0_38 kz_0_31 kz_0_32 ex2 ex3
  have nf4 : fc_1 PRD (20, [3, 8, 9], [60, 0, 1, 81, 38]) ws (vs ++ [Value.int x]) := by
    refine ⟨nf_inA hl rfl, sgq_580 ?_⟩
    · show FLM (w_ei ws (w_ar ws (n_v (vs ++ [Value.int x]) 3) 38)) (v_iv (n_v (vs ++ [Value.int x]) 8)) (v_iv (n_v (vs ++ [Value.int x]) 9))
      simp only [e_3, e_8, e_9, q3]
      exact vc_Mo_flood_1_4 (v_iv (n_v vs 1)) (v_iv (n_v vs 2)) (v_iv (n_v vs 4)) (v_iv (n_v vs 5)) (v_iv (n_v vs 6)) (v_iv (n_v vs 7)) (v_iv (n_v vs 8)) (w_fi ws (n_v vs 0) 31) (w_ei ws (w_ar ws (n_v vs 0) 33)) (w_ei ws (w_ar ws (n_v vs 0) 34)) (w_fi ws (n_v vs 0) 32) (w_ei ws (w_ar ws (n_v vs 0) 38)) (w_ei ws (w_ar ws (n_v vs 0) 35)) (v_iv (Value.int x)) k1 k2 k4 k5 k6 k7 k8 d0 d1 d2 d3 d4 f0 g1 f2 f3 f4 hK_0_33 hK_0_34 hK_0_35 hK_0_38 kz_0_31 kz_0_32 ex2 ex3
  have nf5 : fc_1 PRD (24, [0, 3], []) ws (vs ++ [Value.int x]) := by
    refine ⟨nf_inA hl rfl, sgq_5 ?_⟩
    · show n_v (vs ++ [Value.int x]) 0 = n_v (vs ++ [Value.int x]) 3
      first | rfl | simp only [e_0, e_3, q3, q4, q5]
  have nf6 : fc_1 PRD (24, [1, 4], []) ws (vs ++ [Value.int x]) := by
    refine ⟨nf_inA hl rfl, sgq_5 ?_⟩
    · show n_v (vs ++ [Value.int x]) 1 = n_v (vs ++ [Value.int x]) 4
      first | rfl | simp only [e_1, e_4, q3, q4, q5]
  have nf7 : fc_1 PRD (24, [2, 5], []) ws (vs ++ [Value.int x]) := by
    refine ⟨nf_inA hl rfl, sgq_5 ?_⟩
    · show n_v (vs ++ [Value.int x]) 2 = n_v (vs ++ [Value.int x]) 5
      first | rfl | simp only [e_2, e_5, q3, q4, q5]
  exact ⟨(fun _ h => (by cases h)), [Value.int x], ag_one hx, List.forall_mem_cons.mpr ⟨⟨show (20 : Nat) < 100 from by decide, nf0⟩, List.forall_mem_cons.mpr ⟨⟨show (20 : Nat) < 100 from by decide, nf1⟩, List.forall_mem_cons.mpr ⟨⟨show (20 : Nat) < 100 from by decide, nf2⟩, List.forall_mem_cons.mpr ⟨⟨show (20 : Nat) < 100 from by decide, nf3⟩, List.forall_mem_cons.mpr ⟨⟨show (20 : Nat) < 100 from by decide, nf4⟩, List.forall_mem_cons.mpr ⟨⟨show (24 : Nat) < 100 from by decide, nf5⟩, List.forall_mem_cons.mpr ⟨⟨show (24 : Nat) < 100 from by decide, nf6⟩, List.forall_mem_cons.mpr ⟨⟨show (24 : Nat) < 100 from by decide, nf7⟩, (fun _ h => (by cases h))⟩⟩⟩⟩⟩⟩⟩⟩, (fun _ h => (by cases h))⟩
set_option maxHeartbeats 4000000 in
theorem vc_Mo_flood_2_0 (x1 : Int) (x2 : Int) (x4 : Int) (x5 : Int) (x6 : Int) (x7 : Int) (x9 : Int) (x10 : Int) (pt_0 : Int → Int) (ph_0 : Int → Int) (pn_0 : Int) (pm_0 : Int) (pn_1 : Int) (pt_1 : Int → Int) (ph_1 : Int → Int) (pm_1 : Int) (seen_1 : Int → Int) (seen_0 : Int → Int) (k1 : 0 ≤ x1 ∧ x1 ≤ 24) (k2 : (-1) ≤ x2 ∧ x2 ≤ 24) (k4 : 0 ≤ x4 ∧ x4 ≤ 24) (k5 : (-1) ≤ x5 ∧ x5 ≤ 24) (k6 : 0 ≤ x6 ∧ x6 ≤ 24) (k7 : 1 ≤ x7 ∧ x7 ≤ 25) (k9 : 0 ≤ x9 ∧ x9 ≤ 0) (k10 : 1 ≤ x10 ∧ x10 ≤ 25) (d0 : x6 + 1 ≤ x10 ∧ x10 ≤ x6 + 1) (d1 : x7 + (-4294967296) ≤ x10 ∧ x10 ≤ x7 + 0) (d2 : x7 + (-4294967296) ≤ x6 ∧ x6 ≤ x7 + (-1)) (d3 : x4 + (-4294967296) ≤ x1 ∧ x1 ≤ x4 + 0) (d4 : x5 + (-4294967296) ≤ x2 ∧ x2 ≤ x5 + 0) (d5 : x1 + (-4294967296) ≤ x4 ∧ x4 ≤ x1 + 0) (d6 : x2 + (-4294967296) ≤ x5 ∧ x5 ≤ x2 + 0) (f0 : x10 = x6 + 1) (f1 : GOK (pn_0) (pm_0) (pt_0) (ph_0)) (f2 : 1 * x1 + ((-1) * pn_0 + 0) ≤ (-1)) (f7 : x6 ≠ x1) (f9 : x6 < x7) (g10 : x7 = pn_1) (f11 : GOK (pn_1) (pm_1) (pt_1) (ph_1)) (f12 : 1 * x1 + ((-1) * pn_1 + 0) ≤ (-1)) (f13 : FL0 (seen_1) (x1) (x6)) (fe_0_31_1 : pn_0 = pn_1) (fe_0_32_1 : pm_0 = pm_1) (hE_0_33_1 : ∀ j : Int, pt_0 j = pt_1 j) (hK_0_33 : ∀ j : Int, 0 ≤ j → j < 80 → 0 ≤ pt_0 j ∧ pt_0 j ≤ 24) (hE_0_34_1 : ∀ j : Int, ph_0 j = ph_1 j) (hK_0_34 : ∀ j : Int, 0 ≤ j → j < 80 → 0 ≤ ph_0 j ∧ ph_0 j ≤ 24) (hE_0_38_1 : ∀ j : Int, 0 ≤ j → (j = x6 → seen_0 j = x9) ∧ (j ≠ x6 → seen_0 j = seen_1 j)) (hK_0_38 : ∀ j : Int, 0 ≤ j → j < 26 → 0 ≤ seen_0 j ∧ seen_0 j ≤ 1) (kz_0_31 : 0 ≤ pn_0 ∧ pn_0 ≤ 25) (kz_0_32 : 0 ≤ pm_0 ∧ pm_0 ≤ 80) : FL0 (seen_0) (x1) (x10) := by
  subst fe_0_31_1
  subst fe_0_32_1
  have e_hE_0_33_1 := funext hE_0_33_1; subst e_hE_0_33_1
  have e_hE_0_34_1 := funext hE_0_34_1; subst e_hE_0_34_1
  first
    | (intro j a b; omega)
    | (intro j a b
       by_cases e : j = x6
       · rw [((by assumption : ∀ j : Int, 0 ≤ j → (j = x6 → seen_0 j = _) ∧ (j ≠ x6 → seen_0 j = seen_1 j)) j a).1 e]; omega
       · rw [((by assumption : ∀ j : Int, 0 ≤ j → (j = x6 → seen_0 j = _) ∧ (j ≠ x6 → seen_0 j = seen_1 j)) j a).2 e]; exact ‹FL0 _ _ _› j a (by omega))
def o_Mo_flood_2 : or_T := (2, 11, [(0, (2, 0, 0, [165])), (1, (0, 0, 24, [])), (2, (0, -1, 24, [])), (3, (2, 0, 0, [165])), (4, (0, 0, 24, [])), (5, (0, -1, 24, [])), (6, (0, 0, 24, [])), (7, (0, 1, 25, [])), (8, (2, 0, 0, [185])), (9, (0, 0, 0, [])), (10, (0, 1, 25, []))], [(6, [10, 6], [1]), (20, [3], [60, 2, 2, 75, 31, 32, 33, 34]), (20, [4, 3], [30, -1, 1, 0, 0, -1, 1, 31]), (24, [0, 3], []), (24, [1, 4], []), (24, [2, 5], []), (100, [8, 6, 9], []), (7, [6, 4], [1]), (9, [8, 3], [38]), (7, [6, 7], [2]), (9, [7, 3], [31]), (20, [3], [60, 2, 2, 75, 31, 32, 33, 34]), (20, [4, 3], [30, -1, 1, 0, 0, -1, 1, 31]), (20, [3, 4, 6], [60, 0, 1, 76, 38])], [], [], [(20, [3, 4, 10], [60, 0, 1, 76, 38])], [], [(10, 6, 1, 1), (10, 7, -4294967296, 0), (6, 7, -4294967296, -1), (1, 4, -4294967296, 0), (2, 5, -4294967296, 0), (4, 1, -4294967296, 0), (5, 2, -4294967296, 0)])
theorem oo_Mo_flood_2 {kA : Nat → ClassId} : or_ok PRD kA GG o_Mo_flood_2 := by
  refine or_mk fun A ta ws vs hD hth hl => ?_
  intro t0 r0 t1 k1 t2 k2 t3 r3 t4 k4 t5 k5 t6 k6 t7 k7 t8 r8 t9 k9 t10 k10 d0 d1 d2 d3 d4 d5 d6 f0 f1 f2 f3 f4 f5 ta1 w1 le1 s1 f7 f8 f9 f10 f11 f12 f13
  replace f0 := shm_4 f0
  replace f1 := shm_575 f1
  replace f2 := shm_553 f2
  replace f3 := shm_5 f3
  replace f4 := shm_5 f4
  have s1 : (∀ b j, w_el ws b j = if b = v_ad (n_v vs 8) ∧ j = (v_iv (n_v vs 6)).toNat then v_iv (n_v vs 9) else w_el w1 b j) ∧ ∀ b k, w_fd ws b k = w_fd w1 b k := s1.2
  replace f7 := shm_40 f7
  replace f8 := shm_581 f8
  replace f9 := shm_6 f9
  replace f10 := shm_577 f10
  replace f11 := shm_575 f11
  replace f12 := shm_553 f12
  replace f13 := shm_576 f13
  have q3 : n_v vs 3 = n_v vs 0 := f3.symm
  have q4 : n_v vs 4 = n_v vs 1 := f4.symm
  simp only [q3, q4] at f1 f2 f7 f8 f10 f11 f12 f13
  have ar_0_33_1 : w_ar w1 (n_v vs 0) 33 = w_ar ws (n_v vs 0) 33 := congrArg v_ad (s1.2 _ _).symm
  have cr_0_33 := fdq_117 hD hth r0
  have ar_0_34_1 : w_ar w1 (n_v vs 0) 34 = w_ar ws (n_v vs 0) 34 := congrArg v_ad (s1.2 _ _).symm
  have cr_0_34 := fdq_118 hD hth r0
  have ar_0_38_1 : w_ar w1 (n_v vs 0) 38 = w_ar ws (n_v vs 0) 38 := congrArg v_ad (s1.2 _ _).symm
  have cr_0_38 := fdq_149 hD hth r0
  have ad_8 : v_ad (n_v vs 8) = w_ar ws (n_v vs 0) 38 := (congrArg v_ad f8).trans ar_0_38_1
  have g10 : v_iv (n_v vs 7) = w_fi w1 (n_v vs 0) 31 := congrArg v_iv f10
  simp only [ar_0_33_1, ar_0_34_1, ar_0_38_1] at f11 f13
  have fe_0_31_1 : w_fi ws (n_v vs 0) 31 = w_fi w1 (n_v vs 0) 31 := congrArg v_iv (s1.2 _ _)
  have fe_0_32_1 : w_fi ws (n_v vs 0) 32 = w_fi w1 (n_v vs 0) 32 := congrArg v_iv (s1.2 _ _)
  have hE_0_33_1 : ∀ j : Int, w_ei ws (w_ar ws (n_v vs 0) 33) j = w_ei w1 (w_ar ws (n_v vs 0) 33) j := el_kp s1.1 r8 cr_0_33 (by decide)
  have hK_0_33 := elq_60 hD hth cr_0_33
  have hE_0_34_1 : ∀ j : Int, w_ei ws (w_ar ws (n_v vs 0) 34) j = w_ei w1 (w_ar ws (n_v vs 0) 34) j := el_kp s1.1 r8 cr_0_34 (by decide)
  have hK_0_34 := elq_61 hD hth cr_0_34
  have hE_0_38_1 : ∀ j : Int, 0 ≤ j → (j = v_iv (n_v vs 6) → w_ei ws (w_ar ws (n_v vs 0) 38) j = v_iv (n_v vs 9)) ∧ (j ≠ v_iv (n_v vs 6) → w_ei ws (w_ar ws (n_v vs 0) 38) j = w_ei w1 (w_ar ws (n_v vs 0) 38) j) := fun j hj => ⟨fun h => by unfold w_ei; rw [s1.1, if_pos ⟨ad_8.symm, by rw [h]⟩], fun h => by unfold w_ei; rw [s1.1, if_neg (fun e => h (by have := e.2; omega))]⟩
  have hK_0_38 := elq_83 hD hth cr_0_38
  have kz_0_31 := fdq_145 hD hth r0
  have kz_0_32 := fdq_140 hD hth r0
  have nf0 : fc_1 PRD (20, [3, 4, 10], [60, 0, 1, 76, 38]) ws (vs) := by
    refine ⟨nf_in hl rfl, sgq_576 ?_⟩
    · show FL0 (w_ei ws (w_ar ws (n_v vs 3) 38)) (v_iv (n_v vs 4)) (v_iv (n_v vs 10))
      simp only [q3, q4]
      exact vc_Mo_flood_2_0 (v_iv (n_v vs 1)) (v_iv (n_v vs 2)) (v_iv (n_v vs 4)) (v_iv (n_v vs 5)) (v_iv (n_v vs 6)) (v_iv (n_v vs 7)) (v_iv (n_v vs 9)) (v_iv (n_v vs 10)) (w_ei ws (w_ar ws (n_v vs 0) 33)) (w_ei ws (w_ar ws (n_v vs 0) 34)) (w_fi ws (n_v vs 0) 31) (w_fi ws (n_v vs 0) 32) (w_fi w1 (n_v vs 0) 31) (w_ei w1 (w_ar ws (n_v vs 0) 33)) (w_ei w1 (w_ar ws (n_v vs 0) 34)) (w_fi w1 (n_v vs 0) 32) (w_ei w1 (w_ar ws (n_v vs 0) 38)) (w_ei ws (w_ar ws (n_v vs 0) 38)) k1 k2 k4 k5 k6 k7 k9 k10 d0 d1 d2 d3 d4 d5 d6 f0 f1 f2 f7 f9 g10 f11 f12 f13 fe_0_31_1 fe_0_32_1 hE_0_33_1 hK_0_33 hE_0_34_1 hK_0_34 hE_0_38_1 hK_0_38 kz_0_31 kz_0_32
  refine ⟨(fun _ h => (by cases h)), [], trivial, ?_, (fun _ h => (by cases h))⟩
  rw [List.append_nil]
  exact List.forall_mem_cons.mpr ⟨⟨show (20 : Nat) < 100 from by decide, nf0⟩, (fun _ h => (by cases h))⟩
set_option maxHeartbeats 4000000 in
theorem vc_Mo_flood_3_0 (x1 : Int) (x2 : Int) (x4 : Int) (x5 : Int) (x6 : Int) (x7 : Int) (x9 : Int) (x10 : Int) (pt_0 : Int → Int) (ph_0 : Int → Int) (pn_0 : Int) (pm_0 : Int) (pn_1 : Int) (pt_1 : Int → Int) (ph_1 : Int → Int) (pm_1 : Int) (seen_1 : Int → Int) (seen_0 : Int → Int) (k1 : 0 ≤ x1 ∧ x1 ≤ 24) (k2 : (-1) ≤ x2 ∧ x2 ≤ 24) (k4 : 0 ≤ x4 ∧ x4 ≤ 24) (k5 : (-1) ≤ x5 ∧ x5 ≤ 24) (k6 : 0 ≤ x6 ∧ x6 ≤ 24) (k7 : 1 ≤ x7 ∧ x7 ≤ 25) (k9 : 1 ≤ x9 ∧ x9 ≤ 1) (k10 : 1 ≤ x10 ∧ x10 ≤ 25) (d0 : x6 + 1 ≤ x10 ∧ x10 ≤ x6 + 1) (d1 : x4 + 1 ≤ x10 ∧ x10 ≤ x4 + 1) (d2 : x7 + (-4294967296) ≤ x10 ∧ x10 ≤ x7 + 0) (d3 : x4 + 0 ≤ x6 ∧ x6 ≤ x4 + 0) (d4 : x7 + (-4294967296) ≤ x6 ∧ x6 ≤ x7 + (-1)) (d5 : x4 + (-4294967296) ≤ x1 ∧ x1 ≤ x4 + 0) (d6 : x5 + (-4294967296) ≤ x2 ∧ x2 ≤ x5 + 0) (d7 : x1 + (-4294967296) ≤ x4 ∧ x4 ≤ x1 + 0) (d8 : x2 + (-4294967296) ≤ x5 ∧ x5 ≤ x2 + 0) (f0 : x10 = x6 + 1) (f1 : GOK (pn_0) (pm_0) (pt_0) (ph_0)) (f2 : 1 * x1 + ((-1) * pn_0 + 0) ≤ (-1)) (f7 : x6 = x1) (f9 : x6 < x7) (g10 : x7 = pn_1) (f11 : GOK (pn_1) (pm_1) (pt_1) (ph_1)) (f12 : 1 * x1 + ((-1) * pn_1 + 0) ≤ (-1)) (f13 : FL0 (seen_1) (x1) (x6)) (fe_0_31_1 : pn_0 = pn_1) (fe_0_32_1 : pm_0 = pm_1) (hE_0_33_1 : ∀ j : Int, pt_0 j = pt_1 j) (hK_0_33 : ∀ j : Int, 0 ≤ j → j < 80 → 0 ≤ pt_0 j ∧ pt_0 j ≤ 24) (hE_0_34_1 : ∀ j : Int, ph_0 j = ph_1 j) (hK_0_34 : ∀ j : Int, 0 ≤ j → j < 80 → 0 ≤ ph_0 j ∧ ph_0 j ≤ 24) (hE_0_38_1 : ∀ j : Int, 0 ≤ j → (j = x6 → seen_0 j = x9) ∧ (j ≠ x6 → seen_0 j = seen_1 j)) (hK_0_38 : ∀ j : Int, 0 ≤ j → j < 26 → 0 ≤ seen_0 j ∧ seen_0 j ≤ 1) (kz_0_31 : 0 ≤ pn_0 ∧ pn_0 ≤ 25) (kz_0_32 : 0 ≤ pm_0 ∧ pm_0 ≤ 80) : FL0 (seen_0) (x1) (x10) := by
  subst fe_0_31_1
  subst fe_0_32_1
  have e_hE_0_33_1 := funext hE_0_33_1; subst e_hE_0_33_1
  have e_hE_0_34_1 := funext hE_0_34_1; subst e_hE_0_34_1
  first
    | (intro j a b; omega)
    | (intro j a b
       by_cases e : j = x6
       · rw [((by assumption : ∀ j : Int, 0 ≤ j → (j = x6 → seen_0 j = _) ∧ (j ≠ x6 → seen_0 j = seen_1 j)) j a).1 e]; omega
       · rw [((by assumption : ∀ j : Int, 0 ≤ j → (j = x6 → seen_0 j = _) ∧ (j ≠ x6 → seen_0 j = seen_1 j)) j a).2 e]; exact ‹FL0 _ _ _› j a (by omega))
def o_Mo_flood_3 : or_T := (2, 11, [(0, (2, 0, 0, [165])), (1, (0, 0, 24, [])), (2, (0, -1, 24, [])), (3, (2, 0, 0, [165])), (4, (0, 0, 24, [])), (5, (0, -1, 24, [])), (6, (0, 0, 24, [])), (7, (0, 1, 25, [])), (8, (2, 0, 0, [185])), (9, (0, 1, 1, [])), (10, (0, 1, 25, []))], [(6, [10, 6], [1]), (20, [3], [60, 2, 2, 75, 31, 32, 33, 34]), (20, [4, 3], [30, -1, 1, 0, 0, -1, 1, 31]), (24, [0, 3], []), (24, [1, 4], []), (24, [2, 5], []), (100, [8, 6, 9], []), (7, [6, 4], [0]), (9, [8, 3], [38]), (7, [6, 7], [2]), (9, [7, 3], [31]), (20, [3], [60, 2, 2, 75, 31, 32, 33, 34]), (20, [4, 3], [30, -1, 1, 0, 0, -1, 1, 31]), (20, [3, 4, 6], [60, 0, 1, 76, 38])], [], [], [(20, [3, 4, 10], [60, 0, 1, 76, 38])], [], [(10, 6, 1, 1), (10, 4, 1, 1), (10, 7, -4294967296, 0), (6, 4, 0, 0), (6, 7, -4294967296, -1), (1, 4, -4294967296, 0), (2, 5, -4294967296, 0), (4, 1, -4294967296, 0), (5, 2, -4294967296, 0)])
theorem oo_Mo_flood_3 {kA : Nat → ClassId} : or_ok PRD kA GG o_Mo_flood_3 := by
  refine or_mk fun A ta ws vs hD hth hl => ?_
  intro t0 r0 t1 k1 t2 k2 t3 r3 t4 k4 t5 k5 t6 k6 t7 k7 t8 r8 t9 k9 t10 k10 d0 d1 d2 d3 d4 d5 d6 d7 d8 f0 f1 f2 f3 f4 f5 ta1 w1 le1 s1 f7 f8 f9 f10 f11 f12 f13
  replace f0 := shm_4 f0
  replace f1 := shm_575 f1
  replace f2 := shm_553 f2
  replace f3 := shm_5 f3
  replace f4 := shm_5 f4
  have s1 : (∀ b j, w_el ws b j = if b = v_ad (n_v vs 8) ∧ j = (v_iv (n_v vs 6)).toNat then v_iv (n_v vs 9) else w_el w1 b j) ∧ ∀ b k, w_fd ws b k = w_fd w1 b k := s1.2
  replace f7 := shm_37 f7
  replace f8 := shm_581 f8
  replace f9 := shm_6 f9
  replace f10 := shm_577 f10
  replace f11 := shm_575 f11
  replace f12 := shm_553 f12
  replace f13 := shm_576 f13
  have q3 : n_v vs 3 = n_v vs 0 := f3.symm
  have q4 : n_v vs 4 = n_v vs 1 := f4.symm
  simp only [q3, q4] at f1 f2 f7 f8 f10 f11 f12 f13
  have ar_0_33_1 : w_ar w1 (n_v vs 0) 33 = w_ar ws (n_v vs 0) 33 := congrArg v_ad (s1.2 _ _).symm
  have cr_0_33 := fdq_117 hD hth r0
  have ar_0_34_1 : w_ar w1 (n_v vs 0) 34 = w_ar ws (n_v vs 0) 34 := congrArg v_ad (s1.2 _ _).symm
  have cr_0_34 := fdq_118 hD hth r0
  have ar_0_38_1 : w_ar w1 (n_v vs 0) 38 = w_ar ws (n_v vs 0) 38 := congrArg v_ad (s1.2 _ _).symm
  have cr_0_38 := fdq_149 hD hth r0
  have ad_8 : v_ad (n_v vs 8) = w_ar ws (n_v vs 0) 38 := (congrArg v_ad f8).trans ar_0_38_1
  have g10 : v_iv (n_v vs 7) = w_fi w1 (n_v vs 0) 31 := congrArg v_iv f10
  simp only [ar_0_33_1, ar_0_34_1, ar_0_38_1] at f11 f13
  have fe_0_31_1 : w_fi ws (n_v vs 0) 31 = w_fi w1 (n_v vs 0) 31 := congrArg v_iv (s1.2 _ _)
  have fe_0_32_1 : w_fi ws (n_v vs 0) 32 = w_fi w1 (n_v vs 0) 32 := congrArg v_iv (s1.2 _ _)
  have hE_0_33_1 : ∀ j : Int, w_ei ws (w_ar ws (n_v vs 0) 33) j = w_ei w1 (w_ar ws (n_v vs 0) 33) j := el_kp s1.1 r8 cr_0_33 (by decide)
  have hK_0_33 := elq_60 hD hth cr_0_33
  have hE_0_34_1 : ∀ j : Int, w_ei ws (w_ar ws (n_v vs 0) 34) j = w_ei w1 (w_ar ws (n_v vs 0) 34) j := el_kp s1.1 r8 cr_0_34 (by decide)
  have hK_0_34 := elq_61 hD hth cr_0_34
  have hE_0_38_1 : ∀ j : Int, 0 ≤ j → (j = v_iv (n_v vs 6) → w_ei ws (w_ar ws (n_v vs 0) 38) j = v_iv (n_v vs 9)) ∧ (j ≠ v_iv (n_v vs 6) → w_ei ws (w_ar ws (n_v vs 0) 38) j = w_ei w1 (w_ar ws (n_v vs 0) 38) j) := fun j hj => ⟨fun h => by unfold w_ei; rw [s1.1, if_pos ⟨ad_8.symm, by rw [h]⟩], fun h => by unfold w_ei; rw [s1.1, if_neg (fun e => h (by have := e.2; omega))]⟩
  have hK_0_38 := elq_83 hD hth cr_0_38
  have kz_0_31 := fdq_145 hD hth r0
  have kz_0_32 := fdq_140 hD hth r0
  have nf0 : fc_1 PRD (20, [3, 4, 10], [60, 0, 1, 76, 38]) ws (vs) := by
    refine ⟨nf_in hl rfl, sgq_576 ?_⟩
    · show FL0 (w_ei ws (w_ar ws (n_v vs 3) 38)) (v_iv (n_v vs 4)) (v_iv (n_v vs 10))
      simp only [q3, q4]
      exact vc_Mo_flood_3_0 (v_iv (n_v vs 1)) (v_iv (n_v vs 2)) (v_iv (n_v vs 4)) (v_iv (n_v vs 5)) (v_iv (n_v vs 6)) (v_iv (n_v vs 7)) (v_iv (n_v vs 9)) (v_iv (n_v vs 10)) (w_ei ws (w_ar ws (n_v vs 0) 33)) (w_ei ws (w_ar ws (n_v vs 0) 34)) (w_fi ws (n_v vs 0) 31) (w_fi ws (n_v vs 0) 32) (w_fi w1 (n_v vs 0) 31) (w_ei w1 (w_ar ws (n_v vs 0) 33)) (w_ei w1 (w_ar ws (n_v vs 0) 34)) (w_fi w1 (n_v vs 0) 32) (w_ei w1 (w_ar ws (n_v vs 0) 38)) (w_ei ws (w_ar ws (n_v vs 0) 38)) k1 k2 k4 k5 k6 k7 k9 k10 d0 d1 d2 d3 d4 d5 d6 d7 d8 f0 f1 f2 f7 f9 g10 f11 f12 f13 fe_0_31_1 fe_0_32_1 hE_0_33_1 hK_0_33 hE_0_34_1 hK_0_34 hE_0_38_1 hK_0_38 kz_0_31 kz_0_32
  refine ⟨(fun _ h => (by cases h)), [], trivial, ?_, (fun _ h => (by cases h))⟩
  rw [List.append_nil]
  exact List.forall_mem_cons.mpr ⟨⟨show (20 : Nat) < 100 from by decide, nf0⟩, (fun _ h => (by cases h))⟩
set_option maxHeartbeats 4000000 in
theorem vc_Mo_flood_4_0 (x1 : Int) (x2 : Int) (x4 : Int) (x5 : Int) (x6 : Int) (x7 : Int) (pt_0 : Int → Int) (ph_0 : Int → Int) (pn_0 : Int) (pm_0 : Int) (alive_0 : Int → Int) (seen_0 : Int → Int) (k1 : 0 ≤ x1 ∧ x1 ≤ 24) (k2 : (-1) ≤ x2 ∧ x2 ≤ 24) (k4 : 0 ≤ x4 ∧ x4 ≤ 24) (k5 : (-1) ≤ x5 ∧ x5 ≤ 24) (k6 : 0 ≤ x6 ∧ x6 ≤ 0) (k7 : (-2) ≤ x7 ∧ x7 ≤ 60) (d0 : x4 + (-4294967296) ≤ x1 ∧ x1 ≤ x4 + 0) (d1 : x5 + (-4294967296) ≤ x2 ∧ x2 ≤ x5 + 0) (d2 : x1 + (-4294967296) ≤ x4 ∧ x4 ≤ x1 + 0) (d3 : x2 + (-4294967296) ≤ x5 ∧ x5 ≤ x2 + 0) (f0 : x6 = 0) (f1 : GOK (pn_0) (pm_0) (pt_0) (ph_0)) (f2 : 1 * x1 + ((-1) * pn_0 + 0) ≤ (-1)) (f3 : FL1 (pn_0) (pm_0) (pt_0) (ph_0) (alive_0) (seen_0) (x1) (x2)) (f4 : FL3 (pm_0) (pt_0) (ph_0) (alive_0) (seen_0) (x2) (x6)) (f5 : FLM (seen_0) (x6) (x7)) (hK_0_33 : ∀ j : Int, 0 ≤ j → j < 80 → 0 ≤ pt_0 j ∧ pt_0 j ≤ 24) (hK_0_34 : ∀ j : Int, 0 ≤ j → j < 80 → 0 ≤ ph_0 j ∧ ph_0 j ≤ 24) (hK_0_35 : ∀ j : Int, 0 ≤ j → j < 80 → 0 ≤ alive_0 j ∧ alive_0 j ≤ 1) (hK_0_38 : ∀ j : Int, 0 ≤ j → j < 26 → 0 ≤ seen_0 j ∧ seen_0 j ≤ 1) (kz_0_31 : 0 ≤ pn_0 ∧ pn_0 ≤ 25) (kz_0_32 : 0 ≤ pm_0 ∧ pm_0 ≤ 80) : FLD (pn_0) (pm_0) (pt_0) (ph_0) (alive_0) (seen_0) (x1) (x2) := by
  exact fl_end ‹GOK _ _ _ _› ‹FL1 _ _ _ _ _ _ _ _› (by have h := ‹FL3 _ _ _ _ _ _ _›; rw [show x6 = 0 by omega] at h; exact h)
def o_Mo_flood_4 : or_T := (151, 8, [(0, (2, 0, 0, [165])), (1, (0, 0, 24, [])), (2, (0, -1, 24, [])), (4, (0, 0, 24, [])), (5, (0, -1, 24, [])), (6, (0, 0, 0, [])), (7, (0, -2, 60, []))], [(8, [6], [0]), (20, [3], [60, 2, 2, 75, 31, 32, 33, 34]), (20, [4, 3], [30, -1, 1, 0, 0, -1, 1, 31]), (20, [3, 4, 5], [60, 2, 4, 77, 31, 32, 33, 34, 35, 38]), (20, [3, 5, 6], [60, 1, 4, 79, 32, 33, 34, 35, 38]), (20, [3, 6, 7], [60, 0, 1, 81, 38]), (24, [0, 3], []), (24, [1, 4], []), (24, [2, 5], [])], [], [], [(20, [0, 1, 2], [60, 2, 4, 80, 31, 32, 33, 34, 35, 38])], [], [(1, 4, -4294967296, 0), (2, 5, -4294967296, 0), (4, 1, -4294967296, 0), (5, 2, -4294967296, 0)])
theorem oo_Mo_flood_4 {kA : Nat → ClassId} : or_ok PRD kA GG o_Mo_flood_4 := by
  refine or_mk fun A ta ws vs hD hth hl => ?_
  intro t0 r0 t1 k1 t2 k2 t4 k4 t5 k5 t6 k6 t7 k7 d0 d1 d2 d3 f0 f1 f2 f3 f4 f5 f6 f7 f8
  replace f1 := shm_575 f1
  replace f2 := shm_553 f2
  replace f3 := shm_578 f3
  replace f4 := shm_579 f4
  replace f5 := shm_580 f5
  replace f6 := shm_5 f6
  replace f7 := shm_5 f7
  replace f8 := shm_5 f8
  have q3 : n_v vs 3 = n_v vs 0 := f6.symm
  have q4 : n_v vs 4 = n_v vs 1 := f7.symm
  have q5 : n_v vs 5 = n_v vs 2 := f8.symm
  simp only [q3, q4, q5] at f1 f2 f3 f4 f5
  have cr_0_33 := fdq_117 hD hth r0
  have cr_0_34 := fdq_118 hD hth r0
  have cr_0_35 := fdq_132 hD hth r0
  have cr_0_38 := fdq_149 hD hth r0
  have hK_0_33 := elq_60 hD hth cr_0_33
  have hK_0_34 := elq_61 hD hth cr_0_34
  have hK_0_35 := elq_72 hD hth cr_0_35
  have hK_0_38 := elq_83 hD hth cr_0_38
  have kz_0_31 := fdq_145 hD hth r0
  have kz_0_32 := fdq_140 hD hth r0
  have nf0 : fc_1 PRD (20, [0, 1, 2], [60, 2, 4, 80, 31, 32, 33, 34, 35, 38]) ws (vs) := ⟨nf_in hl rfl, sgq_582 (vc_Mo_flood_4_0 (v_iv (n_v vs 1)) (v_iv (n_v vs 2)) (v_iv (n_v vs 4)) (v_iv (n_v vs 5)) (v_iv (n_v vs 6)) (v_iv (n_v vs 7)) (w_ei ws (w_ar ws (n_v vs 0) 33)) (w_ei ws (w_ar ws (n_v vs 0) 34)) (w_fi ws (n_v vs 0) 31) (w_fi ws (n_v vs 0) 32) (w_ei ws (w_ar ws (n_v vs 0) 35)) (w_ei ws (w_ar ws (n_v vs 0) 38)) k1 k2 k4 k5 k6 k7 d0 d1 d2 d3 (shm_192 f0) f1 f2 f3 f4 f5 hK_0_33 hK_0_34 hK_0_35 hK_0_38 kz_0_31 kz_0_32)⟩
  refine ⟨(fun _ h => (by cases h)), [], trivial, ?_, (fun _ h => (by cases h))⟩
  rw [List.append_nil]
  exact List.forall_mem_cons.mpr ⟨⟨show (20 : Nat) < 100 from by decide, nf0⟩, (fun _ h => (by cases h))⟩
set_option maxHeartbeats 4000000 in
theorem vc_Mo_flood_5_0 (x1 : Int) (x2 : Int) (x4 : Int) (x5 : Int) (x6 : Int) (x7 : Int) (x8 : Int) (x9 : Int) (pt_0 : Int → Int) (ph_0 : Int → Int) (pn_0 : Int) (pm_0 : Int) (alive_0 : Int → Int) (seen_0 : Int → Int) (gx : Int) (k1 : 0 ≤ x1 ∧ x1 ≤ 24) (k2 : (-1) ≤ x2 ∧ x2 ≤ 24) (k4 : 0 ≤ x4 ∧ x4 ≤ 24) (k5 : (-1) ≤ x5 ∧ x5 ≤ 24) (k6 : 1 ≤ x6 ∧ x6 ≤ 1) (k7 : (-2) ≤ x7 ∧ x7 ≤ 60) (k8 : 0 ≤ x8 ∧ x8 ≤ 0) (k9 : 0 ≤ x9 ∧ x9 ≤ 0) (d0 : x4 + (-4294967296) ≤ x1 ∧ x1 ≤ x4 + 0) (d1 : x5 + (-4294967296) ≤ x2 ∧ x2 ≤ x5 + 0) (d2 : x1 + (-4294967296) ≤ x4 ∧ x4 ≤ x1 + 0) (d3 : x2 + (-4294967296) ≤ x5 ∧ x5 ≤ x2 + 0) (f0 : x6 ≠ 0) (f1 : GOK (pn_0) (pm_0) (pt_0) (ph_0)) (f2 : 1 * x1 + ((-1) * pn_0 + 0) ≤ (-1)) (f3 : FL1 (pn_0) (pm_0) (pt_0) (ph_0) (alive_0) (seen_0) (x1) (x2)) (f4 : FL3 (pm_0) (pt_0) (ph_0) (alive_0) (seen_0) (x2) (x6)) (f5 : FLM (seen_0) (x6) (x7)) (hK_0_33 : ∀ j : Int, 0 ≤ j → j < 80 → 0 ≤ pt_0 j ∧ pt_0 j ≤ 24) (hK_0_34 : ∀ j : Int, 0 ≤ j → j < 80 → 0 ≤ ph_0 j ∧ ph_0 j ≤ 24) (hK_0_35 : ∀ j : Int, 0 ≤ j → j < 80 → 0 ≤ alive_0 j ∧ alive_0 j ≤ 1) (hK_0_38 : ∀ j : Int, 0 ≤ j → j < 26 → 0 ≤ seen_0 j ∧ seen_0 j ≤ 1) (kz_0_31 : 0 ≤ pn_0 ∧ pn_0 ≤ 25) (kz_0_32 : 0 ≤ pm_0 ∧ pm_0 ≤ 80) (ex2 : gx = 0 + (1 * x7 + 0)) (ex3 : (-2) ≤ gx ∧ gx ≤ 60) : GOK (pn_0) (pm_0) (pt_0) (ph_0) := by
  first | assumption
set_option maxHeartbeats 4000000 in
theorem vc_Mo_flood_5_2 (x1 : Int) (x2 : Int) (x4 : Int) (x5 : Int) (x6 : Int) (x7 : Int) (x8 : Int) (x9 : Int) (pt_0 : Int → Int) (ph_0 : Int → Int) (pn_0 : Int) (pm_0 : Int) (alive_0 : Int → Int) (seen_0 : Int → Int) (gx : Int) (k1 : 0 ≤ x1 ∧ x1 ≤ 24) (k2 : (-1) ≤ x2 ∧ x2 ≤ 24) (k4 : 0 ≤ x4 ∧ x4 ≤ 24) (k5 : (-1) ≤ x5 ∧ x5 ≤ 24) (k6 : 1 ≤ x6 ∧ x6 ≤ 1) (k7 : (-2) ≤ x7 ∧ x7 ≤ 60) (k8 : 0 ≤ x8 ∧ x8 ≤ 0) (k9 : 0 ≤ x9 ∧ x9 ≤ 0) (d0 : x4 + (-4294967296) ≤ x1 ∧ x1 ≤ x4 + 0) (d1 : x5 + (-4294967296) ≤ x2 ∧ x2 ≤ x5 + 0) (d2 : x1 + (-4294967296) ≤ x4 ∧ x4 ≤ x1 + 0) (d3 : x2 + (-4294967296) ≤ x5 ∧ x5 ≤ x2 + 0) (f0 : x6 ≠ 0) (f1 : GOK (pn_0) (pm_0) (pt_0) (ph_0)) (f2 : 1 * x1 + ((-1) * pn_0 + 0) ≤ (-1)) (f3 : FL1 (pn_0) (pm_0) (pt_0) (ph_0) (alive_0) (seen_0) (x1) (x2)) (f4 : FL3 (pm_0) (pt_0) (ph_0) (alive_0) (seen_0) (x2) (x6)) (f5 : FLM (seen_0) (x6) (x7)) (hK_0_33 : ∀ j : Int, 0 ≤ j → j < 80 → 0 ≤ pt_0 j ∧ pt_0 j ≤ 24) (hK_0_34 : ∀ j : Int, 0 ≤ j → j < 80 → 0 ≤ ph_0 j ∧ ph_0 j ≤ 24) (hK_0_35 : ∀ j : Int, 0 ≤ j → j < 80 → 0 ≤ alive_0 j ∧ alive_0 j ≤ 1) (hK_0_38 : ∀ j : Int, 0 ≤ j → j < 26 → 0 ≤ seen_0 j ∧ seen_0 j ≤ 1) (kz_0_31 : 0 ≤ pn_0 ∧ pn_0 ≤ 25) (kz_0_32 : 0 ≤ pm_0 ∧ pm_0 ≤ 80) (ex2 : gx = 0 + (1 * x7 + 0)) (ex3 : (-2) ≤ gx ∧ gx ≤ 60) : FL1 (pn_0) (pm_0) (pt_0) (ph_0) (alive_0) (seen_0) (x1) (x2) := by
  first
    | assumption
    | (refine fl_step (e := x7) ‹GOK _ _ _ _› ‹FL1 _ _ _ _ _ seen_2 _ _› (by omega) (by omega) (by omega) (by omega) (by omega) ?_ (by omega) ?_ ?_ ?_
       · rw [← h19, ← h17, ← h18, ← h16]; exact f15
       · intro y hy h1 h2
         rw [(hE_0_38_1 y hy).2 (by omega), (hE_0_38_2 y hy).2 (by omega)]
       · by_cases q : x21 = x23
         · have := (hE_0_38_1 (pt_0 x7) (by omega)).1 (by omega); omega
         · have := (hE_0_38_1 (pt_0 x7) (by omega)).2 (by omega); have := (hE_0_38_2 (pt_0 x7) (by omega)).1 (by omega); omega
       · have := (hE_0_38_1 (ph_0 x7) (by omega)).1 (by omega); omega)
set_option maxHeartbeats 4000000 in
theorem vc_Mo_flood_5_3 (x1 : Int) (x2 : Int) (x4 : Int) (x5 : Int) (x6 : Int) (x7 : Int) (x8 : Int) (x9 : Int) (pt_0 : Int → Int) (ph_0 : Int → Int) (pn_0 : Int) (pm_0 : Int) (alive_0 : Int → Int) (seen_0 : Int → Int) (gx : Int) (k1 : 0 ≤ x1 ∧ x1 ≤ 24) (k2 : (-1) ≤ x2 ∧ x2 ≤ 24) (k4 : 0 ≤ x4 ∧ x4 ≤ 24) (k5 : (-1) ≤ x5 ∧ x5 ≤ 24) (k6 : 1 ≤ x6 ∧ x6 ≤ 1) (k7 : (-2) ≤ x7 ∧ x7 ≤ 60) (k8 : 0 ≤ x8 ∧ x8 ≤ 0) (k9 : 0 ≤ x9 ∧ x9 ≤ 0) (d0 : x4 + (-4294967296) ≤ x1 ∧ x1 ≤ x4 + 0) (d1 : x5 + (-4294967296) ≤ x2 ∧ x2 ≤ x5 + 0) (d2 : x1 + (-4294967296) ≤ x4 ∧ x4 ≤ x1 + 0) (d3 : x2 + (-4294967296) ≤ x5 ∧ x5 ≤ x2 + 0) (f0 : x6 ≠ 0) (f1 : GOK (pn_0) (pm_0) (pt_0) (ph_0)) (f2 : 1 * x1 + ((-1) * pn_0 + 0) ≤ (-1)) (f3 : FL1 (pn_0) (pm_0) (pt_0) (ph_0) (alive_0) (seen_0) (x1) (x2)) (f4 : FL3 (pm_0) (pt_0) (ph_0) (alive_0) (seen_0) (x2) (x6)) (f5 : FLM (seen_0) (x6) (x7)) (hK_0_33 : ∀ j : Int, 0 ≤ j → j < 80 → 0 ≤ pt_0 j ∧ pt_0 j ≤ 24) (hK_0_34 : ∀ j : Int, 0 ≤ j → j < 80 → 0 ≤ ph_0 j ∧ ph_0 j ≤ 24) (hK_0_35 : ∀ j : Int, 0 ≤ j → j < 80 → 0 ≤ alive_0 j ∧ alive_0 j ≤ 1) (hK_0_38 : ∀ j : Int, 0 ≤ j → j < 26 → 0 ≤ seen_0 j ∧ seen_0 j ≤ 1) (kz_0_31 : 0 ≤ pn_0 ∧ pn_0 ≤ 25) (kz_0_32 : 0 ≤ pm_0 ∧ pm_0 ≤ 80) (ex2 : gx = 0 + (1 * x7 + 0)) (ex3 : (-2) ≤ gx ∧ gx ≤ 60) : FL2 (pt_0) (ph_0) (alive_0) (seen_0) (x2) (x9) (x8) := by
  first
    | (intro h f a b; omega)
    | (have h := ‹FL2 _ _ _ _ _ _ _›
       intro h0 f a b c d e
       by_cases q : f = x7
       · subst q; first | omega | (rw [← h12, ← h10]; rw [h7, h3] at *; omega) | (rw [← h7, ← h3, ← h6, ← h2]; exact f1)
       · exact h h0 f a (by omega) c d e)
set_option maxHeartbeats 4000000 in
theorem vc_Mo_flood_5_4 (x1 : Int) (x2 : Int) (x4 : Int) (x5 : Int) (x6 : Int) (x7 : Int) (x8 : Int) (x9 : Int) (pt_0 : Int → Int) (ph_0 : Int → Int) (pn_0 : Int) (pm_0 : Int) (alive_0 : Int → Int) (seen_0 : Int → Int) (gx : Int) (k1 : 0 ≤ x1 ∧ x1 ≤ 24) (k2 : (-1) ≤ x2 ∧ x2 ≤ 24) (k4 : 0 ≤ x4 ∧ x4 ≤ 24) (k5 : (-1) ≤ x5 ∧ x5 ≤ 24) (k6 : 1 ≤ x6 ∧ x6 ≤ 1) (k7 : (-2) ≤ x7 ∧ x7 ≤ 60) (k8 : 0 ≤ x8 ∧ x8 ≤ 0) (k9 : 0 ≤ x9 ∧ x9 ≤ 0) (d0 : x4 + (-4294967296) ≤ x1 ∧ x1 ≤ x4 + 0) (d1 : x5 + (-4294967296) ≤ x2 ∧ x2 ≤ x5 + 0) (d2 : x1 + (-4294967296) ≤ x4 ∧ x4 ≤ x1 + 0) (d3 : x2 + (-4294967296) ≤ x5 ∧ x5 ≤ x2 + 0) (f0 : x6 ≠ 0) (f1 : GOK (pn_0) (pm_0) (pt_0) (ph_0)) (f2 : 1 * x1 + ((-1) * pn_0 + 0) ≤ (-1)) (f3 : FL1 (pn_0) (pm_0) (pt_0) (ph_0) (alive_0) (seen_0) (x1) (x2)) (f4 : FL3 (pm_0) (pt_0) (ph_0) (alive_0) (seen_0) (x2) (x6)) (f5 : FLM (seen_0) (x6) (x7)) (hK_0_33 : ∀ j : Int, 0 ≤ j → j < 80 → 0 ≤ pt_0 j ∧ pt_0 j ≤ 24) (hK_0_34 : ∀ j : Int, 0 ≤ j → j < 80 → 0 ≤ ph_0 j ∧ ph_0 j ≤ 24) (hK_0_35 : ∀ j : Int, 0 ≤ j → j < 80 → 0 ≤ alive_0 j ∧ alive_0 j ≤ 1) (hK_0_38 : ∀ j : Int, 0 ≤ j → j < 26 → 0 ≤ seen_0 j ∧ seen_0 j ≤ 1) (kz_0_31 : 0 ≤ pn_0 ∧ pn_0 ≤ 25) (kz_0_32 : 0 ≤ pm_0 ∧ pm_0 ≤ 80) (ex2 : gx = 0 + (1 * x7 + 0)) (ex3 : (-2) ≤ gx ∧ gx ≤ 60) : FLN (seen_0) (x8) (gx) := by
  first
    | (have := ‹FLM _ _ _›; unfold FLM FLN at *; omega)
    | assumption
    | (have h := ‹FLN _ _ _›
       unfold FLN at *
       have hq : seen_2 x21 ≠ seen_2 x23 := by intro e; apply f15; rw [h18, h16, h19, h17, ← h13, ← h7]; exact e
       have hle : ∀ j : Int, 0 ≤ j → j < 26 → seen_0 j = 0 → seen_2 j = 0 := by
         intro j a b c
         have h1 := hE_0_38_1 j a
         have h2 := hE_0_38_2 j a
         by_cases q : j = x23
         · have := h1.1 q; omega
         · by_cases q2 : j = x21
           · have := h1.2 q; have := h2.1 q2; omega
           · rw [← h2.2 q2, ← h1.2 q]; exact c
       have z1 : seen_0 x23 ≠ 0 := by have := (hE_0_38_1 x23 (by omega)).1 rfl; omega
       have z2 : seen_0 x21 ≠ 0 := by
         by_cases q : x21 = x23
         · rw [q]; exact z1
         · have := (hE_0_38_1 x21 (by omega)).2 q; have := (hE_0_38_2 x21 (by omega)).1 rfl; omega
       have hb1 := hK_0_38 x21 (by omega) (by omega)
       by_cases q : seen_2 x21 = 0
       · have := czlt (n := 26) (i := x21) (by omega) (by omega) hle q z2; omega
       · rw [show x21 = x17 by omega] at q; have := czlt (n := 26) (i := x23) (f := seen_0) (g := seen_2) (by omega) (by omega) hle (by rw [show x23 = x19 by omega]; omega) z1; omega)
def o_Mo_flood_5 : or_T := (43, 10, [(0, (2, 0, 0, [165])), (1, (0, 0, 24, [])), (2, (0, -1, 24, [])), (3, (2, 0, 0, [165])), (4, (0, 0, 24, [])), (5, (0, -1, 24, [])), (6, (0, 1, 1, [])), (7, (0, -2, 60, [])), (8, (0, 0, 0, [])), (9, (0, 0, 0, []))], [(8, [6], [1]), (20, [3], [60, 2, 2, 75, 31, 32, 33, 34]), (20, [4, 3], [30, -1, 1, 0, 0, -1, 1, 31]), (20, [3, 4, 5], [60, 2, 4, 77, 31, 32, 33, 34, 35, 38]), (20, [3, 5, 6], [60, 1, 4, 79, 32, 33, 34, 35, 38]), (20, [3, 6, 7], [60, 0, 1, 81, 38]), (24, [0, 3], []), (24, [1, 4], []), (24, [2, 5], [])], [], [(0, -2, 60, [])], [(20, [3], [60, 2, 2, 75, 31, 32, 33, 34]), (20, [4, 3], [30, -1, 1, 0, 0, -1, 1, 31]), (20, [3, 4, 5], [60, 2, 4, 77, 31, 32, 33, 34, 35, 38]), (20, [3, 5, 9, 8], [60, 0, 4, 78, 33, 34, 35, 38]), (20, [3, 8, 10], [60, 0, 1, 82, 38]), (24, [0, 3], []), (24, [1, 4], []), (24, [2, 5], [])], [(10, 7, 0, 0)], [(1, 4, -4294967296, 0), (2, 5, -4294967296, 0), (4, 1, -4294967296, 0), (5, 2, -4294967296, 0)])
theorem oo_Mo_flood_5 {kA : Nat → ClassId} : or_ok PRD kA GG o_Mo_flood_5 := by
  refine or_mk fun A ta ws vs hD hth hl => ?_
  intro t0 r0 t1 k1 t2 k2 t3 r3 t4 k4 t5 k5 t6 k6 t7 k7 t8 k8 t9 k9 d0 d1 d2 d3 f0 f1 f2 f3 f4 f5 f6 f7 f8
  replace f0 := shm_142 f0
  replace f1 := shm_575 f1
  replace f2 := shm_553 f2
  replace f3 := shm_578 f3
  replace f4 := shm_579 f4
  replace f5 := shm_580 f5
  replace f6 := shm_5 f6
  replace f7 := shm_5 f7
  replace f8 := shm_5 f8
  have q3 : n_v vs 3 = n_v vs 0 := f6.symm
  have q4 : n_v vs 4 = n_v vs 1 := f7.symm
  have q5 : n_v vs 5 = n_v vs 2 := f8.symm
  simp only [q3, q4, q5] at f1 f2 f3 f4 f5
  have cr_0_33 := fdq_117 hD hth r0
  have cr_0_34 := fdq_118 hD hth r0
  have cr_0_35 := fdq_132 hD hth r0
  have cr_0_38 := fdq_149 hD hth r0
  have hK_0_33 := elq_60 hD hth cr_0_33
  have hK_0_34 := elq_61 hD hth cr_0_34
  have hK_0_35 := elq_72 hD hth cr_0_35
  have hK_0_38 := elq_83 hD hth cr_0_38
  have kz_0_31 := fdq_145 hD hth r0
  have kz_0_32 := fdq_140 hD hth r0
  obtain ⟨x, ex, hx⟩ := iv_ex (ta := ta) (lo := (-2)) (hi := 60) (z := 0 + (1 * v_iv (n_v vs 7) + 0)) (by omega) (by omega) (by omega) (by omega)
  have ex2 : v_iv (Value.int x) = 0 + (1 * v_iv (n_v vs 7) + 0) := ex
  have ex3 : (-2) ≤ v_iv (Value.int x) ∧ v_iv (Value.int x) ≤ 60 := tv_rng hx
  have e_0 : n_v (vs ++ [Value.int x]) 0 = n_v vs 0 := n_v_old (by rw [hl]; decide)
  have e_1 : n_v (vs ++ [Value.int x]) 1 = n_v vs 1 := n_v_old (by rw [hl]; decide)
  have e_2 : n_v (vs ++ [Value.int x]) 2 = n_v vs 2 := n_v_old (by rw [hl]; decide)
  have e_3 : n_v (vs ++ [Value.int x]) 3 = n_v vs 3 := n_v_old (by rw [hl]; decide)
  have e_4 : n_v (vs ++ [Value.int x]) 4 = n_v vs 4 := n_v_old (by rw [hl]; decide)
  have e_5 : n_v (vs ++ [Value.int x]) 5 = n_v vs 5 := n_v_old (by rw [hl]; decide)
  have e_8 : n_v (vs ++ [Value.int x]) 8 = n_v vs 8 := n_v_old (by rw [hl]; decide)
  have e_9 : n_v (vs ++ [Value.int x]) 9 = n_v vs 9 := n_v_old (by rw [hl]; decide)
  have e_10 : n_v (vs ++ [Value.int x]) 10 = Value.int x := n_v_new hl
  have nf0 : fc_1 PRD (20, [3], [60, 2, 2, 75, 31, 32, 33, 34]) ws (vs ++ [Value.int x]) := by
    refine ⟨nf_inA hl rfl, sgq_575 ?_⟩
    · show GOK (w_fi ws (n_v (vs ++ [Value.int x]) 3) 31) (w_fi ws (n_v (vs ++ [Value.int x]) 3) 32) (w_ei ws (w_ar ws (n_v (vs ++ [Value.int x]) 3) 33)) (w_ei ws (w_ar ws (n_v (vs ++ [Value.int x]) 3) 34))
      simp only [e_3, q3]
      exact vc_Mo_flood_5_0 (v_iv (n_v vs 1)) (v_iv (n_v vs 2)) (v_iv (n_v vs 4)) (v_iv (n_v vs 5)) (v_iv (n_v vs 6)) (v_iv (n_v vs 7)) (v_iv (n_v vs 8)) (v_iv (n_v vs 9)) (w_ei ws (w_ar ws (n_v vs 0) 33)) (w_ei ws (w_ar ws (n_v vs 0) 34)) (w_fi ws (n_v vs 0) 31) (w_fi ws (n_v vs 0) 32) (w_ei ws (w_ar ws (n_v vs 0) 35)) (w_ei ws (w_ar ws (n_v vs 0) 38)) (v_iv (Value.int x)) k1 k2 k4 k5 k6 k7 k8 k9 d0 d1 d2 d3 f0 f1 f2 f3 f4 f5 hK_0_33 hK_0_34 hK_0_35 hK_0_38 kz_0_31 kz_0_32 ex2 ex3
  have nf1 : fc_1 PRD (20, [4, 3], [30, -1, 1, 0, 0, -1, 1, 31]) ws (vs ++ [Value.int x]) := by
    refine ⟨nf_inA hl rfl, sgq_553 ?_⟩
    · show 1 * v_iv (n_v (vs ++ [Value.int x]) 4) + ((-1) * w_fi ws (n_v (vs ++ [Value.int x]) 3) 31 + 0) ≤ (-1)
      simp only [e_3, e_4, q3, q4]
      omega
  have nf2 : fc_1 PRD (20, [3, 4, 5], [60, 2, 4, 77, 31, 32, 33, 34, 35, 38]) ws (vs ++ [Value.int x]) := by
    refine ⟨nf_inA hl rfl, sgq_578 ?_⟩
    · show FL1 (w_fi ws (n_v (vs ++ [Value.int x]) 3) 31) (w_fi ws (n_v (vs ++ [Value.int x]) 3) 32) (w_ei ws (w_ar ws (n_v (vs ++ [Value.int x]) 3) 33)) (w_ei ws (w_ar ws (n_v (vs ++ [Value.int x]) 3) 34)) (w_ei ws (w_ar ws (n_v (vs ++ [Value.int x]) 3) 35)) (w_ei ws (w_ar ws (n_v (vs ++ [Value.int x]) 3) 38)) (v_iv (n_v (vs ++ [Value.int x]) 4)) (v_iv (n_v (vs ++ [Value.int x]) 5))
      simp only [e_3, e_4, e_5, q3, q4, q5]
      exact vc_Mo_flood_5_2 (v_iv (n_v vs 1)) (v_iv (n_v vs 2)) (v_iv (n_v vs 4)) (v_iv (n_v vs 5)) (v_iv (n_v vs 6)) (v_iv (n_v vs 7)) (v_iv (n_v vs 8)) (v_iv (n_v vs 9)) (w_ei ws (w_ar ws (n_v vs 0) 33)) (w_ei ws (w_ar ws (n_v vs 0) 34)) (w_fi ws (n_v vs 0) 31) (w_fi ws (n_v vs 0) 32) (w_ei ws (w_ar ws (n_v vs 0) 35)) (w_ei ws (w_ar ws (n_v vs 0) 38)) (v_iv (Value.int x)) k1 k2 k4 k5 k6 k7 k8 k9 d0 d1 d2 d3 f0 f1 f2 f3 f4 f5 hK_0_33 hK_0_34 hK_0_35 hK_0_38 kz_0_31 kz_0_32 ex2 ex3
  have nf3 : fc_1 PRD (20, [3, 5, 9, 8], [60, 0, 4, 78, 33, 34, 35, 38]) ws (vs ++ [Value.int x]) := by
    refine ⟨nf_inA hl rfl, sgq_583 ?_⟩
    · show FL2 (w_ei ws (w_ar ws (n_v (vs ++ [Value.int x]) 3) 33)) (w_ei ws (w_ar ws (n_v (vs ++ [Value.int x]) 3) 34)) (w_ei ws (w_ar ws (n_v (vs ++ [Value.int x]) 3) 35)) (w_ei ws (w_ar ws (n_v (vs ++ [Value.int x]) 3) 38)) (v_iv (n_v (vs ++ [Value.int x]) 5)) (v_iv (n_v (vs ++ [Value.int x]) 9)) (v_iv (n_v (vs ++ [Value.int x]) 8))
      simp only [e_3, e_5, e_8, e_9, q3, q5]
      exact vc_Mo_flood_5_3 (v_iv (n_v vs 1)) (v_iv (n_v vs 2)) (v_iv (n_v vs 4)) (v_iv (n_v vs 5)) (v_iv (n_v vs 6)) (v_iv (n_v vs 7)) (v_iv (n_v vs 8)) (v_iv (n_v vs 9)) (w_ei ws (w_ar ws (n_v vs 0) 33)) (w_ei ws (w_ar ws (n_v vs 0) 34)) (w_fi ws (n_v vs 0) 31) (w_fi ws (n_v vs 0) 32) (w_ei ws (w_ar ws (n_v vs 0) 35)) (w_ei ws (w_ar ws (n_v vs 0) 38)) (v_iv (Value.int x)) k1 k2 k4 k5 k6 k7 k8 k9 d0 d1 d2 d3 f0 f1 f2 f3 f4 f5 hK_0_33 hK_0_34 hK_0_35 hK_0_38 kz_0_31 kz_0_32 ex2 ex3
  have nf4 : fc_1 PRD (20, [3, 8, 10], [60, 0, 1, 82, 38]) ws (vs ++ [Value.int x]) := by
    refine ⟨nf_inA hl rfl, sgq_584 ?_⟩
    · show FLN (w_ei ws (w_ar ws (n_v (vs ++ [Value.int x]) 3) 38)) (v_iv (n_v (vs ++ [Value.int x]) 8)) (v_iv (n_v (vs ++ [Value.int x]) 10))
      simp only [e_3, e_8, e_10, q3]
      exact vc_Mo_flood_5_4 (v_iv (n_v vs 1)) (v_iv (n_v vs 2)) (v_iv (n_v vs 4)) (v_iv (n_v vs 5)) (v_iv (n_v vs 6)) (v_iv (n_v vs 7)) (v_iv (n_v vs 8)) (v_iv (n_v vs 9)) (w_ei ws (w_ar ws (n_v vs 0) 33)) (w_ei ws (w_ar ws (n_v vs 0) 34)) (w_fi ws (n_v vs 0) 31) (w_fi ws (n_v vs 0) 32) (w_ei ws (w_ar ws (n_v vs 0) 35)) (w_ei ws (w_ar ws (n_v vs 0) 38)) (v_iv (Value.int x)) k1 k2 k4 k5 k6 k7 k8 k9 d0 d1 d2 d3 f0 f1 f2 f3 f4 f5 hK_0_33 hK_0_34 hK_0_35 hK_0_38 kz_0_31 kz_0_32 ex2 ex3
  have nf5 : fc_1 PRD (24, [0, 3], []) ws (vs ++ [Value.int x]) := by
    refine ⟨nf_inA hl rfl, sgq_5 ?_⟩
    · show n_v (vs ++ [Value.int x]) 0 = n_v (vs ++ [Value.int x]) 3
      first | rfl | simp only [e_0, e_3, q3, q4, q5]
  have nf6 : fc_1 PRD (24, [1, 4], []) ws (vs ++ [Value.int x]) := by
    refine ⟨nf_inA hl rfl, sgq_5 ?_⟩
    · show n_v (vs ++ [Value.int x]) 1 = n_v (vs ++ [Value.int x]) 4
      first | rfl | simp only [e_1, e_4, q3, q4, q5]
  have nf7 : fc_1 PRD (24, [2, 5], []) ws (vs ++ [Value.int x]) := by
    refine ⟨nf_inA hl rfl, sgq_5 ?_⟩
    · show n_v (vs ++ [Value.int x]) 2 = n_v (vs ++ [Value.int x]) 5
      first | rfl | simp only [e_2, e_5, q3, q4, q5]
  obtain ⟨x0, e0, _, _⟩ := tv_int t7 rfl
  have e1 : v_iv (n_v vs 7) = x0.toInt := by rw [e0]; rfl
  have ho : sy_ofs (vs ++ [Value.int x]) (10, 7, 0, 0) := by
    refine ⟨x, x0, by rw [List.getElem?_append_right (by rw [hl]; decide), hl]; rfl, ?_, ?_, ?_⟩
    · rw [List.getElem?_append_left (by rw [hl]; decide)]; exact n_v_some (by rw [hl]; decide) e0
    · show x0.toInt + 0 ≤ x.toInt; omega
    · show x.toInt ≤ x0.toInt + 0; omega
  exact ⟨(fun _ h => (by cases h)), [Value.int x], ag_one hx, List.forall_mem_cons.mpr ⟨⟨show (20 : Nat) < 100 from by decide, nf0⟩, List.forall_mem_cons.mpr ⟨⟨show (20 : Nat) < 100 from by decide, nf1⟩, List.forall_mem_cons.mpr ⟨⟨show (20 : Nat) < 100 from by decide, nf2⟩, List.forall_mem_cons.mpr ⟨⟨show (20 : Nat) < 100 from by decide, nf3⟩, List.forall_mem_cons.mpr ⟨⟨show (20 : Nat) < 100 from by decide, nf4⟩, List.forall_mem_cons.mpr ⟨⟨show (24 : Nat) < 100 from by decide, nf5⟩, List.forall_mem_cons.mpr ⟨⟨show (24 : Nat) < 100 from by decide, nf6⟩, List.forall_mem_cons.mpr ⟨⟨show (24 : Nat) < 100 from by decide, nf7⟩, (fun _ h => (by cases h))⟩⟩⟩⟩⟩⟩⟩⟩, List.forall_mem_cons.mpr ⟨ho, (fun _ h => (by cases h))⟩⟩
set_option maxHeartbeats 4000000 in
theorem vc_Mo_flood_6_0 (x1 : Int) (x2 : Int) (x4 : Int) (x5 : Int) (x6 : Int) (x7 : Int) (x8 : Int) (x9 : Int) (pm_0 : Int) (pt_0 : Int → Int) (ph_0 : Int → Int) (pn_0 : Int) (alive_0 : Int → Int) (seen_0 : Int → Int) (gx : Int) (k1 : 0 ≤ x1 ∧ x1 ≤ 24) (k2 : (-1) ≤ x2 ∧ x2 ≤ 24) (k4 : 0 ≤ x4 ∧ x4 ≤ 24) (k5 : (-1) ≤ x5 ∧ x5 ≤ 24) (k6 : 0 ≤ x6 ∧ x6 ≤ 1) (k7 : 0 ≤ x7 ∧ x7 ≤ 80) (k8 : (-2) ≤ x8 ∧ x8 ≤ 60) (k9 : 0 ≤ x9 ∧ x9 ≤ 80) (d0 : x9 + 0 ≤ x7 ∧ x7 ≤ x9 + 4294967296) (d1 : x4 + (-4294967296) ≤ x1 ∧ x1 ≤ x4 + 0) (d2 : x5 + (-4294967296) ≤ x2 ∧ x2 ≤ x5 + 0) (d3 : x1 + (-4294967296) ≤ x4 ∧ x4 ≤ x1 + 0) (d4 : x2 + (-4294967296) ≤ x5 ∧ x5 ≤ x2 + 0) (d5 : x7 + (-4294967296) ≤ x6 ∧ x6 ≤ x7 + 0) (f0 : x9 ≤ x7) (g1 : x9 = pm_0) (f2 : GOK (pn_0) (pm_0) (pt_0) (ph_0)) (f3 : 1 * x1 + ((-1) * pn_0 + 0) ≤ (-1)) (f4 : FL1 (pn_0) (pm_0) (pt_0) (ph_0) (alive_0) (seen_0) (x1) (x2)) (f5 : FL2 (pt_0) (ph_0) (alive_0) (seen_0) (x2) (x7) (x6)) (f6 : FLN (seen_0) (x6) (x8)) (hK_0_33 : ∀ j : Int, 0 ≤ j → j < 80 → 0 ≤ pt_0 j ∧ pt_0 j ≤ 24) (hK_0_34 : ∀ j : Int, 0 ≤ j → j < 80 → 0 ≤ ph_0 j ∧ ph_0 j ≤ 24) (hK_0_35 : ∀ j : Int, 0 ≤ j → j < 80 → 0 ≤ alive_0 j ∧ alive_0 j ≤ 1) (hK_0_38 : ∀ j : Int, 0 ≤ j → j < 26 → 0 ≤ seen_0 j ∧ seen_0 j ≤ 1) (kz_0_31 : 0 ≤ pn_0 ∧ pn_0 ≤ 25) (kz_0_32 : 0 ≤ pm_0 ∧ pm_0 ≤ 80) (ex2 : gx = (-1) + (1 * x8 + 0)) (ex3 : (-2) ≤ gx ∧ gx ≤ 60) : GOK (pn_0) (pm_0) (pt_0) (ph_0) := by
  first | assumption
set_option maxHeartbeats 4000000 in
theorem vc_Mo_flood_6_2 (x1 : Int) (x2 : Int) (x4 : Int) (x5 : Int) (x6 : Int) (x7 : Int) (x8 : Int) (x9 : Int) (pm_0 : Int) (pt_0 : Int → Int) (ph_0 : Int → Int) (pn_0 : Int) (alive_0 : Int → Int) (seen_0 : Int → Int) (gx : Int) (k1 : 0 ≤ x1 ∧ x1 ≤ 24) (k2 : (-1) ≤ x2 ∧ x2 ≤ 24) (k4 : 0 ≤ x4 ∧ x4 ≤ 24) (k5 : (-1) ≤ x5 ∧ x5 ≤ 24) (k6 : 0 ≤ x6 ∧ x6 ≤ 1) (k7 : 0 ≤ x7 ∧ x7 ≤ 80) (k8 : (-2) ≤ x8 ∧ x8 ≤ 60) (k9 : 0 ≤ x9 ∧ x9 ≤ 80) (d0 : x9 + 0 ≤ x7 ∧ x7 ≤ x9 + 4294967296) (d1 : x4 + (-4294967296) ≤ x1 ∧ x1 ≤ x4 + 0) (d2 : x5 + (-4294967296) ≤ x2 ∧ x2 ≤ x5 + 0) (d3 : x1 + (-4294967296) ≤ x4 ∧ x4 ≤ x1 + 0) (d4 : x2 + (-4294967296) ≤ x5 ∧ x5 ≤ x2 + 0) (d5 : x7 + (-4294967296) ≤ x6 ∧ x6 ≤ x7 + 0) (f0 : x9 ≤ x7) (g1 : x9 = pm_0) (f2 : GOK (pn_0) (pm_0) (pt_0) (ph_0)) (f3 : 1 * x1 + ((-1) * pn_0 + 0) ≤ (-1)) (f4 : FL1 (pn_0) (pm_0) (pt_0) (ph_0) (alive_0) (seen_0) (x1) (x2)) (f5 : FL2 (pt_0) (ph_0) (alive_0) (seen_0) (x2) (x7) (x6)) (f6 : FLN (seen_0) (x6) (x8)) (hK_0_33 : ∀ j : Int, 0 ≤ j → j < 80 → 0 ≤ pt_0 j ∧ pt_0 j ≤ 24) (hK_0_34 : ∀ j : Int, 0 ≤ j → j < 80 → 0 ≤ ph_0 j ∧ ph_0 j ≤ 24) (hK_0_35 : ∀ j : Int, 0 ≤ j → j < 80 → 0 ≤ alive_0 j ∧ alive_0 j ≤ 1) (hK_0_38 : ∀ j : Int, 0 ≤ j → j < 26 → 0 ≤ seen_0 j ∧ seen_0 j ≤ 1) (kz_0_31 : 0 ≤ pn_0 ∧ pn_0 ≤ 25) (kz_0_32 : 0 ≤ pm_0 ∧ pm_0 ≤ 80) (ex2 : gx = (-1) + (1 * x8 + 0)) (ex3 : (-2) ≤ gx ∧ gx ≤ 60) : FL1 (pn_0) (pm_0) (pt_0) (ph_0) (alive_0) (seen_0) (x1) (x2) := by
  first
    | exact ⟨fun y h0 h1 hs => by rw [(‹FL0 _ _ _› y h0 (by omega)).mp hs]; exact rc_refl _ _, (‹FL0 _ _ _› _ (by omega) (by omega)).mpr rfl⟩
    | assumption
set_option maxHeartbeats 4000000 in
theorem vc_Mo_flood_6_3 (x1 : Int) (x2 : Int) (x4 : Int) (x5 : Int) (x6 : Int) (x7 : Int) (x8 : Int) (x9 : Int) (pm_0 : Int) (pt_0 : Int → Int) (ph_0 : Int → Int) (pn_0 : Int) (alive_0 : Int → Int) (seen_0 : Int → Int) (gx : Int) (k1 : 0 ≤ x1 ∧ x1 ≤ 24) (k2 : (-1) ≤ x2 ∧ x2 ≤ 24) (k4 : 0 ≤ x4 ∧ x4 ≤ 24) (k5 : (-1) ≤ x5 ∧ x5 ≤ 24) (k6 : 0 ≤ x6 ∧ x6 ≤ 1) (k7 : 0 ≤ x7 ∧ x7 ≤ 80) (k8 : (-2) ≤ x8 ∧ x8 ≤ 60) (k9 : 0 ≤ x9 ∧ x9 ≤ 80) (d0 : x9 + 0 ≤ x7 ∧ x7 ≤ x9 + 4294967296) (d1 : x4 + (-4294967296) ≤ x1 ∧ x1 ≤ x4 + 0) (d2 : x5 + (-4294967296) ≤ x2 ∧ x2 ≤ x5 + 0) (d3 : x1 + (-4294967296) ≤ x4 ∧ x4 ≤ x1 + 0) (d4 : x2 + (-4294967296) ≤ x5 ∧ x5 ≤ x2 + 0) (d5 : x7 + (-4294967296) ≤ x6 ∧ x6 ≤ x7 + 0) (f0 : x9 ≤ x7) (g1 : x9 = pm_0) (f2 : GOK (pn_0) (pm_0) (pt_0) (ph_0)) (f3 : 1 * x1 + ((-1) * pn_0 + 0) ≤ (-1)) (f4 : FL1 (pn_0) (pm_0) (pt_0) (ph_0) (alive_0) (seen_0) (x1) (x2)) (f5 : FL2 (pt_0) (ph_0) (alive_0) (seen_0) (x2) (x7) (x6)) (f6 : FLN (seen_0) (x6) (x8)) (hK_0_33 : ∀ j : Int, 0 ≤ j → j < 80 → 0 ≤ pt_0 j ∧ pt_0 j ≤ 24) (hK_0_34 : ∀ j : Int, 0 ≤ j → j < 80 → 0 ≤ ph_0 j ∧ ph_0 j ≤ 24) (hK_0_35 : ∀ j : Int, 0 ≤ j → j < 80 → 0 ≤ alive_0 j ∧ alive_0 j ≤ 1) (hK_0_38 : ∀ j : Int, 0 ≤ j → j < 26 → 0 ≤ seen_0 j ∧ seen_0 j ≤ 1) (kz_0_31 : 0 ≤ pn_0 ∧ pn_0 ≤ 25) (kz_0_32 : 0 ≤ pm_0 ∧ pm_0 ≤ 80) (ex2 : gx = (-1) + (1 * x8 + 0)) (ex3 : (-2) ≤ gx ∧ gx ≤ 60) : FL3 (pm_0) (pt_0) (ph_0) (alive_0) (seen_0) (x2) (x6) := by
  first
    | (intro h; omega)
    | (have h := ‹FL2 _ _ _ _ _ _ _›; intro h0 f a b; exact h h0 f a (by omega))
set_option maxHeartbeats 4000000 in
theorem vc_Mo_flood_6_4 (x1 : Int) (x2 : Int) (x4 : Int) (x5 : Int) (x6 : Int) (x7 : Int) (x8 : Int) (x9 : Int) (pm_0 : Int) (pt_0 : Int → Int) (ph_0 : Int → Int) (pn_0 : Int) (alive_0 : Int → Int) (seen_0 : Int → Int) (gx : Int) (k1 : 0 ≤ x1 ∧ x1 ≤ 24) (k2 : (-1) ≤ x2 ∧ x2 ≤ 24) (k4 : 0 ≤ x4 ∧ x4 ≤ 24) (k5 : (-1) ≤ x5 ∧ x5 ≤ 24) (k6 : 0 ≤ x6 ∧ x6 ≤ 1) (k7 : 0 ≤ x7 ∧ x7 ≤ 80) (k8 : (-2) ≤ x8 ∧ x8 ≤ 60) (k9 : 0 ≤ x9 ∧ x9 ≤ 80) (d0 : x9 + 0 ≤ x7 ∧ x7 ≤ x9 + 4294967296) (d1 : x4 + (-4294967296) ≤ x1 ∧ x1 ≤ x4 + 0) (d2 : x5 + (-4294967296) ≤ x2 ∧ x2 ≤ x5 + 0) (d3 : x1 + (-4294967296) ≤ x4 ∧ x4 ≤ x1 + 0) (d4 : x2 + (-4294967296) ≤ x5 ∧ x5 ≤ x2 + 0) (d5 : x7 + (-4294967296) ≤ x6 ∧ x6 ≤ x7 + 0) (f0 : x9 ≤ x7) (g1 : x9 = pm_0) (f2 : GOK (pn_0) (pm_0) (pt_0) (ph_0)) (f3 : 1 * x1 + ((-1) * pn_0 + 0) ≤ (-1)) (f4 : FL1 (pn_0) (pm_0) (pt_0) (ph_0) (alive_0) (seen_0) (x1) (x2)) (f5 : FL2 (pt_0) (ph_0) (alive_0) (seen_0) (x2) (x7) (x6)) (f6 : FLN (seen_0) (x6) (x8)) (hK_0_33 : ∀ j : Int, 0 ≤ j → j < 80 → 0 ≤ pt_0 j ∧ pt_0 j ≤ 24) (hK_0_34 : ∀ j : Int, 0 ≤ j → j < 80 → 0 ≤ ph_0 j ∧ ph_0 j ≤ 24) (hK_0_35 : ∀ j : Int, 0 ≤ j → j < 80 → 0 ≤ alive_0 j ∧ alive_0 j ≤ 1) (hK_0_38 : ∀ j : Int, 0 ≤ j → j < 26 → 0 ≤ seen_0 j ∧ seen_0 j ≤ 1) (kz_0_31 : 0 ≤ pn_0 ∧ pn_0 ≤ 25) (kz_0_32 : 0 ≤ pm_0 ∧ pm_0 ≤ 80) (ex2 : gx = (-1) + (1 * x8 + 0)) (ex3 : (-2) ≤ gx ∧ gx ≤ 60) : FLM (seen_0) (x6) (gx) := by
  first
    | (have := czb seen_0 (n := 26) (by omega); unfold FLM; omega)
    | (have := ‹FLN _ _ _›; unfold FLM FLN at *; omega)
def o_Mo_flood_6 : or_T := (34, 10, [(0, (2, 0, 0, [165])), (1, (0, 0, 24, [])), (2, (0, -1, 24, [])), (3, (2, 0, 0, [165])), (4, (0, 0, 24, [])), (5, (0, -1, 24, [])), (6, (0, 0, 1, [])), (7, (0, 0, 80, [])), (8, (0, -2, 60, [])), (9, (0, 0, 80, []))], [(7, [7, 9], [3]), (9, [9, 3], [32]), (20, [3], [60, 2, 2, 75, 31, 32, 33, 34]), (20, [4, 3], [30, -1, 1, 0, 0, -1, 1, 31]), (20, [3, 4, 5], [60, 2, 4, 77, 31, 32, 33, 34, 35, 38]), (20, [3, 5, 7, 6], [60, 0, 4, 78, 33, 34, 35, 38]), (20, [3, 6, 8], [60, 0, 1, 82, 38]), (24, [0, 3], []), (24, [1, 4], []), (24, [2, 5], [])], [], [(0, -2, 60, [])], [(20, [3], [60, 2, 2, 75, 31, 32, 33, 34]), (20, [4, 3], [30, -1, 1, 0, 0, -1, 1, 31]), (20, [3, 4, 5], [60, 2, 4, 77, 31, 32, 33, 34, 35, 38]), (20, [3, 5, 6], [60, 1, 4, 79, 32, 33, 34, 35, 38]), (20, [3, 6, 10], [60, 0, 1, 81, 38]), (24, [0, 3], []), (24, [1, 4], []), (24, [2, 5], [])], [(10, 8, -1000000000000, -1)], [(7, 9, 0, 4294967296), (1, 4, -4294967296, 0), (2, 5, -4294967296, 0), (4, 1, -4294967296, 0), (5, 2, -4294967296, 0), (6, 7, -4294967296, 0)])
theorem oo_Mo_flood_6 {kA : Nat → ClassId} : or_ok PRD kA GG o_Mo_flood_6 := by
  refine or_mk fun A ta ws vs hD hth hl => ?_
  intro t0 r0 t1 k1 t2 k2 t3 r3 t4 k4 t5 k5 t6 k6 t7 k7 t8 k8 t9 k9 d0 d1 d2 d3 d4 d5 f0 f1 f2 f3 f4 f5 f6 f7 f8 f9
  replace f0 := shm_2 f0
  replace f1 := shm_525 f1
  replace f2 := shm_575 f2
  replace f3 := shm_553 f3
  replace f4 := shm_578 f4
  replace f5 := shm_583 f5
  replace f6 := shm_584 f6
  replace f7 := shm_5 f7
  replace f8 := shm_5 f8
  replace f9 := shm_5 f9
  have q3 : n_v vs 3 = n_v vs 0 := f7.symm
  have q4 : n_v vs 4 = n_v vs 1 := f8.symm
  have q5 : n_v vs 5 = n_v vs 2 := f9.symm
  simp only [q3, q4, q5] at f1 f2 f3 f4 f5 f6
  have cr_0_33 := fdq_117 hD hth r0
  have cr_0_34 := fdq_118 hD hth r0
  have cr_0_35 := fdq_132 hD hth r0
  have cr_0_38 := fdq_149 hD hth r0
  have g1 : v_iv (n_v vs 9) = w_fi ws (n_v vs 0) 32 := congrArg v_iv f1
  have hK_0_33 := elq_60 hD hth cr_0_33
  have hK_0_34 := elq_61 hD hth cr_0_34
  have hK_0_35 := elq_72 hD hth cr_0_35
  have hK_0_38 := elq_83 hD hth cr_0_38
  have kz_0_31 := fdq_145 hD hth r0
  have kz_0_32 := fdq_140 hD hth r0
  first | have hN := fln_pos ‹FLN _ _ _› (by omega) | skip
  obtain ⟨x, ex, hx⟩ := iv_ex (ta := ta) (lo := (-2)) (hi := 60) (z := (-1) + (1 * v_iv (n_v vs 8) + 0)) (by omega) (by omega) (by omega) (by omega)
  have ex2 : v_iv (Value.int x) = (-1) + (1 * v_iv (n_v vs 8) + 0) := ex
  have ex3 : (-2) ≤ v_iv (Value.int x) ∧ v_iv (Value.int x) ≤ 60 := tv_rng hx
  have e_0 : n_v (vs ++ [Value.int x]) 0 = n_v vs 0 := n_v_old (by rw [hl]; decide)
  have e_1 : n_v (vs ++ [Value.int x]) 1 = n_v vs 1 := n_v_old (by rw [hl]; decide)
  have e_2 : n_v (vs ++ [Value.int x]) 2 = n_v vs 2 := n_v_old (by rw [hl]; decide)
  have e_3 : n_v (vs ++ [Value.int x]) 3 = n_v vs 3 := n_v_old (by rw [hl]; decide)
  have e_4 : n_v (vs ++ [Value.int x]) 4 = n_v vs 4 := n_v_old (by rw [hl]; decide)
  have e_5 : n_v (vs ++ [Value.int x]) 5 = n_v vs 5 := n_v_old (by rw [hl]; decide)
  have e_6 : n_v (vs ++ [Value.int x]) 6 = n_v vs 6 := n_v_old (by rw [hl]; decide)
  have e_10 : n_v (vs ++ [Value.int x]) 10 = Value.int x := n_v_new hl
  have nf0 : fc_1 PRD (20, [3], [60, 2, 2, 75, 31, 32, 33, 34]) ws (vs ++ [Value.int x]) := by
    refine ⟨nf_inA hl rfl, sgq_575 ?_⟩
    · show GOK (w_fi ws (n_v (vs ++ [Value.int x]) 3) 31) (w_fi ws (n_v (vs ++ [Value.int x]) 3) 32) (w_ei ws (w_ar ws (n_v (vs ++ [Value.int x]) 3) 33)) (w_ei ws (w_ar ws (n_v (vs ++ [Value.int x]) 3) 34))
      simp only [e_3, q3]
      exact vc_Mo_flood_6_0 (v_iv (n_v vs 1)) (v_iv (n_v vs 2)) (v_iv (n_v vs 4)) (v_iv (n_v vs 5)) (v_iv (n_v vs 6)) (v_iv (n_v vs 7)) (v_iv (n_v vs 8)) (v_iv (n_v vs 9)) (w_fi ws (n_v vs 0) 32) (w_ei ws (w_ar ws (n_v vs 0) 33)) (w_ei ws (w_ar ws (n_v vs 0) 34)) (w_fi ws (n_v vs 0) 31) (w_ei ws (w_ar ws (n_v vs 0) 35)) (w_ei ws (w_ar ws (n_v vs 0) 38)) (v_iv (Value.int x)) k1 k2 k4 k5 k6 k7 k8 k9 d0 d1 d2 d3 d4 d5 f0 g1 f2 f3 f4 f5 f6 hK_0_33 hK_0_34 hK_0_35 hK_0_38 kz_0_31 kz_0_32 ex2 ex3
  have nf1 : fc_1 PRD (20, [4, 3], [30, -1, 1, 0, 0, -1, 1, 31]) ws (vs ++ [Value.int x]) := by
    refine ⟨nf_inA hl rfl, sgq_553 ?_⟩
    · show 1 * v_iv (n_v (vs ++ [Value.int x]) 4) + ((-1) * w_fi ws (n_v (vs ++ [Value.int x]) 3) 31 + 0) ≤ (-1)
      simp only [e_3, e_4, q3, q4]
      omega
  have nf2 : fc_1 PRD (20, [3, 4, 5], [60, 2, 4, 77, 31, 32, 33, 34, 35, 38]) ws (vs ++ [Value.int x]) := by
    refine ⟨nf_inA hl rfl, sgq_578 ?_⟩
    · show FL1 (w_fi ws (n_v (vs ++ [Value.int x]) 3) 31) (w_fi ws (n_v (vs ++ [Value.int x]) 3) 32) (w_ei ws (w_ar ws (n_v (vs ++ [Value.int x]) 3) 33)) (w_ei ws (w_ar ws (n_v (vs ++ [Value.int x]) 3) 34)) (w_ei ws (w_ar ws (n_v (vs ++ [Value.int x]) 3) 35)) (w_ei ws (w_ar ws (n_v (vs ++ [Value.int x]) 3) 38)) (v_iv (n_v (vs ++ [Value.int x]) 4)) (v_iv (n_v (vs ++ [Value.int x]) 5))
      simp only [e_3, e_4, e_5, q3, q4, q5]
      exact vc_Mo_flood_6_2 (v_iv (n_v vs 1)) (v_iv (n_v vs 2)) (v_iv (n_v vs 4)) (v_iv (n_v vs 5)) (v_iv (n_v vs 6)) (v_iv (n_v vs 7)) (v_iv (n_v vs 8)) (v_iv (n_v vs 9)) (w_fi ws (n_v vs 0) 32) (w_ei ws (w_ar ws (n_v vs 0) 33)) (w_ei ws (w_ar ws (n_v vs 0) 34)) (w_fi ws (n_v vs 0) 31) (w_ei ws (w_ar ws (n_v vs 0) 35)) (w_ei ws (w_ar ws (n_v vs 0) 38)) (v_iv (Value.int x)) k1 k2 k4 k5 k6 k7 k8 k9 d0 d1 d2 d3 d4 d5 f0 g1 f2 f3 f4 f5 f6 hK_0_33 hK_0_34 hK_0_35 hK_0_38 kz_0_31 kz_0_32 ex2 ex3
  have nf3 : fc_1 PRD (20, [3, 5, 6], [60, 1, 4, 79, 32, 33, 34, 35, 38]) ws (vs ++ [Value.int x]) := by
    refine ⟨nf_inA hl rfl, sgq_579 ?_⟩
    · show FL3 (w_fi ws (n_v (vs ++ [Value.int x]) 3) 32) (w_ei ws (w_ar ws (n_v (vs ++ [Value.int x]) 3) 33)) (w_ei ws (w_ar ws (n_v (vs ++ [Value.int x]) 3) 34)) (w_ei ws (w_ar ws (n_v (vs ++ [Value.int x]) 3) 35)) (w_ei ws (w_ar ws (n_v (vs ++ [Value.int x]) 3) 38)) (v_iv (n_v (vs ++ [Value.int x]) 5)) (v_iv (n_v (vs ++ [Value.int x]) 6))
      simp only [e_3, e_5, e_6, q3, q5]
      exact vc_Mo_flood_6_3 (v_iv (n_v vs 1)) (v_iv (n_v vs 2)) (v_iv (n_v vs 4)) (v_iv (n_v vs 5)) (v_iv (n_v vs 6)) (v_iv (n_v vs 7)) (v_iv (n_v vs 8)) (v_iv (n_v vs 9)) (w_fi ws (n_v vs 0) 32) (w_ei ws (w_ar ws (n_v vs 0) 33)) (w_ei ws (w_ar ws (n_v vs 0) 34)) (w_fi ws (n_v vs 0) 31) (w_ei ws (w_ar ws (n_v vs 0) 35)) (w_ei ws (w_ar ws (n_v vs 0) 38)) (v_iv (Value.int x)) k1 k2 k4 k5 k6 k7 k8 k9 d0 d1 d2 d3 d4 d5 f0 g1 f2 f3 f4 f5 f6 hK_0_33 hK_0_34 hK_0_35 hK_0_38 kz_0_31 kz_0_32 ex2 ex3
  have nf4 : fc_1 PRD (20, [3, 6, 10], [60, 0, 1, 81, 38]) ws (vs ++ [Value.int x]) := by
    refine ⟨nf_inA hl rfl, sgq_580 ?_⟩
    · show FLM (w_ei ws (w_ar ws (n_v (vs ++ [Value.int x]) 3) 38)) (v_iv (n_v (vs ++ [Value.int x]) 6)) (v_iv (n_v (vs ++ [Value.int x]) 10))
      simp only [e_3, e_6, e_10, q3]
      exact vc_Mo_flood_6_4 (v_iv (n_v vs 1)) (v_iv (n_v vs 2)) (v_iv (n_v vs 4)) (v_iv (n_v vs 5)) (v_iv (n_v vs 6)) (v_iv (n_v vs 7)) (v_iv (n_v vs 8)) (v_iv (n_v vs 9)) (w_fi ws (n_v vs 0) 32) (w_ei ws (w_ar ws (n_v vs 0) 33)) (w_ei ws (w_ar ws (n_v vs 0) 34)) (w_fi ws (n_v vs 0) 31) (w_ei ws (w_ar ws (n_v vs 0) 35)) (w_ei ws (w_ar ws (n_v vs 0) 38)) (v_iv (Value.int x)) k1 k2 k4 k5 k6 k7 k8 k9 d0 d1 d2 d3 d4 d5 f0 g1 f2 f3 f4 f5 f6 hK_0_33 hK_0_34 hK_0_35 hK_0_38 kz_0_31 kz_0_32 ex2 ex3
  have nf5 : fc_1 PRD (24, [0, 3], []) ws (vs ++ [Value.int x]) := by
    refine ⟨nf_inA hl rfl, sgq_5 ?_⟩
    · show n_v (vs ++ [Value.int x]) 0 = n_v (vs ++ [Value.int x]) 3
      first | rfl | simp only [e_0, e_3, q3, q4, q5]
  have nf6 : fc_1 PRD (24, [1, 4], []) ws (vs ++ [Value.int x]) := by
    refine ⟨nf_inA hl rfl, sgq_5 ?_⟩
    · show n_v (vs ++ [Value.int x]) 1 = n_v (vs ++ [Value.int x]) 4
      first | rfl | simp only [e_1, e_4, q3, q4, q5]
  have nf7 : fc_1 PRD (24, [2, 5], []) ws (vs ++ [Value.int x]) := by
    refine ⟨nf_inA hl rfl, sgq_5 ?_⟩
    · show n_v (vs ++ [Value.int x]) 2 = n_v (vs ++ [Value.int x]) 5
      first | rfl | simp only [e_2, e_5, q3, q4, q5]
  obtain ⟨x0, e0, _, _⟩ := tv_int t8 rfl
  have e1 : v_iv (n_v vs 8) = x0.toInt := by rw [e0]; rfl
  have ho : sy_ofs (vs ++ [Value.int x]) (10, 8, -1000000000000, -1) := by
    refine ⟨x, x0, by rw [List.getElem?_append_right (by rw [hl]; decide), hl]; rfl, ?_, ?_, ?_⟩
    · rw [List.getElem?_append_left (by rw [hl]; decide)]; exact n_v_some (by rw [hl]; decide) e0
    · show x0.toInt + (-1000000000000) ≤ x.toInt; omega
    · show x.toInt ≤ x0.toInt + (-1); omega
  exact ⟨(fun _ h => (by cases h)), [Value.int x], ag_one hx, List.forall_mem_cons.mpr ⟨⟨show (20 : Nat) < 100 from by decide, nf0⟩, List.forall_mem_cons.mpr ⟨⟨show (20 : Nat) < 100 from by decide, nf1⟩, List.forall_mem_cons.mpr ⟨⟨show (20 : Nat) < 100 from by decide, nf2⟩, List.forall_mem_cons.mpr ⟨⟨show (20 : Nat) < 100 from by decide, nf3⟩, List.forall_mem_cons.mpr ⟨⟨show (20 : Nat) < 100 from by decide, nf4⟩, List.forall_mem_cons.mpr ⟨⟨show (24 : Nat) < 100 from by decide, nf5⟩, List.forall_mem_cons.mpr ⟨⟨show (24 : Nat) < 100 from by decide, nf6⟩, List.forall_mem_cons.mpr ⟨⟨show (24 : Nat) < 100 from by decide, nf7⟩, (fun _ h => (by cases h))⟩⟩⟩⟩⟩⟩⟩⟩, List.forall_mem_cons.mpr ⟨ho, (fun _ h => (by cases h))⟩⟩
set_option maxHeartbeats 4000000 in
theorem vc_Mo_flood_7_0 (x1 : Int) (x2 : Int) (x4 : Int) (x5 : Int) (x6 : Int) (x7 : Int) (x8 : Int) (x9 : Int) (x11 : Int) (x12 : Int) (alive_0 : Int → Int) (pm_0 : Int) (pt_0 : Int → Int) (ph_0 : Int → Int) (pn_0 : Int) (seen_0 : Int → Int) (k1 : 0 ≤ x1 ∧ x1 ≤ 24) (k2 : (-1) ≤ x2 ∧ x2 ≤ 24) (k4 : 0 ≤ x4 ∧ x4 ≤ 24) (k5 : (-1) ≤ x5 ∧ x5 ≤ 24) (k6 : 0 ≤ x6 ∧ x6 ≤ 1) (k7 : 0 ≤ x7 ∧ x7 ≤ 79) (k8 : (-2) ≤ x8 ∧ x8 ≤ 60) (k9 : 1 ≤ x9 ∧ x9 ≤ 80) (k11 : 0 ≤ x11 ∧ x11 ≤ 0) (k12 : 1 ≤ x12 ∧ x12 ≤ 80) (d0 : x7 + 1 ≤ x12 ∧ x12 ≤ x7 + 1) (d1 : x9 + (-4294967296) ≤ x12 ∧ x12 ≤ x9 + 0) (d2 : x9 + (-4294967296) ≤ x7 ∧ x7 ≤ x9 + (-1)) (d3 : x4 + (-4294967296) ≤ x1 ∧ x1 ≤ x4 + 0) (d4 : x5 + (-4294967296) ≤ x2 ∧ x2 ≤ x5 + 0) (d5 : x1 + (-4294967296) ≤ x4 ∧ x4 ≤ x1 + 0) (d6 : x2 + (-4294967296) ≤ x5 ∧ x5 ≤ x2 + 0) (d7 : x7 + (-4294967296) ≤ x6 ∧ x6 ≤ x7 + 0) (f0 : x12 = x7 + 1) (f1 : x11 = 0) (h2 : x11 = alive_0 (x7)) (f4 : x7 < x9) (g5 : x9 = pm_0) (f6 : GOK (pn_0) (pm_0) (pt_0) (ph_0)) (f7 : 1 * x1 + ((-1) * pn_0 + 0) ≤ (-1)) (f8 : FL1 (pn_0) (pm_0) (pt_0) (ph_0) (alive_0) (seen_0) (x1) (x2)) (f9 : FL2 (pt_0) (ph_0) (alive_0) (seen_0) (x2) (x7) (x6)) (f10 : FLN (seen_0) (x6) (x8)) (hK_0_33 : ∀ j : Int, 0 ≤ j → j < 80 → 0 ≤ pt_0 j ∧ pt_0 j ≤ 24) (hK_0_34 : ∀ j : Int, 0 ≤ j → j < 80 → 0 ≤ ph_0 j ∧ ph_0 j ≤ 24) (hK_0_35 : ∀ j : Int, 0 ≤ j → j < 80 → 0 ≤ alive_0 j ∧ alive_0 j ≤ 1) (hK_0_38 : ∀ j : Int, 0 ≤ j → j < 26 → 0 ≤ seen_0 j ∧ seen_0 j ≤ 1) (kz_0_31 : 0 ≤ pn_0 ∧ pn_0 ≤ 25) (kz_0_32 : 0 ≤ pm_0 ∧ pm_0 ≤ 80) : FL2 (pt_0) (ph_0) (alive_0) (seen_0) (x2) (x12) (x6) := by
  first
    | (intro h f a b; omega)
    | (have h := ‹FL2 _ _ _ _ _ _ _›
       intro h0 f a b c d e
       by_cases q : f = x7
       · subst q; first | omega | (rw [← h12, ← h10]; rw [h7, h3] at *; omega) | (rw [← h7, ← h3, ← h6, ← h2]; exact f1)
       · exact h h0 f a (by omega) c d e)
def o_Mo_flood_7 : or_T := (43, 13, [(0, (2, 0, 0, [165])), (1, (0, 0, 24, [])), (2, (0, -1, 24, [])), (4, (0, 0, 24, [])), (5, (0, -1, 24, [])), (6, (0, 0, 1, [])), (7, (0, 0, 79, [])), (8, (0, -2, 60, [])), (9, (0, 1, 80, [])), (11, (0, 0, 0, [])), (12, (0, 1, 80, []))], [(6, [12, 7], [1]), (8, [11], [0]), (10, [11, 10, 7], []), (9, [10, 3], [35]), (7, [7, 9], [2]), (9, [9, 3], [32]), (20, [3], [60, 2, 2, 75, 31, 32, 33, 34]), (20, [4, 3], [30, -1, 1, 0, 0, -1, 1, 31]), (20, [3, 4, 5], [60, 2, 4, 77, 31, 32, 33, 34, 35, 38]), (20, [3, 5, 7, 6], [60, 0, 4, 78, 33, 34, 35, 38]), (20, [3, 6, 8], [60, 0, 1, 82, 38]), (24, [0, 3], []), (24, [1, 4], []), (24, [2, 5], [])], [], [], [(20, [3, 5, 12, 6], [60, 0, 4, 78, 33, 34, 35, 38])], [], [(12, 7, 1, 1), (12, 9, -4294967296, 0), (7, 9, -4294967296, -1), (1, 4, -4294967296, 0), (2, 5, -4294967296, 0), (4, 1, -4294967296, 0), (5, 2, -4294967296, 0), (6, 7, -4294967296, 0)])
theorem oo_Mo_flood_7 {kA : Nat → ClassId} : or_ok PRD kA GG o_Mo_flood_7 := by
  refine or_mk fun A ta ws vs hD hth hl => ?_
  intro t0 r0 t1 k1 t2 k2 t4 k4 t5 k5 t6 k6 t7 k7 t8 k8 t9 k9 t11 k11 t12 k12 d0 d1 d2 d3 d4 d5 d6 d7 f0 f1 f2 f3 f4 f5 f6 f7 f8 f9 f10 f11 f12 f13
  replace f0 := shm_4 f0
  replace f1 := shm_192 f1
  replace f2 := shm_107 f2
  replace f3 := shm_511 f3
  replace f4 := shm_6 f4
  replace f5 := shm_525 f5
  replace f6 := shm_575 f6
  replace f7 := shm_553 f7
  replace f8 := shm_578 f8
  replace f9 := shm_583 f9
  replace f10 := shm_584 f10
  replace f11 := shm_5 f11
  replace f12 := shm_5 f12
  replace f13 := shm_5 f13
  have q3 : n_v vs 3 = n_v vs 0 := f11.symm
  have q4 : n_v vs 4 = n_v vs 1 := f12.symm
  have q5 : n_v vs 5 = n_v vs 2 := f13.symm
  simp only [q3, q4, q5] at f3 f5 f6 f7 f8 f9 f10
  have cr_0_33 := fdq_117 hD hth r0
  have cr_0_34 := fdq_118 hD hth r0
  have cr_0_35 := fdq_132 hD hth r0
  have cr_0_38 := fdq_149 hD hth r0
  have ad_10 : v_ad (n_v vs 10) = w_ar ws (n_v vs 0) 35 := congrArg v_ad f3
  simp only [ad_10] at f2
  have h2 : v_iv (n_v vs 11) = w_ei ws (w_ar ws (n_v vs 0) 35) (v_iv (n_v vs 7)) := f2
  have g5 : v_iv (n_v vs 9) = w_fi ws (n_v vs 0) 32 := congrArg v_iv f5
  have hK_0_33 := elq_60 hD hth cr_0_33
  have hK_0_34 := elq_61 hD hth cr_0_34
  have hK_0_35 := elq_72 hD hth cr_0_35
  have hK_0_38 := elq_83 hD hth cr_0_38
  have kz_0_31 := fdq_145 hD hth r0
  have kz_0_32 := fdq_140 hD hth r0
  have nf0 : fc_1 PRD (20, [3, 5, 12, 6], [60, 0, 4, 78, 33, 34, 35, 38]) ws (vs) := by
    refine ⟨nf_in hl rfl, sgq_583 ?_⟩
    · show FL2 (w_ei ws (w_ar ws (n_v vs 3) 33)) (w_ei ws (w_ar ws (n_v vs 3) 34)) (w_ei ws (w_ar ws (n_v vs 3) 35)) (w_ei ws (w_ar ws (n_v vs 3) 38)) (v_iv (n_v vs 5)) (v_iv (n_v vs 12)) (v_iv (n_v vs 6))
      simp only [q3, q5]
      exact vc_Mo_flood_7_0 (v_iv (n_v vs 1)) (v_iv (n_v vs 2)) (v_iv (n_v vs 4)) (v_iv (n_v vs 5)) (v_iv (n_v vs 6)) (v_iv (n_v vs 7)) (v_iv (n_v vs 8)) (v_iv (n_v vs 9)) (v_iv (n_v vs 11)) (v_iv (n_v vs 12)) (w_ei ws (w_ar ws (n_v vs 0) 35)) (w_fi ws (n_v vs 0) 32) (w_ei ws (w_ar ws (n_v vs 0) 33)) (w_ei ws (w_ar ws (n_v vs 0) 34)) (w_fi ws (n_v vs 0) 31) (w_ei ws (w_ar ws (n_v vs 0) 38)) k1 k2 k4 k5 k6 k7 k8 k9 k11 k12 d0 d1 d2 d3 d4 d5 d6 d7 f0 f1 h2 f4 g5 f6 f7 f8 f9 f10 hK_0_33 hK_0_34 hK_0_35 hK_0_38 kz_0_31 kz_0_32
  refine ⟨(fun _ h => (by cases h)), [], trivial, ?_, (fun _ h => (by cases h))⟩
  rw [List.append_nil]
  exact List.forall_mem_cons.mpr ⟨⟨show (20 : Nat) < 100 from by decide, nf0⟩, (fun _ h => (by cases h))⟩
set_option maxHeartbeats 4000000 in
theorem vc_Mo_flood_8_0 (x1 : Int) (x2 : Int) (x4 : Int) (x5 : Int) (x6 : Int) (x7 : Int) (x8 : Int) (x9 : Int) (x11 : Int) (x13 : Int) (x14 : Int) (pt_0 : Int → Int) (alive_0 : Int → Int) (pm_0 : Int) (ph_0 : Int → Int) (pn_0 : Int) (seen_0 : Int → Int) (k1 : 0 ≤ x1 ∧ x1 ≤ 24) (k2 : 0 ≤ x2 ∧ x2 ≤ 24) (k4 : 0 ≤ x4 ∧ x4 ≤ 24) (k5 : 0 ≤ x5 ∧ x5 ≤ 24) (k6 : 0 ≤ x6 ∧ x6 ≤ 1) (k7 : 0 ≤ x7 ∧ x7 ≤ 79) (k8 : (-2) ≤ x8 ∧ x8 ≤ 60) (k9 : 1 ≤ x9 ∧ x9 ≤ 80) (k11 : 1 ≤ x11 ∧ x11 ≤ 1) (k13 : 0 ≤ x13 ∧ x13 ≤ 24) (k14 : 1 ≤ x14 ∧ x14 ≤ 80) (d0 : x7 + 1 ≤ x14 ∧ x14 ≤ x7 + 1) (d1 : x9 + (-4294967296) ≤ x14 ∧ x14 ≤ x9 + 0) (d2 : x5 + 0 ≤ x13 ∧ x13 ≤ x5 + 0) (d3 : x9 + (-4294967296) ≤ x7 ∧ x7 ≤ x9 + (-1)) (d4 : x4 + (-4294967296) ≤ x1 ∧ x1 ≤ x4 + 0) (d5 : x5 + (-4294967296) ≤ x2 ∧ x2 ≤ x5 + 0) (d6 : x1 + (-4294967296) ≤ x4 ∧ x4 ≤ x1 + 0) (d7 : x2 + (-4294967296) ≤ x5 ∧ x5 ≤ x2 + 0) (d8 : x7 + (-4294967296) ≤ x6 ∧ x6 ≤ x7 + 0) (f0 : x14 = x7 + 1) (f1 : x13 = x2) (h2 : x13 = pt_0 (x7)) (f4 : x11 ≠ 0) (h5 : x11 = alive_0 (x7)) (f7 : x7 < x9) (g8 : x9 = pm_0) (f9 : GOK (pn_0) (pm_0) (pt_0) (ph_0)) (f10 : 1 * x1 + ((-1) * pn_0 + 0) ≤ (-1)) (f11 : FL1 (pn_0) (pm_0) (pt_0) (ph_0) (alive_0) (seen_0) (x1) (x2)) (f12 : FL2 (pt_0) (ph_0) (alive_0) (seen_0) (x2) (x7) (x6)) (f13 : FLN (seen_0) (x6) (x8)) (hK_0_33 : ∀ j : Int, 0 ≤ j → j < 80 → 0 ≤ pt_0 j ∧ pt_0 j ≤ 24) (hK_0_34 : ∀ j : Int, 0 ≤ j → j < 80 → 0 ≤ ph_0 j ∧ ph_0 j ≤ 24) (hK_0_35 : ∀ j : Int, 0 ≤ j → j < 80 → 0 ≤ alive_0 j ∧ alive_0 j ≤ 1) (hK_0_38 : ∀ j : Int, 0 ≤ j → j < 26 → 0 ≤ seen_0 j ∧ seen_0 j ≤ 1) (kz_0_31 : 0 ≤ pn_0 ∧ pn_0 ≤ 25) (kz_0_32 : 0 ≤ pm_0 ∧ pm_0 ≤ 80) : FL2 (pt_0) (ph_0) (alive_0) (seen_0) (x2) (x14) (x6) := by
  first
    | (intro h f a b; omega)
    | (have h := ‹FL2 _ _ _ _ _ _ _›
       intro h0 f a b c d e
       by_cases q : f = x7
       · subst q; first | omega | (rw [← h12, ← h10]; rw [h7, h3] at *; omega) | (rw [← h7, ← h3, ← h6, ← h2]; exact f1)
       · exact h h0 f a (by omega) c d e)
def o_Mo_flood_8 : or_T := (43, 15, [(0, (2, 0, 0, [165])), (1, (0, 0, 24, [])), (2, (0, 0, 24, [])), (4, (0, 0, 24, [])), (5, (0, 0, 24, [])), (6, (0, 0, 1, [])), (7, (0, 0, 79, [])), (8, (0, -2, 60, [])), (9, (0, 1, 80, [])), (11, (0, 1, 1, [])), (13, (0, 0, 24, [])), (14, (0, 1, 80, []))], [(6, [14, 7], [1]), (7, [13, 5], [0]), (10, [13, 12, 7], []), (9, [12, 3], [33]), (8, [11], [1]), (10, [11, 10, 7], []), (9, [10, 3], [35]), (7, [7, 9], [2]), (9, [9, 3], [32]), (20, [3], [60, 2, 2, 75, 31, 32, 33, 34]), (20, [4, 3], [30, -1, 1, 0, 0, -1, 1, 31]), (20, [3, 4, 5], [60, 2, 4, 77, 31, 32, 33, 34, 35, 38]), (20, [3, 5, 7, 6], [60, 0, 4, 78, 33, 34, 35, 38]), (20, [3, 6, 8], [60, 0, 1, 82, 38]), (24, [0, 3], []), (24, [1, 4], []), (24, [2, 5], [])], [], [], [(20, [3, 5, 14, 6], [60, 0, 4, 78, 33, 34, 35, 38])], [], [(14, 7, 1, 1), (14, 9, -4294967296, 0), (13, 5, 0, 0), (7, 9, -4294967296, -1), (1, 4, -4294967296, 0), (2, 5, -4294967296, 0), (4, 1, -4294967296, 0), (5, 2, -4294967296, 0), (6, 7, -4294967296, 0)])
theorem oo_Mo_flood_8 {kA : Nat → ClassId} : or_ok PRD kA GG o_Mo_flood_8 := by
  refine or_mk fun A ta ws vs hD hth hl => ?_
  intro t0 r0 t1 k1 t2 k2 t4 k4 t5 k5 t6 k6 t7 k7 t8 k8 t9 k9 t11 k11 t13 k13 t14 k14 d0 d1 d2 d3 d4 d5 d6 d7 d8 f0 f1 f2 f3 f4 f5 f6 f7 f8 f9 f10 f11 f12 f13 f14 f15 f16
  replace f0 := shm_4 f0
  replace f1 := shm_37 f1
  replace f2 := shm_107 f2
  replace f3 := shm_494 f3
  replace f4 := shm_142 f4
  replace f5 := shm_107 f5
  replace f6 := shm_511 f6
  replace f7 := shm_6 f7
  replace f8 := shm_525 f8
  replace f9 := shm_575 f9
  replace f10 := shm_553 f10
  replace f11 := shm_578 f11
  replace f12 := shm_583 f12
  replace f13 := shm_584 f13
  replace f14 := shm_5 f14
  replace f15 := shm_5 f15
  replace f16 := shm_5 f16
  have q3 : n_v vs 3 = n_v vs 0 := f14.symm
  have q4 : n_v vs 4 = n_v vs 1 := f15.symm
  have q5 : n_v vs 5 = n_v vs 2 := f16.symm
  simp only [q5, q3, q4] at f1 f3 f6 f8 f9 f10 f11 f12 f13
  have cr_0_33 := fdq_117 hD hth r0
  have cr_0_34 := fdq_118 hD hth r0
  have cr_0_35 := fdq_132 hD hth r0
  have cr_0_38 := fdq_149 hD hth r0
  have ad_12 : v_ad (n_v vs 12) = w_ar ws (n_v vs 0) 33 := congrArg v_ad f3
  have ad_10 : v_ad (n_v vs 10) = w_ar ws (n_v vs 0) 35 := congrArg v_ad f6
  simp only [ad_12] at f2
  have h2 : v_iv (n_v vs 13) = w_ei ws (w_ar ws (n_v vs 0) 33) (v_iv (n_v vs 7)) := f2
  simp only [ad_10] at f5
  have h5 : v_iv (n_v vs 11) = w_ei ws (w_ar ws (n_v vs 0) 35) (v_iv (n_v vs 7)) := f5
  have g8 : v_iv (n_v vs 9) = w_fi ws (n_v vs 0) 32 := congrArg v_iv f8
  have hK_0_33 := elq_60 hD hth cr_0_33
  have hK_0_34 := elq_61 hD hth cr_0_34
  have hK_0_35 := elq_72 hD hth cr_0_35
  have hK_0_38 := elq_83 hD hth cr_0_38
  have kz_0_31 := fdq_145 hD hth r0
  have kz_0_32 := fdq_140 hD hth r0
  have nf0 : fc_1 PRD (20, [3, 5, 14, 6], [60, 0, 4, 78, 33, 34, 35, 38]) ws (vs) := by
    refine ⟨nf_in hl rfl, sgq_583 ?_⟩
    · show FL2 (w_ei ws (w_ar ws (n_v vs 3) 33)) (w_ei ws (w_ar ws (n_v vs 3) 34)) (w_ei ws (w_ar ws (n_v vs 3) 35)) (w_ei ws (w_ar ws (n_v vs 3) 38)) (v_iv (n_v vs 5)) (v_iv (n_v vs 14)) (v_iv (n_v vs 6))
      simp only [q3, q5]
      exact vc_Mo_flood_8_0 (v_iv (n_v vs 1)) (v_iv (n_v vs 2)) (v_iv (n_v vs 4)) (v_iv (n_v vs 5)) (v_iv (n_v vs 6)) (v_iv (n_v vs 7)) (v_iv (n_v vs 8)) (v_iv (n_v vs 9)) (v_iv (n_v vs 11)) (v_iv (n_v vs 13)) (v_iv (n_v vs 14)) (w_ei ws (w_ar ws (n_v vs 0) 33)) (w_ei ws (w_ar ws (n_v vs 0) 35)) (w_fi ws (n_v vs 0) 32) (w_ei ws (w_ar ws (n_v vs 0) 34)) (w_fi ws (n_v vs 0) 31) (w_ei ws (w_ar ws (n_v vs 0) 38)) k1 k2 k4 k5 k6 k7 k8 k9 k11 k13 k14 d0 d1 d2 d3 d4 d5 d6 d7 d8 f0 f1 h2 f4 h5 f7 g8 f9 f10 f11 f12 f13 hK_0_33 hK_0_34 hK_0_35 hK_0_38 kz_0_31 kz_0_32
  refine ⟨(fun _ h => (by cases h)), [], trivial, ?_, (fun _ h => (by cases h))⟩
  rw [List.append_nil]
  exact List.forall_mem_cons.mpr ⟨⟨show (20 : Nat) < 100 from by decide, nf0⟩, (fun _ h => (by cases h))⟩
set_option maxHeartbeats 4000000 in
theorem vc_Mo_flood_9_0 (x1 : Int) (x2 : Int) (x4 : Int) (x5 : Int) (x6 : Int) (x7 : Int) (x8 : Int) (x9 : Int) (x11 : Int) (x13 : Int) (x15 : Int) (x16 : Int) (ph_0 : Int → Int) (pt_0 : Int → Int) (alive_0 : Int → Int) (pm_0 : Int) (pn_0 : Int) (seen_0 : Int → Int) (k1 : 0 ≤ x1 ∧ x1 ≤ 24) (k2 : 0 ≤ x2 ∧ x2 ≤ 24) (k4 : 0 ≤ x4 ∧ x4 ≤ 24) (k5 : 0 ≤ x5 ∧ x5 ≤ 24) (k6 : 0 ≤ x6 ∧ x6 ≤ 1) (k7 : 0 ≤ x7 ∧ x7 ≤ 79) (k8 : (-2) ≤ x8 ∧ x8 ≤ 60) (k9 : 1 ≤ x9 ∧ x9 ≤ 80) (k11 : 1 ≤ x11 ∧ x11 ≤ 1) (k13 : 0 ≤ x13 ∧ x13 ≤ 24) (k15 : 0 ≤ x15 ∧ x15 ≤ 24) (k16 : 1 ≤ x16 ∧ x16 ≤ 80) (d0 : x7 + 1 ≤ x16 ∧ x16 ≤ x7 + 1) (d1 : x9 + (-4294967296) ≤ x16 ∧ x16 ≤ x9 + 0) (d2 : x5 + 0 ≤ x15 ∧ x15 ≤ x5 + 0) (d3 : x9 + (-4294967296) ≤ x7 ∧ x7 ≤ x9 + (-1)) (d4 : x4 + (-4294967296) ≤ x1 ∧ x1 ≤ x4 + 0) (d5 : x5 + (-4294967296) ≤ x2 ∧ x2 ≤ x5 + 0) (d6 : x1 + (-4294967296) ≤ x4 ∧ x4 ≤ x1 + 0) (d7 : x2 + (-4294967296) ≤ x5 ∧ x5 ≤ x2 + 0) (d8 : x7 + (-4294967296) ≤ x6 ∧ x6 ≤ x7 + 0) (f0 : x16 = x7 + 1) (f1 : x15 = x2) (h2 : x15 = ph_0 (x7)) (f4 : x13 ≠ x2) (h5 : x13 = pt_0 (x7)) (f7 : x11 ≠ 0) (h8 : x11 = alive_0 (x7)) (f10 : x7 < x9) (g11 : x9 = pm_0) (f12 : GOK (pn_0) (pm_0) (pt_0) (ph_0)) (f13 : 1 * x1 + ((-1) * pn_0 + 0) ≤ (-1)) (f14 : FL1 (pn_0) (pm_0) (pt_0) (ph_0) (alive_0) (seen_0) (x1) (x2)) (f15 : FL2 (pt_0) (ph_0) (alive_0) (seen_0) (x2) (x7) (x6)) (f16 : FLN (seen_0) (x6) (x8)) (hK_0_33 : ∀ j : Int, 0 ≤ j → j < 80 → 0 ≤ pt_0 j ∧ pt_0 j ≤ 24) (hK_0_34 : ∀ j : Int, 0 ≤ j → j < 80 → 0 ≤ ph_0 j ∧ ph_0 j ≤ 24) (hK_0_35 : ∀ j : Int, 0 ≤ j → j < 80 → 0 ≤ alive_0 j ∧ alive_0 j ≤ 1) (hK_0_38 : ∀ j : Int, 0 ≤ j → j < 26 → 0 ≤ seen_0 j ∧ seen_0 j ≤ 1) (kz_0_31 : 0 ≤ pn_0 ∧ pn_0 ≤ 25) (kz_0_32 : 0 ≤ pm_0 ∧ pm_0 ≤ 80) : FL2 (pt_0) (ph_0) (alive_0) (seen_0) (x2) (x16) (x6) := by
  first
    | (intro h f a b; omega)
    | (have h := ‹FL2 _ _ _ _ _ _ _›
       intro h0 f a b c d e
       by_cases q : f = x7
       · subst q; first | omega | (rw [← h12, ← h10]; rw [h7, h3] at *; omega) | (rw [← h7, ← h3, ← h6, ← h2]; exact f1)
       · exact h h0 f a (by omega) c d e)
def o_Mo_flood_9 : or_T := (43, 17, [(0, (2, 0, 0, [165])), (1, (0, 0, 24, [])), (2, (0, 0, 24, [])), (4, (0, 0, 24, [])), (5, (0, 0, 24, [])), (6, (0, 0, 1, [])), (7, (0, 0, 79, [])), (8, (0, -2, 60, [])), (9, (0, 1, 80, [])), (11, (0, 1, 1, [])), (13, (0, 0, 24, [])), (15, (0, 0, 24, [])), (16, (0, 1, 80, []))], [(6, [16, 7], [1]), (7, [15, 5], [0]), (10, [15, 14, 7], []), (9, [14, 3], [34]), (7, [13, 5], [1]), (10, [13, 12, 7], []), (9, [12, 3], [33]), (8, [11], [1]), (10, [11, 10, 7], []), (9, [10, 3], [35]), (7, [7, 9], [2]), (9, [9, 3], [32]), (20, [3], [60, 2, 2, 75, 31, 32, 33, 34]), (20, [4, 3], [30, -1, 1, 0, 0, -1, 1, 31]), (20, [3, 4, 5], [60, 2, 4, 77, 31, 32, 33, 34, 35, 38]), (20, [3, 5, 7, 6], [60, 0, 4, 78, 33, 34, 35, 38]), (20, [3, 6, 8], [60, 0, 1, 82, 38]), (24, [0, 3], []), (24, [1, 4], []), (24, [2, 5], [])], [], [], [(20, [3, 5, 16, 6], [60, 0, 4, 78, 33, 34, 35, 38])], [], [(16, 7, 1, 1), (16, 9, -4294967296, 0), (15, 5, 0, 0), (7, 9, -4294967296, -1), (1, 4, -4294967296, 0), (2, 5, -4294967296, 0), (4, 1, -4294967296, 0), (5, 2, -4294967296, 0), (6, 7, -4294967296, 0)])
theorem oo_Mo_flood_9 {kA : Nat → ClassId} : or_ok PRD kA GG o_Mo_flood_9 := by
  refine or_mk fun A ta ws vs hD hth hl => ?_
  intro t0 r0 t1 k1 t2 k2 t4 k4 t5 k5 t6 k6 t7 k7 t8 k8 t9 k9 t11 k11 t13 k13 t15 k15 t16 k16 d0 d1 d2 d3 d4 d5 d6 d7 d8 f0 f1 f2 f3 f4 f5 f6 f7 f8 f9 f10 f11 f12 f13 f14 f15 f16 f17 f18 f19
  replace f0 := shm_4 f0
  replace f1 := shm_37 f1
  replace f2 := shm_107 f2
  replace f3 := shm_496 f3
  replace f4 := shm_40 f4
  replace f5 := shm_107 f5
  replace f6 := shm_494 f6
  replace f7 := shm_142 f7
  replace f8 := shm_107 f8
  replace f9 := shm_511 f9
  replace f10 := shm_6 f10
  replace f11 := shm_525 f11
  replace f12 := shm_575 f12
  replace f13 := shm_553 f13
  replace f14 := shm_578 f14
  replace f15 := shm_583 f15
  replace f16 := shm_584 f16
  replace f17 := shm_5 f17
  replace f18 := shm_5 f18
  replace f19 := shm_5 f19
  have q3 : n_v vs 3 = n_v vs 0 := f17.symm
  have q4 : n_v vs 4 = n_v vs 1 := f18.symm
  have q5 : n_v vs 5 = n_v vs 2 := f19.symm
  simp only [q5, q3, q4] at f1 f3 f4 f6 f9 f11 f12 f13 f14 f15 f16
  have cr_0_33 := fdq_117 hD hth r0
  have cr_0_34 := fdq_118 hD hth r0
  have cr_0_35 := fdq_132 hD hth r0
  have cr_0_38 := fdq_149 hD hth r0
  have ad_14 : v_ad (n_v vs 14) = w_ar ws (n_v vs 0) 34 := congrArg v_ad f3
  have ad_12 : v_ad (n_v vs 12) = w_ar ws (n_v vs 0) 33 := congrArg v_ad f6
  have ad_10 : v_ad (n_v vs 10) = w_ar ws (n_v vs 0) 35 := congrArg v_ad f9
  simp only [ad_14] at f2
  have h2 : v_iv (n_v vs 15) = w_ei ws (w_ar ws (n_v vs 0) 34) (v_iv (n_v vs 7)) := f2
  simp only [ad_12] at f5
  have h5 : v_iv (n_v vs 13) = w_ei ws (w_ar ws (n_v vs 0) 33) (v_iv (n_v vs 7)) := f5
  simp only [ad_10] at f8
  have h8 : v_iv (n_v vs 11) = w_ei ws (w_ar ws (n_v vs 0) 35) (v_iv (n_v vs 7)) := f8
  have g11 : v_iv (n_v vs 9) = w_fi ws (n_v vs 0) 32 := congrArg v_iv f11
  have hK_0_33 := elq_60 hD hth cr_0_33
  have hK_0_34 := elq_61 hD hth cr_0_34
  have hK_0_35 := elq_72 hD hth cr_0_35
  have hK_0_38 := elq_83 hD hth cr_0_38
  have kz_0_31 := fdq_145 hD hth r0
  have kz_0_32 := fdq_140 hD hth r0
  have nf0 : fc_1 PRD (20, [3, 5, 16, 6], [60, 0, 4, 78, 33, 34, 35, 38]) ws (vs) := by
    refine ⟨nf_in hl rfl, sgq_583 ?_⟩
    · show FL2 (w_ei ws (w_ar ws (n_v vs 3) 33)) (w_ei ws (w_ar ws (n_v vs 3) 34)) (w_ei ws (w_ar ws (n_v vs 3) 35)) (w_ei ws (w_ar ws (n_v vs 3) 38)) (v_iv (n_v vs 5)) (v_iv (n_v vs 16)) (v_iv (n_v vs 6))
      simp only [q3, q5]
      exact vc_Mo_flood_9_0 (v_iv (n_v vs 1)) (v_iv (n_v vs 2)) (v_iv (n_v vs 4)) (v_iv (n_v vs 5)) (v_iv (n_v vs 6)) (v_iv (n_v vs 7)) (v_iv (n_v vs 8)) (v_iv (n_v vs 9)) (v_iv (n_v vs 11)) (v_iv (n_v vs 13)) (v_iv (n_v vs 15)) (v_iv (n_v vs 16)) (w_ei ws (w_ar ws (n_v vs 0) 34)) (w_ei ws (w_ar ws (n_v vs 0) 33)) (w_ei ws (w_ar ws (n_v vs 0) 35)) (w_fi ws (n_v vs 0) 32) (w_fi ws (n_v vs 0) 31) (w_ei ws (w_ar ws (n_v vs 0) 38)) k1 k2 k4 k5 k6 k7 k8 k9 k11 k13 k15 k16 d0 d1 d2 d3 d4 d5 d6 d7 d8 f0 f1 h2 f4 h5 f7 h8 f10 g11 f12 f13 f14 f15 f16 hK_0_33 hK_0_34 hK_0_35 hK_0_38 kz_0_31 kz_0_32
  refine ⟨(fun _ h => (by cases h)), [], trivial, ?_, (fun _ h => (by cases h))⟩
  rw [List.append_nil]
  exact List.forall_mem_cons.mpr ⟨⟨show (20 : Nat) < 100 from by decide, nf0⟩, (fun _ h => (by cases h))⟩
set_option maxHeartbeats 4000000 in
theorem vc_Mo_flood_10_0 (x1 : Int) (x2 : Int) (x4 : Int) (x5 : Int) (x6 : Int) (x7 : Int) (x8 : Int) (x9 : Int) (x11 : Int) (x13 : Int) (x15 : Int) (x17 : Int) (x18 : Int) (x19 : Int) (x20 : Int) (x21 : Int) (x22 : Int) (x23 : Int) (x24 : Int) (x25 : Int) (x26 : Int) (pt_0 : Int → Int) (ph_0 : Int → Int) (pn_0 : Int) (pm_0 : Int) (ph_1 : Int → Int) (pt_1 : Int → Int) (pn_1 : Int) (pm_1 : Int) (pt_2 : Int → Int) (seen_2 : Int → Int) (ph_2 : Int → Int) (alive_2 : Int → Int) (pm_2 : Int) (pn_2 : Int) (alive_0 : Int → Int) (alive_1 : Int → Int) (seen_0 : Int → Int) (seen_1 : Int → Int) (k1 : 0 ≤ x1 ∧ x1 ≤ 24) (k2 : (-1) ≤ x2 ∧ x2 ≤ 24) (k4 : 0 ≤ x4 ∧ x4 ≤ 24) (k5 : (-1) ≤ x5 ∧ x5 ≤ 24) (k6 : 0 ≤ x6 ∧ x6 ≤ 1) (k7 : 0 ≤ x7 ∧ x7 ≤ 79) (k8 : (-2) ≤ x8 ∧ x8 ≤ 60) (k9 : 1 ≤ x9 ∧ x9 ≤ 80) (k11 : 1 ≤ x11 ∧ x11 ≤ 1) (k13 : 0 ≤ x13 ∧ x13 ≤ 24) (k15 : 0 ≤ x15 ∧ x15 ≤ 24) (k17 : 0 ≤ x17 ∧ x17 ≤ 24) (k18 : 0 ≤ x18 ∧ x18 ≤ 1) (k19 : 0 ≤ x19 ∧ x19 ≤ 24) (k20 : 0 ≤ x20 ∧ x20 ≤ 1) (k21 : 0 ≤ x21 ∧ x21 ≤ 24) (k22 : 1 ≤ x22 ∧ x22 ≤ 1) (k23 : 0 ≤ x23 ∧ x23 ≤ 24) (k24 : 1 ≤ x24 ∧ x24 ≤ 1) (k25 : 1 ≤ x25 ∧ x25 ≤ 1) (k26 : 1 ≤ x26 ∧ x26 ≤ 80) (d0 : x7 + 1 ≤ x26 ∧ x26 ≤ x7 + 1) (d1 : x9 + (-4294967296) ≤ x26 ∧ x26 ≤ x9 + 0) (d2 : x9 + (-4294967296) ≤ x7 ∧ x7 ≤ x9 + (-1)) (d3 : x4 + (-4294967296) ≤ x1 ∧ x1 ≤ x4 + 0) (d4 : x5 + (-4294967296) ≤ x2 ∧ x2 ≤ x5 + 0) (d5 : x1 + (-4294967296) ≤ x4 ∧ x4 ≤ x1 + 0) (d6 : x2 + (-4294967296) ≤ x5 ∧ x5 ≤ x2 + 0) (d7 : x7 + (-4294967296) ≤ x6 ∧ x6 ≤ x7 + 0) (f0 : x26 = x7 + 1) (f1 : GOK (pn_0) (pm_0) (pt_0) (ph_0)) (f2 : 1 * x1 + ((-1) * pn_0 + 0) ≤ (-1)) (h7 : x23 = ph_1 (x7)) (f10 : GOK (pn_1) (pm_1) (pt_1) (ph_1)) (f11 : 1 * x1 + ((-1) * pn_1 + 0) ≤ (-1)) (h13 : x21 = pt_2 (x7)) (f15 : x18 ≠ x20) (h16 : x20 = seen_2 (x19)) (h17 : x19 = ph_2 (x7)) (h18 : x18 = seen_2 (x17)) (h19 : x17 = pt_2 (x7)) (f20 : x15 ≠ x2) (h21 : x15 = ph_2 (x7)) (f22 : x13 ≠ x2) (h23 : x13 = pt_2 (x7)) (f24 : x11 ≠ 0) (h25 : x11 = alive_2 (x7)) (f27 : x7 < x9) (g28 : x9 = pm_2) (f29 : GOK (pn_2) (pm_2) (pt_2) (ph_2)) (f30 : 1 * x1 + ((-1) * pn_2 + 0) ≤ (-1)) (f31 : FL1 (pn_2) (pm_2) (pt_2) (ph_2) (alive_2) (seen_2) (x1) (x2)) (f32 : FL2 (pt_2) (ph_2) (alive_2) (seen_2) (x2) (x7) (x6)) (f33 : FLN (seen_2) (x6) (x8)) (fe_0_31_1 : pn_0 = pn_1) (fe_0_32_1 : pm_0 = pm_1) (fe_0_31_2 : pn_1 = pn_2) (fe_0_32_2 : pm_1 = pm_2) (hE_0_33_1 : ∀ j : Int, pt_0 j = pt_1 j) (hE_0_33_2 : ∀ j : Int, pt_1 j = pt_2 j) (hK_0_33 : ∀ j : Int, 0 ≤ j → j < 80 → 0 ≤ pt_0 j ∧ pt_0 j ≤ 24) (hE_0_34_1 : ∀ j : Int, ph_0 j = ph_1 j) (hE_0_34_2 : ∀ j : Int, ph_1 j = ph_2 j) (hK_0_34 : ∀ j : Int, 0 ≤ j → j < 80 → 0 ≤ ph_0 j ∧ ph_0 j ≤ 24) (hE_0_35_1 : ∀ j : Int, alive_0 j = alive_1 j) (hE_0_35_2 : ∀ j : Int, alive_1 j = alive_2 j) (hK_0_35 : ∀ j : Int, 0 ≤ j → j < 80 → 0 ≤ alive_0 j ∧ alive_0 j ≤ 1) (hE_0_38_1 : ∀ j : Int, 0 ≤ j → (j = x23 → seen_0 j = x24) ∧ (j ≠ x23 → seen_0 j = seen_1 j)) (hE_0_38_2 : ∀ j : Int, 0 ≤ j → (j = x21 → seen_1 j = x22) ∧ (j ≠ x21 → seen_1 j = seen_2 j)) (hK_0_38 : ∀ j : Int, 0 ≤ j → j < 26 → 0 ≤ seen_0 j ∧ seen_0 j ≤ 1) (kz_0_31 : 0 ≤ pn_0 ∧ pn_0 ≤ 25) (kz_0_32 : 0 ≤ pm_0 ∧ pm_0 ≤ 80) : FL1 (pn_0) (pm_0) (pt_0) (ph_0) (alive_0) (seen_0) (x1) (x2) := by
  subst fe_0_31_1
  subst fe_0_32_1
  subst fe_0_31_2
  subst fe_0_32_2
  have e_hE_0_33_1 := funext hE_0_33_1; subst e_hE_0_33_1
  have e_hE_0_33_2 := funext hE_0_33_2; subst e_hE_0_33_2
  have e_hE_0_34_1 := funext hE_0_34_1; subst e_hE_0_34_1
  have e_hE_0_34_2 := funext hE_0_34_2; subst e_hE_0_34_2
  have e_hE_0_35_1 := funext hE_0_35_1; subst e_hE_0_35_1
  have e_hE_0_35_2 := funext hE_0_35_2; subst e_hE_0_35_2
  first
    | assumption
    | (refine fl_step (e := x7) ‹GOK _ _ _ _› ‹FL1 _ _ _ _ _ seen_2 _ _› (by omega) (by omega) (by omega) (by omega) (by omega) ?_ (by omega) ?_ ?_ ?_
       · rw [← h19, ← h17, ← h18, ← h16]; exact f15
       · intro y hy h1 h2
         rw [(hE_0_38_1 y hy).2 (by omega), (hE_0_38_2 y hy).2 (by omega)]
       · by_cases q : x21 = x23
         · have := (hE_0_38_1 (pt_0 x7) (by omega)).1 (by omega); omega
         · have := (hE_0_38_1 (pt_0 x7) (by omega)).2 (by omega); have := (hE_0_38_2 (pt_0 x7) (by omega)).1 (by omega); omega
       · have := (hE_0_38_1 (ph_0 x7) (by omega)).1 (by omega); omega)
set_option maxHeartbeats 4000000 in
theorem vc_Mo_flood_10_1 (x1 : Int) (x2 : Int) (x4 : Int) (x5 : Int) (x6 : Int) (x7 : Int) (x8 : Int) (x9 : Int) (x11 : Int) (x13 : Int) (x15 : Int) (x17 : Int) (x18 : Int) (x19 : Int) (x20 : Int) (x21 : Int) (x22 : Int) (x23 : Int) (x24 : Int) (x25 : Int) (x26 : Int) (pt_0 : Int → Int) (ph_0 : Int → Int) (pn_0 : Int) (pm_0 : Int) (ph_1 : Int → Int) (pt_1 : Int → Int) (pn_1 : Int) (pm_1 : Int) (pt_2 : Int → Int) (seen_2 : Int → Int) (ph_2 : Int → Int) (alive_2 : Int → Int) (pm_2 : Int) (pn_2 : Int) (alive_0 : Int → Int) (alive_1 : Int → Int) (seen_0 : Int → Int) (seen_1 : Int → Int) (k1 : 0 ≤ x1 ∧ x1 ≤ 24) (k2 : (-1) ≤ x2 ∧ x2 ≤ 24) (k4 : 0 ≤ x4 ∧ x4 ≤ 24) (k5 : (-1) ≤ x5 ∧ x5 ≤ 24) (k6 : 0 ≤ x6 ∧ x6 ≤ 1) (k7 : 0 ≤ x7 ∧ x7 ≤ 79) (k8 : (-2) ≤ x8 ∧ x8 ≤ 60) (k9 : 1 ≤ x9 ∧ x9 ≤ 80) (k11 : 1 ≤ x11 ∧ x11 ≤ 1) (k13 : 0 ≤ x13 ∧ x13 ≤ 24) (k15 : 0 ≤ x15 ∧ x15 ≤ 24) (k17 : 0 ≤ x17 ∧ x17 ≤ 24) (k18 : 0 ≤ x18 ∧ x18 ≤ 1) (k19 : 0 ≤ x19 ∧ x19 ≤ 24) (k20 : 0 ≤ x20 ∧ x20 ≤ 1) (k21 : 0 ≤ x21 ∧ x21 ≤ 24) (k22 : 1 ≤ x22 ∧ x22 ≤ 1) (k23 : 0 ≤ x23 ∧ x23 ≤ 24) (k24 : 1 ≤ x24 ∧ x24 ≤ 1) (k25 : 1 ≤ x25 ∧ x25 ≤ 1) (k26 : 1 ≤ x26 ∧ x26 ≤ 80) (d0 : x7 + 1 ≤ x26 ∧ x26 ≤ x7 + 1) (d1 : x9 + (-4294967296) ≤ x26 ∧ x26 ≤ x9 + 0) (d2 : x9 + (-4294967296) ≤ x7 ∧ x7 ≤ x9 + (-1)) (d3 : x4 + (-4294967296) ≤ x1 ∧ x1 ≤ x4 + 0) (d4 : x5 + (-4294967296) ≤ x2 ∧ x2 ≤ x5 + 0) (d5 : x1 + (-4294967296) ≤ x4 ∧ x4 ≤ x1 + 0) (d6 : x2 + (-4294967296) ≤ x5 ∧ x5 ≤ x2 + 0) (d7 : x7 + (-4294967296) ≤ x6 ∧ x6 ≤ x7 + 0) (f0 : x26 = x7 + 1) (f1 : GOK (pn_0) (pm_0) (pt_0) (ph_0)) (f2 : 1 * x1 + ((-1) * pn_0 + 0) ≤ (-1)) (h7 : x23 = ph_1 (x7)) (f10 : GOK (pn_1) (pm_1) (pt_1) (ph_1)) (f11 : 1 * x1 + ((-1) * pn_1 + 0) ≤ (-1)) (h13 : x21 = pt_2 (x7)) (f15 : x18 ≠ x20) (h16 : x20 = seen_2 (x19)) (h17 : x19 = ph_2 (x7)) (h18 : x18 = seen_2 (x17)) (h19 : x17 = pt_2 (x7)) (f20 : x15 ≠ x2) (h21 : x15 = ph_2 (x7)) (f22 : x13 ≠ x2) (h23 : x13 = pt_2 (x7)) (f24 : x11 ≠ 0) (h25 : x11 = alive_2 (x7)) (f27 : x7 < x9) (g28 : x9 = pm_2) (f29 : GOK (pn_2) (pm_2) (pt_2) (ph_2)) (f30 : 1 * x1 + ((-1) * pn_2 + 0) ≤ (-1)) (f31 : FL1 (pn_2) (pm_2) (pt_2) (ph_2) (alive_2) (seen_2) (x1) (x2)) (f32 : FL2 (pt_2) (ph_2) (alive_2) (seen_2) (x2) (x7) (x6)) (f33 : FLN (seen_2) (x6) (x8)) (fe_0_31_1 : pn_0 = pn_1) (fe_0_32_1 : pm_0 = pm_1) (fe_0_31_2 : pn_1 = pn_2) (fe_0_32_2 : pm_1 = pm_2) (hE_0_33_1 : ∀ j : Int, pt_0 j = pt_1 j) (hE_0_33_2 : ∀ j : Int, pt_1 j = pt_2 j) (hK_0_33 : ∀ j : Int, 0 ≤ j → j < 80 → 0 ≤ pt_0 j ∧ pt_0 j ≤ 24) (hE_0_34_1 : ∀ j : Int, ph_0 j = ph_1 j) (hE_0_34_2 : ∀ j : Int, ph_1 j = ph_2 j) (hK_0_34 : ∀ j : Int, 0 ≤ j → j < 80 → 0 ≤ ph_0 j ∧ ph_0 j ≤ 24) (hE_0_35_1 : ∀ j : Int, alive_0 j = alive_1 j) (hE_0_35_2 : ∀ j : Int, alive_1 j = alive_2 j) (hK_0_35 : ∀ j : Int, 0 ≤ j → j < 80 → 0 ≤ alive_0 j ∧ alive_0 j ≤ 1) (hE_0_38_1 : ∀ j : Int, 0 ≤ j → (j = x23 → seen_0 j = x24) ∧ (j ≠ x23 → seen_0 j = seen_1 j)) (hE_0_38_2 : ∀ j : Int, 0 ≤ j → (j = x21 → seen_1 j = x22) ∧ (j ≠ x21 → seen_1 j = seen_2 j)) (hK_0_38 : ∀ j : Int, 0 ≤ j → j < 26 → 0 ≤ seen_0 j ∧ seen_0 j ≤ 1) (kz_0_31 : 0 ≤ pn_0 ∧ pn_0 ≤ 25) (kz_0_32 : 0 ≤ pm_0 ∧ pm_0 ≤ 80) : FL2 (pt_0) (ph_0) (alive_0) (seen_0) (x2) (x26) (x25) := by
  subst fe_0_31_1
  subst fe_0_32_1
  subst fe_0_31_2
  subst fe_0_32_2
  have e_hE_0_33_1 := funext hE_0_33_1; subst e_hE_0_33_1
  have e_hE_0_33_2 := funext hE_0_33_2; subst e_hE_0_33_2
  have e_hE_0_34_1 := funext hE_0_34_1; subst e_hE_0_34_1
  have e_hE_0_34_2 := funext hE_0_34_2; subst e_hE_0_34_2
  have e_hE_0_35_1 := funext hE_0_35_1; subst e_hE_0_35_1
  have e_hE_0_35_2 := funext hE_0_35_2; subst e_hE_0_35_2
  first
    | (intro h f a b; omega)
    | (have h := ‹FL2 _ _ _ _ _ _ _›
       intro h0 f a b c d e
       by_cases q : f = x7
       · subst q; first | omega | (rw [← h12, ← h10]; rw [h7, h3] at *; omega) | (rw [← h7, ← h3, ← h6, ← h2]; exact f1)
       · exact h h0 f a (by omega) c d e)
set_option maxHeartbeats 4000000 in
theorem vc_Mo_flood_10_2 (x1 : Int) (x2 : Int) (x4 : Int) (x5 : Int) (x6 : Int) (x7 : Int) (x8 : Int) (x9 : Int) (x11 : Int) (x13 : Int) (x15 : Int) (x17 : Int) (x18 : Int) (x19 : Int) (x20 : Int) (x21 : Int) (x22 : Int) (x23 : Int) (x24 : Int) (x25 : Int) (x26 : Int) (pt_0 : Int → Int) (ph_0 : Int → Int) (pn_0 : Int) (pm_0 : Int) (ph_1 : Int → Int) (pt_1 : Int → Int) (pn_1 : Int) (pm_1 : Int) (pt_2 : Int → Int) (seen_2 : Int → Int) (ph_2 : Int → Int) (alive_2 : Int → Int) (pm_2 : Int) (pn_2 : Int) (alive_0 : Int → Int) (alive_1 : Int → Int) (seen_0 : Int → Int) (seen_1 : Int → Int) (k1 : 0 ≤ x1 ∧ x1 ≤ 24) (k2 : (-1) ≤ x2 ∧ x2 ≤ 24) (k4 : 0 ≤ x4 ∧ x4 ≤ 24) (k5 : (-1) ≤ x5 ∧ x5 ≤ 24) (k6 : 0 ≤ x6 ∧ x6 ≤ 1) (k7 : 0 ≤ x7 ∧ x7 ≤ 79) (k8 : (-2) ≤ x8 ∧ x8 ≤ 60) (k9 : 1 ≤ x9 ∧ x9 ≤ 80) (k11 : 1 ≤ x11 ∧ x11 ≤ 1) (k13 : 0 ≤ x13 ∧ x13 ≤ 24) (k15 : 0 ≤ x15 ∧ x15 ≤ 24) (k17 : 0 ≤ x17 ∧ x17 ≤ 24) (k18 : 0 ≤ x18 ∧ x18 ≤ 1) (k19 : 0 ≤ x19 ∧ x19 ≤ 24) (k20 : 0 ≤ x20 ∧ x20 ≤ 1) (k21 : 0 ≤ x21 ∧ x21 ≤ 24) (k22 : 1 ≤ x22 ∧ x22 ≤ 1) (k23 : 0 ≤ x23 ∧ x23 ≤ 24) (k24 : 1 ≤ x24 ∧ x24 ≤ 1) (k25 : 1 ≤ x25 ∧ x25 ≤ 1) (k26 : 1 ≤ x26 ∧ x26 ≤ 80) (d0 : x7 + 1 ≤ x26 ∧ x26 ≤ x7 + 1) (d1 : x9 + (-4294967296) ≤ x26 ∧ x26 ≤ x9 + 0) (d2 : x9 + (-4294967296) ≤ x7 ∧ x7 ≤ x9 + (-1)) (d3 : x4 + (-4294967296) ≤ x1 ∧ x1 ≤ x4 + 0) (d4 : x5 + (-4294967296) ≤ x2 ∧ x2 ≤ x5 + 0) (d5 : x1 + (-4294967296) ≤ x4 ∧ x4 ≤ x1 + 0) (d6 : x2 + (-4294967296) ≤ x5 ∧ x5 ≤ x2 + 0) (d7 : x7 + (-4294967296) ≤ x6 ∧ x6 ≤ x7 + 0) (f0 : x26 = x7 + 1) (f1 : GOK (pn_0) (pm_0) (pt_0) (ph_0)) (f2 : 1 * x1 + ((-1) * pn_0 + 0) ≤ (-1)) (h7 : x23 = ph_1 (x7)) (f10 : GOK (pn_1) (pm_1) (pt_1) (ph_1)) (f11 : 1 * x1 + ((-1) * pn_1 + 0) ≤ (-1)) (h13 : x21 = pt_2 (x7)) (f15 : x18 ≠ x20) (h16 : x20 = seen_2 (x19)) (h17 : x19 = ph_2 (x7)) (h18 : x18 = seen_2 (x17)) (h19 : x17 = pt_2 (x7)) (f20 : x15 ≠ x2) (h21 : x15 = ph_2 (x7)) (f22 : x13 ≠ x2) (h23 : x13 = pt_2 (x7)) (f24 : x11 ≠ 0) (h25 : x11 = alive_2 (x7)) (f27 : x7 < x9) (g28 : x9 = pm_2) (f29 : GOK (pn_2) (pm_2) (pt_2) (ph_2)) (f30 : 1 * x1 + ((-1) * pn_2 + 0) ≤ (-1)) (f31 : FL1 (pn_2) (pm_2) (pt_2) (ph_2) (alive_2) (seen_2) (x1) (x2)) (f32 : FL2 (pt_2) (ph_2) (alive_2) (seen_2) (x2) (x7) (x6)) (f33 : FLN (seen_2) (x6) (x8)) (fe_0_31_1 : pn_0 = pn_1) (fe_0_32_1 : pm_0 = pm_1) (fe_0_31_2 : pn_1 = pn_2) (fe_0_32_2 : pm_1 = pm_2) (hE_0_33_1 : ∀ j : Int, pt_0 j = pt_1 j) (hE_0_33_2 : ∀ j : Int, pt_1 j = pt_2 j) (hK_0_33 : ∀ j : Int, 0 ≤ j → j < 80 → 0 ≤ pt_0 j ∧ pt_0 j ≤ 24) (hE_0_34_1 : ∀ j : Int, ph_0 j = ph_1 j) (hE_0_34_2 : ∀ j : Int, ph_1 j = ph_2 j) (hK_0_34 : ∀ j : Int, 0 ≤ j → j < 80 → 0 ≤ ph_0 j ∧ ph_0 j ≤ 24) (hE_0_35_1 : ∀ j : Int, alive_0 j = alive_1 j) (hE_0_35_2 : ∀ j : Int, alive_1 j = alive_2 j) (hK_0_35 : ∀ j : Int, 0 ≤ j → j < 80 → 0 ≤ alive_0 j ∧ alive_0 j ≤ 1) (hE_0_38_1 : ∀ j : Int, 0 ≤ j → (j = x23 → seen_0 j = x24) ∧ (j ≠ x23 → seen_0 j = seen_1 j)) (hE_0_38_2 : ∀ j : Int, 0 ≤ j → (j = x21 → seen_1 j = x22) ∧ (j ≠ x21 → seen_1 j = seen_2 j)) (hK_0_38 : ∀ j : Int, 0 ≤ j → j < 26 → 0 ≤ seen_0 j ∧ seen_0 j ≤ 1) (kz_0_31 : 0 ≤ pn_0 ∧ pn_0 ≤ 25) (kz_0_32 : 0 ≤ pm_0 ∧ pm_0 ≤ 80) : FLN (seen_0) (x25) (x8) := by
  subst fe_0_31_1
  subst fe_0_32_1
  subst fe_0_31_2
  subst fe_0_32_2
  have e_hE_0_33_1 := funext hE_0_33_1; subst e_hE_0_33_1
  have e_hE_0_33_2 := funext hE_0_33_2; subst e_hE_0_33_2
  have e_hE_0_34_1 := funext hE_0_34_1; subst e_hE_0_34_1
  have e_hE_0_34_2 := funext hE_0_34_2; subst e_hE_0_34_2
  have e_hE_0_35_1 := funext hE_0_35_1; subst e_hE_0_35_1
  have e_hE_0_35_2 := funext hE_0_35_2; subst e_hE_0_35_2
  first
    | (have := ‹FLM _ _ _›; unfold FLM FLN at *; omega)
    | assumption
    | (have h := ‹FLN _ _ _›
       unfold FLN at *
       have hq : seen_2 x21 ≠ seen_2 x23 := by intro e; apply f15; rw [h18, h16, h19, h17, ← h13, ← h7]; exact e
       have hle : ∀ j : Int, 0 ≤ j → j < 26 → seen_0 j = 0 → seen_2 j = 0 := by
         intro j a b c
         have h1 := hE_0_38_1 j a
         have h2 := hE_0_38_2 j a
         by_cases q : j = x23
         · have := h1.1 q; omega
         · by_cases q2 : j = x21
           · have := h1.2 q; have := h2.1 q2; omega
           · rw [← h2.2 q2, ← h1.2 q]; exact c
       have z1 : seen_0 x23 ≠ 0 := by have := (hE_0_38_1 x23 (by omega)).1 rfl; omega
       have z2 : seen_0 x21 ≠ 0 := by
         by_cases q : x21 = x23
         · rw [q]; exact z1
         · have := (hE_0_38_1 x21 (by omega)).2 q; have := (hE_0_38_2 x21 (by omega)).1 rfl; omega
       have hb1 := hK_0_38 x21 (by omega) (by omega)
       by_cases q : seen_2 x21 = 0
       · have := czlt (n := 26) (i := x21) (by omega) (by omega) hle q z2; omega
       · rw [show x21 = x17 by omega] at q; have := czlt (n := 26) (i := x23) (f := seen_0) (g := seen_2) (by omega) (by omega) hle (by rw [show x23 = x19 by omega]; omega) z1; omega)
def o_Mo_flood_10 : or_T := (43, 27, [(0, (2, 0, 0, [165])), (1, (0, 0, 24, [])), (2, (0, -1, 24, [])), (4, (0, 0, 24, [])), (5, (0, -1, 24, [])), (6, (0, 0, 1, [])), (7, (0, 0, 79, [])), (8, (0, -2, 60, [])), (9, (0, 1, 80, [])), (11, (0, 1, 1, [])), (13, (0, 0, 24, [])), (15, (0, 0, 24, [])), (16, (2, 0, 0, [185])), (17, (0, 0, 24, [])), (18, (0, 0, 1, [])), (19, (0, 0, 24, [])), (20, (0, 0, 1, [])), (21, (0, 0, 24, [])), (22, (0, 1, 1, [])), (23, (0, 0, 24, [])), (24, (0, 1, 1, [])), (25, (0, 1, 1, [])), (26, (0, 1, 80, []))], [(6, [26, 7], [1]), (20, [3], [60, 2, 2, 75, 31, 32, 33, 34]), (20, [4, 3], [30, -1, 1, 0, 0, -1, 1, 31]), (24, [0, 3], []), (24, [1, 4], []), (24, [2, 5], []), (100, [16, 23, 24], []), (10, [23, 14, 7], []), (9, [14, 3], [34]), (9, [16, 3], [38]), (20, [3], [60, 2, 2, 75, 31, 32, 33, 34]), (20, [4, 3], [30, -1, 1, 0, 0, -1, 1, 31]), (100, [16, 21, 22], []), (10, [21, 12, 7], []), (9, [12, 3], [33]), (7, [18, 20], [1]), (10, [20, 16, 19], []), (10, [19, 14, 7], []), (10, [18, 16, 17], []), (10, [17, 12, 7], []), (7, [15, 5], [1]), (10, [15, 14, 7], []), (7, [13, 5], [1]), (10, [13, 12, 7], []), (8, [11], [1]), (10, [11, 10, 7], []), (9, [10, 3], [35]), (7, [7, 9], [2]), (9, [9, 3], [32]), (20, [3], [60, 2, 2, 75, 31, 32, 33, 34]), (20, [4, 3], [30, -1, 1, 0, 0, -1, 1, 31]), (20, [3, 4, 5], [60, 2, 4, 77, 31, 32, 33, 34, 35, 38]), (20, [3, 5, 7, 6], [60, 0, 4, 78, 33, 34, 35, 38]), (20, [3, 6, 8], [60, 0, 1, 82, 38])], [], [], [(20, [3, 4, 5], [60, 2, 4, 77, 31, 32, 33, 34, 35, 38]), (20, [3, 5, 26, 25], [60, 0, 4, 78, 33, 34, 35, 38]), (20, [3, 25, 8], [60, 0, 1, 82, 38])], [], [(26, 7, 1, 1), (26, 9, -4294967296, 0), (7, 9, -4294967296, -1), (1, 4, -4294967296, 0), (2, 5, -4294967296, 0), (4, 1, -4294967296, 0), (5, 2, -4294967296, 0), (6, 7, -4294967296, 0)])
theorem oo_Mo_flood_10 {kA : Nat → ClassId} : or_ok PRD kA GG o_Mo_flood_10 := by
  refine or_mk fun A ta ws vs hD hth hl => ?_
  intro t0 r0 t1 k1 t2 k2 t4 k4 t5 k5 t6 k6 t7 k7 t8 k8 t9 k9 t11 k11 t13 k13 t15 k15 t16 r16 t17 k17 t18 k18 t19 k19 t20 k20 t21 k21 t22 k22 t23 k23 t24 k24 t25 k25 t26 k26 d0 d1 d2 d3 d4 d5 d6 d7 f0 f1 f2 f3 f4 f5 ta1 w1 le1 s1 f7 f8 f9 f10 f11 ta2 w2 le2 s2 f13 f14 f15 f16 f17 f18 f19 f20 f21 f22 f23 f24 f25 f26 f27 f28 f29 f30 f31 f32 f33
  replace f0 := shm_4 f0
  replace f1 := shm_575 f1
  replace f2 := shm_553 f2
  replace f3 := shm_5 f3
  replace f4 := shm_5 f4
  replace f5 := shm_5 f5
  have s1 : (∀ b j, w_el ws b j = if b = v_ad (n_v vs 16) ∧ j = (v_iv (n_v vs 23)).toNat then v_iv (n_v vs 24) else w_el w1 b j) ∧ ∀ b k, w_fd ws b k = w_fd w1 b k := s1.2
  replace f7 := shm_107 f7
  replace f8 := shm_496 f8
  replace f9 := shm_581 f9
  replace f10 := shm_575 f10
  replace f11 := shm_553 f11
  have s2 : (∀ b j, w_el w1 b j = if b = v_ad (n_v vs 16) ∧ j = (v_iv (n_v vs 21)).toNat then v_iv (n_v vs 22) else w_el w2 b j) ∧ ∀ b k, w_fd w1 b k = w_fd w2 b k := s2.2
  replace f13 := shm_107 f13
  replace f14 := shm_494 f14
  replace f15 := shm_40 f15
  replace f16 := shm_107 f16
  replace f17 := shm_107 f17
  replace f18 := shm_107 f18
  replace f19 := shm_107 f19
  replace f20 := shm_40 f20
  replace f21 := shm_107 f21
  replace f22 := shm_40 f22
  replace f23 := shm_107 f23
  replace f24 := shm_142 f24
  replace f25 := shm_107 f25
  replace f26 := shm_511 f26
  replace f27 := shm_6 f27
  replace f28 := shm_525 f28
  replace f29 := shm_575 f29
  replace f30 := shm_553 f30
  replace f31 := shm_578 f31
  replace f32 := shm_583 f32
  replace f33 := shm_584 f33
  have q3 : n_v vs 3 = n_v vs 0 := f3.symm
  have q4 : n_v vs 4 = n_v vs 1 := f4.symm
  have q5 : n_v vs 5 = n_v vs 2 := f5.symm
  simp only [q3, q4, q5] at f1 f2 f8 f9 f10 f11 f14 f20 f22 f26 f28 f29 f30 f31 f32 f33
  have ar_0_33_1 : w_ar w1 (n_v vs 0) 33 = w_ar ws (n_v vs 0) 33 := congrArg v_ad (s1.2 _ _).symm
  have ar_0_33_2 : w_ar w2 (n_v vs 0) 33 = w_ar ws (n_v vs 0) 33 := by rw [← ar_0_33_1]; show v_ad (w_fd w2 _ _) = v_ad (w_fd w1 _ _); rw [s2.2]
  have cr_0_33 := fdq_117 hD hth r0
  have ar_0_34_1 : w_ar w1 (n_v vs 0) 34 = w_ar ws (n_v vs 0) 34 := congrArg v_ad (s1.2 _ _).symm
  have ar_0_34_2 : w_ar w2 (n_v vs 0) 34 = w_ar ws (n_v vs 0) 34 := by rw [← ar_0_34_1]; show v_ad (w_fd w2 _ _) = v_ad (w_fd w1 _ _); rw [s2.2]
  have cr_0_34 := fdq_118 hD hth r0
  have ar_0_35_1 : w_ar w1 (n_v vs 0) 35 = w_ar ws (n_v vs 0) 35 := congrArg v_ad (s1.2 _ _).symm
  have ar_0_35_2 : w_ar w2 (n_v vs 0) 35 = w_ar ws (n_v vs 0) 35 := by rw [← ar_0_35_1]; show v_ad (w_fd w2 _ _) = v_ad (w_fd w1 _ _); rw [s2.2]
  have cr_0_35 := fdq_132 hD hth r0
  have ar_0_38_1 : w_ar w1 (n_v vs 0) 38 = w_ar ws (n_v vs 0) 38 := congrArg v_ad (s1.2 _ _).symm
  have ar_0_38_2 : w_ar w2 (n_v vs 0) 38 = w_ar ws (n_v vs 0) 38 := by rw [← ar_0_38_1]; show v_ad (w_fd w2 _ _) = v_ad (w_fd w1 _ _); rw [s2.2]
  have cr_0_38 := fdq_149 hD hth r0
  have ad_14 : v_ad (n_v vs 14) = w_ar ws (n_v vs 0) 34 := (congrArg v_ad f8).trans ar_0_34_1
  have ad_16 : v_ad (n_v vs 16) = w_ar ws (n_v vs 0) 38 := (congrArg v_ad f9).trans ar_0_38_1
  have ad_12 : v_ad (n_v vs 12) = w_ar ws (n_v vs 0) 33 := (congrArg v_ad f14).trans ar_0_33_2
  have ad_10 : v_ad (n_v vs 10) = w_ar ws (n_v vs 0) 35 := (congrArg v_ad f26).trans ar_0_35_2
  simp only [ad_14] at f7
  have h7 : v_iv (n_v vs 23) = w_ei w1 (w_ar ws (n_v vs 0) 34) (v_iv (n_v vs 7)) := f7
  simp only [ar_0_33_1, ar_0_34_1, ad_12] at f10 f13
  have h13 : v_iv (n_v vs 21) = w_ei w2 (w_ar ws (n_v vs 0) 33) (v_iv (n_v vs 7)) := f13
  simp only [ad_16] at f16
  have h16 : v_iv (n_v vs 20) = w_ei w2 (w_ar ws (n_v vs 0) 38) (v_iv (n_v vs 19)) := f16
  simp only [ad_14] at f17
  have h17 : v_iv (n_v vs 19) = w_ei w2 (w_ar ws (n_v vs 0) 34) (v_iv (n_v vs 7)) := f17
  simp only [ad_16] at f18
  have h18 : v_iv (n_v vs 18) = w_ei w2 (w_ar ws (n_v vs 0) 38) (v_iv (n_v vs 17)) := f18
  simp only [ad_12] at f19
  have h19 : v_iv (n_v vs 17) = w_ei w2 (w_ar ws (n_v vs 0) 33) (v_iv (n_v vs 7)) := f19
  simp only [ad_14] at f21
  have h21 : v_iv (n_v vs 15) = w_ei w2 (w_ar ws (n_v vs 0) 34) (v_iv (n_v vs 7)) := f21
  simp only [ad_12] at f23
  have h23 : v_iv (n_v vs 13) = w_ei w2 (w_ar ws (n_v vs 0) 33) (v_iv (n_v vs 7)) := f23
  simp only [ad_10] at f25
  have h25 : v_iv (n_v vs 11) = w_ei w2 (w_ar ws (n_v vs 0) 35) (v_iv (n_v vs 7)) := f25
  have g28 : v_iv (n_v vs 9) = w_fi w2 (n_v vs 0) 32 := congrArg v_iv f28
  simp only [ar_0_33_2, ar_0_34_2, ar_0_35_2, ar_0_38_2] at f29 f31 f32 f33
  have fe_0_31_1 : w_fi ws (n_v vs 0) 31 = w_fi w1 (n_v vs 0) 31 := congrArg v_iv (s1.2 _ _)
  have fe_0_32_1 : w_fi ws (n_v vs 0) 32 = w_fi w1 (n_v vs 0) 32 := congrArg v_iv (s1.2 _ _)
  have fe_0_31_2 : w_fi w1 (n_v vs 0) 31 = w_fi w2 (n_v vs 0) 31 := congrArg v_iv (s2.2 _ _)
  have fe_0_32_2 : w_fi w1 (n_v vs 0) 32 = w_fi w2 (n_v vs 0) 32 := congrArg v_iv (s2.2 _ _)
  have hE_0_33_1 : ∀ j : Int, w_ei ws (w_ar ws (n_v vs 0) 33) j = w_ei w1 (w_ar ws (n_v vs 0) 33) j := el_kp s1.1 r16 cr_0_33 (by decide)
  have hE_0_33_2 : ∀ j : Int, w_ei w1 (w_ar ws (n_v vs 0) 33) j = w_ei w2 (w_ar ws (n_v vs 0) 33) j := el_kp s2.1 r16 cr_0_33 (by decide)
  have hK_0_33 := elq_60 hD hth cr_0_33
  have hE_0_34_1 : ∀ j : Int, w_ei ws (w_ar ws (n_v vs 0) 34) j = w_ei w1 (w_ar ws (n_v vs 0) 34) j := el_kp s1.1 r16 cr_0_34 (by decide)
  have hE_0_34_2 : ∀ j : Int, w_ei w1 (w_ar ws (n_v vs 0) 34) j = w_ei w2 (w_ar ws (n_v vs 0) 34) j := el_kp s2.1 r16 cr_0_34 (by decide)
  have hK_0_34 := elq_61 hD hth cr_0_34
  have hE_0_35_1 : ∀ j : Int, w_ei ws (w_ar ws (n_v vs 0) 35) j = w_ei w1 (w_ar ws (n_v vs 0) 35) j := el_kp s1.1 r16 cr_0_35 (by decide)
  have hE_0_35_2 : ∀ j : Int, w_ei w1 (w_ar ws (n_v vs 0) 35) j = w_ei w2 (w_ar ws (n_v vs 0) 35) j := el_kp s2.1 r16 cr_0_35 (by decide)
  have hK_0_35 := elq_72 hD hth cr_0_35
  have hE_0_38_1 : ∀ j : Int, 0 ≤ j → (j = v_iv (n_v vs 23) → w_ei ws (w_ar ws (n_v vs 0) 38) j = v_iv (n_v vs 24)) ∧ (j ≠ v_iv (n_v vs 23) → w_ei ws (w_ar ws (n_v vs 0) 38) j = w_ei w1 (w_ar ws (n_v vs 0) 38) j) := fun j hj => ⟨fun h => by unfold w_ei; rw [s1.1, if_pos ⟨ad_16.symm, by rw [h]⟩], fun h => by unfold w_ei; rw [s1.1, if_neg (fun e => h (by have := e.2; omega))]⟩
  have hE_0_38_2 : ∀ j : Int, 0 ≤ j → (j = v_iv (n_v vs 21) → w_ei w1 (w_ar ws (n_v vs 0) 38) j = v_iv (n_v vs 22)) ∧ (j ≠ v_iv (n_v vs 21) → w_ei w1 (w_ar ws (n_v vs 0) 38) j = w_ei w2 (w_ar ws (n_v vs 0) 38) j) := fun j hj => ⟨fun h => by unfold w_ei; rw [s2.1, if_pos ⟨ad_16.symm, by rw [h]⟩], fun h => by unfold w_ei; rw [s2.1, if_neg (fun e => h (by have := e.2; omega))]⟩
  have hK_0_38 := elq_83 hD hth cr_0_38
  have kz_0_31 := fdq_145 hD hth r0
  have kz_0_32 := fdq_140 hD hth r0
  have nf0 : fc_1 PRD (20, [3, 4, 5], [60, 2, 4, 77, 31, 32, 33, 34, 35, 38]) ws (vs) := by
    refine ⟨nf_in hl rfl, sgq_578 ?_⟩
    · show FL1 (w_fi ws (n_v vs 3) 31) (w_fi ws (n_v vs 3) 32) (w_ei ws (w_ar ws (n_v vs 3) 33)) (w_ei ws (w_ar ws (n_v vs 3) 34)) (w_ei ws (w_ar ws (n_v vs 3) 35)) (w_ei ws (w_ar ws (n_v vs 3) 38)) (v_iv (n_v vs 4)) (v_iv (n_v vs 5))
      simp only [q3, q4, q5]
      exact vc_Mo_flood_10_0 (v_iv (n_v vs 1)) (v_iv (n_v vs 2)) (v_iv (n_v vs 4)) (v_iv (n_v vs 5)) (v_iv (n_v vs 6)) (v_iv (n_v vs 7)) (v_iv (n_v vs 8)) (v_iv (n_v vs 9)) (v_iv (n_v vs 11)) (v_iv (n_v vs 13)) (v_iv (n_v vs 15)) (v_iv (n_v vs 17)) (v_iv (n_v vs 18)) (v_iv (n_v vs 19)) (v_iv (n_v vs 20)) (v_iv (n_v vs 21)) (v_iv (n_v vs 22)) (v_iv (n_v vs 23)) (v_iv (n_v vs 24)) (v_iv (n_v vs 25)) (v_iv (n_v vs 26)) (w_ei ws (w_ar ws (n_v vs 0) 33)) (w_ei ws (w_ar ws (n_v vs 0) 34)) (w_fi ws (n_v vs 0) 31) (w_fi ws (n_v vs 0) 32) (w_ei w1 (w_ar ws (n_v vs 0) 34)) (w_ei w1 (w_ar ws (n_v vs 0) 33)) (w_fi w1 (n_v vs 0) 31) (w_fi w1 (n_v vs 0) 32) (w_ei w2 (w_ar ws (n_v vs 0) 33)) (w_ei w2 (w_ar ws (n_v vs 0) 38)) (w_ei w2 (w_ar ws (n_v vs 0) 34)) (w_ei w2 (w_ar ws (n_v vs 0) 35)) (w_fi w2 (n_v vs 0) 32) (w_fi w2 (n_v vs 0) 31) (w_ei ws (w_ar ws (n_v vs 0) 35)) (w_ei w1 (w_ar ws (n_v vs 0) 35)) (w_ei ws (w_ar ws (n_v vs 0) 38)) (w_ei w1 (w_ar ws (n_v vs 0) 38)) k1 k2 k4 k5 k6 k7 k8 k9 k11 k13 k15 k17 k18 k19 k20 k21 k22 k23 k24 k25 k26 d0 d1 d2 d3 d4 d5 d6 d7 f0 f1 f2 h7 f10 f11 h13 f15 h16 h17 h18 h19 f20 h21 f22 h23 f24 h25 f27 g28 f29 f30 f31 f32 f33 fe_0_31_1 fe_0_32_1 fe_0_31_2 fe_0_32_2 hE_0_33_1 hE_0_33_2 hK_0_33 hE_0_34_1 hE_0_34_2 hK_0_34 hE_0_35_1 hE_0_35_2 hK_0_35 hE_0_38_1 hE_0_38_2 hK_0_38 kz_0_31 kz_0_32
  have nf1 : fc_1 PRD (20, [3, 5, 26, 25], [60, 0, 4, 78, 33, 34, 35, 38]) ws (vs) := by
    refine ⟨nf_in hl rfl, sgq_583 ?_⟩
    · show FL2 (w_ei ws (w_ar ws (n_v vs 3) 33)) (w_ei ws (w_ar ws (n_v vs 3) 34)) (w_ei ws (w_ar ws (n_v vs 3) 35)) (w_ei ws (w_ar ws (n_v vs 3) 38)) (v_iv (n_v vs 5)) (v_iv (n_v vs 26)) (v_iv (n_v vs 25))
      simp only [q3, q5]
      exact vc_Mo_flood_10_1 (v_iv (n_v vs 1)) (v_iv (n_v vs 2)) (v_iv (n_v vs 4)) (v_iv (n_v vs 5)) (v_iv (n_v vs 6)) (v_iv (n_v vs 7)) (v_iv (n_v vs 8)) (v_iv (n_v vs 9)) (v_iv (n_v vs 11)) (v_iv (n_v vs 13)) (v_iv (n_v vs 15)) (v_iv (n_v vs 17)) (v_iv (n_v vs 18)) (v_iv (n_v vs 19)) (v_iv (n_v vs 20)) (v_iv (n_v vs 21)) (v_iv (n_v vs 22)) (v_iv (n_v vs 23)) (v_iv (n_v vs 24)) (v_iv (n_v vs 25)) (v_iv (n_v vs 26)) (w_ei ws (w_ar ws (n_v vs 0) 33)) (w_ei ws (w_ar ws (n_v vs 0) 34)) (w_fi ws (n_v vs 0) 31) (w_fi ws (n_v vs 0) 32) (w_ei w1 (w_ar ws (n_v vs 0) 34)) (w_ei w1 (w_ar ws (n_v vs 0) 33)) (w_fi w1 (n_v vs 0) 31) (w_fi w1 (n_v vs 0) 32) (w_ei w2 (w_ar ws (n_v vs 0) 33)) (w_ei w2 (w_ar ws (n_v vs 0) 38)) (w_ei w2 (w_ar ws (n_v vs 0) 34)) (w_ei w2 (w_ar ws (n_v vs 0) 35)) (w_fi w2 (n_v vs 0) 32) (w_fi w2 (n_v vs 0) 31) (w_ei ws (w_ar ws (n_v vs 0) 35)) (w_ei w1 (w_ar ws (n_v vs 0) 35)) (w_ei ws (w_ar ws (n_v vs 0) 38)) (w_ei w1 (w_ar ws (n_v vs 0) 38)) k1 k2 k4 k5 k6 k7 k8 k9 k11 k13 k15 k17 k18 k19 k20 k21 k22 k23 k24 k25 k26 d0 d1 d2 d3 d4 d5 d6 d7 f0 f1 f2 h7 f10 f11 h13 f15 h16 h17 h18 h19 f20 h21 f22 h23 f24 h25 f27 g28 f29 f30 f31 f32 f33 fe_0_31_1 fe_0_32_1 fe_0_31_2 fe_0_32_2 hE_0_33_1 hE_0_33_2 hK_0_33 hE_0_34_1 hE_0_34_2 hK_0_34 hE_0_35_1 hE_0_35_2 hK_0_35 hE_0_38_1 hE_0_38_2 hK_0_38 kz_0_31 kz_0_32
  have nf2 : fc_1 PRD (20, [3, 25, 8], [60, 0, 1, 82, 38]) ws (vs) := by
    refine ⟨nf_in hl rfl, sgq_584 ?_⟩
    · show FLN (w_ei ws (w_ar ws (n_v vs 3) 38)) (v_iv (n_v vs 25)) (v_iv (n_v vs 8))
      rw [q3]
      exact vc_Mo_flood_10_2 (v_iv (n_v vs 1)) (v_iv (n_v vs 2)) (v_iv (n_v vs 4)) (v_iv (n_v vs 5)) (v_iv (n_v vs 6)) (v_iv (n_v vs 7)) (v_iv (n_v vs 8)) (v_iv (n_v vs 9)) (v_iv (n_v vs 11)) (v_iv (n_v vs 13)) (v_iv (n_v vs 15)) (v_iv (n_v vs 17)) (v_iv (n_v vs 18)) (v_iv (n_v vs 19)) (v_iv (n_v vs 20)) (v_iv (n_v vs 21)) (v_iv (n_v vs 22)) (v_iv (n_v vs 23)) (v_iv (n_v vs 24)) (v_iv (n_v vs 25)) (v_iv (n_v vs 26)) (w_ei ws (w_ar ws (n_v vs 0) 33)) (w_ei ws (w_ar ws (n_v vs 0) 34)) (w_fi ws (n_v vs 0) 31) (w_fi ws (n_v vs 0) 32) (w_ei w1 (w_ar ws (n_v vs 0) 34)) (w_ei w1 (w_ar ws (n_v vs 0) 33)) (w_fi w1 (n_v vs 0) 31) (w_fi w1 (n_v vs 0) 32) (w_ei w2 (w_ar ws (n_v vs 0) 33)) (w_ei w2 (w_ar ws (n_v vs 0) 38)) (w_ei w2 (w_ar ws (n_v vs 0) 34)) (w_ei w2 (w_ar ws (n_v vs 0) 35)) (w_fi w2 (n_v vs 0) 32) (w_fi w2 (n_v vs 0) 31) (w_ei ws (w_ar ws (n_v vs 0) 35)) (w_ei w1 (w_ar ws (n_v vs 0) 35)) (w_ei ws (w_ar ws (n_v vs 0) 38)) (w_ei w1 (w_ar ws (n_v vs 0) 38)) k1 k2 k4 k5 k6 k7 k8 k9 k11 k13 k15 k17 k18 k19 k20 k21 k22 k23 k24 k25 k26 d0 d1 d2 d3 d4 d5 d6 d7 f0 f1 f2 h7 f10 f11 h13 f15 h16 h17 h18 h19 f20 h21 f22 h23 f24 h25 f27 g28 f29 f30 f31 f32 f33 fe_0_31_1 fe_0_32_1 fe_0_31_2 fe_0_32_2 hE_0_33_1 hE_0_33_2 hK_0_33 hE_0_34_1 hE_0_34_2 hK_0_34 hE_0_35_1 hE_0_35_2 hK_0_35 hE_0_38_1 hE_0_38_2 hK_0_38 kz_0_31 kz_0_32
  refine ⟨(fun _ h => (by cases h)), [], trivial, ?_, (fun _ h => (by cases h))⟩
  rw [List.append_nil]
  exact List.forall_mem_cons.mpr ⟨⟨show (20 : Nat) < 100 from by decide, nf0⟩, List.forall_mem_cons.mpr ⟨⟨show (20 : Nat) < 100 from by decide, nf1⟩, List.forall_mem_cons.mpr ⟨⟨show (20 : Nat) < 100 from by decide, nf2⟩, (fun _ h => (by cases h))⟩⟩⟩
set_option maxHeartbeats 4000000 in
theorem vc_Mo_flood_11_0 (x1 : Int) (x2 : Int) (x4 : Int) (x5 : Int) (x6 : Int) (x7 : Int) (x8 : Int) (x9 : Int) (x11 : Int) (x13 : Int) (x15 : Int) (x17 : Int) (x18 : Int) (x19 : Int) (x20 : Int) (x21 : Int) (seen_0 : Int → Int) (ph_0 : Int → Int) (pt_0 : Int → Int) (alive_0 : Int → Int) (pm_0 : Int) (pn_0 : Int) (k1 : 0 ≤ x1 ∧ x1 ≤ 24) (k2 : (-1) ≤ x2 ∧ x2 ≤ 24) (k4 : 0 ≤ x4 ∧ x4 ≤ 24) (k5 : (-1) ≤ x5 ∧ x5 ≤ 24) (k6 : 0 ≤ x6 ∧ x6 ≤ 1) (k7 : 0 ≤ x7 ∧ x7 ≤ 79) (k8 : (-2) ≤ x8 ∧ x8 ≤ 60) (k9 : 1 ≤ x9 ∧ x9 ≤ 80) (k11 : 1 ≤ x11 ∧ x11 ≤ 1) (k13 : 0 ≤ x13 ∧ x13 ≤ 24) (k15 : 0 ≤ x15 ∧ x15 ≤ 24) (k17 : 0 ≤ x17 ∧ x17 ≤ 24) (k18 : 0 ≤ x18 ∧ x18 ≤ 1) (k19 : 0 ≤ x19 ∧ x19 ≤ 24) (k20 : 0 ≤ x20 ∧ x20 ≤ 1) (k21 : 1 ≤ x21 ∧ x21 ≤ 80) (d0 : x7 + 1 ≤ x21 ∧ x21 ≤ x7 + 1) (d1 : x9 + (-4294967296) ≤ x21 ∧ x21 ≤ x9 + 0) (d2 : x20 + 0 ≤ x18 ∧ x18 ≤ x20 + 0) (d3 : x9 + (-4294967296) ≤ x7 ∧ x7 ≤ x9 + (-1)) (d4 : x4 + (-4294967296) ≤ x1 ∧ x1 ≤ x4 + 0) (d5 : x5 + (-4294967296) ≤ x2 ∧ x2 ≤ x5 + 0) (d6 : x1 + (-4294967296) ≤ x4 ∧ x4 ≤ x1 + 0) (d7 : x2 + (-4294967296) ≤ x5 ∧ x5 ≤ x2 + 0) (d8 : x7 + (-4294967296) ≤ x6 ∧ x6 ≤ x7 + 0) (f0 : x21 = x7 + 1) (f1 : x18 = x20) (h2 : x20 = seen_0 (x19)) (h3 : x19 = ph_0 (x7)) (h6 : x18 = seen_0 (x17)) (h7 : x17 = pt_0 (x7)) (f9 : x15 ≠ x2) (h10 : x15 = ph_0 (x7)) (f11 : x13 ≠ x2) (h12 : x13 = pt_0 (x7)) (f13 : x11 ≠ 0) (h14 : x11 = alive_0 (x7)) (f16 : x7 < x9) (g17 : x9 = pm_0) (f18 : GOK (pn_0) (pm_0) (pt_0) (ph_0)) (f19 : 1 * x1 + ((-1) * pn_0 + 0) ≤ (-1)) (f20 : FL1 (pn_0) (pm_0) (pt_0) (ph_0) (alive_0) (seen_0) (x1) (x2)) (f21 : FL2 (pt_0) (ph_0) (alive_0) (seen_0) (x2) (x7) (x6)) (f22 : FLN (seen_0) (x6) (x8)) (hK_0_33 : ∀ j : Int, 0 ≤ j → j < 80 → 0 ≤ pt_0 j ∧ pt_0 j ≤ 24) (hK_0_34 : ∀ j : Int, 0 ≤ j → j < 80 → 0 ≤ ph_0 j ∧ ph_0 j ≤ 24) (hK_0_35 : ∀ j : Int, 0 ≤ j → j < 80 → 0 ≤ alive_0 j ∧ alive_0 j ≤ 1) (hK_0_38 : ∀ j : Int, 0 ≤ j → j < 26 → 0 ≤ seen_0 j ∧ seen_0 j ≤ 1) (kz_0_31 : 0 ≤ pn_0 ∧ pn_0 ≤ 25) (kz_0_32 : 0 ≤ pm_0 ∧ pm_0 ≤ 80) : FL2 (pt_0) (ph_0) (alive_0) (seen_0) (x2) (x21) (x6) := by
  first
    | (intro h f a b; omega)
    | (have h := ‹FL2 _ _ _ _ _ _ _›
       intro h0 f a b c d e
       by_cases q : f = x7
       · subst q; first | omega | (rw [← h12, ← h10]; rw [h7, h3] at *; omega) | (rw [← h7, ← h3, ← h6, ← h2]; exact f1)
       · exact h h0 f a (by omega) c d e)
def o_Mo_flood_11 : or_T := (43, 22, [(0, (2, 0, 0, [165])), (1, (0, 0, 24, [])), (2, (0, -1, 24, [])), (4, (0, 0, 24, [])), (5, (0, -1, 24, [])), (6, (0, 0, 1, [])), (7, (0, 0, 79, [])), (8, (0, -2, 60, [])), (9, (0, 1, 80, [])), (11, (0, 1, 1, [])), (13, (0, 0, 24, [])), (15, (0, 0, 24, [])), (17, (0, 0, 24, [])), (18, (0, 0, 1, [])), (19, (0, 0, 24, [])), (20, (0, 0, 1, [])), (21, (0, 1, 80, []))], [(6, [21, 7], [1]), (7, [18, 20], [0]), (10, [20, 16, 19], []), (10, [19, 14, 7], []), (9, [14, 3], [34]), (9, [16, 3], [38]), (10, [18, 16, 17], []), (10, [17, 12, 7], []), (9, [12, 3], [33]), (7, [15, 5], [1]), (10, [15, 14, 7], []), (7, [13, 5], [1]), (10, [13, 12, 7], []), (8, [11], [1]), (10, [11, 10, 7], []), (9, [10, 3], [35]), (7, [7, 9], [2]), (9, [9, 3], [32]), (20, [3], [60, 2, 2, 75, 31, 32, 33, 34]), (20, [4, 3], [30, -1, 1, 0, 0, -1, 1, 31]), (20, [3, 4, 5], [60, 2, 4, 77, 31, 32, 33, 34, 35, 38]), (20, [3, 5, 7, 6], [60, 0, 4, 78, 33, 34, 35, 38]), (20, [3, 6, 8], [60, 0, 1, 82, 38]), (24, [0, 3], []), (24, [1, 4], []), (24, [2, 5], [])], [], [], [(20, [3, 5, 21, 6], [60, 0, 4, 78, 33, 34, 35, 38])], [], [(21, 7, 1, 1), (21, 9, -4294967296, 0), (18, 20, 0, 0), (7, 9, -4294967296, -1), (1, 4, -4294967296, 0), (2, 5, -4294967296, 0), (4, 1, -4294967296, 0), (5, 2, -4294967296, 0), (6, 7, -4294967296, 0)])
theorem oo_Mo_flood_11 {kA : Nat → ClassId} : or_ok PRD kA GG o_Mo_flood_11 := by
  refine or_mk fun A ta ws vs hD hth hl => ?_
  intro t0 r0 t1 k1 t2 k2 t4 k4 t5 k5 t6 k6 t7 k7 t8 k8 t9 k9 t11 k11 t13 k13 t15 k15 t17 k17 t18 k18 t19 k19 t20 k20 t21 k21 d0 d1 d2 d3 d4 d5 d6 d7 d8 f0 f1 f2 f3 f4 f5 f6 f7 f8 f9 f10 f11 f12 f13 f14 f15 f16 f17 f18 f19 f20 f21 f22 f23 f24 f25
  replace f0 := shm_4 f0
  replace f1 := shm_37 f1
  replace f2 := shm_107 f2
  replace f3 := shm_107 f3
  replace f4 := shm_496 f4
  replace f5 := shm_581 f5
  replace f6 := shm_107 f6
  replace f7 := shm_107 f7
  replace f8 := shm_494 f8
  replace f9 := shm_40 f9
  replace f10 := shm_107 f10
  replace f11 := shm_40 f11
  replace f12 := shm_107 f12
  replace f13 := shm_142 f13
  replace f14 := shm_107 f14
  replace f15 := shm_511 f15
  replace f16 := shm_6 f16
  replace f17 := shm_525 f17
  replace f18 := shm_575 f18
  replace f19 := shm_553 f19
  replace f20 := shm_578 f20
  replace f21 := shm_583 f21
  replace f22 := shm_584 f22
  replace f23 := shm_5 f23
  replace f24 := shm_5 f24
  replace f25 := shm_5 f25
  have q3 : n_v vs 3 = n_v vs 0 := f23.symm
  have q4 : n_v vs 4 = n_v vs 1 := f24.symm
  have q5 : n_v vs 5 = n_v vs 2 := f25.symm
  simp only [q3, q5, q4] at f4 f5 f8 f9 f11 f15 f17 f18 f19 f20 f21 f22
  have cr_0_33 := fdq_117 hD hth r0
  have cr_0_34 := fdq_118 hD hth r0
  have cr_0_35 := fdq_132 hD hth r0
  have cr_0_38 := fdq_149 hD hth r0
  have ad_14 : v_ad (n_v vs 14) = w_ar ws (n_v vs 0) 34 := congrArg v_ad f4
  have ad_16 : v_ad (n_v vs 16) = w_ar ws (n_v vs 0) 38 := congrArg v_ad f5
  have ad_12 : v_ad (n_v vs 12) = w_ar ws (n_v vs 0) 33 := congrArg v_ad f8
  have ad_10 : v_ad (n_v vs 10) = w_ar ws (n_v vs 0) 35 := congrArg v_ad f15
  simp only [ad_16] at f2
  have h2 : v_iv (n_v vs 20) = w_ei ws (w_ar ws (n_v vs 0) 38) (v_iv (n_v vs 19)) := f2
  simp only [ad_14] at f3
  have h3 : v_iv (n_v vs 19) = w_ei ws (w_ar ws (n_v vs 0) 34) (v_iv (n_v vs 7)) := f3
  simp only [ad_16] at f6
  have h6 : v_iv (n_v vs 18) = w_ei ws (w_ar ws (n_v vs 0) 38) (v_iv (n_v vs 17)) := f6
  simp only [ad_12] at f7
  have h7 : v_iv (n_v vs 17) = w_ei ws (w_ar ws (n_v vs 0) 33) (v_iv (n_v vs 7)) := f7
  simp only [ad_14] at f10
  have h10 : v_iv (n_v vs 15) = w_ei ws (w_ar ws (n_v vs 0) 34) (v_iv (n_v vs 7)) := f10
  simp only [ad_12] at f12
  have h12 : v_iv (n_v vs 13) = w_ei ws (w_ar ws (n_v vs 0) 33) (v_iv (n_v vs 7)) := f12
  simp only [ad_10] at f14
  have h14 : v_iv (n_v vs 11) = w_ei ws (w_ar ws (n_v vs 0) 35) (v_iv (n_v vs 7)) := f14
  have g17 : v_iv (n_v vs 9) = w_fi ws (n_v vs 0) 32 := congrArg v_iv f17
  have hK_0_33 := elq_60 hD hth cr_0_33
  have hK_0_34 := elq_61 hD hth cr_0_34
  have hK_0_35 := elq_72 hD hth cr_0_35
  have hK_0_38 := elq_83 hD hth cr_0_38
  have kz_0_31 := fdq_145 hD hth r0
  have kz_0_32 := fdq_140 hD hth r0
  have nf0 : fc_1 PRD (20, [3, 5, 21, 6], [60, 0, 4, 78, 33, 34, 35, 38]) ws (vs) := by
    refine ⟨nf_in hl rfl, sgq_583 ?_⟩
    · show FL2 (w_ei ws (w_ar ws (n_v vs 3) 33)) (w_ei ws (w_ar ws (n_v vs 3) 34)) (w_ei ws (w_ar ws (n_v vs 3) 35)) (w_ei ws (w_ar ws (n_v vs 3) 38)) (v_iv (n_v vs 5)) (v_iv (n_v vs 21)) (v_iv (n_v vs 6))
      simp only [q3, q5]
      exact vc_Mo_flood_11_0 (v_iv (n_v vs 1)) (v_iv (n_v vs 2)) (v_iv (n_v vs 4)) (v_iv (n_v vs 5)) (v_iv (n_v vs 6)) (v_iv (n_v vs 7)) (v_iv (n_v vs 8)) (v_iv (n_v vs 9)) (v_iv (n_v vs 11)) (v_iv (n_v vs 13)) (v_iv (n_v vs 15)) (v_iv (n_v vs 17)) (v_iv (n_v vs 18)) (v_iv (n_v vs 19)) (v_iv (n_v vs 20)) (v_iv (n_v vs 21)) (w_ei ws (w_ar ws (n_v vs 0) 38)) (w_ei ws (w_ar ws (n_v vs 0) 34)) (w_ei ws (w_ar ws (n_v vs 0) 33)) (w_ei ws (w_ar ws (n_v vs 0) 35)) (w_fi ws (n_v vs 0) 32) (w_fi ws (n_v vs 0) 31) k1 k2 k4 k5 k6 k7 k8 k9 k11 k13 k15 k17 k18 k19 k20 k21 d0 d1 d2 d3 d4 d5 d6 d7 d8 f0 f1 h2 h3 h6 h7 f9 h10 f11 h12 f13 h14 f16 g17 f18 f19 f20 f21 f22 hK_0_33 hK_0_34 hK_0_35 hK_0_38 kz_0_31 kz_0_32
  refine ⟨(fun _ h => (by cases h)), [], trivial, ?_, (fun _ h => (by cases h))⟩
  rw [List.append_nil]
  exact List.forall_mem_cons.mpr ⟨⟨show (20 : Nat) < 100 from by decide, nf0⟩, (fun _ h => (by cases h))⟩
def n_Mo_flood_an : List an_T := [(2, [(0, (2, 0, 0, [165])), (1, (0, 0, 24, [])), (2, (0, (Int.negSucc 0), 24, [])), (3, (0, 0, 25, []))], [], (0, 0), [(0, 0, 99998), (1, 6, 25), (0, 0, 100000), (0, 0, 0), (0, 0, 0)], [(1, 4, (Int.negSucc 999999999999), 0), (2, 5, (Int.negSucc 999999999999), 0), (4, 1, (Int.negSucc 999999999999), 0), (5, 2, (Int.negSucc 999999999999), 0)], [], [(2, 0, 0, [165]), (0, 0, 24, []), (0, (Int.negSucc 0), 24, [])], 0, [], [(20, [3], [60, 2, 2, 75, 31, 32, 33, 34]), (20, [4, 3], [30, (Int.negSucc 0), 1, 0, 0, (Int.negSucc 0), 1, 31]), (20, [3, 4, 6], [60, 0, 1, 76, 38]), (24, [0, 3], []), (24, [1, 4], []), (24, [2, 5], [])]), (34, [(0, (2, 0, 0, [165])), (1, (0, 0, 24, [])), (2, (0, (Int.negSucc 0), 24, [])), (3, (0, 0, 1, []))], [], (0, 0), [(0, 0, 99966), (2, 7, (Int.negSucc 1)), (0, 0, 100000), (0, 0, 0), (0, 0, 0)], [(1, 4, (Int.negSucc 999999999999), 0), (2, 5, (Int.negSucc 999999999999), 0), (4, 1, (Int.negSucc 999999999999), 0), (5, 2, (Int.negSucc 999999999999), 0)], [], [(2, 0, 0, [165]), (0, 0, 24, []), (0, (Int.negSucc 0), 24, [])], 0, [(0, (Int.negSucc 1), 60, [])], [(20, [3], [60, 2, 2, 75, 31, 32, 33, 34]), (20, [4, 3], [30, (Int.negSucc 0), 1, 0, 0, (Int.negSucc 0), 1, 31]), (20, [3, 4, 5], [60, 2, 4, 77, 31, 32, 33, 34, 35, 38]), (20, [3, 5, 6], [60, 1, 4, 79, 32, 33, 34, 35, 38]), (20, [3, 6, 7], [60, 0, 1, 81, 38]), (24, [0, 3], []), (24, [1, 4], []), (24, [2, 5], [])]), (43, [(0, (2, 0, 0, [165])), (1, (0, 0, 24, [])), (2, (0, (Int.negSucc 0), 24, [])), (3, (0, 0, 1, [])), (4, (0, 0, 80, []))], [], (0, 0), [(0, 0, 99966), (2, 8, (Int.negSucc 1)), (0, 0, 99957), (1, 7, 80), (0, 0, 100000)], [(1, 4, (Int.negSucc 999999999999), 0), (2, 5, (Int.negSucc 999999999999), 0), (4, 1, (Int.negSucc 999999999999), 0), (5, 2, (Int.negSucc 999999999999), 0), (6, 7, (Int.negSucc 999999999999), 0)], [], [(2, 0, 0, [165]), (0, 0, 24, []), (0, (Int.negSucc 0), 24, [])], 0, [(0, (Int.negSucc 1), 60, [])], [(20, [3], [60, 2, 2, 75, 31, 32, 33, 34]), (20, [4, 3], [30, (Int.negSucc 0), 1, 0, 0, (Int.negSucc 0), 1, 31]), (20, [3, 4, 5], [60, 2, 4, 77, 31, 32, 33, 34, 35, 38]), (20, [3, 5, 7, 6], [60, 0, 4, 78, 33, 34, 35, 38]), (20, [3, 6, 8], [60, 0, 1, 82, 38]), (24, [0, 3], []), (24, [1, 4], []), (24, [2, 5], [])])]
def t_Mo_flood_ct : ct_L := []
set_option maxRecDepth 100000 in
theorem c_Mo_flood {l : Launch} {D : va_G} {kA : Nat → ClassId} : ct_ok PRD l D kA GG y_Mo_flood z_Mo_flood e_Mo_flood := chk_all_ok (FT := [(57, 13, 33), (60, 13, 34), (63, 13, 35), (72, 13, 38), (594, 13, 31), (597, 13, 32)]) (PT := []) (CT := t_Mo_flood_ct) (KT := []) (NT := []) (AN := n_Mo_flood_an) (OT := [o_Mo_flood_0, o_Mo_flood_1, o_Mo_flood_2, o_Mo_flood_3, o_Mo_flood_4, o_Mo_flood_5, o_Mo_flood_6, o_Mo_flood_7, o_Mo_flood_8, o_Mo_flood_9, o_Mo_flood_10, o_Mo_flood_11]) 5 384 (List.forall_mem_cons.mpr ⟨oo_Mo_flood_0, List.forall_mem_cons.mpr ⟨oo_Mo_flood_1, List.forall_mem_cons.mpr ⟨oo_Mo_flood_2, List.forall_mem_cons.mpr ⟨oo_Mo_flood_3, List.forall_mem_cons.mpr ⟨oo_Mo_flood_4, List.forall_mem_cons.mpr ⟨oo_Mo_flood_5, List.forall_mem_cons.mpr ⟨oo_Mo_flood_6, List.forall_mem_cons.mpr ⟨oo_Mo_flood_7, List.forall_mem_cons.mpr ⟨oo_Mo_flood_8, List.forall_mem_cons.mpr ⟨oo_Mo_flood_9, List.forall_mem_cons.mpr ⟨oo_Mo_flood_10, List.forall_mem_cons.mpr ⟨oo_Mo_flood_11, List.forall_mem_nil _⟩⟩⟩⟩⟩⟩⟩⟩⟩⟩⟩⟩) (by decide +kernel) ⟨List.forall_mem_cons.mpr ⟨gf_Mo_57, List.forall_mem_cons.mpr ⟨gf_Mo_60, List.forall_mem_cons.mpr ⟨gf_Mo_63, List.forall_mem_cons.mpr ⟨gf_Mo_72, List.forall_mem_cons.mpr ⟨gf_Mo_594, List.forall_mem_cons.mpr ⟨gf_Mo_597, List.forall_mem_nil _⟩⟩⟩⟩⟩⟩, List.forall_mem_nil _, List.forall_mem_nil _, List.forall_mem_nil _, List.forall_mem_nil _, GG_pl⟩ (by decide +kernel)
set_option maxHeartbeats 4000000 in
theorem vc_Mo_fromOf_0_0 (x1 : Int) (x2 : Int) (x3 : Int) (x5 : Int) (x6 : Int) (x7 : Int) (ph_0 : Int → Int) (pt_0 : Int → Int) (k1 : 0 ≤ x1 ∧ x1 ≤ 159) (k2 : 1 ≤ x2 ∧ x2 ≤ 1) (k3 : 1 ≤ x3 ∧ x3 ≤ 1) (k5 : 1 ≤ x5 ∧ x5 ≤ 1) (k6 : 0 ≤ x6 ∧ x6 ≤ 79) (k7 : 0 ≤ x7 ∧ x7 ≤ 24) (h0 : x7 = ph_0 (x6)) (f1 : x6 = x1 / 2) (f2 : bvp (x6) = bvp (x1) >>> (x5).toNat) (f4 : x3 ≠ 0) (f5 : x3 = x1 % 2) (f6 : bvp (x3) = bvp (x1) &&& bvp (x2)) (hK_0_33 : ∀ j : Int, 0 ≤ j → j < 80 → 0 ≤ pt_0 j ∧ pt_0 j ≤ 24) (hK_0_34 : ∀ j : Int, 0 ≤ j → j < 80 → 0 ≤ ph_0 j ∧ ph_0 j ≤ 24) : DFR (pt_0) (ph_0) (x1) (x7) := by
  first
    | (unfold DFR dfr; rw [if_pos (by omega), show x1 / 2 = x6 by omega]; omega)
    | (unfold DFR dfr; rw [if_neg (by omega), show x1 / 2 = x6 by omega]; omega)
def o_Mo_fromOf_0 : or_T := (25, 8, [(0, (2, 0, 0, [165])), (1, (0, 0, 159, [])), (2, (0, 1, 1, [])), (3, (0, 1, 1, [])), (4, (2, 0, 0, [181])), (5, (0, 1, 1, [])), (6, (0, 0, 79, [])), (7, (0, 0, 24, []))], [(10, [7, 4, 6], []), (11, [6, 1], [2]), (16, [6, 1, 5], [4]), (9, [4, 0], [34]), (8, [3], [1]), (12, [3, 1], [2]), (16, [3, 1, 2], [0])], [], [], [(20, [0, 1, 7], [60, 0, 2, 185, 33, 34])], [], [])
theorem oo_Mo_fromOf_0 {kA : Nat → ClassId} : or_ok PRD kA GG o_Mo_fromOf_0 := by
  refine or_mk fun A ta ws vs hD hth hl => ?_
  intro t0 r0 t1 k1 t2 k2 t3 k3 t4 r4 t5 k5 t6 k6 t7 k7 f0 f1 f2 f3 f4 f5 f6
  replace f0 := shm_107 f0
  replace f3 := shm_496 f3
  have cr_0_33 := fdq_117 hD hth r0
  have cr_0_34 := fdq_118 hD hth r0
  have ad_4 : v_ad (n_v vs 4) = w_ar ws (n_v vs 0) 34 := congrArg v_ad f3
  simp only [ad_4] at f0
  have h0 : v_iv (n_v vs 7) = w_ei ws (w_ar ws (n_v vs 0) 34) (v_iv (n_v vs 6)) := f0
  have hK_0_33 := elq_60 hD hth cr_0_33
  have hK_0_34 := elq_61 hD hth cr_0_34
  have nf0 : fc_1 PRD (20, [0, 1, 7], [60, 0, 2, 185, 33, 34]) ws (vs) := ⟨nf_in hl rfl, sgq_586 (vc_Mo_fromOf_0_0 (v_iv (n_v vs 1)) (v_iv (n_v vs 2)) (v_iv (n_v vs 3)) (v_iv (n_v vs 5)) (v_iv (n_v vs 6)) (v_iv (n_v vs 7)) (w_ei ws (w_ar ws (n_v vs 0) 34)) (w_ei ws (w_ar ws (n_v vs 0) 33)) k1 k2 k3 k5 k6 k7 h0 (shm_585 f1) (shm_13 f2) (shm_142 f4) (shm_364 f5) (shm_11 f6) hK_0_33 hK_0_34)⟩
  refine ⟨(fun _ h => (by cases h)), [], trivial, ?_, (fun _ h => (by cases h))⟩
  rw [List.append_nil]
  exact List.forall_mem_cons.mpr ⟨⟨show (20 : Nat) < 100 from by decide, nf0⟩, (fun _ h => (by cases h))⟩
set_option maxHeartbeats 4000000 in
theorem vc_Mo_fromOf_1_0 (x1 : Int) (x2 : Int) (x3 : Int) (x5 : Int) (x6 : Int) (x7 : Int) (pt_0 : Int → Int) (ph_0 : Int → Int) (k1 : 0 ≤ x1 ∧ x1 ≤ 159) (k2 : 1 ≤ x2 ∧ x2 ≤ 1) (k3 : 0 ≤ x3 ∧ x3 ≤ 0) (k5 : 1 ≤ x5 ∧ x5 ≤ 1) (k6 : 0 ≤ x6 ∧ x6 ≤ 79) (k7 : 0 ≤ x7 ∧ x7 ≤ 24) (h0 : x7 = pt_0 (x6)) (f1 : x6 = x1 / 2) (f2 : bvp (x6) = bvp (x1) >>> (x5).toNat) (f4 : x3 = 0) (f5 : x3 = x1 % 2) (f6 : bvp (x3) = bvp (x1) &&& bvp (x2)) (hK_0_33 : ∀ j : Int, 0 ≤ j → j < 80 → 0 ≤ pt_0 j ∧ pt_0 j ≤ 24) (hK_0_34 : ∀ j : Int, 0 ≤ j → j < 80 → 0 ≤ ph_0 j ∧ ph_0 j ≤ 24) : DFR (pt_0) (ph_0) (x1) (x7) := by
  first
    | (unfold DFR dfr; rw [if_pos (by omega), show x1 / 2 = x6 by omega]; omega)
    | (unfold DFR dfr; rw [if_neg (by omega), show x1 / 2 = x6 by omega]; omega)
def o_Mo_fromOf_1 : or_T := (25, 8, [(0, (2, 0, 0, [165])), (1, (0, 0, 159, [])), (2, (0, 1, 1, [])), (3, (0, 0, 0, [])), (4, (2, 0, 0, [180])), (5, (0, 1, 1, [])), (6, (0, 0, 79, [])), (7, (0, 0, 24, []))], [(10, [7, 4, 6], []), (11, [6, 1], [2]), (16, [6, 1, 5], [4]), (9, [4, 0], [33]), (8, [3], [0]), (12, [3, 1], [2]), (16, [3, 1, 2], [0])], [], [], [(20, [0, 1, 7], [60, 0, 2, 185, 33, 34])], [], [])
theorem oo_Mo_fromOf_1 {kA : Nat → ClassId} : or_ok PRD kA GG o_Mo_fromOf_1 := by
  refine or_mk fun A ta ws vs hD hth hl => ?_
  intro t0 r0 t1 k1 t2 k2 t3 k3 t4 r4 t5 k5 t6 k6 t7 k7 f0 f1 f2 f3 f4 f5 f6
  replace f0 := shm_107 f0
  replace f3 := shm_494 f3
  have cr_0_33 := fdq_117 hD hth r0
  have cr_0_34 := fdq_118 hD hth r0
  have ad_4 : v_ad (n_v vs 4) = w_ar ws (n_v vs 0) 33 := congrArg v_ad f3
  simp only [ad_4] at f0
  have h0 : v_iv (n_v vs 7) = w_ei ws (w_ar ws (n_v vs 0) 33) (v_iv (n_v vs 6)) := f0
  have hK_0_33 := elq_60 hD hth cr_0_33
  have hK_0_34 := elq_61 hD hth cr_0_34
  have nf0 : fc_1 PRD (20, [0, 1, 7], [60, 0, 2, 185, 33, 34]) ws (vs) := ⟨nf_in hl rfl, sgq_586 (vc_Mo_fromOf_1_0 (v_iv (n_v vs 1)) (v_iv (n_v vs 2)) (v_iv (n_v vs 3)) (v_iv (n_v vs 5)) (v_iv (n_v vs 6)) (v_iv (n_v vs 7)) (w_ei ws (w_ar ws (n_v vs 0) 33)) (w_ei ws (w_ar ws (n_v vs 0) 34)) k1 k2 k3 k5 k6 k7 h0 (shm_585 f1) (shm_13 f2) (shm_192 f4) (shm_364 f5) (shm_11 f6) hK_0_33 hK_0_34)⟩
  refine ⟨(fun _ h => (by cases h)), [], trivial, ?_, (fun _ h => (by cases h))⟩
  rw [List.append_nil]
  exact List.forall_mem_cons.mpr ⟨⟨show (20 : Nat) < 100 from by decide, nf0⟩, (fun _ h => (by cases h))⟩
def n_Mo_fromOf_an : List an_T := []
def t_Mo_fromOf_ct : ct_L := []
set_option maxRecDepth 100000 in
theorem c_Mo_fromOf {l : Launch} {D : va_G} {kA : Nat → ClassId} : ct_ok PRD l D kA GG y_Mo_fromOf z_Mo_fromOf e_Mo_fromOf := chk_all_ok (FT := [(57, 13, 33), (60, 13, 34)]) (PT := []) (CT := t_Mo_fromOf_ct) (KT := []) (NT := []) (AN := n_Mo_fromOf_an) (OT := [o_Mo_fromOf_0, o_Mo_fromOf_1]) 0 200 (List.forall_mem_cons.mpr ⟨oo_Mo_fromOf_0, List.forall_mem_cons.mpr ⟨oo_Mo_fromOf_1, List.forall_mem_nil _⟩⟩) (by decide +kernel) ⟨List.forall_mem_cons.mpr ⟨gf_Mo_57, List.forall_mem_cons.mpr ⟨gf_Mo_60, List.forall_mem_nil _⟩⟩, List.forall_mem_nil _, List.forall_mem_nil _, List.forall_mem_nil _, List.forall_mem_nil _, GG_pl⟩ (by decide +kernel)
set_option maxHeartbeats 4000000 in
theorem vc_Mo_gatherOne_0_r0 (x1 : Int) (x2 : Int) (x3 : Int) (x4 : Int) (itemMany_0 : Int) (itemOf_0 : Int → Int) (itemSize_0 : Int → Int) (k1 : 0 ≤ x1 ∧ x1 ≤ 107) (k2 : 0 ≤ x2 ∧ x2 ≤ 4095) (k3 : 0 ≤ x3 ∧ x3 ≤ 39) (k4 : 0 ≤ x4 ∧ x4 ≤ 40) (g0 : x4 = itemMany_0) (f1 : 1 * itemMany_0 + ((-1) * x3 + 0) ≤ 0) (f2 : ITM (itemMany_0) (itemOf_0) (itemSize_0)) (f3 : ((0 ≤ x1) ∧ (x1 ≤ 23)) ∨ ((100 ≤ x1) ∧ (x1 ≤ 107))) (f4 : (1 ≤ x2) ∧ (x2 ≤ 2400)) (hK_0_130 : ∀ j : Int, 0 ≤ j → j < 40 → 0 ≤ itemOf_0 j ∧ itemOf_0 j ≤ 131) (hK_0_131 : ∀ j : Int, 0 ≤ j → j < 40 → 0 ≤ itemSize_0 j ∧ itemSize_0 j ≤ 4095) (kz_0_132 : 0 ≤ itemMany_0 ∧ itemMany_0 ≤ 40) : 0 ≤ x4 ∧ x4 ≤ 39 := by
  omega
def o_Mo_gatherOne_0 : or_T := (4, 5, [(0, (2, 0, 0, [165])), (1, (0, 0, 107, [])), (2, (0, 0, 4095, [])), (3, (0, 0, 39, [])), (4, (0, 0, 40, []))], [(9, [4, 0], [132]), (20, [0, 3], [30, 0, 1, 1, 132, -1, 0, 0]), (20, [0], [60, 1, 2, 773, 132, 130, 131]), (20, [1], [50, 0, 0, 3, 14, 2, 6, 0, 2, 0, 0, 1, 0, 0, 2, 1, 0, 0, 23, 2, 6, 0, 2, 0, 100, 1, 0, 0, 2, 1, 0, 0, 107]), (20, [2], [50, 0, 0, 2, 6, 0, 2, 0, 1, 1, 0, 0, 2, 1, 0, 0, 2400])], [(4, (0, 0, 39, []))], [], [], [], [])
theorem oo_Mo_gatherOne_0 {kA : Nat → ClassId} : or_ok PRD kA GG o_Mo_gatherOne_0 := by
  refine or_mk fun A ta ws vs hD hth hl => ?_
  intro t0 r0 t1 k1 t2 k2 t3 k3 t4 k4 f0 f1 f2 f3 f4
  replace f0 := shm_587 f0
  have cr_0_130 := fdq_150 hD hth r0
  have cr_0_131 := fdq_151 hD hth r0
  have g0 : v_iv (n_v vs 4) = w_fi ws (n_v vs 0) 132 := congrArg v_iv f0
  have hK_0_130 := elq_84 hD hth cr_0_130
  have hK_0_131 := elq_85 hD hth cr_0_131
  have kz_0_132 := fdq_152 hD hth r0
  have hrf0 : 0 ≤ v_iv (n_v vs 4) ∧ v_iv (n_v vs 4) ≤ 39 := vc_Mo_gatherOne_0_r0 (v_iv (n_v vs 1)) (v_iv (n_v vs 2)) (v_iv (n_v vs 3)) (v_iv (n_v vs 4)) (w_fi ws (n_v vs 0) 132) (w_ei ws (w_ar ws (n_v vs 0) 130)) (w_ei ws (w_ar ws (n_v vs 0) 131)) k1 k2 k3 k4 g0 (shm_588 f1) (shm_589 f2) (shm_590 f3) (shm_591 f4) hK_0_130 hK_0_131 kz_0_132
  have rf4 : tv_ok ta (0, 0, 39, []) (n_v vs 4) := tv_in t4 (by first | omega | grind) (by first | omega | grind)
  refine ⟨List.forall_mem_cons.mpr ⟨rf4, (fun _ h => (by cases h))⟩, [], trivial, ?_, (fun _ h => (by cases h))⟩
  rw [List.append_nil]
  exact (fun _ h => (by cases h))
set_option maxHeartbeats 4000000 in
theorem vc_Mo_gatherOne_1_0 (x1 : Int) (x2 : Int) (x3 : Int) (x4 : Int) (itemMany_0 : Int) (itemOf_0 : Int → Int) (itemSize_0 : Int → Int) (k1 : 0 ≤ x1 ∧ x1 ≤ 107) (k2 : 0 ≤ x2 ∧ x2 ≤ 4095) (k3 : 0 ≤ x3 ∧ x3 ≤ 39) (k4 : 0 ≤ x4 ∧ x4 ≤ 39) (g0 : x4 = itemMany_0) (f1 : 1 * itemMany_0 + ((-1) * x3 + 0) ≤ 0) (f2 : ITM (itemMany_0) (itemOf_0) (itemSize_0)) (f3 : ((0 ≤ x1) ∧ (x1 ≤ 23)) ∨ ((100 ≤ x1) ∧ (x1 ≤ 107))) (f4 : (1 ≤ x2) ∧ (x2 ≤ 2400)) (hK_0_130 : ∀ j : Int, 0 ≤ j → j < 40 → 0 ≤ itemOf_0 j ∧ itemOf_0 j ≤ 131) (hK_0_131 : ∀ j : Int, 0 ≤ j → j < 40 → 0 ≤ itemSize_0 j ∧ itemSize_0 j ≤ 4095) (kz_0_132 : 0 ≤ itemMany_0 ∧ itemMany_0 ≤ 40) : IT1 (itemMany_0) (itemOf_0) (itemSize_0) (x4) := by
  first
    | exact it1_start ‹ITM _ _ _› (by omega)
    | exact it1_step (x := x7) (v := x15) (w := x18) ‹IT1 _ _ _ _› (by omega) (by omega) (by omega) (by assumption) (by assumption) (by rw [show x19 = x14 by omega]; assumption) (by rw [show x19 = x17 by omega]; assumption)
  
set_option maxHeartbeats 4000000 in
theorem vc_Mo_gatherOne_1_1 (x1 : Int) (x2 : Int) (x3 : Int) (x4 : Int) (itemMany_0 : Int) (itemOf_0 : Int → Int) (itemSize_0 : Int → Int) (k1 : 0 ≤ x1 ∧ x1 ≤ 107) (k2 : 0 ≤ x2 ∧ x2 ≤ 4095) (k3 : 0 ≤ x3 ∧ x3 ≤ 39) (k4 : 0 ≤ x4 ∧ x4 ≤ 39) (g0 : x4 = itemMany_0) (f1 : 1 * itemMany_0 + ((-1) * x3 + 0) ≤ 0) (f2 : ITM (itemMany_0) (itemOf_0) (itemSize_0)) (f3 : ((0 ≤ x1) ∧ (x1 ≤ 23)) ∨ ((100 ≤ x1) ∧ (x1 ≤ 107))) (f4 : (1 ≤ x2) ∧ (x2 ≤ 2400)) (hK_0_130 : ∀ j : Int, 0 ≤ j → j < 40 → 0 ≤ itemOf_0 j ∧ itemOf_0 j ≤ 131) (hK_0_131 : ∀ j : Int, 0 ≤ j → j < 40 → 0 ≤ itemSize_0 j ∧ itemSize_0 j ≤ 4095) (kz_0_132 : 0 ≤ itemMany_0 ∧ itemMany_0 ≤ 40) : (0 ≤ x4) ∧ (x4 ≤ itemMany_0) := by
  omega
def o_Mo_gatherOne_1 : or_T := (5, 5, [(0, (2, 0, 0, [165])), (1, (0, 0, 107, [])), (2, (0, 0, 4095, [])), (3, (0, 0, 39, [])), (4, (0, 0, 39, []))], [(9, [4, 0], [132]), (20, [0, 3], [30, 0, 1, 1, 132, -1, 0, 0]), (20, [0], [60, 1, 2, 773, 132, 130, 131]), (20, [1], [50, 0, 0, 3, 14, 2, 6, 0, 2, 0, 0, 1, 0, 0, 2, 1, 0, 0, 23, 2, 6, 0, 2, 0, 100, 1, 0, 0, 2, 1, 0, 0, 107]), (20, [2], [50, 0, 0, 2, 6, 0, 2, 0, 1, 1, 0, 0, 2, 1, 0, 0, 2400])], [], [], [(20, [0, 4], [60, 1, 2, 774, 132, 130, 131]), (20, [4, 0], [50, 1, 0, 1132, 2, 6, 0, 2, 0, 0, 1, 0, 0, 2, 1, 0, 2, 1, 132]), (24, [0, 0], [])], [], [])
theorem oo_Mo_gatherOne_1 {kA : Nat → ClassId} : or_ok PRD kA GG o_Mo_gatherOne_1 := by
  refine or_mk fun A ta ws vs hD hth hl => ?_
  intro t0 r0 t1 k1 t2 k2 t3 k3 t4 k4 f0 f1 f2 f3 f4
  replace f0 := shm_587 f0
  have cr_0_130 := fdq_150 hD hth r0
  have cr_0_131 := fdq_151 hD hth r0
  have g0 : v_iv (n_v vs 4) = w_fi ws (n_v vs 0) 132 := congrArg v_iv f0
  have hK_0_130 := elq_84 hD hth cr_0_130
  have hK_0_131 := elq_85 hD hth cr_0_131
  have kz_0_132 := fdq_152 hD hth r0
  have nf0 : fc_1 PRD (20, [0, 4], [60, 1, 2, 774, 132, 130, 131]) ws (vs) := ⟨nf_in hl rfl, sgq_592 (vc_Mo_gatherOne_1_0 (v_iv (n_v vs 1)) (v_iv (n_v vs 2)) (v_iv (n_v vs 3)) (v_iv (n_v vs 4)) (w_fi ws (n_v vs 0) 132) (w_ei ws (w_ar ws (n_v vs 0) 130)) (w_ei ws (w_ar ws (n_v vs 0) 131)) k1 k2 k3 k4 g0 (shm_588 f1) (shm_589 f2) (shm_590 f3) (shm_591 f4) hK_0_130 hK_0_131 kz_0_132)⟩
  have nf1 : fc_1 PRD (20, [4, 0], [50, 1, 0, 1132, 2, 6, 0, 2, 0, 0, 1, 0, 0, 2, 1, 0, 2, 1, 132]) ws (vs) := ⟨nf_in hl rfl, sgq_593 (vc_Mo_gatherOne_1_1 (v_iv (n_v vs 1)) (v_iv (n_v vs 2)) (v_iv (n_v vs 3)) (v_iv (n_v vs 4)) (w_fi ws (n_v vs 0) 132) (w_ei ws (w_ar ws (n_v vs 0) 130)) (w_ei ws (w_ar ws (n_v vs 0) 131)) k1 k2 k3 k4 g0 (shm_588 f1) (shm_589 f2) (shm_590 f3) (shm_591 f4) hK_0_130 hK_0_131 kz_0_132)⟩
  have nf2 : fc_1 PRD (24, [0, 0], []) ws (vs) := by
    refine ⟨nf_in hl rfl, sgq_1 ?_⟩
    · show n_v vs 0 = n_v vs 0
      first | rfl | simp only [true_and]
  refine ⟨(fun _ h => (by cases h)), [], trivial, ?_, (fun _ h => (by cases h))⟩
  rw [List.append_nil]
  exact List.forall_mem_cons.mpr ⟨⟨show (20 : Nat) < 100 from by decide, nf0⟩, List.forall_mem_cons.mpr ⟨⟨show (20 : Nat) < 100 from by decide, nf1⟩, List.forall_mem_cons.mpr ⟨⟨show (24 : Nat) < 100 from by decide, nf2⟩, (fun _ h => (by cases h))⟩⟩⟩
set_option maxHeartbeats 4000000 in
theorem vc_Mo_gatherOne_2_r0 (x3 : Int) (x5 : Int) (x6 : Int) (x7 : Int) (x10 : Int) (itemMany_0 : Int) (itemMany_1 : Int) (itemMany_2 : Int) (itemOf_2 : Int → Int) (itemSize_2 : Int → Int) (itemOf_0 : Int → Int) (itemOf_1 : Int → Int) (itemSize_0 : Int → Int) (itemSize_1 : Int → Int) (k3 : 0 ≤ x3 ∧ x3 ≤ 39) (k5 : 0 ≤ x5 ∧ x5 ≤ 107) (k6 : 0 ≤ x6 ∧ x6 ≤ 4095) (k7 : 0 ≤ x7 ∧ x7 ≤ 0) (k10 : 0 ≤ x10 ∧ x10 ≤ 40) (g0 : x10 = itemMany_0) (f1 : 1 * itemMany_0 + ((-1) * x3 + 0) ≤ 0) (f2 : ((0 ≤ x5) ∧ (x5 ≤ 23)) ∨ ((100 ≤ x5) ∧ (x5 ≤ 107))) (f3 : (1 ≤ x6) ∧ (x6 ≤ 2400)) (f4 : (0 ≤ x7) ∧ (x7 ≤ itemMany_0)) (f8 : 1 * itemMany_1 + ((-1) * x3 + 0) ≤ 0) (f9 : ((0 ≤ x5) ∧ (x5 ≤ 23)) ∨ ((100 ≤ x5) ∧ (x5 ≤ 107))) (f10 : (1 ≤ x6) ∧ (x6 ≤ 2400)) (f11 : (0 ≤ x7) ∧ (x7 ≤ itemMany_1)) (f14 : x7 ≤ 0) (f15 : 1 * itemMany_2 + ((-1) * x3 + 0) ≤ 0) (f16 : IT1 (itemMany_2) (itemOf_2) (itemSize_2) (x7)) (f17 : ((0 ≤ x5) ∧ (x5 ≤ 23)) ∨ ((100 ≤ x5) ∧ (x5 ≤ 107))) (f18 : (1 ≤ x6) ∧ (x6 ≤ 2400)) (f19 : (0 ≤ x7) ∧ (x7 ≤ itemMany_2)) (fe_0_132_1 : itemMany_0 = itemMany_1) (fe_0_132_2 : itemMany_1 = itemMany_2) (hE_0_130_1 : ∀ j : Int, itemOf_0 j = itemOf_1 j) (hE_0_130_2 : ∀ j : Int, 0 ≤ j → (j = x7 → itemOf_1 j = x5) ∧ (j ≠ x7 → itemOf_1 j = itemOf_2 j)) (hK_0_130 : ∀ j : Int, 0 ≤ j → j < 40 → 0 ≤ itemOf_0 j ∧ itemOf_0 j ≤ 131) (hE_0_131_1 : ∀ j : Int, 0 ≤ j → (j = x7 → itemSize_0 j = x6) ∧ (j ≠ x7 → itemSize_0 j = itemSize_1 j)) (hE_0_131_2 : ∀ j : Int, itemSize_1 j = itemSize_2 j) (hK_0_131 : ∀ j : Int, 0 ≤ j → j < 40 → 0 ≤ itemSize_0 j ∧ itemSize_0 j ≤ 4095) (kz_0_132 : 0 ≤ itemMany_0 ∧ itemMany_0 ≤ 40) : 0 ≤ x10 ∧ x10 ≤ 39 := by
  subst fe_0_132_1
  subst fe_0_132_2
  have e_hE_0_130_1 := funext hE_0_130_1; subst e_hE_0_130_1
  have e_hE_0_131_2 := funext hE_0_131_2; subst e_hE_0_131_2
  omega
def o_Mo_gatherOne_2 : or_T := (74, 11, [(0, (2, 0, 0, [165])), (3, (0, 0, 39, [])), (4, (2, 0, 0, [165])), (5, (0, 0, 107, [])), (6, (0, 0, 4095, [])), (7, (0, 0, 0, [])), (8, (2, 0, 0, [260])), (9, (2, 0, 0, [261])), (10, (0, 0, 40, []))], [(9, [10, 4], [132]), (20, [4, 3], [30, 0, 1, 1, 132, -1, 0, 0]), (20, [5], [50, 0, 0, 3, 14, 2, 6, 0, 2, 0, 0, 1, 0, 0, 2, 1, 0, 0, 23, 2, 6, 0, 2, 0, 100, 1, 0, 0, 2, 1, 0, 0, 107]), (20, [6], [50, 0, 0, 2, 6, 0, 2, 0, 1, 1, 0, 0, 2, 1, 0, 0, 2400]), (20, [7, 4], [50, 1, 0, 1132, 2, 6, 0, 2, 0, 0, 1, 0, 0, 2, 1, 0, 2, 1, 132]), (24, [0, 4], []), (100, [9, 7, 6], []), (9, [9, 4], [131]), (20, [4, 3], [30, 0, 1, 1, 132, -1, 0, 0]), (20, [5], [50, 0, 0, 3, 14, 2, 6, 0, 2, 0, 0, 1, 0, 0, 2, 1, 0, 0, 23, 2, 6, 0, 2, 0, 100, 1, 0, 0, 2, 1, 0, 0, 107]), (20, [6], [50, 0, 0, 2, 6, 0, 2, 0, 1, 1, 0, 0, 2, 1, 0, 0, 2400]), (20, [7, 4], [50, 1, 0, 1132, 2, 6, 0, 2, 0, 0, 1, 0, 0, 2, 1, 0, 2, 1, 132]), (100, [8, 7, 5], []), (9, [8, 4], [130]), (8, [7], [5]), (20, [4, 3], [30, 0, 1, 1, 132, -1, 0, 0]), (20, [4, 7], [60, 1, 2, 774, 132, 130, 131]), (20, [5], [50, 0, 0, 3, 14, 2, 6, 0, 2, 0, 0, 1, 0, 0, 2, 1, 0, 0, 23, 2, 6, 0, 2, 0, 100, 1, 0, 0, 2, 1, 0, 0, 107]), (20, [6], [50, 0, 0, 2, 6, 0, 2, 0, 1, 1, 0, 0, 2, 1, 0, 0, 2400]), (20, [7, 4], [50, 1, 0, 1132, 2, 6, 0, 2, 0, 0, 1, 0, 0, 2, 1, 0, 2, 1, 132])], [(10, (0, 0, 39, []))], [], [], [], [])
theorem oo_Mo_gatherOne_2 {kA : Nat → ClassId} : or_ok PRD kA GG o_Mo_gatherOne_2 := by
  refine or_mk fun A ta ws vs hD hth hl => ?_
  intro t0 r0 t3 k3 t4 r4 t5 k5 t6 k6 t7 k7 t8 r8 t9 r9 t10 k10 f0 f1 f2 f3 f4 f5 ta1 w1 le1 s1 f7 f8 f9 f10 f11 ta2 w2 le2 s2 f13 f14 f15 f16 f17 f18 f19
  replace f0 := shm_587 f0
  replace f1 := shm_588 f1
  replace f4 := shm_593 f4
  replace f5 := shm_5 f5
  have s1 : (∀ b j, w_el ws b j = if b = v_ad (n_v vs 9) ∧ j = (v_iv (n_v vs 7)).toNat then v_iv (n_v vs 6) else w_el w1 b j) ∧ ∀ b k, w_fd ws b k = w_fd w1 b k := s1.2
  replace f7 := shm_594 f7
  replace f8 := shm_588 f8
  replace f11 := shm_593 f11
  have s2 : (∀ b j, w_el w1 b j = if b = v_ad (n_v vs 8) ∧ j = (v_iv (n_v vs 7)).toNat then v_iv (n_v vs 5) else w_el w2 b j) ∧ ∀ b k, w_fd w1 b k = w_fd w2 b k := s2.2
  replace f13 := shm_595 f13
  replace f15 := shm_588 f15
  replace f16 := shm_592 f16
  replace f19 := shm_593 f19
  have q4 : n_v vs 4 = n_v vs 0 := f5.symm
  simp only [q4] at f0 f1 f4 f7 f8 f11 f13 f15 f16 f19
  have ar_0_130_1 : w_ar w1 (n_v vs 0) 130 = w_ar ws (n_v vs 0) 130 := congrArg v_ad (s1.2 _ _).symm
  have ar_0_130_2 : w_ar w2 (n_v vs 0) 130 = w_ar ws (n_v vs 0) 130 := by rw [← ar_0_130_1]; show v_ad (w_fd w2 _ _) = v_ad (w_fd w1 _ _); rw [s2.2]
  have cr_0_130 := fdq_150 hD hth r0
  have ar_0_131_1 : w_ar w1 (n_v vs 0) 131 = w_ar ws (n_v vs 0) 131 := congrArg v_ad (s1.2 _ _).symm
  have ar_0_131_2 : w_ar w2 (n_v vs 0) 131 = w_ar ws (n_v vs 0) 131 := by rw [← ar_0_131_1]; show v_ad (w_fd w2 _ _) = v_ad (w_fd w1 _ _); rw [s2.2]
  have cr_0_131 := fdq_151 hD hth r0
  have ad_9 : v_ad (n_v vs 9) = w_ar ws (n_v vs 0) 131 := (congrArg v_ad f7).trans ar_0_131_1
  have ad_8 : v_ad (n_v vs 8) = w_ar ws (n_v vs 0) 130 := (congrArg v_ad f13).trans ar_0_130_2
  have g0 : v_iv (n_v vs 10) = w_fi ws (n_v vs 0) 132 := congrArg v_iv f0
  simp only [ar_0_130_2, ar_0_131_2] at f16
  have fe_0_132_1 : w_fi ws (n_v vs 0) 132 = w_fi w1 (n_v vs 0) 132 := congrArg v_iv (s1.2 _ _)
  have fe_0_132_2 : w_fi w1 (n_v vs 0) 132 = w_fi w2 (n_v vs 0) 132 := congrArg v_iv (s2.2 _ _)
  have hE_0_130_1 : ∀ j : Int, w_ei ws (w_ar ws (n_v vs 0) 130) j = w_ei w1 (w_ar ws (n_v vs 0) 130) j := el_kp s1.1 r9 cr_0_130 (by decide)
  have hE_0_130_2 : ∀ j : Int, 0 ≤ j → (j = v_iv (n_v vs 7) → w_ei w1 (w_ar ws (n_v vs 0) 130) j = v_iv (n_v vs 5)) ∧ (j ≠ v_iv (n_v vs 7) → w_ei w1 (w_ar ws (n_v vs 0) 130) j = w_ei w2 (w_ar ws (n_v vs 0) 130) j) := fun j hj => ⟨fun h => by unfold w_ei; rw [s2.1, if_pos ⟨ad_8.symm, by rw [h]⟩], fun h => by unfold w_ei; rw [s2.1, if_neg (fun e => h (by have := e.2; omega))]⟩
  have hK_0_130 := elq_84 hD hth cr_0_130
  have hE_0_131_1 : ∀ j : Int, 0 ≤ j → (j = v_iv (n_v vs 7) → w_ei ws (w_ar ws (n_v vs 0) 131) j = v_iv (n_v vs 6)) ∧ (j ≠ v_iv (n_v vs 7) → w_ei ws (w_ar ws (n_v vs 0) 131) j = w_ei w1 (w_ar ws (n_v vs 0) 131) j) := fun j hj => ⟨fun h => by unfold w_ei; rw [s1.1, if_pos ⟨ad_9.symm, by rw [h]⟩], fun h => by unfold w_ei; rw [s1.1, if_neg (fun e => h (by have := e.2; omega))]⟩
  have hE_0_131_2 : ∀ j : Int, w_ei w1 (w_ar ws (n_v vs 0) 131) j = w_ei w2 (w_ar ws (n_v vs 0) 131) j := el_kp s2.1 r8 cr_0_131 (by decide)
  have hK_0_131 := elq_85 hD hth cr_0_131
  have kz_0_132 := fdq_152 hD hth r0
  have hrf0 : 0 ≤ v_iv (n_v vs 10) ∧ v_iv (n_v vs 10) ≤ 39 := vc_Mo_gatherOne_2_r0 (v_iv (n_v vs 3)) (v_iv (n_v vs 5)) (v_iv (n_v vs 6)) (v_iv (n_v vs 7)) (v_iv (n_v vs 10)) (w_fi ws (n_v vs 0) 132) (w_fi w1 (n_v vs 0) 132) (w_fi w2 (n_v vs 0) 132) (w_ei w2 (w_ar ws (n_v vs 0) 130)) (w_ei w2 (w_ar ws (n_v vs 0) 131)) (w_ei ws (w_ar ws (n_v vs 0) 130)) (w_ei w1 (w_ar ws (n_v vs 0) 130)) (w_ei ws (w_ar ws (n_v vs 0) 131)) (w_ei w1 (w_ar ws (n_v vs 0) 131)) k3 k5 k6 k7 k10 g0 f1 (shm_590 f2) (shm_591 f3) f4 f8 (shm_590 f9) (shm_591 f10) f11 (shm_295 f14) f15 f16 (shm_590 f17) (shm_591 f18) f19 fe_0_132_1 fe_0_132_2 hE_0_130_1 hE_0_130_2 hK_0_130 hE_0_131_1 hE_0_131_2 hK_0_131 kz_0_132
  have rf10 : tv_ok ta (0, 0, 39, []) (n_v vs 10) := tv_in t10 (by first | omega | grind) (by first | omega | grind)
  refine ⟨List.forall_mem_cons.mpr ⟨rf10, (fun _ h => (by cases h))⟩, [], trivial, ?_, (fun _ h => (by cases h))⟩
  rw [List.append_nil]
  exact (fun _ h => (by cases h))
set_option maxHeartbeats 4000000 in
theorem vc_Mo_gatherOne_3_0 (x3 : Int) (x5 : Int) (x6 : Int) (x7 : Int) (x10 : Int) (x11 : Int) (x12 : Int) (itemMany_1 : Int) (itemMany_2 : Int) (itemMany_3 : Int) (itemOf_3 : Int → Int) (itemSize_3 : Int → Int) (itemMany_0 : Int) (itemOf_0 : Int → Int) (itemOf_1 : Int → Int) (itemOf_2 : Int → Int) (itemSize_0 : Int → Int) (itemSize_1 : Int → Int) (itemSize_2 : Int → Int) (k3 : 0 ≤ x3 ∧ x3 ≤ 39) (k5 : 0 ≤ x5 ∧ x5 ≤ 107) (k6 : 0 ≤ x6 ∧ x6 ≤ 4095) (k7 : 0 ≤ x7 ∧ x7 ≤ 0) (k10 : 0 ≤ x10 ∧ x10 ≤ 39) (k11 : 1 ≤ x11 ∧ x11 ≤ 1) (k12 : 1 ≤ x12 ∧ x12 ≤ 40) (d0 : x10 + 1 ≤ x12 ∧ x12 ≤ x10 + 1) (f0 : ((0 ≤ x5) ∧ (x5 ≤ 23)) ∨ ((100 ≤ x5) ∧ (x5 ≤ 107))) (f1 : (1 ≤ x6) ∧ (x6 ≤ 2400)) (f4 : x12 = x10 + x11) (g5 : x10 = itemMany_1) (f6 : 1 * itemMany_1 + ((-1) * x3 + 0) ≤ 0) (f7 : ((0 ≤ x5) ∧ (x5 ≤ 23)) ∨ ((100 ≤ x5) ∧ (x5 ≤ 107))) (f8 : (1 ≤ x6) ∧ (x6 ≤ 2400)) (f9 : (0 ≤ x7) ∧ (x7 ≤ itemMany_1)) (f12 : 1 * itemMany_2 + ((-1) * x3 + 0) ≤ 0) (f13 : ((0 ≤ x5) ∧ (x5 ≤ 23)) ∨ ((100 ≤ x5) ∧ (x5 ≤ 107))) (f14 : (1 ≤ x6) ∧ (x6 ≤ 2400)) (f15 : (0 ≤ x7) ∧ (x7 ≤ itemMany_2)) (f18 : x7 ≤ 0) (f19 : 1 * itemMany_3 + ((-1) * x3 + 0) ≤ 0) (f20 : IT1 (itemMany_3) (itemOf_3) (itemSize_3) (x7)) (f21 : ((0 ≤ x5) ∧ (x5 ≤ 23)) ∨ ((100 ≤ x5) ∧ (x5 ≤ 107))) (f22 : (1 ≤ x6) ∧ (x6 ≤ 2400)) (f23 : (0 ≤ x7) ∧ (x7 ≤ itemMany_3)) (fe_0_132_1 : itemMany_0 = x12) (fe_0_132_2 : itemMany_1 = itemMany_2) (fe_0_132_3 : itemMany_2 = itemMany_3) (hE_0_130_1 : ∀ j : Int, itemOf_0 j = itemOf_1 j) (hE_0_130_2 : ∀ j : Int, itemOf_1 j = itemOf_2 j) (hE_0_130_3 : ∀ j : Int, 0 ≤ j → (j = x7 → itemOf_2 j = x5) ∧ (j ≠ x7 → itemOf_2 j = itemOf_3 j)) (hK_0_130 : ∀ j : Int, 0 ≤ j → j < 40 → 0 ≤ itemOf_0 j ∧ itemOf_0 j ≤ 131) (hE_0_131_1 : ∀ j : Int, itemSize_0 j = itemSize_1 j) (hE_0_131_2 : ∀ j : Int, 0 ≤ j → (j = x7 → itemSize_1 j = x6) ∧ (j ≠ x7 → itemSize_1 j = itemSize_2 j)) (hE_0_131_3 : ∀ j : Int, itemSize_2 j = itemSize_3 j) (hK_0_131 : ∀ j : Int, 0 ≤ j → j < 40 → 0 ≤ itemSize_0 j ∧ itemSize_0 j ≤ 4095) (kz_0_132 : 0 ≤ itemMany_0 ∧ itemMany_0 ≤ 40) : 1 * itemMany_0 + ((-1) * x3 + 0) ≤ 1 := by
  subst fe_0_132_2
  subst fe_0_132_3
  have e_hE_0_130_1 := funext hE_0_130_1; subst e_hE_0_130_1
  have e_hE_0_130_2 := funext hE_0_130_2; subst e_hE_0_130_2
  have e_hE_0_131_1 := funext hE_0_131_1; subst e_hE_0_131_1
  have e_hE_0_131_3 := funext hE_0_131_3; subst e_hE_0_131_3
  omega
set_option maxHeartbeats 4000000 in
theorem vc_Mo_gatherOne_3_1 (x3 : Int) (x5 : Int) (x6 : Int) (x7 : Int) (x10 : Int) (x11 : Int) (x12 : Int) (itemMany_1 : Int) (itemMany_2 : Int) (itemMany_3 : Int) (itemOf_3 : Int → Int) (itemSize_3 : Int → Int) (itemMany_0 : Int) (itemOf_0 : Int → Int) (itemOf_1 : Int → Int) (itemOf_2 : Int → Int) (itemSize_0 : Int → Int) (itemSize_1 : Int → Int) (itemSize_2 : Int → Int) (k3 : 0 ≤ x3 ∧ x3 ≤ 39) (k5 : 0 ≤ x5 ∧ x5 ≤ 107) (k6 : 0 ≤ x6 ∧ x6 ≤ 4095) (k7 : 0 ≤ x7 ∧ x7 ≤ 0) (k10 : 0 ≤ x10 ∧ x10 ≤ 39) (k11 : 1 ≤ x11 ∧ x11 ≤ 1) (k12 : 1 ≤ x12 ∧ x12 ≤ 40) (d0 : x10 + 1 ≤ x12 ∧ x12 ≤ x10 + 1) (f0 : ((0 ≤ x5) ∧ (x5 ≤ 23)) ∨ ((100 ≤ x5) ∧ (x5 ≤ 107))) (f1 : (1 ≤ x6) ∧ (x6 ≤ 2400)) (f4 : x12 = x10 + x11) (g5 : x10 = itemMany_1) (f6 : 1 * itemMany_1 + ((-1) * x3 + 0) ≤ 0) (f7 : ((0 ≤ x5) ∧ (x5 ≤ 23)) ∨ ((100 ≤ x5) ∧ (x5 ≤ 107))) (f8 : (1 ≤ x6) ∧ (x6 ≤ 2400)) (f9 : (0 ≤ x7) ∧ (x7 ≤ itemMany_1)) (f12 : 1 * itemMany_2 + ((-1) * x3 + 0) ≤ 0) (f13 : ((0 ≤ x5) ∧ (x5 ≤ 23)) ∨ ((100 ≤ x5) ∧ (x5 ≤ 107))) (f14 : (1 ≤ x6) ∧ (x6 ≤ 2400)) (f15 : (0 ≤ x7) ∧ (x7 ≤ itemMany_2)) (f18 : x7 ≤ 0) (f19 : 1 * itemMany_3 + ((-1) * x3 + 0) ≤ 0) (f20 : IT1 (itemMany_3) (itemOf_3) (itemSize_3) (x7)) (f21 : ((0 ≤ x5) ∧ (x5 ≤ 23)) ∨ ((100 ≤ x5) ∧ (x5 ≤ 107))) (f22 : (1 ≤ x6) ∧ (x6 ≤ 2400)) (f23 : (0 ≤ x7) ∧ (x7 ≤ itemMany_3)) (fe_0_132_1 : itemMany_0 = x12) (fe_0_132_2 : itemMany_1 = itemMany_2) (fe_0_132_3 : itemMany_2 = itemMany_3) (hE_0_130_1 : ∀ j : Int, itemOf_0 j = itemOf_1 j) (hE_0_130_2 : ∀ j : Int, itemOf_1 j = itemOf_2 j) (hE_0_130_3 : ∀ j : Int, 0 ≤ j → (j = x7 → itemOf_2 j = x5) ∧ (j ≠ x7 → itemOf_2 j = itemOf_3 j)) (hK_0_130 : ∀ j : Int, 0 ≤ j → j < 40 → 0 ≤ itemOf_0 j ∧ itemOf_0 j ≤ 131) (hE_0_131_1 : ∀ j : Int, itemSize_0 j = itemSize_1 j) (hE_0_131_2 : ∀ j : Int, 0 ≤ j → (j = x7 → itemSize_1 j = x6) ∧ (j ≠ x7 → itemSize_1 j = itemSize_2 j)) (hE_0_131_3 : ∀ j : Int, itemSize_2 j = itemSize_3 j) (hK_0_131 : ∀ j : Int, 0 ≤ j → j < 40 → 0 ≤ itemSize_0 j ∧ itemSize_0 j ≤ 4095) (kz_0_132 : 0 ≤ itemMany_0 ∧ itemMany_0 ≤ 40) : ITM (itemMany_0) (itemOf_0) (itemSize_0) := by
  subst fe_0_132_2
  subst fe_0_132_3
  have e_hE_0_130_1 := funext hE_0_130_1; subst e_hE_0_130_1
  have e_hE_0_130_2 := funext hE_0_130_2; subst e_hE_0_130_2
  have e_hE_0_131_1 := funext hE_0_131_1; subst e_hE_0_131_1
  have e_hE_0_131_3 := funext hE_0_131_3; subst e_hE_0_131_3
  first
    | exact it1_fin (x := x7) (v := x5) (w := x6) ‹IT1 _ _ _ _› (by omega) (by assumption) (by assumption) (by omega) (by omega) (by omega)
  
def o_Mo_gatherOne_3 : or_T := (79, 13, [(0, (2, 0, 0, [165])), (3, (0, 0, 39, [])), (5, (0, 0, 107, [])), (6, (0, 0, 4095, [])), (7, (0, 0, 0, [])), (8, (2, 0, 0, [260])), (9, (2, 0, 0, [261])), (10, (0, 0, 39, [])), (11, (0, 1, 1, [])), (12, (0, 1, 40, []))], [(20, [5], [50, 0, 0, 3, 14, 2, 6, 0, 2, 0, 0, 1, 0, 0, 2, 1, 0, 0, 23, 2, 6, 0, 2, 0, 100, 1, 0, 0, 2, 1, 0, 0, 107]), (20, [6], [50, 0, 0, 2, 6, 0, 2, 0, 1, 1, 0, 0, 2, 1, 0, 0, 2400]), (24, [0, 4], []), (101, [4, 12], [132]), (1, [12, 10, 11], []), (9, [10, 4], [132]), (20, [4, 3], [30, 0, 1, 1, 132, -1, 0, 0]), (20, [5], [50, 0, 0, 3, 14, 2, 6, 0, 2, 0, 0, 1, 0, 0, 2, 1, 0, 0, 23, 2, 6, 0, 2, 0, 100, 1, 0, 0, 2, 1, 0, 0, 107]), (20, [6], [50, 0, 0, 2, 6, 0, 2, 0, 1, 1, 0, 0, 2, 1, 0, 0, 2400]), (20, [7, 4], [50, 1, 0, 1132, 2, 6, 0, 2, 0, 0, 1, 0, 0, 2, 1, 0, 2, 1, 132]), (100, [9, 7, 6], []), (9, [9, 4], [131]), (20, [4, 3], [30, 0, 1, 1, 132, -1, 0, 0]), (20, [5], [50, 0, 0, 3, 14, 2, 6, 0, 2, 0, 0, 1, 0, 0, 2, 1, 0, 0, 23, 2, 6, 0, 2, 0, 100, 1, 0, 0, 2, 1, 0, 0, 107]), (20, [6], [50, 0, 0, 2, 6, 0, 2, 0, 1, 1, 0, 0, 2, 1, 0, 0, 2400]), (20, [7, 4], [50, 1, 0, 1132, 2, 6, 0, 2, 0, 0, 1, 0, 0, 2, 1, 0, 2, 1, 132]), (100, [8, 7, 5], []), (9, [8, 4], [130]), (8, [7], [5]), (20, [4, 3], [30, 0, 1, 1, 132, -1, 0, 0]), (20, [4, 7], [60, 1, 2, 774, 132, 130, 131]), (20, [5], [50, 0, 0, 3, 14, 2, 6, 0, 2, 0, 0, 1, 0, 0, 2, 1, 0, 0, 23, 2, 6, 0, 2, 0, 100, 1, 0, 0, 2, 1, 0, 0, 107]), (20, [6], [50, 0, 0, 2, 6, 0, 2, 0, 1, 1, 0, 0, 2, 1, 0, 0, 2400]), (20, [7, 4], [50, 1, 0, 1132, 2, 6, 0, 2, 0, 0, 1, 0, 0, 2, 1, 0, 2, 1, 132])], [], [], [(20, [0, 3], [30, 1, 1, 1, 132, -1, 0, 0]), (20, [0], [60, 1, 2, 773, 132, 130, 131])], [], [(12, 10, 1, 1)])
theorem oo_Mo_gatherOne_3 {kA : Nat → ClassId} : or_ok PRD kA GG o_Mo_gatherOne_3 := by
  refine or_mk fun A ta ws vs hD hth hl => ?_
  intro t0 r0 t3 k3 t5 k5 t6 k6 t7 k7 t8 r8 t9 r9 t10 k10 t11 k11 t12 k12 d0 f0 f1 f2 ta1 w1 le1 s1 f4 f5 f6 f7 f8 f9 ta2 w2 le2 s2 f11 f12 f13 f14 f15 ta3 w3 le3 s3 f17 f18 f19 f20 f21 f22 f23
  replace f2 := shm_5 f2
  have s1 : (∀ b j, w_el ws b j = w_el w1 b j) ∧ ∀ b j, w_fd ws b j = if b = v_ad (n_v vs 4) ∧ j = 132 then n_v vs 12 else w_fd w1 b j := s1.2
  replace f5 := shm_587 f5
  replace f6 := shm_588 f6
  replace f9 := shm_593 f9
  have s2 : (∀ b j, w_el w1 b j = if b = v_ad (n_v vs 9) ∧ j = (v_iv (n_v vs 7)).toNat then v_iv (n_v vs 6) else w_el w2 b j) ∧ ∀ b k, w_fd w1 b k = w_fd w2 b k := s2.2
  replace f11 := shm_594 f11
  replace f12 := shm_588 f12
  replace f15 := shm_593 f15
  have s3 : (∀ b j, w_el w2 b j = if b = v_ad (n_v vs 8) ∧ j = (v_iv (n_v vs 7)).toNat then v_iv (n_v vs 5) else w_el w3 b j) ∧ ∀ b k, w_fd w2 b k = w_fd w3 b k := s3.2
  replace f17 := shm_595 f17
  replace f19 := shm_588 f19
  replace f20 := shm_592 f20
  replace f23 := shm_593 f23
  have q4 : n_v vs 4 = n_v vs 0 := f2.symm
  rw [q4] at s1
  simp only [q4] at f5 f6 f9 f11 f12 f15 f17 f19 f20 f23
  have ar_0_130_1 : w_ar w1 (n_v vs 0) 130 = w_ar ws (n_v vs 0) 130 := by show v_ad (w_fd w1 _ _) = v_ad (w_fd ws _ _); rw [s1.2, if_neg (fun e => absurd e.2 (by decide))]
  have ar_0_130_2 : w_ar w2 (n_v vs 0) 130 = w_ar ws (n_v vs 0) 130 := by rw [← ar_0_130_1]; show v_ad (w_fd w2 _ _) = v_ad (w_fd w1 _ _); rw [s2.2]
  have ar_0_130_3 : w_ar w3 (n_v vs 0) 130 = w_ar ws (n_v vs 0) 130 := by rw [← ar_0_130_2]; show v_ad (w_fd w3 _ _) = v_ad (w_fd w2 _ _); rw [s3.2]
  have cr_0_130 := fdq_150 hD hth r0
  have ar_0_131_1 : w_ar w1 (n_v vs 0) 131 = w_ar ws (n_v vs 0) 131 := by show v_ad (w_fd w1 _ _) = v_ad (w_fd ws _ _); rw [s1.2, if_neg (fun e => absurd e.2 (by decide))]
  have ar_0_131_2 : w_ar w2 (n_v vs 0) 131 = w_ar ws (n_v vs 0) 131 := by rw [← ar_0_131_1]; show v_ad (w_fd w2 _ _) = v_ad (w_fd w1 _ _); rw [s2.2]
  have ar_0_131_3 : w_ar w3 (n_v vs 0) 131 = w_ar ws (n_v vs 0) 131 := by rw [← ar_0_131_2]; show v_ad (w_fd w3 _ _) = v_ad (w_fd w2 _ _); rw [s3.2]
  have cr_0_131 := fdq_151 hD hth r0
  have ad_9 : v_ad (n_v vs 9) = w_ar ws (n_v vs 0) 131 := (congrArg v_ad f11).trans ar_0_131_2
  have ad_8 : v_ad (n_v vs 8) = w_ar ws (n_v vs 0) 130 := (congrArg v_ad f17).trans ar_0_130_3
  have g5 : v_iv (n_v vs 10) = w_fi w1 (n_v vs 0) 132 := congrArg v_iv f5
  simp only [ar_0_130_3, ar_0_131_3] at f20
  have fe_0_132_1 : w_fi ws (n_v vs 0) 132 = v_iv (n_v vs 12) := by show v_iv (w_fd _ _ _) = _; rw [s1.2, if_pos ⟨rfl, rfl⟩]
  have fe_0_132_2 : w_fi w1 (n_v vs 0) 132 = w_fi w2 (n_v vs 0) 132 := congrArg v_iv (s2.2 _ _)
  have fe_0_132_3 : w_fi w2 (n_v vs 0) 132 = w_fi w3 (n_v vs 0) 132 := congrArg v_iv (s3.2 _ _)
  have hE_0_130_1 : ∀ j : Int, w_ei ws (w_ar ws (n_v vs 0) 130) j = w_ei w1 (w_ar ws (n_v vs 0) 130) j := fun j => s1.1 _ _
  have hE_0_130_2 : ∀ j : Int, w_ei w1 (w_ar ws (n_v vs 0) 130) j = w_ei w2 (w_ar ws (n_v vs 0) 130) j := el_kp s2.1 r9 cr_0_130 (by decide)
  have hE_0_130_3 : ∀ j : Int, 0 ≤ j → (j = v_iv (n_v vs 7) → w_ei w2 (w_ar ws (n_v vs 0) 130) j = v_iv (n_v vs 5)) ∧ (j ≠ v_iv (n_v vs 7) → w_ei w2 (w_ar ws (n_v vs 0) 130) j = w_ei w3 (w_ar ws (n_v vs 0) 130) j) := fun j hj => ⟨fun h => by unfold w_ei; rw [s3.1, if_pos ⟨ad_8.symm, by rw [h]⟩], fun h => by unfold w_ei; rw [s3.1, if_neg (fun e => h (by have := e.2; omega))]⟩
  have hK_0_130 := elq_84 hD hth cr_0_130
  have hE_0_131_1 : ∀ j : Int, w_ei ws (w_ar ws (n_v vs 0) 131) j = w_ei w1 (w_ar ws (n_v vs 0) 131) j := fun j => s1.1 _ _
  have hE_0_131_2 : ∀ j : Int, 0 ≤ j → (j = v_iv (n_v vs 7) → w_ei w1 (w_ar ws (n_v vs 0) 131) j = v_iv (n_v vs 6)) ∧ (j ≠ v_iv (n_v vs 7) → w_ei w1 (w_ar ws (n_v vs 0) 131) j = w_ei w2 (w_ar ws (n_v vs 0) 131) j) := fun j hj => ⟨fun h => by unfold w_ei; rw [s2.1, if_pos ⟨ad_9.symm, by rw [h]⟩], fun h => by unfold w_ei; rw [s2.1, if_neg (fun e => h (by have := e.2; omega))]⟩
  have hE_0_131_3 : ∀ j : Int, w_ei w2 (w_ar ws (n_v vs 0) 131) j = w_ei w3 (w_ar ws (n_v vs 0) 131) j := el_kp s3.1 r8 cr_0_131 (by decide)
  have hK_0_131 := elq_85 hD hth cr_0_131
  have kz_0_132 := fdq_152 hD hth r0
  have nf0 : fc_1 PRD (20, [0, 3], [30, 1, 1, 1, 132, -1, 0, 0]) ws (vs) := ⟨nf_in hl rfl, sgq_596 (vc_Mo_gatherOne_3_0 (v_iv (n_v vs 3)) (v_iv (n_v vs 5)) (v_iv (n_v vs 6)) (v_iv (n_v vs 7)) (v_iv (n_v vs 10)) (v_iv (n_v vs 11)) (v_iv (n_v vs 12)) (w_fi w1 (n_v vs 0) 132) (w_fi w2 (n_v vs 0) 132) (w_fi w3 (n_v vs 0) 132) (w_ei w3 (w_ar ws (n_v vs 0) 130)) (w_ei w3 (w_ar ws (n_v vs 0) 131)) (w_fi ws (n_v vs 0) 132) (w_ei ws (w_ar ws (n_v vs 0) 130)) (w_ei w1 (w_ar ws (n_v vs 0) 130)) (w_ei w2 (w_ar ws (n_v vs 0) 130)) (w_ei ws (w_ar ws (n_v vs 0) 131)) (w_ei w1 (w_ar ws (n_v vs 0) 131)) (w_ei w2 (w_ar ws (n_v vs 0) 131)) k3 k5 k6 k7 k10 k11 k12 d0 (shm_590 f0) (shm_591 f1) (shm_12 f4) g5 f6 (shm_590 f7) (shm_591 f8) f9 f12 (shm_590 f13) (shm_591 f14) f15 (shm_295 f18) f19 f20 (shm_590 f21) (shm_591 f22) f23 fe_0_132_1 fe_0_132_2 fe_0_132_3 hE_0_130_1 hE_0_130_2 hE_0_130_3 hK_0_130 hE_0_131_1 hE_0_131_2 hE_0_131_3 hK_0_131 kz_0_132)⟩
  have nf1 : fc_1 PRD (20, [0], [60, 1, 2, 773, 132, 130, 131]) ws (vs) := ⟨nf_in hl rfl, sgq_589 (vc_Mo_gatherOne_3_1 (v_iv (n_v vs 3)) (v_iv (n_v vs 5)) (v_iv (n_v vs 6)) (v_iv (n_v vs 7)) (v_iv (n_v vs 10)) (v_iv (n_v vs 11)) (v_iv (n_v vs 12)) (w_fi w1 (n_v vs 0) 132) (w_fi w2 (n_v vs 0) 132) (w_fi w3 (n_v vs 0) 132) (w_ei w3 (w_ar ws (n_v vs 0) 130)) (w_ei w3 (w_ar ws (n_v vs 0) 131)) (w_fi ws (n_v vs 0) 132) (w_ei ws (w_ar ws (n_v vs 0) 130)) (w_ei w1 (w_ar ws (n_v vs 0) 130)) (w_ei w2 (w_ar ws (n_v vs 0) 130)) (w_ei ws (w_ar ws (n_v vs 0) 131)) (w_ei w1 (w_ar ws (n_v vs 0) 131)) (w_ei w2 (w_ar ws (n_v vs 0) 131)) k3 k5 k6 k7 k10 k11 k12 d0 (shm_590 f0) (shm_591 f1) (shm_12 f4) g5 f6 (shm_590 f7) (shm_591 f8) f9 f12 (shm_590 f13) (shm_591 f14) f15 (shm_295 f18) f19 f20 (shm_590 f21) (shm_591 f22) f23 fe_0_132_1 fe_0_132_2 fe_0_132_3 hE_0_130_1 hE_0_130_2 hE_0_130_3 hK_0_130 hE_0_131_1 hE_0_131_2 hE_0_131_3 hK_0_131 kz_0_132)⟩
  refine ⟨(fun _ h => (by cases h)), [], trivial, ?_, (fun _ h => (by cases h))⟩
  rw [List.append_nil]
  exact List.forall_mem_cons.mpr ⟨⟨show (20 : Nat) < 100 from by decide, nf0⟩, List.forall_mem_cons.mpr ⟨⟨show (20 : Nat) < 100 from by decide, nf1⟩, (fun _ h => (by cases h))⟩⟩
set_option maxHeartbeats 4000000 in
theorem vc_Mo_gatherOne_4_r0 (x3 : Int) (x5 : Int) (x6 : Int) (x7 : Int) (x9 : Int) (x10 : Int) (x11 : Int) (x13 : Int) (itemMany_0 : Int) (itemMany_1 : Int) (itemSize_2 : Int → Int) (itemMany_2 : Int) (itemOf_2 : Int → Int) (itemOf_0 : Int → Int) (itemOf_1 : Int → Int) (itemSize_0 : Int → Int) (itemSize_1 : Int → Int) (k3 : 0 ≤ x3 ∧ x3 ≤ 39) (k5 : 0 ≤ x5 ∧ x5 ≤ 107) (k6 : 0 ≤ x6 ∧ x6 ≤ 4095) (k7 : 1 ≤ x7 ∧ x7 ≤ 39) (k9 : 1 ≤ x9 ∧ x9 ≤ 1) (k10 : 0 ≤ x10 ∧ x10 ≤ 38) (k11 : 0 ≤ x11 ∧ x11 ≤ 4095) (k13 : 0 ≤ x13 ∧ x13 ≤ 40) (d0 : x6 + 0 ≤ x11 ∧ x11 ≤ x6 + 4294967296) (d1 : x7 + (-1) ≤ x10 ∧ x10 ≤ x7 + (-1)) (g0 : x13 = itemMany_0) (f1 : 1 * itemMany_0 + ((-1) * x3 + 0) ≤ 0) (f2 : ((0 ≤ x5) ∧ (x5 ≤ 23)) ∨ ((100 ≤ x5) ∧ (x5 ≤ 107))) (f3 : (1 ≤ x6) ∧ (x6 ≤ 2400)) (f4 : (0 ≤ x7) ∧ (x7 ≤ itemMany_0)) (f8 : 1 * itemMany_1 + ((-1) * x3 + 0) ≤ 0) (f9 : ((0 ≤ x5) ∧ (x5 ≤ 23)) ∨ ((100 ≤ x5) ∧ (x5 ≤ 107))) (f10 : (1 ≤ x6) ∧ (x6 ≤ 2400)) (f11 : (0 ≤ x7) ∧ (x7 ≤ itemMany_1)) (f14 : x6 ≤ x11) (h15 : x11 = itemSize_2 (x10)) (f16 : x10 = x7 - x9) (f17 : 0 < x7) (f18 : 1 * itemMany_2 + ((-1) * x3 + 0) ≤ 0) (f19 : IT1 (itemMany_2) (itemOf_2) (itemSize_2) (x7)) (f20 : ((0 ≤ x5) ∧ (x5 ≤ 23)) ∨ ((100 ≤ x5) ∧ (x5 ≤ 107))) (f21 : (1 ≤ x6) ∧ (x6 ≤ 2400)) (f22 : (0 ≤ x7) ∧ (x7 ≤ itemMany_2)) (fe_0_132_1 : itemMany_0 = itemMany_1) (fe_0_132_2 : itemMany_1 = itemMany_2) (hE_0_130_1 : ∀ j : Int, itemOf_0 j = itemOf_1 j) (hE_0_130_2 : ∀ j : Int, 0 ≤ j → (j = x7 → itemOf_1 j = x5) ∧ (j ≠ x7 → itemOf_1 j = itemOf_2 j)) (hK_0_130 : ∀ j : Int, 0 ≤ j → j < 40 → 0 ≤ itemOf_0 j ∧ itemOf_0 j ≤ 131) (hE_0_131_1 : ∀ j : Int, 0 ≤ j → (j = x7 → itemSize_0 j = x6) ∧ (j ≠ x7 → itemSize_0 j = itemSize_1 j)) (hE_0_131_2 : ∀ j : Int, itemSize_1 j = itemSize_2 j) (hK_0_131 : ∀ j : Int, 0 ≤ j → j < 40 → 0 ≤ itemSize_0 j ∧ itemSize_0 j ≤ 4095) (kz_0_132 : 0 ≤ itemMany_0 ∧ itemMany_0 ≤ 40) : 0 ≤ x13 ∧ x13 ≤ 39 := by
  subst fe_0_132_1
  subst fe_0_132_2
  have e_hE_0_130_1 := funext hE_0_130_1; subst e_hE_0_130_1
  have e_hE_0_131_2 := funext hE_0_131_2; subst e_hE_0_131_2
  omega
def o_Mo_gatherOne_4 : or_T := (74, 14, [(0, (2, 0, 0, [165])), (3, (0, 0, 39, [])), (4, (2, 0, 0, [165])), (5, (0, 0, 107, [])), (6, (0, 0, 4095, [])), (7, (0, 1, 39, [])), (8, (2, 0, 0, [261])), (9, (0, 1, 1, [])), (10, (0, 0, 38, [])), (11, (0, 0, 4095, [])), (12, (2, 0, 0, [260])), (13, (0, 0, 40, []))], [(9, [13, 4], [132]), (20, [4, 3], [30, 0, 1, 1, 132, -1, 0, 0]), (20, [5], [50, 0, 0, 3, 14, 2, 6, 0, 2, 0, 0, 1, 0, 0, 2, 1, 0, 0, 23, 2, 6, 0, 2, 0, 100, 1, 0, 0, 2, 1, 0, 0, 107]), (20, [6], [50, 0, 0, 2, 6, 0, 2, 0, 1, 1, 0, 0, 2, 1, 0, 0, 2400]), (20, [7, 4], [50, 1, 0, 1132, 2, 6, 0, 2, 0, 0, 1, 0, 0, 2, 1, 0, 2, 1, 132]), (24, [0, 4], []), (100, [8, 7, 6], []), (9, [8, 4], [131]), (20, [4, 3], [30, 0, 1, 1, 132, -1, 0, 0]), (20, [5], [50, 0, 0, 3, 14, 2, 6, 0, 2, 0, 0, 1, 0, 0, 2, 1, 0, 0, 23, 2, 6, 0, 2, 0, 100, 1, 0, 0, 2, 1, 0, 0, 107]), (20, [6], [50, 0, 0, 2, 6, 0, 2, 0, 1, 1, 0, 0, 2, 1, 0, 0, 2400]), (20, [7, 4], [50, 1, 0, 1132, 2, 6, 0, 2, 0, 0, 1, 0, 0, 2, 1, 0, 2, 1, 132]), (100, [12, 7, 5], []), (9, [12, 4], [130]), (7, [11, 6], [3]), (10, [11, 8, 10], []), (2, [10, 7, 9], []), (8, [7], [4]), (20, [4, 3], [30, 0, 1, 1, 132, -1, 0, 0]), (20, [4, 7], [60, 1, 2, 774, 132, 130, 131]), (20, [5], [50, 0, 0, 3, 14, 2, 6, 0, 2, 0, 0, 1, 0, 0, 2, 1, 0, 0, 23, 2, 6, 0, 2, 0, 100, 1, 0, 0, 2, 1, 0, 0, 107]), (20, [6], [50, 0, 0, 2, 6, 0, 2, 0, 1, 1, 0, 0, 2, 1, 0, 0, 2400]), (20, [7, 4], [50, 1, 0, 1132, 2, 6, 0, 2, 0, 0, 1, 0, 0, 2, 1, 0, 2, 1, 132])], [(13, (0, 0, 39, []))], [], [], [], [(11, 6, 0, 4294967296), (10, 7, -1, -1)])
theorem oo_Mo_gatherOne_4 {kA : Nat → ClassId} : or_ok PRD kA GG o_Mo_gatherOne_4 := by
  refine or_mk fun A ta ws vs hD hth hl => ?_
  intro t0 r0 t3 k3 t4 r4 t5 k5 t6 k6 t7 k7 t8 r8 t9 k9 t10 k10 t11 k11 t12 r12 t13 k13 d0 d1 f0 f1 f2 f3 f4 f5 ta1 w1 le1 s1 f7 f8 f9 f10 f11 ta2 w2 le2 s2 f13 f14 f15 f16 f17 f18 f19 f20 f21 f22
  replace f0 := shm_587 f0
  replace f1 := shm_588 f1
  replace f4 := shm_593 f4
  replace f5 := shm_5 f5
  have s1 : (∀ b j, w_el ws b j = if b = v_ad (n_v vs 8) ∧ j = (v_iv (n_v vs 7)).toNat then v_iv (n_v vs 6) else w_el w1 b j) ∧ ∀ b k, w_fd ws b k = w_fd w1 b k := s1.2
  replace f7 := shm_594 f7
  replace f8 := shm_588 f8
  replace f11 := shm_593 f11
  have s2 : (∀ b j, w_el w1 b j = if b = v_ad (n_v vs 12) ∧ j = (v_iv (n_v vs 7)).toNat then v_iv (n_v vs 5) else w_el w2 b j) ∧ ∀ b k, w_fd w1 b k = w_fd w2 b k := s2.2
  replace f13 := shm_595 f13
  replace f15 := shm_107 f15
  replace f18 := shm_588 f18
  replace f19 := shm_592 f19
  replace f22 := shm_593 f22
  have q4 : n_v vs 4 = n_v vs 0 := f5.symm
  simp only [q4] at f0 f1 f4 f7 f8 f11 f13 f18 f19 f22
  have ar_0_130_1 : w_ar w1 (n_v vs 0) 130 = w_ar ws (n_v vs 0) 130 := congrArg v_ad (s1.2 _ _).symm
  have ar_0_130_2 : w_ar w2 (n_v vs 0) 130 = w_ar ws (n_v vs 0) 130 := by rw [← ar_0_130_1]; show v_ad (w_fd w2 _ _) = v_ad (w_fd w1 _ _); rw [s2.2]
  have cr_0_130 := fdq_150 hD hth r0
  have ar_0_131_1 : w_ar w1 (n_v vs 0) 131 = w_ar ws (n_v vs 0) 131 := congrArg v_ad (s1.2 _ _).symm
  have ar_0_131_2 : w_ar w2 (n_v vs 0) 131 = w_ar ws (n_v vs 0) 131 := by rw [← ar_0_131_1]; show v_ad (w_fd w2 _ _) = v_ad (w_fd w1 _ _); rw [s2.2]
  have cr_0_131 := fdq_151 hD hth r0
  have ad_8 : v_ad (n_v vs 8) = w_ar ws (n_v vs 0) 131 := (congrArg v_ad f7).trans ar_0_131_1
  have ad_12 : v_ad (n_v vs 12) = w_ar ws (n_v vs 0) 130 := (congrArg v_ad f13).trans ar_0_130_2
  have g0 : v_iv (n_v vs 13) = w_fi ws (n_v vs 0) 132 := congrArg v_iv f0
  simp only [ad_8] at f15
  have h15 : v_iv (n_v vs 11) = w_ei w2 (w_ar ws (n_v vs 0) 131) (v_iv (n_v vs 10)) := f15
  simp only [ar_0_130_2, ar_0_131_2] at f19
  have fe_0_132_1 : w_fi ws (n_v vs 0) 132 = w_fi w1 (n_v vs 0) 132 := congrArg v_iv (s1.2 _ _)
  have fe_0_132_2 : w_fi w1 (n_v vs 0) 132 = w_fi w2 (n_v vs 0) 132 := congrArg v_iv (s2.2 _ _)
  have hE_0_130_1 : ∀ j : Int, w_ei ws (w_ar ws (n_v vs 0) 130) j = w_ei w1 (w_ar ws (n_v vs 0) 130) j := el_kp s1.1 r8 cr_0_130 (by decide)
  have hE_0_130_2 : ∀ j : Int, 0 ≤ j → (j = v_iv (n_v vs 7) → w_ei w1 (w_ar ws (n_v vs 0) 130) j = v_iv (n_v vs 5)) ∧ (j ≠ v_iv (n_v vs 7) → w_ei w1 (w_ar ws (n_v vs 0) 130) j = w_ei w2 (w_ar ws (n_v vs 0) 130) j) := fun j hj => ⟨fun h => by unfold w_ei; rw [s2.1, if_pos ⟨ad_12.symm, by rw [h]⟩], fun h => by unfold w_ei; rw [s2.1, if_neg (fun e => h (by have := e.2; omega))]⟩
  have hK_0_130 := elq_84 hD hth cr_0_130
  have hE_0_131_1 : ∀ j : Int, 0 ≤ j → (j = v_iv (n_v vs 7) → w_ei ws (w_ar ws (n_v vs 0) 131) j = v_iv (n_v vs 6)) ∧ (j ≠ v_iv (n_v vs 7) → w_ei ws (w_ar ws (n_v vs 0) 131) j = w_ei w1 (w_ar ws (n_v vs 0) 131) j) := fun j hj => ⟨fun h => by unfold w_ei; rw [s1.1, if_pos ⟨ad_8.symm, by rw [h]⟩], fun h => by unfold w_ei; rw [s1.1, if_neg (fun e => h (by have := e.2; omega))]⟩
  have hE_0_131_2 : ∀ j : Int, w_ei w1 (w_ar ws (n_v vs 0) 131) j = w_ei w2 (w_ar ws (n_v vs 0) 131) j := el_kp s2.1 r12 cr_0_131 (by decide)
  have hK_0_131 := elq_85 hD hth cr_0_131
  have kz_0_132 := fdq_152 hD hth r0
  have hrf0 : 0 ≤ v_iv (n_v vs 13) ∧ v_iv (n_v vs 13) ≤ 39 := vc_Mo_gatherOne_4_r0 (v_iv (n_v vs 3)) (v_iv (n_v vs 5)) (v_iv (n_v vs 6)) (v_iv (n_v vs 7)) (v_iv (n_v vs 9)) (v_iv (n_v vs 10)) (v_iv (n_v vs 11)) (v_iv (n_v vs 13)) (w_fi ws (n_v vs 0) 132) (w_fi w1 (n_v vs 0) 132) (w_ei w2 (w_ar ws (n_v vs 0) 131)) (w_fi w2 (n_v vs 0) 132) (w_ei w2 (w_ar ws (n_v vs 0) 130)) (w_ei ws (w_ar ws (n_v vs 0) 130)) (w_ei w1 (w_ar ws (n_v vs 0) 130)) (w_ei ws (w_ar ws (n_v vs 0) 131)) (w_ei w1 (w_ar ws (n_v vs 0) 131)) k3 k5 k6 k7 k9 k10 k11 k13 d0 d1 g0 f1 (shm_590 f2) (shm_591 f3) f4 f8 (shm_590 f9) (shm_591 f10) f11 (shm_2 f14) h15 (shm_14 f16) (shm_308 f17) f18 f19 (shm_590 f20) (shm_591 f21) f22 fe_0_132_1 fe_0_132_2 hE_0_130_1 hE_0_130_2 hK_0_130 hE_0_131_1 hE_0_131_2 hK_0_131 kz_0_132
  have rf13 : tv_ok ta (0, 0, 39, []) (n_v vs 13) := tv_in t13 (by first | omega | grind) (by first | omega | grind)
  refine ⟨List.forall_mem_cons.mpr ⟨rf13, (fun _ h => (by cases h))⟩, [], trivial, ?_, (fun _ h => (by cases h))⟩
  rw [List.append_nil]
  exact (fun _ h => (by cases h))
set_option maxHeartbeats 4000000 in
theorem vc_Mo_gatherOne_5_0 (x3 : Int) (x5 : Int) (x6 : Int) (x7 : Int) (x9 : Int) (x10 : Int) (x11 : Int) (x13 : Int) (x14 : Int) (x15 : Int) (itemMany_1 : Int) (itemMany_2 : Int) (itemSize_3 : Int → Int) (itemMany_3 : Int) (itemOf_3 : Int → Int) (itemMany_0 : Int) (itemOf_0 : Int → Int) (itemOf_1 : Int → Int) (itemOf_2 : Int → Int) (itemSize_0 : Int → Int) (itemSize_1 : Int → Int) (itemSize_2 : Int → Int) (k3 : 0 ≤ x3 ∧ x3 ≤ 39) (k5 : 0 ≤ x5 ∧ x5 ≤ 107) (k6 : 0 ≤ x6 ∧ x6 ≤ 4095) (k7 : 1 ≤ x7 ∧ x7 ≤ 39) (k9 : 1 ≤ x9 ∧ x9 ≤ 1) (k10 : 0 ≤ x10 ∧ x10 ≤ 38) (k11 : 0 ≤ x11 ∧ x11 ≤ 4095) (k13 : 0 ≤ x13 ∧ x13 ≤ 39) (k14 : 1 ≤ x14 ∧ x14 ≤ 1) (k15 : 1 ≤ x15 ∧ x15 ≤ 40) (d0 : x13 + 1 ≤ x15 ∧ x15 ≤ x13 + 1) (d1 : x6 + 0 ≤ x11 ∧ x11 ≤ x6 + 4294967296) (d2 : x7 + (-1) ≤ x10 ∧ x10 ≤ x7 + (-1)) (f0 : ((0 ≤ x5) ∧ (x5 ≤ 23)) ∨ ((100 ≤ x5) ∧ (x5 ≤ 107))) (f1 : (1 ≤ x6) ∧ (x6 ≤ 2400)) (f4 : x15 = x13 + x14) (g5 : x13 = itemMany_1) (f6 : 1 * itemMany_1 + ((-1) * x3 + 0) ≤ 0) (f7 : ((0 ≤ x5) ∧ (x5 ≤ 23)) ∨ ((100 ≤ x5) ∧ (x5 ≤ 107))) (f8 : (1 ≤ x6) ∧ (x6 ≤ 2400)) (f9 : (0 ≤ x7) ∧ (x7 ≤ itemMany_1)) (f12 : 1 * itemMany_2 + ((-1) * x3 + 0) ≤ 0) (f13 : ((0 ≤ x5) ∧ (x5 ≤ 23)) ∨ ((100 ≤ x5) ∧ (x5 ≤ 107))) (f14 : (1 ≤ x6) ∧ (x6 ≤ 2400)) (f15 : (0 ≤ x7) ∧ (x7 ≤ itemMany_2)) (f18 : x6 ≤ x11) (h19 : x11 = itemSize_3 (x10)) (f20 : x10 = x7 - x9) (f21 : 0 < x7) (f22 : 1 * itemMany_3 + ((-1) * x3 + 0) ≤ 0) (f23 : IT1 (itemMany_3) (itemOf_3) (itemSize_3) (x7)) (f24 : ((0 ≤ x5) ∧ (x5 ≤ 23)) ∨ ((100 ≤ x5) ∧ (x5 ≤ 107))) (f25 : (1 ≤ x6) ∧ (x6 ≤ 2400)) (f26 : (0 ≤ x7) ∧ (x7 ≤ itemMany_3)) (fe_0_132_1 : itemMany_0 = x15) (fe_0_132_2 : itemMany_1 = itemMany_2) (fe_0_132_3 : itemMany_2 = itemMany_3) (hE_0_130_1 : ∀ j : Int, itemOf_0 j = itemOf_1 j) (hE_0_130_2 : ∀ j : Int, itemOf_1 j = itemOf_2 j) (hE_0_130_3 : ∀ j : Int, 0 ≤ j → (j = x7 → itemOf_2 j = x5) ∧ (j ≠ x7 → itemOf_2 j = itemOf_3 j)) (hK_0_130 : ∀ j : Int, 0 ≤ j → j < 40 → 0 ≤ itemOf_0 j ∧ itemOf_0 j ≤ 131) (hE_0_131_1 : ∀ j : Int, itemSize_0 j = itemSize_1 j) (hE_0_131_2 : ∀ j : Int, 0 ≤ j → (j = x7 → itemSize_1 j = x6) ∧ (j ≠ x7 → itemSize_1 j = itemSize_2 j)) (hE_0_131_3 : ∀ j : Int, itemSize_2 j = itemSize_3 j) (hK_0_131 : ∀ j : Int, 0 ≤ j → j < 40 → 0 ≤ itemSize_0 j ∧ itemSize_0 j ≤ 4095) (kz_0_132 : 0 ≤ itemMany_0 ∧ itemMany_0 ≤ 40) : 1 * itemMany_0 + ((-1) * x3 + 0) ≤ 1 := by
  subst fe_0_132_2
  subst fe_0_132_3
  have e_hE_0_130_1 := funext hE_0_130_1; subst e_hE_0_130_1
  have e_hE_0_130_2 := funext hE_0_130_2; subst e_hE_0_130_2
  have e_hE_0_131_1 := funext hE_0_131_1; subst e_hE_0_131_1
  have e_hE_0_131_3 := funext hE_0_131_3; subst e_hE_0_131_3
  omega
set_option maxHeartbeats 4000000 in
theorem vc_Mo_gatherOne_5_1 (x3 : Int) (x5 : Int) (x6 : Int) (x7 : Int) (x9 : Int) (x10 : Int) (x11 : Int) (x13 : Int) (x14 : Int) (x15 : Int) (itemMany_1 : Int) (itemMany_2 : Int) (itemSize_3 : Int → Int) (itemMany_3 : Int) (itemOf_3 : Int → Int) (itemMany_0 : Int) (itemOf_0 : Int → Int) (itemOf_1 : Int → Int) (itemOf_2 : Int → Int) (itemSize_0 : Int → Int) (itemSize_1 : Int → Int) (itemSize_2 : Int → Int) (k3 : 0 ≤ x3 ∧ x3 ≤ 39) (k5 : 0 ≤ x5 ∧ x5 ≤ 107) (k6 : 0 ≤ x6 ∧ x6 ≤ 4095) (k7 : 1 ≤ x7 ∧ x7 ≤ 39) (k9 : 1 ≤ x9 ∧ x9 ≤ 1) (k10 : 0 ≤ x10 ∧ x10 ≤ 38) (k11 : 0 ≤ x11 ∧ x11 ≤ 4095) (k13 : 0 ≤ x13 ∧ x13 ≤ 39) (k14 : 1 ≤ x14 ∧ x14 ≤ 1) (k15 : 1 ≤ x15 ∧ x15 ≤ 40) (d0 : x13 + 1 ≤ x15 ∧ x15 ≤ x13 + 1) (d1 : x6 + 0 ≤ x11 ∧ x11 ≤ x6 + 4294967296) (d2 : x7 + (-1) ≤ x10 ∧ x10 ≤ x7 + (-1)) (f0 : ((0 ≤ x5) ∧ (x5 ≤ 23)) ∨ ((100 ≤ x5) ∧ (x5 ≤ 107))) (f1 : (1 ≤ x6) ∧ (x6 ≤ 2400)) (f4 : x15 = x13 + x14) (g5 : x13 = itemMany_1) (f6 : 1 * itemMany_1 + ((-1) * x3 + 0) ≤ 0) (f7 : ((0 ≤ x5) ∧ (x5 ≤ 23)) ∨ ((100 ≤ x5) ∧ (x5 ≤ 107))) (f8 : (1 ≤ x6) ∧ (x6 ≤ 2400)) (f9 : (0 ≤ x7) ∧ (x7 ≤ itemMany_1)) (f12 : 1 * itemMany_2 + ((-1) * x3 + 0) ≤ 0) (f13 : ((0 ≤ x5) ∧ (x5 ≤ 23)) ∨ ((100 ≤ x5) ∧ (x5 ≤ 107))) (f14 : (1 ≤ x6) ∧ (x6 ≤ 2400)) (f15 : (0 ≤ x7) ∧ (x7 ≤ itemMany_2)) (f18 : x6 ≤ x11) (h19 : x11 = itemSize_3 (x10)) (f20 : x10 = x7 - x9) (f21 : 0 < x7) (f22 : 1 * itemMany_3 + ((-1) * x3 + 0) ≤ 0) (f23 : IT1 (itemMany_3) (itemOf_3) (itemSize_3) (x7)) (f24 : ((0 ≤ x5) ∧ (x5 ≤ 23)) ∨ ((100 ≤ x5) ∧ (x5 ≤ 107))) (f25 : (1 ≤ x6) ∧ (x6 ≤ 2400)) (f26 : (0 ≤ x7) ∧ (x7 ≤ itemMany_3)) (fe_0_132_1 : itemMany_0 = x15) (fe_0_132_2 : itemMany_1 = itemMany_2) (fe_0_132_3 : itemMany_2 = itemMany_3) (hE_0_130_1 : ∀ j : Int, itemOf_0 j = itemOf_1 j) (hE_0_130_2 : ∀ j : Int, itemOf_1 j = itemOf_2 j) (hE_0_130_3 : ∀ j : Int, 0 ≤ j → (j = x7 → itemOf_2 j = x5) ∧ (j ≠ x7 → itemOf_2 j = itemOf_3 j)) (hK_0_130 : ∀ j : Int, 0 ≤ j → j < 40 → 0 ≤ itemOf_0 j ∧ itemOf_0 j ≤ 131) (hE_0_131_1 : ∀ j : Int, itemSize_0 j = itemSize_1 j) (hE_0_131_2 : ∀ j : Int, 0 ≤ j → (j = x7 → itemSize_1 j = x6) ∧ (j ≠ x7 → itemSize_1 j = itemSize_2 j)) (hE_0_131_3 : ∀ j : Int, itemSize_2 j = itemSize_3 j) (hK_0_131 : ∀ j : Int, 0 ≤ j → j < 40 → 0 ≤ itemSize_0 j ∧ itemSize_0 j ≤ 4095) (kz_0_132 : 0 ≤ itemMany_0 ∧ itemMany_0 ≤ 40) : ITM (itemMany_0) (itemOf_0) (itemSize_0) := by
  subst fe_0_132_2
  subst fe_0_132_3
  have e_hE_0_130_1 := funext hE_0_130_1; subst e_hE_0_130_1
  have e_hE_0_130_2 := funext hE_0_130_2; subst e_hE_0_130_2
  have e_hE_0_131_1 := funext hE_0_131_1; subst e_hE_0_131_1
  have e_hE_0_131_3 := funext hE_0_131_3; subst e_hE_0_131_3
  first
    | exact it1_fin (x := x7) (v := x5) (w := x6) ‹IT1 _ _ _ _› (by omega) (by assumption) (by assumption) (by omega) (by omega) (by omega)
  
def o_Mo_gatherOne_5 : or_T := (79, 16, [(0, (2, 0, 0, [165])), (3, (0, 0, 39, [])), (5, (0, 0, 107, [])), (6, (0, 0, 4095, [])), (7, (0, 1, 39, [])), (8, (2, 0, 0, [261])), (9, (0, 1, 1, [])), (10, (0, 0, 38, [])), (11, (0, 0, 4095, [])), (12, (2, 0, 0, [260])), (13, (0, 0, 39, [])), (14, (0, 1, 1, [])), (15, (0, 1, 40, []))], [(20, [5], [50, 0, 0, 3, 14, 2, 6, 0, 2, 0, 0, 1, 0, 0, 2, 1, 0, 0, 23, 2, 6, 0, 2, 0, 100, 1, 0, 0, 2, 1, 0, 0, 107]), (20, [6], [50, 0, 0, 2, 6, 0, 2, 0, 1, 1, 0, 0, 2, 1, 0, 0, 2400]), (24, [0, 4], []), (101, [4, 15], [132]), (1, [15, 13, 14], []), (9, [13, 4], [132]), (20, [4, 3], [30, 0, 1, 1, 132, -1, 0, 0]), (20, [5], [50, 0, 0, 3, 14, 2, 6, 0, 2, 0, 0, 1, 0, 0, 2, 1, 0, 0, 23, 2, 6, 0, 2, 0, 100, 1, 0, 0, 2, 1, 0, 0, 107]), (20, [6], [50, 0, 0, 2, 6, 0, 2, 0, 1, 1, 0, 0, 2, 1, 0, 0, 2400]), (20, [7, 4], [50, 1, 0, 1132, 2, 6, 0, 2, 0, 0, 1, 0, 0, 2, 1, 0, 2, 1, 132]), (100, [8, 7, 6], []), (9, [8, 4], [131]), (20, [4, 3], [30, 0, 1, 1, 132, -1, 0, 0]), (20, [5], [50, 0, 0, 3, 14, 2, 6, 0, 2, 0, 0, 1, 0, 0, 2, 1, 0, 0, 23, 2, 6, 0, 2, 0, 100, 1, 0, 0, 2, 1, 0, 0, 107]), (20, [6], [50, 0, 0, 2, 6, 0, 2, 0, 1, 1, 0, 0, 2, 1, 0, 0, 2400]), (20, [7, 4], [50, 1, 0, 1132, 2, 6, 0, 2, 0, 0, 1, 0, 0, 2, 1, 0, 2, 1, 132]), (100, [12, 7, 5], []), (9, [12, 4], [130]), (7, [11, 6], [3]), (10, [11, 8, 10], []), (2, [10, 7, 9], []), (8, [7], [4]), (20, [4, 3], [30, 0, 1, 1, 132, -1, 0, 0]), (20, [4, 7], [60, 1, 2, 774, 132, 130, 131]), (20, [5], [50, 0, 0, 3, 14, 2, 6, 0, 2, 0, 0, 1, 0, 0, 2, 1, 0, 0, 23, 2, 6, 0, 2, 0, 100, 1, 0, 0, 2, 1, 0, 0, 107]), (20, [6], [50, 0, 0, 2, 6, 0, 2, 0, 1, 1, 0, 0, 2, 1, 0, 0, 2400]), (20, [7, 4], [50, 1, 0, 1132, 2, 6, 0, 2, 0, 0, 1, 0, 0, 2, 1, 0, 2, 1, 132])], [], [], [(20, [0, 3], [30, 1, 1, 1, 132, -1, 0, 0]), (20, [0], [60, 1, 2, 773, 132, 130, 131])], [], [(15, 13, 1, 1), (11, 6, 0, 4294967296), (10, 7, -1, -1)])
theorem oo_Mo_gatherOne_5 {kA : Nat → ClassId} : or_ok PRD kA GG o_Mo_gatherOne_5 := by
  refine or_mk fun A ta ws vs hD hth hl => ?_
  intro t0 r0 t3 k3 t5 k5 t6 k6 t7 k7 t8 r8 t9 k9 t10 k10 t11 k11 t12 r12 t13 k13 t14 k14 t15 k15 d0 d1 d2 f0 f1 f2 ta1 w1 le1 s1 f4 f5 f6 f7 f8 f9 ta2 w2 le2 s2 f11 f12 f13 f14 f15 ta3 w3 le3 s3 f17 f18 f19 f20 f21 f22 f23 f24 f25 f26
  replace f2 := shm_5 f2
  have s1 : (∀ b j, w_el ws b j = w_el w1 b j) ∧ ∀ b j, w_fd ws b j = if b = v_ad (n_v vs 4) ∧ j = 132 then n_v vs 15 else w_fd w1 b j := s1.2
  replace f5 := shm_587 f5
  replace f6 := shm_588 f6
  replace f9 := shm_593 f9
  have s2 : (∀ b j, w_el w1 b j = if b = v_ad (n_v vs 8) ∧ j = (v_iv (n_v vs 7)).toNat then v_iv (n_v vs 6) else w_el w2 b j) ∧ ∀ b k, w_fd w1 b k = w_fd w2 b k := s2.2
  replace f11 := shm_594 f11
  replace f12 := shm_588 f12
  replace f15 := shm_593 f15
  have s3 : (∀ b j, w_el w2 b j = if b = v_ad (n_v vs 12) ∧ j = (v_iv (n_v vs 7)).toNat then v_iv (n_v vs 5) else w_el w3 b j) ∧ ∀ b k, w_fd w2 b k = w_fd w3 b k := s3.2
  replace f17 := shm_595 f17
  replace f19 := shm_107 f19
  replace f22 := shm_588 f22
  replace f23 := shm_592 f23
  replace f26 := shm_593 f26
  have q4 : n_v vs 4 = n_v vs 0 := f2.symm
  rw [q4] at s1
  simp only [q4] at f5 f6 f9 f11 f12 f15 f17 f22 f23 f26
  have ar_0_130_1 : w_ar w1 (n_v vs 0) 130 = w_ar ws (n_v vs 0) 130 := by show v_ad (w_fd w1 _ _) = v_ad (w_fd ws _ _); rw [s1.2, if_neg (fun e => absurd e.2 (by decide))]
  have ar_0_130_2 : w_ar w2 (n_v vs 0) 130 = w_ar ws (n_v vs 0) 130 := by rw [← ar_0_130_1]; show v_ad (w_fd w2 _ _) = v_ad (w_fd w1 _ _); rw [s2.2]
  have ar_0_130_3 : w_ar w3 (n_v vs 0) 130 = w_ar ws (n_v vs 0) 130 := by rw [← ar_0_130_2]; show v_ad (w_fd w3 _ _) = v_ad (w_fd w2 _ _); rw [s3.2]
  have cr_0_130 := fdq_150 hD hth r0
  have ar_0_131_1 : w_ar w1 (n_v vs 0) 131 = w_ar ws (n_v vs 0) 131 := by show v_ad (w_fd w1 _ _) = v_ad (w_fd ws _ _); rw [s1.2, if_neg (fun e => absurd e.2 (by decide))]
  have ar_0_131_2 : w_ar w2 (n_v vs 0) 131 = w_ar ws (n_v vs 0) 131 := by rw [← ar_0_131_1]; show v_ad (w_fd w2 _ _) = v_ad (w_fd w1 _ _); rw [s2.2]
  have ar_0_131_3 : w_ar w3 (n_v vs 0) 131 = w_ar ws (n_v vs 0) 131 := by rw [← ar_0_131_2]; show v_ad (w_fd w3 _ _) = v_ad (w_fd w2 _ _); rw [s3.2]
  have cr_0_131 := fdq_151 hD hth r0
  have ad_8 : v_ad (n_v vs 8) = w_ar ws (n_v vs 0) 131 := (congrArg v_ad f11).trans ar_0_131_2
  have ad_12 : v_ad (n_v vs 12) = w_ar ws (n_v vs 0) 130 := (congrArg v_ad f17).trans ar_0_130_3
  have g5 : v_iv (n_v vs 13) = w_fi w1 (n_v vs 0) 132 := congrArg v_iv f5
  simp only [ad_8] at f19
  have h19 : v_iv (n_v vs 11) = w_ei w3 (w_ar ws (n_v vs 0) 131) (v_iv (n_v vs 10)) := f19
  simp only [ar_0_130_3, ar_0_131_3] at f23
  have fe_0_132_1 : w_fi ws (n_v vs 0) 132 = v_iv (n_v vs 15) := by show v_iv (w_fd _ _ _) = _; rw [s1.2, if_pos ⟨rfl, rfl⟩]
  have fe_0_132_2 : w_fi w1 (n_v vs 0) 132 = w_fi w2 (n_v vs 0) 132 := congrArg v_iv (s2.2 _ _)
  have fe_0_132_3 : w_fi w2 (n_v vs 0) 132 = w_fi w3 (n_v vs 0) 132 := congrArg v_iv (s3.2 _ _)
  have hE_0_130_1 : ∀ j : Int, w_ei ws (w_ar ws (n_v vs 0) 130) j = w_ei w1 (w_ar ws (n_v vs 0) 130) j := fun j => s1.1 _ _
  have hE_0_130_2 : ∀ j : Int, w_ei w1 (w_ar ws (n_v vs 0) 130) j = w_ei w2 (w_ar ws (n_v vs 0) 130) j := el_kp s2.1 r8 cr_0_130 (by decide)
  have hE_0_130_3 : ∀ j : Int, 0 ≤ j → (j = v_iv (n_v vs 7) → w_ei w2 (w_ar ws (n_v vs 0) 130) j = v_iv (n_v vs 5)) ∧ (j ≠ v_iv (n_v vs 7) → w_ei w2 (w_ar ws (n_v vs 0) 130) j = w_ei w3 (w_ar ws (n_v vs 0) 130) j) := fun j hj => ⟨fun h => by unfold w_ei; rw [s3.1, if_pos ⟨ad_12.symm, by rw [h]⟩], fun h => by unfold w_ei; rw [s3.1, if_neg (fun e => h (by have := e.2; omega))]⟩
  have hK_0_130 := elq_84 hD hth cr_0_130
  have hE_0_131_1 : ∀ j : Int, w_ei ws (w_ar ws (n_v vs 0) 131) j = w_ei w1 (w_ar ws (n_v vs 0) 131) j := fun j => s1.1 _ _
  have hE_0_131_2 : ∀ j : Int, 0 ≤ j → (j = v_iv (n_v vs 7) → w_ei w1 (w_ar ws (n_v vs 0) 131) j = v_iv (n_v vs 6)) ∧ (j ≠ v_iv (n_v vs 7) → w_ei w1 (w_ar ws (n_v vs 0) 131) j = w_ei w2 (w_ar ws (n_v vs 0) 131) j) := fun j hj => ⟨fun h => by unfold w_ei; rw [s2.1, if_pos ⟨ad_8.symm, by rw [h]⟩], fun h => by unfold w_ei; rw [s2.1, if_neg (fun e => h (by have := e.2; omega))]⟩
  have hE_0_131_3 : ∀ j : Int, w_ei w2 (w_ar ws (n_v vs 0) 131) j = w_ei w3 (w_ar ws (n_v vs 0) 131) j := el_kp s3.1 r12 cr_0_131 (by decide)
  have hK_0_131 := elq_85 hD hth cr_0_131
  have kz_0_132 := fdq_152 hD hth r0
  have nf0 : fc_1 PRD (20, [0, 3], [30, 1, 1, 1, 132, -1, 0, 0]) ws (vs) := ⟨nf_in hl rfl, sgq_596 (vc_Mo_gatherOne_5_0 (v_iv (n_v vs 3)) (v_iv (n_v vs 5)) (v_iv (n_v vs 6)) (v_iv (n_v vs 7)) (v_iv (n_v vs 9)) (v_iv (n_v vs 10)) (v_iv (n_v vs 11)) (v_iv (n_v vs 13)) (v_iv (n_v vs 14)) (v_iv (n_v vs 15)) (w_fi w1 (n_v vs 0) 132) (w_fi w2 (n_v vs 0) 132) (w_ei w3 (w_ar ws (n_v vs 0) 131)) (w_fi w3 (n_v vs 0) 132) (w_ei w3 (w_ar ws (n_v vs 0) 130)) (w_fi ws (n_v vs 0) 132) (w_ei ws (w_ar ws (n_v vs 0) 130)) (w_ei w1 (w_ar ws (n_v vs 0) 130)) (w_ei w2 (w_ar ws (n_v vs 0) 130)) (w_ei ws (w_ar ws (n_v vs 0) 131)) (w_ei w1 (w_ar ws (n_v vs 0) 131)) (w_ei w2 (w_ar ws (n_v vs 0) 131)) k3 k5 k6 k7 k9 k10 k11 k13 k14 k15 d0 d1 d2 (shm_590 f0) (shm_591 f1) (shm_12 f4) g5 f6 (shm_590 f7) (shm_591 f8) f9 f12 (shm_590 f13) (shm_591 f14) f15 (shm_2 f18) h19 (shm_14 f20) (shm_308 f21) f22 f23 (shm_590 f24) (shm_591 f25) f26 fe_0_132_1 fe_0_132_2 fe_0_132_3 hE_0_130_1 hE_0_130_2 hE_0_130_3 hK_0_130 hE_0_131_1 hE_0_131_2 hE_0_131_3 hK_0_131 kz_0_132)⟩
  have nf1 : fc_1 PRD (20, [0], [60, 1, 2, 773, 132, 130, 131]) ws (vs) := ⟨nf_in hl rfl, sgq_589 (vc_Mo_gatherOne_5_1 (v_iv (n_v vs 3)) (v_iv (n_v vs 5)) (v_iv (n_v vs 6)) (v_iv (n_v vs 7)) (v_iv (n_v vs 9)) (v_iv (n_v vs 10)) (v_iv (n_v vs 11)) (v_iv (n_v vs 13)) (v_iv (n_v vs 14)) (v_iv (n_v vs 15)) (w_fi w1 (n_v vs 0) 132) (w_fi w2 (n_v vs 0) 132) (w_ei w3 (w_ar ws (n_v vs 0) 131)) (w_fi w3 (n_v vs 0) 132) (w_ei w3 (w_ar ws (n_v vs 0) 130)) (w_fi ws (n_v vs 0) 132) (w_ei ws (w_ar ws (n_v vs 0) 130)) (w_ei w1 (w_ar ws (n_v vs 0) 130)) (w_ei w2 (w_ar ws (n_v vs 0) 130)) (w_ei ws (w_ar ws (n_v vs 0) 131)) (w_ei w1 (w_ar ws (n_v vs 0) 131)) (w_ei w2 (w_ar ws (n_v vs 0) 131)) k3 k5 k6 k7 k9 k10 k11 k13 k14 k15 d0 d1 d2 (shm_590 f0) (shm_591 f1) (shm_12 f4) g5 f6 (shm_590 f7) (shm_591 f8) f9 f12 (shm_590 f13) (shm_591 f14) f15 (shm_2 f18) h19 (shm_14 f20) (shm_308 f21) f22 f23 (shm_590 f24) (shm_591 f25) f26 fe_0_132_1 fe_0_132_2 fe_0_132_3 hE_0_130_1 hE_0_130_2 hE_0_130_3 hK_0_130 hE_0_131_1 hE_0_131_2 hE_0_131_3 hK_0_131 kz_0_132)⟩
  refine ⟨(fun _ h => (by cases h)), [], trivial, ?_, (fun _ h => (by cases h))⟩
  rw [List.append_nil]
  exact List.forall_mem_cons.mpr ⟨⟨show (20 : Nat) < 100 from by decide, nf0⟩, List.forall_mem_cons.mpr ⟨⟨show (20 : Nat) < 100 from by decide, nf1⟩, (fun _ h => (by cases h))⟩⟩
set_option maxHeartbeats 4000000 in
theorem vc_Mo_gatherOne_6_0 (x3 : Int) (x5 : Int) (x6 : Int) (x7 : Int) (x9 : Int) (x10 : Int) (x11 : Int) (x13 : Int) (x14 : Int) (x15 : Int) (x16 : Int) (x17 : Int) (x18 : Int) (x19 : Int) (itemMany_0 : Int) (itemSize_1 : Int → Int) (itemMany_1 : Int) (itemOf_2 : Int → Int) (itemSize_2 : Int → Int) (itemMany_2 : Int) (itemOf_0 : Int → Int) (itemOf_1 : Int → Int) (itemSize_0 : Int → Int) (k3 : 0 ≤ x3 ∧ x3 ≤ 39) (k5 : 0 ≤ x5 ∧ x5 ≤ 107) (k6 : 1 ≤ x6 ∧ x6 ≤ 4095) (k7 : 1 ≤ x7 ∧ x7 ≤ 39) (k9 : 1 ≤ x9 ∧ x9 ≤ 1) (k10 : 0 ≤ x10 ∧ x10 ≤ 38) (k11 : 0 ≤ x11 ∧ x11 ≤ 4094) (k13 : 1 ≤ x13 ∧ x13 ≤ 1) (k14 : 0 ≤ x14 ∧ x14 ≤ 38) (k15 : 0 ≤ x15 ∧ x15 ≤ 131) (k16 : 1 ≤ x16 ∧ x16 ≤ 1) (k17 : 0 ≤ x17 ∧ x17 ≤ 38) (k18 : 0 ≤ x18 ∧ x18 ≤ 4095) (k19 : 0 ≤ x19 ∧ x19 ≤ 38) (d0 : x7 + (-1) ≤ x19 ∧ x19 ≤ x7 + (-1)) (d1 : x7 + (-1) ≤ x17 ∧ x17 ≤ x7 + (-1)) (d2 : x7 + (-1) ≤ x14 ∧ x14 ≤ x7 + (-1)) (d3 : x6 + (-4294967296) ≤ x11 ∧ x11 ≤ x6 + (-1)) (d4 : x7 + (-1) ≤ x10 ∧ x10 ≤ x7 + (-1)) (f0 : x19 = x7 + (-1)) (f1 : 1 * itemMany_0 + ((-1) * x3 + 0) ≤ 0) (f2 : ((0 ≤ x5) ∧ (x5 ≤ 23)) ∨ ((100 ≤ x5) ∧ (x5 ≤ 107))) (f3 : (1 ≤ x6) ∧ (x6 ≤ 2400)) (f4 : (0 ≤ x7) ∧ (x7 ≤ itemMany_0)) (h7 : x18 = itemSize_1 (x17)) (f8 : x17 = x7 - x16) (f10 : 1 * itemMany_1 + ((-1) * x3 + 0) ≤ 0) (f11 : ((0 ≤ x5) ∧ (x5 ≤ 23)) ∨ ((100 ≤ x5) ∧ (x5 ≤ 107))) (f12 : (1 ≤ x6) ∧ (x6 ≤ 2400)) (f13 : (0 ≤ x7) ∧ (x7 ≤ itemMany_1)) (h15 : x15 = itemOf_2 (x14)) (f16 : x14 = x7 - x13) (f18 : x11 < x6) (h19 : x11 = itemSize_2 (x10)) (f20 : x10 = x7 - x9) (f21 : 0 < x7) (f22 : 1 * itemMany_2 + ((-1) * x3 + 0) ≤ 0) (f23 : IT1 (itemMany_2) (itemOf_2) (itemSize_2) (x7)) (f24 : ((0 ≤ x5) ∧ (x5 ≤ 23)) ∨ ((100 ≤ x5) ∧ (x5 ≤ 107))) (f25 : (1 ≤ x6) ∧ (x6 ≤ 2400)) (f26 : (0 ≤ x7) ∧ (x7 ≤ itemMany_2)) (fe_0_132_1 : itemMany_0 = itemMany_1) (fe_0_132_2 : itemMany_1 = itemMany_2) (hE_0_130_1 : ∀ j : Int, itemOf_0 j = itemOf_1 j) (hE_0_130_2 : ∀ j : Int, 0 ≤ j → (j = x7 → itemOf_1 j = x15) ∧ (j ≠ x7 → itemOf_1 j = itemOf_2 j)) (hK_0_130 : ∀ j : Int, 0 ≤ j → j < 40 → 0 ≤ itemOf_0 j ∧ itemOf_0 j ≤ 131) (hE_0_131_1 : ∀ j : Int, 0 ≤ j → (j = x7 → itemSize_0 j = x18) ∧ (j ≠ x7 → itemSize_0 j = itemSize_1 j)) (hE_0_131_2 : ∀ j : Int, itemSize_1 j = itemSize_2 j) (hK_0_131 : ∀ j : Int, 0 ≤ j → j < 40 → 0 ≤ itemSize_0 j ∧ itemSize_0 j ≤ 4095) (kz_0_132 : 0 ≤ itemMany_0 ∧ itemMany_0 ≤ 40) : IT1 (itemMany_0) (itemOf_0) (itemSize_0) (x19) := by
  subst fe_0_132_1
  subst fe_0_132_2
  have e_hE_0_130_1 := funext hE_0_130_1; subst e_hE_0_130_1
  have e_hE_0_131_2 := funext hE_0_131_2; subst e_hE_0_131_2
  first
    | exact it1_start ‹ITM _ _ _› (by omega)
    | exact it1_step (x := x7) (v := x15) (w := x18) ‹IT1 _ _ _ _› (by omega) (by omega) (by omega) (by assumption) (by assumption) (by rw [show x19 = x14 by omega]; assumption) (by rw [show x19 = x17 by omega]; assumption)
  
set_option maxHeartbeats 4000000 in
theorem vc_Mo_gatherOne_6_1 (x3 : Int) (x5 : Int) (x6 : Int) (x7 : Int) (x9 : Int) (x10 : Int) (x11 : Int) (x13 : Int) (x14 : Int) (x15 : Int) (x16 : Int) (x17 : Int) (x18 : Int) (x19 : Int) (itemMany_0 : Int) (itemSize_1 : Int → Int) (itemMany_1 : Int) (itemOf_2 : Int → Int) (itemSize_2 : Int → Int) (itemMany_2 : Int) (itemOf_0 : Int → Int) (itemOf_1 : Int → Int) (itemSize_0 : Int → Int) (k3 : 0 ≤ x3 ∧ x3 ≤ 39) (k5 : 0 ≤ x5 ∧ x5 ≤ 107) (k6 : 1 ≤ x6 ∧ x6 ≤ 4095) (k7 : 1 ≤ x7 ∧ x7 ≤ 39) (k9 : 1 ≤ x9 ∧ x9 ≤ 1) (k10 : 0 ≤ x10 ∧ x10 ≤ 38) (k11 : 0 ≤ x11 ∧ x11 ≤ 4094) (k13 : 1 ≤ x13 ∧ x13 ≤ 1) (k14 : 0 ≤ x14 ∧ x14 ≤ 38) (k15 : 0 ≤ x15 ∧ x15 ≤ 131) (k16 : 1 ≤ x16 ∧ x16 ≤ 1) (k17 : 0 ≤ x17 ∧ x17 ≤ 38) (k18 : 0 ≤ x18 ∧ x18 ≤ 4095) (k19 : 0 ≤ x19 ∧ x19 ≤ 38) (d0 : x7 + (-1) ≤ x19 ∧ x19 ≤ x7 + (-1)) (d1 : x7 + (-1) ≤ x17 ∧ x17 ≤ x7 + (-1)) (d2 : x7 + (-1) ≤ x14 ∧ x14 ≤ x7 + (-1)) (d3 : x6 + (-4294967296) ≤ x11 ∧ x11 ≤ x6 + (-1)) (d4 : x7 + (-1) ≤ x10 ∧ x10 ≤ x7 + (-1)) (f0 : x19 = x7 + (-1)) (f1 : 1 * itemMany_0 + ((-1) * x3 + 0) ≤ 0) (f2 : ((0 ≤ x5) ∧ (x5 ≤ 23)) ∨ ((100 ≤ x5) ∧ (x5 ≤ 107))) (f3 : (1 ≤ x6) ∧ (x6 ≤ 2400)) (f4 : (0 ≤ x7) ∧ (x7 ≤ itemMany_0)) (h7 : x18 = itemSize_1 (x17)) (f8 : x17 = x7 - x16) (f10 : 1 * itemMany_1 + ((-1) * x3 + 0) ≤ 0) (f11 : ((0 ≤ x5) ∧ (x5 ≤ 23)) ∨ ((100 ≤ x5) ∧ (x5 ≤ 107))) (f12 : (1 ≤ x6) ∧ (x6 ≤ 2400)) (f13 : (0 ≤ x7) ∧ (x7 ≤ itemMany_1)) (h15 : x15 = itemOf_2 (x14)) (f16 : x14 = x7 - x13) (f18 : x11 < x6) (h19 : x11 = itemSize_2 (x10)) (f20 : x10 = x7 - x9) (f21 : 0 < x7) (f22 : 1 * itemMany_2 + ((-1) * x3 + 0) ≤ 0) (f23 : IT1 (itemMany_2) (itemOf_2) (itemSize_2) (x7)) (f24 : ((0 ≤ x5) ∧ (x5 ≤ 23)) ∨ ((100 ≤ x5) ∧ (x5 ≤ 107))) (f25 : (1 ≤ x6) ∧ (x6 ≤ 2400)) (f26 : (0 ≤ x7) ∧ (x7 ≤ itemMany_2)) (fe_0_132_1 : itemMany_0 = itemMany_1) (fe_0_132_2 : itemMany_1 = itemMany_2) (hE_0_130_1 : ∀ j : Int, itemOf_0 j = itemOf_1 j) (hE_0_130_2 : ∀ j : Int, 0 ≤ j → (j = x7 → itemOf_1 j = x15) ∧ (j ≠ x7 → itemOf_1 j = itemOf_2 j)) (hK_0_130 : ∀ j : Int, 0 ≤ j → j < 40 → 0 ≤ itemOf_0 j ∧ itemOf_0 j ≤ 131) (hE_0_131_1 : ∀ j : Int, 0 ≤ j → (j = x7 → itemSize_0 j = x18) ∧ (j ≠ x7 → itemSize_0 j = itemSize_1 j)) (hE_0_131_2 : ∀ j : Int, itemSize_1 j = itemSize_2 j) (hK_0_131 : ∀ j : Int, 0 ≤ j → j < 40 → 0 ≤ itemSize_0 j ∧ itemSize_0 j ≤ 4095) (kz_0_132 : 0 ≤ itemMany_0 ∧ itemMany_0 ≤ 40) : (0 ≤ x19) ∧ (x19 ≤ itemMany_0) := by
  subst fe_0_132_1
  subst fe_0_132_2
  have e_hE_0_130_1 := funext hE_0_130_1; subst e_hE_0_130_1
  have e_hE_0_131_2 := funext hE_0_131_2; subst e_hE_0_131_2
  omega
def o_Mo_gatherOne_6 : or_T := (5, 20, [(0, (2, 0, 0, [165])), (3, (0, 0, 39, [])), (5, (0, 0, 107, [])), (6, (0, 1, 4095, [])), (7, (0, 1, 39, [])), (8, (2, 0, 0, [261])), (9, (0, 1, 1, [])), (10, (0, 0, 38, [])), (11, (0, 0, 4094, [])), (12, (2, 0, 0, [260])), (13, (0, 1, 1, [])), (14, (0, 0, 38, [])), (15, (0, 0, 131, [])), (16, (0, 1, 1, [])), (17, (0, 0, 38, [])), (18, (0, 0, 4095, [])), (19, (0, 0, 38, []))], [(6, [19, 7], [-1]), (20, [4, 3], [30, 0, 1, 1, 132, -1, 0, 0]), (20, [5], [50, 0, 0, 3, 14, 2, 6, 0, 2, 0, 0, 1, 0, 0, 2, 1, 0, 0, 23, 2, 6, 0, 2, 0, 100, 1, 0, 0, 2, 1, 0, 0, 107]), (20, [6], [50, 0, 0, 2, 6, 0, 2, 0, 1, 1, 0, 0, 2, 1, 0, 0, 2400]), (20, [7, 4], [50, 1, 0, 1132, 2, 6, 0, 2, 0, 0, 1, 0, 0, 2, 1, 0, 2, 1, 132]), (24, [0, 4], []), (100, [8, 7, 18], []), (10, [18, 8, 17], []), (2, [17, 7, 16], []), (9, [8, 4], [131]), (20, [4, 3], [30, 0, 1, 1, 132, -1, 0, 0]), (20, [5], [50, 0, 0, 3, 14, 2, 6, 0, 2, 0, 0, 1, 0, 0, 2, 1, 0, 0, 23, 2, 6, 0, 2, 0, 100, 1, 0, 0, 2, 1, 0, 0, 107]), (20, [6], [50, 0, 0, 2, 6, 0, 2, 0, 1, 1, 0, 0, 2, 1, 0, 0, 2400]), (20, [7, 4], [50, 1, 0, 1132, 2, 6, 0, 2, 0, 0, 1, 0, 0, 2, 1, 0, 2, 1, 132]), (100, [12, 7, 15], []), (10, [15, 12, 14], []), (2, [14, 7, 13], []), (9, [12, 4], [130]), (7, [11, 6], [2]), (10, [11, 8, 10], []), (2, [10, 7, 9], []), (8, [7], [4]), (20, [4, 3], [30, 0, 1, 1, 132, -1, 0, 0]), (20, [4, 7], [60, 1, 2, 774, 132, 130, 131]), (20, [5], [50, 0, 0, 3, 14, 2, 6, 0, 2, 0, 0, 1, 0, 0, 2, 1, 0, 0, 23, 2, 6, 0, 2, 0, 100, 1, 0, 0, 2, 1, 0, 0, 107]), (20, [6], [50, 0, 0, 2, 6, 0, 2, 0, 1, 1, 0, 0, 2, 1, 0, 0, 2400]), (20, [7, 4], [50, 1, 0, 1132, 2, 6, 0, 2, 0, 0, 1, 0, 0, 2, 1, 0, 2, 1, 132])], [], [], [(20, [4, 19], [60, 1, 2, 774, 132, 130, 131]), (20, [19, 4], [50, 1, 0, 1132, 2, 6, 0, 2, 0, 0, 1, 0, 0, 2, 1, 0, 2, 1, 132])], [], [(19, 7, -1, -1), (17, 7, -1, -1), (14, 7, -1, -1), (11, 6, -4294967296, -1), (10, 7, -1, -1)])
theorem oo_Mo_gatherOne_6 {kA : Nat → ClassId} : or_ok PRD kA GG o_Mo_gatherOne_6 := by
  refine or_mk fun A ta ws vs hD hth hl => ?_
  intro t0 r0 t3 k3 t5 k5 t6 k6 t7 k7 t8 r8 t9 k9 t10 k10 t11 k11 t12 r12 t13 k13 t14 k14 t15 k15 t16 k16 t17 k17 t18 k18 t19 k19 d0 d1 d2 d3 d4 f0 f1 f2 f3 f4 f5 ta1 w1 le1 s1 f7 f8 f9 f10 f11 f12 f13 ta2 w2 le2 s2 f15 f16 f17 f18 f19 f20 f21 f22 f23 f24 f25 f26
  replace f0 := shm_186 f0
  replace f1 := shm_588 f1
  replace f2 := shm_590 f2
  replace f3 := shm_591 f3
  replace f4 := shm_593 f4
  replace f5 := shm_5 f5
  have s1 : (∀ b j, w_el ws b j = if b = v_ad (n_v vs 8) ∧ j = (v_iv (n_v vs 7)).toNat then v_iv (n_v vs 18) else w_el w1 b j) ∧ ∀ b k, w_fd ws b k = w_fd w1 b k := s1.2
  replace f7 := shm_107 f7
  replace f8 := shm_14 f8
  replace f9 := shm_594 f9
  replace f10 := shm_588 f10
  replace f11 := shm_590 f11
  replace f12 := shm_591 f12
  replace f13 := shm_593 f13
  have s2 : (∀ b j, w_el w1 b j = if b = v_ad (n_v vs 12) ∧ j = (v_iv (n_v vs 7)).toNat then v_iv (n_v vs 15) else w_el w2 b j) ∧ ∀ b k, w_fd w1 b k = w_fd w2 b k := s2.2
  replace f15 := shm_107 f15
  replace f16 := shm_14 f16
  replace f17 := shm_595 f17
  replace f18 := shm_6 f18
  replace f19 := shm_107 f19
  replace f20 := shm_14 f20
  replace f21 := shm_308 f21
  replace f22 := shm_588 f22
  replace f23 := shm_592 f23
  replace f24 := shm_590 f24
  replace f25 := shm_591 f25
  replace f26 := shm_593 f26
  have q4 : n_v vs 4 = n_v vs 0 := f5.symm
  simp only [q4] at f1 f4 f9 f10 f13 f17 f22 f23 f26
  have ar_0_130_1 : w_ar w1 (n_v vs 0) 130 = w_ar ws (n_v vs 0) 130 := congrArg v_ad (s1.2 _ _).symm
  have ar_0_130_2 : w_ar w2 (n_v vs 0) 130 = w_ar ws (n_v vs 0) 130 := by rw [← ar_0_130_1]; show v_ad (w_fd w2 _ _) = v_ad (w_fd w1 _ _); rw [s2.2]
  have cr_0_130 := fdq_150 hD hth r0
  have ar_0_131_1 : w_ar w1 (n_v vs 0) 131 = w_ar ws (n_v vs 0) 131 := congrArg v_ad (s1.2 _ _).symm
  have ar_0_131_2 : w_ar w2 (n_v vs 0) 131 = w_ar ws (n_v vs 0) 131 := by rw [← ar_0_131_1]; show v_ad (w_fd w2 _ _) = v_ad (w_fd w1 _ _); rw [s2.2]
  have cr_0_131 := fdq_151 hD hth r0
  have ad_8 : v_ad (n_v vs 8) = w_ar ws (n_v vs 0) 131 := (congrArg v_ad f9).trans ar_0_131_1
  have ad_12 : v_ad (n_v vs 12) = w_ar ws (n_v vs 0) 130 := (congrArg v_ad f17).trans ar_0_130_2
  simp only [ad_8] at f7
  have h7 : v_iv (n_v vs 18) = w_ei w1 (w_ar ws (n_v vs 0) 131) (v_iv (n_v vs 17)) := f7
  simp only [ad_12] at f15
  have h15 : v_iv (n_v vs 15) = w_ei w2 (w_ar ws (n_v vs 0) 130) (v_iv (n_v vs 14)) := f15
  simp only [ad_8] at f19
  have h19 : v_iv (n_v vs 11) = w_ei w2 (w_ar ws (n_v vs 0) 131) (v_iv (n_v vs 10)) := f19
  simp only [ar_0_130_2, ar_0_131_2] at f23
  have fe_0_132_1 : w_fi ws (n_v vs 0) 132 = w_fi w1 (n_v vs 0) 132 := congrArg v_iv (s1.2 _ _)
  have fe_0_132_2 : w_fi w1 (n_v vs 0) 132 = w_fi w2 (n_v vs 0) 132 := congrArg v_iv (s2.2 _ _)
  have hE_0_130_1 : ∀ j : Int, w_ei ws (w_ar ws (n_v vs 0) 130) j = w_ei w1 (w_ar ws (n_v vs 0) 130) j := el_kp s1.1 r8 cr_0_130 (by decide)
  have hE_0_130_2 : ∀ j : Int, 0 ≤ j → (j = v_iv (n_v vs 7) → w_ei w1 (w_ar ws (n_v vs 0) 130) j = v_iv (n_v vs 15)) ∧ (j ≠ v_iv (n_v vs 7) → w_ei w1 (w_ar ws (n_v vs 0) 130) j = w_ei w2 (w_ar ws (n_v vs 0) 130) j) := fun j hj => ⟨fun h => by unfold w_ei; rw [s2.1, if_pos ⟨ad_12.symm, by rw [h]⟩], fun h => by unfold w_ei; rw [s2.1, if_neg (fun e => h (by have := e.2; omega))]⟩
  have hK_0_130 := elq_84 hD hth cr_0_130
  have hE_0_131_1 : ∀ j : Int, 0 ≤ j → (j = v_iv (n_v vs 7) → w_ei ws (w_ar ws (n_v vs 0) 131) j = v_iv (n_v vs 18)) ∧ (j ≠ v_iv (n_v vs 7) → w_ei ws (w_ar ws (n_v vs 0) 131) j = w_ei w1 (w_ar ws (n_v vs 0) 131) j) := fun j hj => ⟨fun h => by unfold w_ei; rw [s1.1, if_pos ⟨ad_8.symm, by rw [h]⟩], fun h => by unfold w_ei; rw [s1.1, if_neg (fun e => h (by have := e.2; omega))]⟩
  have hE_0_131_2 : ∀ j : Int, w_ei w1 (w_ar ws (n_v vs 0) 131) j = w_ei w2 (w_ar ws (n_v vs 0) 131) j := el_kp s2.1 r12 cr_0_131 (by decide)
  have hK_0_131 := elq_85 hD hth cr_0_131
  have kz_0_132 := fdq_152 hD hth r0
  have nf0 : fc_1 PRD (20, [4, 19], [60, 1, 2, 774, 132, 130, 131]) ws (vs) := by
    refine ⟨nf_in hl rfl, sgq_592 ?_⟩
    · show IT1 (w_fi ws (n_v vs 4) 132) (w_ei ws (w_ar ws (n_v vs 4) 130)) (w_ei ws (w_ar ws (n_v vs 4) 131)) (v_iv (n_v vs 19))
      rw [q4]
      exact vc_Mo_gatherOne_6_0 (v_iv (n_v vs 3)) (v_iv (n_v vs 5)) (v_iv (n_v vs 6)) (v_iv (n_v vs 7)) (v_iv (n_v vs 9)) (v_iv (n_v vs 10)) (v_iv (n_v vs 11)) (v_iv (n_v vs 13)) (v_iv (n_v vs 14)) (v_iv (n_v vs 15)) (v_iv (n_v vs 16)) (v_iv (n_v vs 17)) (v_iv (n_v vs 18)) (v_iv (n_v vs 19)) (w_fi ws (n_v vs 0) 132) (w_ei w1 (w_ar ws (n_v vs 0) 131)) (w_fi w1 (n_v vs 0) 132) (w_ei w2 (w_ar ws (n_v vs 0) 130)) (w_ei w2 (w_ar ws (n_v vs 0) 131)) (w_fi w2 (n_v vs 0) 132) (w_ei ws (w_ar ws (n_v vs 0) 130)) (w_ei w1 (w_ar ws (n_v vs 0) 130)) (w_ei ws (w_ar ws (n_v vs 0) 131)) k3 k5 k6 k7 k9 k10 k11 k13 k14 k15 k16 k17 k18 k19 d0 d1 d2 d3 d4 f0 f1 f2 f3 f4 h7 f8 f10 f11 f12 f13 h15 f16 f18 h19 f20 f21 f22 f23 f24 f25 f26 fe_0_132_1 fe_0_132_2 hE_0_130_1 hE_0_130_2 hK_0_130 hE_0_131_1 hE_0_131_2 hK_0_131 kz_0_132
  have nf1 : fc_1 PRD (20, [19, 4], [50, 1, 0, 1132, 2, 6, 0, 2, 0, 0, 1, 0, 0, 2, 1, 0, 2, 1, 132]) ws (vs) := by
    refine ⟨nf_in hl rfl, sgq_593 ?_⟩
    · show (0 ≤ v_iv (n_v vs 19)) ∧ (v_iv (n_v vs 19) ≤ w_fi ws (n_v vs 4) 132)
      rw [q4]
      exact vc_Mo_gatherOne_6_1 (v_iv (n_v vs 3)) (v_iv (n_v vs 5)) (v_iv (n_v vs 6)) (v_iv (n_v vs 7)) (v_iv (n_v vs 9)) (v_iv (n_v vs 10)) (v_iv (n_v vs 11)) (v_iv (n_v vs 13)) (v_iv (n_v vs 14)) (v_iv (n_v vs 15)) (v_iv (n_v vs 16)) (v_iv (n_v vs 17)) (v_iv (n_v vs 18)) (v_iv (n_v vs 19)) (w_fi ws (n_v vs 0) 132) (w_ei w1 (w_ar ws (n_v vs 0) 131)) (w_fi w1 (n_v vs 0) 132) (w_ei w2 (w_ar ws (n_v vs 0) 130)) (w_ei w2 (w_ar ws (n_v vs 0) 131)) (w_fi w2 (n_v vs 0) 132) (w_ei ws (w_ar ws (n_v vs 0) 130)) (w_ei w1 (w_ar ws (n_v vs 0) 130)) (w_ei ws (w_ar ws (n_v vs 0) 131)) k3 k5 k6 k7 k9 k10 k11 k13 k14 k15 k16 k17 k18 k19 d0 d1 d2 d3 d4 f0 f1 f2 f3 f4 h7 f8 f10 f11 f12 f13 h15 f16 f18 h19 f20 f21 f22 f23 f24 f25 f26 fe_0_132_1 fe_0_132_2 hE_0_130_1 hE_0_130_2 hK_0_130 hE_0_131_1 hE_0_131_2 hK_0_131 kz_0_132
  refine ⟨(fun _ h => (by cases h)), [], trivial, ?_, (fun _ h => (by cases h))⟩
  rw [List.append_nil]
  exact List.forall_mem_cons.mpr ⟨⟨show (20 : Nat) < 100 from by decide, nf0⟩, List.forall_mem_cons.mpr ⟨⟨show (20 : Nat) < 100 from by decide, nf1⟩, (fun _ h => (by cases h))⟩⟩
def n_Mo_gatherOne_an : List an_T := [(5, [(0, (2, 0, 0, [165])), (1, (0, 0, 107, [])), (2, (0, 0, 4095, [])), (3, (0, 0, 39, []))], [], (0, 0), [(0, 0, 99995), (2, 7, 0), (0, 0, 100000)], [(1, 5, (Int.negSucc 999999999999), 0), (2, 6, (Int.negSucc 999999999999), 0), (5, 1, (Int.negSucc 999999999999), 0), (6, 2, (Int.negSucc 999999999999), 0)], [], [(2, 0, 0, [165]), (0, 0, 107, []), (0, 0, 4095, []), (0, 0, 39, [])], 0, [], [(20, [4, 3], [30, 0, 1, 1, 132, (Int.negSucc 0), 0, 0]), (20, [4, 7], [60, 1, 2, 774, 132, 130, 131]), (20, [5], [50, 0, 0, 3, 14, 2, 6, 0, 2, 0, 0, 1, 0, 0, 2, 1, 0, 0, 23, 2, 6, 0, 2, 0, 100, 1, 0, 0, 2, 1, 0, 0, 107]), (20, [6], [50, 0, 0, 2, 6, 0, 2, 0, 1, 1, 0, 0, 2, 1, 0, 0, 2400]), (20, [7, 4], [50, 1, 0, 1132, 2, 6, 0, 2, 0, 0, 1, 0, 0, 2, 1, 0, 2, 1, 132]), (24, [0, 4], [])])]
def t_Mo_gatherOne_ct : ct_L := []
set_option maxRecDepth 100000 in
theorem c_Mo_gatherOne {l : Launch} {D : va_G} {kA : Nat → ClassId} : ct_ok PRD l D kA GG y_Mo_gatherOne z_Mo_gatherOne e_Mo_gatherOne := chk_all_ok (FT := [(299, 13, 130), (302, 13, 131), (971, 13, 132)]) (PT := [(971, 13, 132, .int)]) (CT := t_Mo_gatherOne_ct) (KT := []) (NT := []) (AN := n_Mo_gatherOne_an) (OT := [o_Mo_gatherOne_0, o_Mo_gatherOne_1, o_Mo_gatherOne_2, o_Mo_gatherOne_3, o_Mo_gatherOne_4, o_Mo_gatherOne_5, o_Mo_gatherOne_6]) 3 276 (List.forall_mem_cons.mpr ⟨oo_Mo_gatherOne_0, List.forall_mem_cons.mpr ⟨oo_Mo_gatherOne_1, List.forall_mem_cons.mpr ⟨oo_Mo_gatherOne_2, List.forall_mem_cons.mpr ⟨oo_Mo_gatherOne_3, List.forall_mem_cons.mpr ⟨oo_Mo_gatherOne_4, List.forall_mem_cons.mpr ⟨oo_Mo_gatherOne_5, List.forall_mem_cons.mpr ⟨oo_Mo_gatherOne_6, List.forall_mem_nil _⟩⟩⟩⟩⟩⟩⟩) (by decide +kernel) ⟨List.forall_mem_cons.mpr ⟨gf_Mo_299, List.forall_mem_cons.mpr ⟨gf_Mo_302, List.forall_mem_cons.mpr ⟨gf_Mo_971, List.forall_mem_nil _⟩⟩⟩, List.forall_mem_cons.mpr ⟨pf_Mo_971, List.forall_mem_nil _⟩, List.forall_mem_nil _, List.forall_mem_nil _, List.forall_mem_nil _, GG_pl⟩ (by decide +kernel)
set_option maxHeartbeats 4000000 in
theorem vc_Mo_groupOf_0_0 (x1 : Int) (x3 : Int) (x4 : Int) (x5 : Int) (x6 : Int) (x7 : Int) (all_0 : Int → Int) (r_0 : Int) (k1 : 0 ≤ x1 ∧ x1 ≤ 23) (k3 : 0 ≤ x3 ∧ x3 ≤ 66297) (k4 : 243 ≤ x4 ∧ x4 ≤ 243) (k5 : 243 ≤ x5 ∧ x5 ≤ 66540) (k6 : 243 ≤ x6 ∧ x6 ≤ 66563) (k7 : 0 ≤ x7 ∧ x7 ≤ 7) (d0 : x1 + 243 ≤ x6 ∧ x6 ≤ x1 + 66540) (d1 : x5 + 0 ≤ x6 ∧ x6 ≤ x5 + 23) (d2 : x3 + 243 ≤ x6 ∧ x6 ≤ x3 + 266) (d3 : x3 + 243 ≤ x5 ∧ x5 ≤ x3 + 243) (h0 : x7 = all_0 (x6)) (f1 : x6 = x5 + x1) (f2 : x5 = x3 + x4) (g3 : x3 = r_0) : x7 = all_0 (((r_0 + 243) + x1)) := by
  first | assumption | omega | grind
def o_Mo_groupOf_0 : or_T := (15, 8, [(1, (0, 0, 23, [])), (3, (0, 0, 66297, [])), (4, (0, 243, 243, [])), (5, (0, 243, 66540, [])), (6, (0, 243, 66563, [])), (7, (0, 0, 7, []))], [(10, [7, 2, 6], []), (1, [6, 5, 1], []), (1, [5, 3, 4], []), (9, [3, 0], [5]), (9, [2, 0], [2])], [], [], [(20, [7, 0, 1], [50, 1, 1, 1005, 1002, 1, 2, 1, 0, 3, 1, 2, 4, 7, 4, 3, 2, 1, 5, 0, 243, 1, 2])], [], [(6, 1, 243, 66540), (6, 5, 0, 23), (6, 3, 243, 266), (5, 3, 243, 243)])
theorem oo_Mo_groupOf_0 {kA : Nat → ClassId} : or_ok PRD kA GG o_Mo_groupOf_0 := by
  refine or_mk fun A ta ws vs hD hth hl => ?_
  intro t1 k1 t3 k3 t4 k4 t5 k5 t6 k6 t7 k7 d0 d1 d2 d3 f0 f1 f2 f3 f4
  replace f0 := shm_107 f0
  replace f3 := shm_110 f3
  replace f4 := shm_120 f4
  have ad_2 : v_ad (n_v vs 2) = w_ar ws (n_v vs 0) 2 := congrArg v_ad f4
  simp only [ad_2] at f0
  have h0 : v_iv (n_v vs 7) = w_ei ws (w_ar ws (n_v vs 0) 2) (v_iv (n_v vs 6)) := f0
  have g3 : v_iv (n_v vs 3) = w_fi ws (n_v vs 0) 5 := congrArg v_iv f3
  have nf0 : fc_1 PRD (20, [7, 0, 1], [50, 1, 1, 1005, 1002, 1, 2, 1, 0, 3, 1, 2, 4, 7, 4, 3, 2, 1, 5, 0, 243, 1, 2]) ws (vs) := ⟨nf_in hl rfl, sgq_597 (vc_Mo_groupOf_0_0 (v_iv (n_v vs 1)) (v_iv (n_v vs 3)) (v_iv (n_v vs 4)) (v_iv (n_v vs 5)) (v_iv (n_v vs 6)) (v_iv (n_v vs 7)) (w_ei ws (w_ar ws (n_v vs 0) 2)) (w_fi ws (n_v vs 0) 5) k1 k3 k4 k5 k6 k7 d0 d1 d2 d3 h0 (shm_12 f1) (shm_12 f2) g3)⟩
  refine ⟨(fun _ h => (by cases h)), [], trivial, ?_, (fun _ h => (by cases h))⟩
  rw [List.append_nil]
  exact List.forall_mem_cons.mpr ⟨⟨show (20 : Nat) < 100 from by decide, nf0⟩, (fun _ h => (by cases h))⟩
def n_Mo_groupOf_an : List an_T := []
def t_Mo_groupOf_ct : ct_L := []
set_option maxRecDepth 100000 in
theorem c_Mo_groupOf {l : Launch} {D : va_G} {kA : Nat → ClassId} : ct_ok PRD l D kA GG y_Mo_groupOf z_Mo_groupOf e_Mo_groupOf := chk_all_ok (FT := [(16, 13, 2), (391, 13, 5)]) (PT := []) (CT := t_Mo_groupOf_ct) (KT := []) (NT := []) (AN := n_Mo_groupOf_an) (OT := [o_Mo_groupOf_0]) 0 200 (List.forall_mem_cons.mpr ⟨oo_Mo_groupOf_0, List.forall_mem_nil _⟩) (by decide +kernel) ⟨List.forall_mem_cons.mpr ⟨gf_Mo_16, List.forall_mem_cons.mpr ⟨gf_Mo_391, List.forall_mem_nil _⟩⟩, List.forall_mem_nil _, List.forall_mem_nil _, List.forall_mem_nil _, List.forall_mem_nil _, GG_pl⟩ (by decide +kernel)
set_option maxHeartbeats 4000000 in
theorem vc_Mo_hangs_0_r0 (x1 : Int) (x2 : Int) (x3 : Int) (x6 : Int) (level_0 : Int → Int) (all_0 : Int → Int) (r_0 : Int) (all_1 : Int → Int) (level_1 : Int → Int) (above_1 : Int → Int) (r_1 : Int) (partOf_1 : Int → Int) (root_1 : Int → Int) (partOf_0 : Int → Int) (above_0 : Int → Int) (root_0 : Int → Int) (k1 : 0 ≤ x1 ∧ x1 ≤ 23) (k2 : 0 ≤ x2 ∧ x2 ≤ 23) (k3 : 0 ≤ x3 ∧ x3 ≤ 24) (k6 : (-23) ≤ x6 ∧ x6 ≤ 24) (h0 : x6 = level_0 (x2)) (f2 : 1 * x1 + ((-1) * all_0 (r_0 + 0) + 0) ≤ (-1)) (f3 : 1 * x2 + ((-1) * all_0 (r_0 + 0) + 0) ≤ (-1)) (f4 : (0 ≤ level_0 (x2)) ∧ ((level_0 (x2) ≤ 23) ∧ (level_0 (x1) ≤ (-1)))) (f7 : ∀ j0 : Int, 0 ≤ j0 → j0 < 24 → (((j0 + 1) ≤ all_1 (r_1)) → (((-1) ≤ level_1 (j0)) ∧ ((level_1 (j0) ≤ 24) ∧ ((0 ≤ above_1 (j0)) → (((above_1 (j0) + 1) ≤ all_1 (r_1)) ∧ ((0 ≤ level_1 (above_1 (j0))) ∧ ((level_1 (above_1 (j0)) + 1) ≤ level_1 (j0))))))))) (f8 : 1 * x1 + ((-1) * all_1 (r_0 + 0) + 0) ≤ (-1)) (f9 : 1 * x2 + ((-1) * all_1 (r_0 + 0) + 0) ≤ (-1)) (f10 : (0 ≤ level_1 (x2)) ∧ ((level_1 (x2) ≤ 23) ∧ (level_1 (x1) ≤ (-1)))) (f11 : BFS (r_1) (all_1) (above_1) (level_1) (partOf_1) (root_1) (x3)) (fe_0_5_1 : r_0 = r_1) (hE_0_2_1 : ∀ j : Int, all_0 j = all_1 j) (hE_0_16_1 : ∀ j : Int, partOf_0 j = partOf_1 j) (hK_0_16 : ∀ j : Int, 0 ≤ j → j < 25 → (-1) ≤ partOf_0 j ∧ partOf_0 j ≤ 24) (hE_0_127_1 : ∀ j : Int, 0 ≤ j → (j = x1 → above_0 j = x2) ∧ (j ≠ x1 → above_0 j = above_1 j)) (hK_0_127 : ∀ j : Int, 0 ≤ j → j < 26 → (-1) ≤ above_0 j ∧ above_0 j ≤ 23) (hE_0_128_1 : ∀ j : Int, level_0 j = level_1 j) (hK_0_128 : ∀ j : Int, 0 ≤ j → j < 26 → (-23) ≤ level_0 j ∧ level_0 j ≤ 24) (hE_0_129_1 : ∀ j : Int, root_0 j = root_1 j) (hK_0_129 : ∀ j : Int, 0 ≤ j → j < 26 → (-1) ≤ root_0 j ∧ root_0 j ≤ 23) : 0 ≤ x6 ∧ x6 ≤ 23 := by
  subst fe_0_5_1
  have e_hE_0_2_1 := funext hE_0_2_1; subst e_hE_0_2_1
  have e_hE_0_16_1 := funext hE_0_16_1; subst e_hE_0_16_1
  have e_hE_0_128_1 := funext hE_0_128_1; subst e_hE_0_128_1
  have e_hE_0_129_1 := funext hE_0_129_1; subst e_hE_0_129_1
  omega
def o_Mo_hangs_0 : or_T := (18, 7, [(0, (2, 0, 0, [165])), (1, (0, 0, 23, [])), (2, (0, 0, 23, [])), (3, (0, 0, 24, [])), (4, (2, 0, 0, [257])), (5, (2, 0, 0, [258])), (6, (0, -23, 24, []))], [(10, [6, 5, 2], []), (9, [5, 0], [128]), (20, [1, 0], [30, -1, 1, 0, 0, -1, 3, 2005000]), (20, [2, 0], [30, -1, 1, 0, 0, -1, 3, 2005000]), (20, [0, 2, 1], [50, 0, 1, 128, 2, 9, 0, 2, 0, 0, 3, 0, 128, 1, 1, 2, 9, 0, 5, 3, 0, 128, 1, 1, 0, 23, 0, 5, 3, 0, 128, 1, 2, 0, -1]), (100, [4, 1, 2], []), (9, [4, 0], [127]), (20, [0], [50, 1, 3, 5, 2, 128, 127, 5, 2, 0, 24, 4, 14, 0, 6, 4, 2, 7, 0, 0, 1, 3, 0, 2, 2, 0, 5, 2, 9, 0, 2, 0, -1, 3, 0, 128, 7, 0, 2, 9, 0, 5, 3, 0, 128, 7, 0, 0, 24, 4, 9, 0, 2, 0, 0, 3, 0, 127, 7, 0, 2, 17, 0, 9, 4, 5, 3, 0, 127, 7, 0, 0, 1, 3, 0, 2, 2, 0, 5, 2, 12, 0, 2, 0, 0, 3, 0, 128, 3, 0, 127, 7, 0, 0, 12, 4, 8, 3, 0, 128, 3, 0, 127, 7, 0, 0, 1, 3, 0, 128, 7, 0]), (20, [1, 0], [30, -1, 1, 0, 0, -1, 3, 2005000]), (20, [2, 0], [30, -1, 1, 0, 0, -1, 3, 2005000]), (20, [0, 2, 1], [50, 0, 1, 128, 2, 9, 0, 2, 0, 0, 3, 0, 128, 1, 1, 2, 9, 0, 5, 3, 0, 128, 1, 1, 0, 23, 0, 5, 3, 0, 128, 1, 2, 0, -1]), (20, [0, 3], [60, 1, 5, 813, 5, 2, 127, 128, 16, 129])], [(6, (0, 0, 23, []))], [], [], [], [])
theorem oo_Mo_hangs_0 {kA : Nat → ClassId} : or_ok PRD kA GG o_Mo_hangs_0 := by
  refine or_mk fun A ta ws vs hD hth hl => ?_
  intro t0 r0 t1 k1 t2 k2 t3 k3 t4 r4 t5 r5 t6 k6 f0 f1 f2 f3 f4 ta1 w1 le1 s1 f6 f7 f8 f9 f10 f11
  replace f0 := shm_107 f0
  replace f1 := shm_598 f1
  have s1 : (∀ b j, w_el ws b j = if b = v_ad (n_v vs 4) ∧ j = (v_iv (n_v vs 1)).toNat then v_iv (n_v vs 2) else w_el w1 b j) ∧ ∀ b k, w_fd ws b k = w_fd w1 b k := s1.2
  replace f6 := shm_600 f6
  replace f7 := shm_601 f7
  replace f8 := shm_269 f8
  replace f9 := shm_269 f9
  replace f10 := shm_599 f10
  replace f11 := shm_602 f11
  have ar_0_2_1 : w_ar w1 (n_v vs 0) 2 = w_ar ws (n_v vs 0) 2 := congrArg v_ad (s1.2 _ _).symm
  have cr_0_2 := fdq_10 hD hth r0
  have ar_0_16_1 : w_ar w1 (n_v vs 0) 16 = w_ar ws (n_v vs 0) 16 := congrArg v_ad (s1.2 _ _).symm
  have cr_0_16 := fdq_153 hD hth r0
  have ar_0_127_1 : w_ar w1 (n_v vs 0) 127 = w_ar ws (n_v vs 0) 127 := congrArg v_ad (s1.2 _ _).symm
  have cr_0_127 := fdq_154 hD hth r0
  have ar_0_128_1 : w_ar w1 (n_v vs 0) 128 = w_ar ws (n_v vs 0) 128 := congrArg v_ad (s1.2 _ _).symm
  have cr_0_128 := fdq_155 hD hth r0
  have ar_0_129_1 : w_ar w1 (n_v vs 0) 129 = w_ar ws (n_v vs 0) 129 := congrArg v_ad (s1.2 _ _).symm
  have cr_0_129 := fdq_156 hD hth r0
  have fi_0_5_1 : w_fi w1 (n_v vs 0) 5 = w_fi ws (n_v vs 0) 5 := by show v_iv (w_fd w1 _ _) = v_iv (w_fd ws _ _); rw [s1.2]
  have ad_5 : v_ad (n_v vs 5) = w_ar ws (n_v vs 0) 128 := congrArg v_ad f1
  have ad_4 : v_ad (n_v vs 4) = w_ar ws (n_v vs 0) 127 := (congrArg v_ad f6).trans ar_0_127_1
  simp only [ad_5] at f0
  have h0 : v_iv (n_v vs 6) = w_ei ws (w_ar ws (n_v vs 0) 128) (v_iv (n_v vs 2)) := f0
  simp only [ar_0_2_1, ar_0_127_1, ar_0_128_1, ar_0_16_1, ar_0_129_1] at f7 f8 f9 f10 f11
  simp only [fi_0_5_1] at f8 f9
  have fe_0_5_1 : w_fi ws (n_v vs 0) 5 = w_fi w1 (n_v vs 0) 5 := congrArg v_iv (s1.2 _ _)
  have hE_0_2_1 : ∀ j : Int, w_ei ws (w_ar ws (n_v vs 0) 2) j = w_ei w1 (w_ar ws (n_v vs 0) 2) j := el_kp s1.1 r4 cr_0_2 (by decide)
  have hE_0_16_1 : ∀ j : Int, w_ei ws (w_ar ws (n_v vs 0) 16) j = w_ei w1 (w_ar ws (n_v vs 0) 16) j := el_kp s1.1 r4 cr_0_16 (by decide)
  have hK_0_16 := elq_86 hD hth cr_0_16
  have hE_0_127_1 : ∀ j : Int, 0 ≤ j → (j = v_iv (n_v vs 1) → w_ei ws (w_ar ws (n_v vs 0) 127) j = v_iv (n_v vs 2)) ∧ (j ≠ v_iv (n_v vs 1) → w_ei ws (w_ar ws (n_v vs 0) 127) j = w_ei w1 (w_ar ws (n_v vs 0) 127) j) := fun j hj => ⟨fun h => by unfold w_ei; rw [s1.1, if_pos ⟨ad_4.symm, by rw [h]⟩], fun h => by unfold w_ei; rw [s1.1, if_neg (fun e => h (by have := e.2; omega))]⟩
  have hK_0_127 := elq_87 hD hth cr_0_127
  have hE_0_128_1 : ∀ j : Int, w_ei ws (w_ar ws (n_v vs 0) 128) j = w_ei w1 (w_ar ws (n_v vs 0) 128) j := el_kp s1.1 r4 cr_0_128 (by decide)
  have hK_0_128 := elq_88 hD hth cr_0_128
  have hE_0_129_1 : ∀ j : Int, w_ei ws (w_ar ws (n_v vs 0) 129) j = w_ei w1 (w_ar ws (n_v vs 0) 129) j := el_kp s1.1 r4 cr_0_129 (by decide)
  have hK_0_129 := elq_89 hD hth cr_0_129
  have hrf0 : 0 ≤ v_iv (n_v vs 6) ∧ v_iv (n_v vs 6) ≤ 23 := vc_Mo_hangs_0_r0 (v_iv (n_v vs 1)) (v_iv (n_v vs 2)) (v_iv (n_v vs 3)) (v_iv (n_v vs 6)) (w_ei ws (w_ar ws (n_v vs 0) 128)) (w_ei ws (w_ar ws (n_v vs 0) 2)) (w_fi ws (n_v vs 0) 5) (w_ei w1 (w_ar ws (n_v vs 0) 2)) (w_ei w1 (w_ar ws (n_v vs 0) 128)) (w_ei w1 (w_ar ws (n_v vs 0) 127)) (w_fi w1 (n_v vs 0) 5) (w_ei w1 (w_ar ws (n_v vs 0) 16)) (w_ei w1 (w_ar ws (n_v vs 0) 129)) (w_ei ws (w_ar ws (n_v vs 0) 16)) (w_ei ws (w_ar ws (n_v vs 0) 127)) (w_ei ws (w_ar ws (n_v vs 0) 129)) k1 k2 k3 k6 h0 (shm_269 f2) (shm_269 f3) (shm_599 f4) f7 f8 f9 f10 f11 fe_0_5_1 hE_0_2_1 hE_0_16_1 hK_0_16 hE_0_127_1 hK_0_127 hE_0_128_1 hK_0_128 hE_0_129_1 hK_0_129
  have rf6 : tv_ok ta (0, 0, 23, []) (n_v vs 6) := tv_in t6 (by first | omega | grind) (by first | omega | grind)
  refine ⟨List.forall_mem_cons.mpr ⟨rf6, (fun _ h => (by cases h))⟩, [], trivial, ?_, (fun _ h => (by cases h))⟩
  rw [List.append_nil]
  exact (fun _ h => (by cases h))
set_option maxHeartbeats 4000000 in
theorem vc_Mo_hangs_1_0 (x1 : Int) (x2 : Int) (x3 : Int) (x6 : Int) (x7 : Int) (x8 : Int) (all_0 : Int → Int) (r_0 : Int) (level_1 : Int → Int) (all_1 : Int → Int) (all_2 : Int → Int) (level_2 : Int → Int) (above_2 : Int → Int) (r_2 : Int) (partOf_2 : Int → Int) (root_2 : Int → Int) (r_1 : Int) (partOf_0 : Int → Int) (partOf_1 : Int → Int) (above_0 : Int → Int) (above_1 : Int → Int) (level_0 : Int → Int) (root_0 : Int → Int) (root_1 : Int → Int) (k1 : 0 ≤ x1 ∧ x1 ≤ 23) (k2 : 0 ≤ x2 ∧ x2 ≤ 23) (k3 : 0 ≤ x3 ∧ x3 ≤ 24) (k6 : 0 ≤ x6 ∧ x6 ≤ 23) (k7 : 1 ≤ x7 ∧ x7 ≤ 1) (k8 : 1 ≤ x8 ∧ x8 ≤ 24) (d0 : x6 + 1 ≤ x8 ∧ x8 ≤ x6 + 1) (f0 : 1 * x1 + ((-1) * all_0 (r_0 + 0) + 0) ≤ (-1)) (f1 : 1 * x2 + ((-1) * all_0 (r_0 + 0) + 0) ≤ (-1)) (f3 : x8 = x6 + x7) (h4 : x6 = level_1 (x2)) (f6 : 1 * x1 + ((-1) * all_1 (r_0 + 0) + 0) ≤ (-1)) (f7 : 1 * x2 + ((-1) * all_1 (r_0 + 0) + 0) ≤ (-1)) (f8 : (0 ≤ level_1 (x2)) ∧ ((level_1 (x2) ≤ 23) ∧ (level_1 (x1) ≤ (-1)))) (f11 : ∀ j0 : Int, 0 ≤ j0 → j0 < 24 → (((j0 + 1) ≤ all_2 (r_2)) → (((-1) ≤ level_2 (j0)) ∧ ((level_2 (j0) ≤ 24) ∧ ((0 ≤ above_2 (j0)) → (((above_2 (j0) + 1) ≤ all_2 (r_2)) ∧ ((0 ≤ level_2 (above_2 (j0))) ∧ ((level_2 (above_2 (j0)) + 1) ≤ level_2 (j0))))))))) (f12 : 1 * x1 + ((-1) * all_2 (r_0 + 0) + 0) ≤ (-1)) (f13 : 1 * x2 + ((-1) * all_2 (r_0 + 0) + 0) ≤ (-1)) (f14 : (0 ≤ level_2 (x2)) ∧ ((level_2 (x2) ≤ 23) ∧ (level_2 (x1) ≤ (-1)))) (f15 : BFS (r_2) (all_2) (above_2) (level_2) (partOf_2) (root_2) (x3)) (fe_0_5_1 : r_0 = r_1) (fe_0_5_2 : r_1 = r_2) (hE_0_2_1 : ∀ j : Int, all_0 j = all_1 j) (hE_0_2_2 : ∀ j : Int, all_1 j = all_2 j) (hE_0_16_1 : ∀ j : Int, partOf_0 j = partOf_1 j) (hE_0_16_2 : ∀ j : Int, partOf_1 j = partOf_2 j) (hK_0_16 : ∀ j : Int, 0 ≤ j → j < 25 → (-1) ≤ partOf_0 j ∧ partOf_0 j ≤ 24) (hE_0_127_1 : ∀ j : Int, above_0 j = above_1 j) (hE_0_127_2 : ∀ j : Int, 0 ≤ j → (j = x1 → above_1 j = x2) ∧ (j ≠ x1 → above_1 j = above_2 j)) (hK_0_127 : ∀ j : Int, 0 ≤ j → j < 26 → (-1) ≤ above_0 j ∧ above_0 j ≤ 23) (hE_0_128_1 : ∀ j : Int, 0 ≤ j → (j = x1 → level_0 j = x8) ∧ (j ≠ x1 → level_0 j = level_1 j)) (hE_0_128_2 : ∀ j : Int, level_1 j = level_2 j) (hK_0_128 : ∀ j : Int, 0 ≤ j → j < 26 → (-23) ≤ level_0 j ∧ level_0 j ≤ 24) (hE_0_129_1 : ∀ j : Int, root_0 j = root_1 j) (hE_0_129_2 : ∀ j : Int, root_1 j = root_2 j) (hK_0_129 : ∀ j : Int, 0 ≤ j → j < 26 → (-1) ≤ root_0 j ∧ root_0 j ≤ 23) : ∀ j0 : Int, 0 ≤ j0 → j0 < 24 → (((j0 + 1) ≤ all_0 (r_0)) → (((-1) ≤ level_0 (j0)) ∧ ((level_0 (j0) ≤ 24) ∧ ((0 ≤ above_0 (j0)) → (((above_0 (j0) + 1) ≤ all_0 (r_0)) ∧ ((0 ≤ level_0 (above_0 (j0))) ∧ ((level_0 (above_0 (j0)) + 1) ≤ level_0 (j0)))))))) := by
  subst fe_0_5_1
  subst fe_0_5_2
  have e_hE_0_2_1 := funext hE_0_2_1; subst e_hE_0_2_1
  have e_hE_0_2_2 := funext hE_0_2_2; subst e_hE_0_2_2
  have e_hE_0_16_1 := funext hE_0_16_1; subst e_hE_0_16_1
  have e_hE_0_16_2 := funext hE_0_16_2; subst e_hE_0_16_2
  have e_hE_0_127_1 := funext hE_0_127_1; subst e_hE_0_127_1
  have e_hE_0_128_2 := funext hE_0_128_2; subst e_hE_0_128_2
  have e_hE_0_129_1 := funext hE_0_129_1; subst e_hE_0_129_1
  have e_hE_0_129_2 := funext hE_0_129_2; subst e_hE_0_129_2
  try simp only [Int.add_zero] at *
  first
    | omega
    | exact ab_hang (i := x1) (f := x2) (u := x6) (by assumption) (by omega) (by omega) (by omega) (by omega) (by omega) (by omega) (by omega) (by omega) (by assumption) (by omega) (by omega) (by assumption) (by omega) (by assumption) (by omega)
  
set_option maxHeartbeats 4000000 in
theorem vc_Mo_hangs_1_1 (x1 : Int) (x2 : Int) (x3 : Int) (x6 : Int) (x7 : Int) (x8 : Int) (all_0 : Int → Int) (r_0 : Int) (level_1 : Int → Int) (all_1 : Int → Int) (all_2 : Int → Int) (level_2 : Int → Int) (above_2 : Int → Int) (r_2 : Int) (partOf_2 : Int → Int) (root_2 : Int → Int) (r_1 : Int) (partOf_0 : Int → Int) (partOf_1 : Int → Int) (above_0 : Int → Int) (above_1 : Int → Int) (level_0 : Int → Int) (root_0 : Int → Int) (root_1 : Int → Int) (k1 : 0 ≤ x1 ∧ x1 ≤ 23) (k2 : 0 ≤ x2 ∧ x2 ≤ 23) (k3 : 0 ≤ x3 ∧ x3 ≤ 24) (k6 : 0 ≤ x6 ∧ x6 ≤ 23) (k7 : 1 ≤ x7 ∧ x7 ≤ 1) (k8 : 1 ≤ x8 ∧ x8 ≤ 24) (d0 : x6 + 1 ≤ x8 ∧ x8 ≤ x6 + 1) (f0 : 1 * x1 + ((-1) * all_0 (r_0 + 0) + 0) ≤ (-1)) (f1 : 1 * x2 + ((-1) * all_0 (r_0 + 0) + 0) ≤ (-1)) (f3 : x8 = x6 + x7) (h4 : x6 = level_1 (x2)) (f6 : 1 * x1 + ((-1) * all_1 (r_0 + 0) + 0) ≤ (-1)) (f7 : 1 * x2 + ((-1) * all_1 (r_0 + 0) + 0) ≤ (-1)) (f8 : (0 ≤ level_1 (x2)) ∧ ((level_1 (x2) ≤ 23) ∧ (level_1 (x1) ≤ (-1)))) (f11 : ∀ j0 : Int, 0 ≤ j0 → j0 < 24 → (((j0 + 1) ≤ all_2 (r_2)) → (((-1) ≤ level_2 (j0)) ∧ ((level_2 (j0) ≤ 24) ∧ ((0 ≤ above_2 (j0)) → (((above_2 (j0) + 1) ≤ all_2 (r_2)) ∧ ((0 ≤ level_2 (above_2 (j0))) ∧ ((level_2 (above_2 (j0)) + 1) ≤ level_2 (j0))))))))) (f12 : 1 * x1 + ((-1) * all_2 (r_0 + 0) + 0) ≤ (-1)) (f13 : 1 * x2 + ((-1) * all_2 (r_0 + 0) + 0) ≤ (-1)) (f14 : (0 ≤ level_2 (x2)) ∧ ((level_2 (x2) ≤ 23) ∧ (level_2 (x1) ≤ (-1)))) (f15 : BFS (r_2) (all_2) (above_2) (level_2) (partOf_2) (root_2) (x3)) (fe_0_5_1 : r_0 = r_1) (fe_0_5_2 : r_1 = r_2) (hE_0_2_1 : ∀ j : Int, all_0 j = all_1 j) (hE_0_2_2 : ∀ j : Int, all_1 j = all_2 j) (hE_0_16_1 : ∀ j : Int, partOf_0 j = partOf_1 j) (hE_0_16_2 : ∀ j : Int, partOf_1 j = partOf_2 j) (hK_0_16 : ∀ j : Int, 0 ≤ j → j < 25 → (-1) ≤ partOf_0 j ∧ partOf_0 j ≤ 24) (hE_0_127_1 : ∀ j : Int, above_0 j = above_1 j) (hE_0_127_2 : ∀ j : Int, 0 ≤ j → (j = x1 → above_1 j = x2) ∧ (j ≠ x1 → above_1 j = above_2 j)) (hK_0_127 : ∀ j : Int, 0 ≤ j → j < 26 → (-1) ≤ above_0 j ∧ above_0 j ≤ 23) (hE_0_128_1 : ∀ j : Int, 0 ≤ j → (j = x1 → level_0 j = x8) ∧ (j ≠ x1 → level_0 j = level_1 j)) (hE_0_128_2 : ∀ j : Int, level_1 j = level_2 j) (hK_0_128 : ∀ j : Int, 0 ≤ j → j < 26 → (-23) ≤ level_0 j ∧ level_0 j ≤ 24) (hE_0_129_1 : ∀ j : Int, root_0 j = root_1 j) (hE_0_129_2 : ∀ j : Int, root_1 j = root_2 j) (hK_0_129 : ∀ j : Int, 0 ≤ j → j < 26 → (-1) ≤ root_0 j ∧ root_0 j ≤ 23) : BFS (r_0) (all_0) (above_0) (level_0) (partOf_0) (root_0) (x3) := by
  subst fe_0_5_1
  subst fe_0_5_2
  have e_hE_0_2_1 := funext hE_0_2_1; subst e_hE_0_2_1
  have e_hE_0_2_2 := funext hE_0_2_2; subst e_hE_0_2_2
  have e_hE_0_16_1 := funext hE_0_16_1; subst e_hE_0_16_1
  have e_hE_0_16_2 := funext hE_0_16_2; subst e_hE_0_16_2
  have e_hE_0_127_1 := funext hE_0_127_1; subst e_hE_0_127_1
  have e_hE_0_128_2 := funext hE_0_128_2; subst e_hE_0_128_2
  have e_hE_0_129_1 := funext hE_0_129_1; subst e_hE_0_129_1
  have e_hE_0_129_2 := funext hE_0_129_2; subst e_hE_0_129_2
  try simp only [Int.add_zero] at *
  first
    | assumption
    | exact bfs_hang (i := x1) (f := x2) (u := x6) ‹BFS _ _ _ _ _ _ _› (by omega) (by omega) (by omega) (by omega) (by omega) (by omega) (by assumption) (by omega) (by omega) (by assumption) (by omega) (by assumption) (by omega)
  
def o_Mo_hangs_1 : or_T := (21, 9, [(0, (2, 0, 0, [165])), (1, (0, 0, 23, [])), (2, (0, 0, 23, [])), (3, (0, 0, 24, [])), (4, (2, 0, 0, [257])), (5, (2, 0, 0, [258])), (6, (0, 0, 23, [])), (7, (0, 1, 1, [])), (8, (0, 1, 24, []))], [(20, [1, 0], [30, -1, 1, 0, 0, -1, 3, 2005000]), (20, [2, 0], [30, -1, 1, 0, 0, -1, 3, 2005000]), (100, [5, 1, 8], []), (1, [8, 6, 7], []), (10, [6, 5, 2], []), (9, [5, 0], [128]), (20, [1, 0], [30, -1, 1, 0, 0, -1, 3, 2005000]), (20, [2, 0], [30, -1, 1, 0, 0, -1, 3, 2005000]), (20, [0, 2, 1], [50, 0, 1, 128, 2, 9, 0, 2, 0, 0, 3, 0, 128, 1, 1, 2, 9, 0, 5, 3, 0, 128, 1, 1, 0, 23, 0, 5, 3, 0, 128, 1, 2, 0, -1]), (100, [4, 1, 2], []), (9, [4, 0], [127]), (20, [0], [50, 1, 3, 5, 2, 128, 127, 5, 2, 0, 24, 4, 14, 0, 6, 4, 2, 7, 0, 0, 1, 3, 0, 2, 2, 0, 5, 2, 9, 0, 2, 0, -1, 3, 0, 128, 7, 0, 2, 9, 0, 5, 3, 0, 128, 7, 0, 0, 24, 4, 9, 0, 2, 0, 0, 3, 0, 127, 7, 0, 2, 17, 0, 9, 4, 5, 3, 0, 127, 7, 0, 0, 1, 3, 0, 2, 2, 0, 5, 2, 12, 0, 2, 0, 0, 3, 0, 128, 3, 0, 127, 7, 0, 0, 12, 4, 8, 3, 0, 128, 3, 0, 127, 7, 0, 0, 1, 3, 0, 128, 7, 0]), (20, [1, 0], [30, -1, 1, 0, 0, -1, 3, 2005000]), (20, [2, 0], [30, -1, 1, 0, 0, -1, 3, 2005000]), (20, [0, 2, 1], [50, 0, 1, 128, 2, 9, 0, 2, 0, 0, 3, 0, 128, 1, 1, 2, 9, 0, 5, 3, 0, 128, 1, 1, 0, 23, 0, 5, 3, 0, 128, 1, 2, 0, -1]), (20, [0, 3], [60, 1, 5, 813, 5, 2, 127, 128, 16, 129])], [], [], [(20, [0], [50, 1, 3, 5, 2, 128, 127, 5, 2, 0, 24, 4, 14, 0, 6, 4, 2, 7, 0, 0, 1, 3, 0, 2, 2, 0, 5, 2, 9, 0, 2, 0, -1, 3, 0, 128, 7, 0, 2, 9, 0, 5, 3, 0, 128, 7, 0, 0, 24, 4, 9, 0, 2, 0, 0, 3, 0, 127, 7, 0, 2, 17, 0, 9, 4, 5, 3, 0, 127, 7, 0, 0, 1, 3, 0, 2, 2, 0, 5, 2, 12, 0, 2, 0, 0, 3, 0, 128, 3, 0, 127, 7, 0, 0, 12, 4, 8, 3, 0, 128, 3, 0, 127, 7, 0, 0, 1, 3, 0, 128, 7, 0]), (20, [0, 3], [60, 1, 5, 813, 5, 2, 127, 128, 16, 129])], [], [(8, 6, 1, 1)])
theorem oo_Mo_hangs_1 {kA : Nat → ClassId} : or_ok PRD kA GG o_Mo_hangs_1 := by
  refine or_mk fun A ta ws vs hD hth hl => ?_
  intro t0 r0 t1 k1 t2 k2 t3 k3 t4 r4 t5 r5 t6 k6 t7 k7 t8 k8 d0 f0 f1 ta1 w1 le1 s1 f3 f4 f5 f6 f7 f8 ta2 w2 le2 s2 f10 f11 f12 f13 f14 f15
  have s1 : (∀ b j, w_el ws b j = if b = v_ad (n_v vs 5) ∧ j = (v_iv (n_v vs 1)).toNat then v_iv (n_v vs 8) else w_el w1 b j) ∧ ∀ b k, w_fd ws b k = w_fd w1 b k := s1.2
  replace f4 := shm_107 f4
  replace f5 := shm_598 f5
  replace f6 := shm_269 f6
  replace f7 := shm_269 f7
  replace f8 := shm_599 f8
  have s2 : (∀ b j, w_el w1 b j = if b = v_ad (n_v vs 4) ∧ j = (v_iv (n_v vs 1)).toNat then v_iv (n_v vs 2) else w_el w2 b j) ∧ ∀ b k, w_fd w1 b k = w_fd w2 b k := s2.2
  replace f10 := shm_600 f10
  replace f11 := shm_601 f11
  replace f12 := shm_269 f12
  replace f13 := shm_269 f13
  replace f14 := shm_599 f14
  replace f15 := shm_602 f15
  have ar_0_2_1 : w_ar w1 (n_v vs 0) 2 = w_ar ws (n_v vs 0) 2 := congrArg v_ad (s1.2 _ _).symm
  have ar_0_2_2 : w_ar w2 (n_v vs 0) 2 = w_ar ws (n_v vs 0) 2 := by rw [← ar_0_2_1]; show v_ad (w_fd w2 _ _) = v_ad (w_fd w1 _ _); rw [s2.2]
  have cr_0_2 := fdq_10 hD hth r0
  have ar_0_16_1 : w_ar w1 (n_v vs 0) 16 = w_ar ws (n_v vs 0) 16 := congrArg v_ad (s1.2 _ _).symm
  have ar_0_16_2 : w_ar w2 (n_v vs 0) 16 = w_ar ws (n_v vs 0) 16 := by rw [← ar_0_16_1]; show v_ad (w_fd w2 _ _) = v_ad (w_fd w1 _ _); rw [s2.2]
  have cr_0_16 := fdq_153 hD hth r0
  have ar_0_127_1 : w_ar w1 (n_v vs 0) 127 = w_ar ws (n_v vs 0) 127 := congrArg v_ad (s1.2 _ _).symm
  have ar_0_127_2 : w_ar w2 (n_v vs 0) 127 = w_ar ws (n_v vs 0) 127 := by rw [← ar_0_127_1]; show v_ad (w_fd w2 _ _) = v_ad (w_fd w1 _ _); rw [s2.2]
  have cr_0_127 := fdq_154 hD hth r0
  have ar_0_128_1 : w_ar w1 (n_v vs 0) 128 = w_ar ws (n_v vs 0) 128 := congrArg v_ad (s1.2 _ _).symm
  have ar_0_128_2 : w_ar w2 (n_v vs 0) 128 = w_ar ws (n_v vs 0) 128 := by rw [← ar_0_128_1]; show v_ad (w_fd w2 _ _) = v_ad (w_fd w1 _ _); rw [s2.2]
  have cr_0_128 := fdq_155 hD hth r0
  have ar_0_129_1 : w_ar w1 (n_v vs 0) 129 = w_ar ws (n_v vs 0) 129 := congrArg v_ad (s1.2 _ _).symm
  have ar_0_129_2 : w_ar w2 (n_v vs 0) 129 = w_ar ws (n_v vs 0) 129 := by rw [← ar_0_129_1]; show v_ad (w_fd w2 _ _) = v_ad (w_fd w1 _ _); rw [s2.2]
  have cr_0_129 := fdq_156 hD hth r0
  have fi_0_5_1 : w_fi w1 (n_v vs 0) 5 = w_fi ws (n_v vs 0) 5 := by show v_iv (w_fd w1 _ _) = v_iv (w_fd ws _ _); rw [s1.2]
  have fi_0_5_2 : w_fi w2 (n_v vs 0) 5 = w_fi ws (n_v vs 0) 5 := by rw [← fi_0_5_1]; show v_iv (w_fd w2 _ _) = v_iv (w_fd w1 _ _); rw [s2.2]
  have ad_5 : v_ad (n_v vs 5) = w_ar ws (n_v vs 0) 128 := (congrArg v_ad f5).trans ar_0_128_1
  have ad_4 : v_ad (n_v vs 4) = w_ar ws (n_v vs 0) 127 := (congrArg v_ad f10).trans ar_0_127_2
  simp only [ad_5] at f4
  have h4 : v_iv (n_v vs 6) = w_ei w1 (w_ar ws (n_v vs 0) 128) (v_iv (n_v vs 2)) := f4
  simp only [ar_0_2_1, ar_0_128_1, ar_0_2_2, ar_0_127_2, ar_0_128_2, ar_0_16_2, ar_0_129_2] at f6 f7 f8 f11 f12 f13 f14 f15
  simp only [fi_0_5_1] at f6 f7
  simp only [fi_0_5_2] at f12 f13
  have fe_0_5_1 : w_fi ws (n_v vs 0) 5 = w_fi w1 (n_v vs 0) 5 := congrArg v_iv (s1.2 _ _)
  have fe_0_5_2 : w_fi w1 (n_v vs 0) 5 = w_fi w2 (n_v vs 0) 5 := congrArg v_iv (s2.2 _ _)
  have hE_0_2_1 : ∀ j : Int, w_ei ws (w_ar ws (n_v vs 0) 2) j = w_ei w1 (w_ar ws (n_v vs 0) 2) j := el_kp s1.1 r5 cr_0_2 (by decide)
  have hE_0_2_2 : ∀ j : Int, w_ei w1 (w_ar ws (n_v vs 0) 2) j = w_ei w2 (w_ar ws (n_v vs 0) 2) j := el_kp s2.1 r4 cr_0_2 (by decide)
  have hE_0_16_1 : ∀ j : Int, w_ei ws (w_ar ws (n_v vs 0) 16) j = w_ei w1 (w_ar ws (n_v vs 0) 16) j := el_kp s1.1 r5 cr_0_16 (by decide)
  have hE_0_16_2 : ∀ j : Int, w_ei w1 (w_ar ws (n_v vs 0) 16) j = w_ei w2 (w_ar ws (n_v vs 0) 16) j := el_kp s2.1 r4 cr_0_16 (by decide)
  have hK_0_16 := elq_86 hD hth cr_0_16
  have hE_0_127_1 : ∀ j : Int, w_ei ws (w_ar ws (n_v vs 0) 127) j = w_ei w1 (w_ar ws (n_v vs 0) 127) j := el_kp s1.1 r5 cr_0_127 (by decide)
  have hE_0_127_2 : ∀ j : Int, 0 ≤ j → (j = v_iv (n_v vs 1) → w_ei w1 (w_ar ws (n_v vs 0) 127) j = v_iv (n_v vs 2)) ∧ (j ≠ v_iv (n_v vs 1) → w_ei w1 (w_ar ws (n_v vs 0) 127) j = w_ei w2 (w_ar ws (n_v vs 0) 127) j) := fun j hj => ⟨fun h => by unfold w_ei; rw [s2.1, if_pos ⟨ad_4.symm, by rw [h]⟩], fun h => by unfold w_ei; rw [s2.1, if_neg (fun e => h (by have := e.2; omega))]⟩
  have hK_0_127 := elq_87 hD hth cr_0_127
  have hE_0_128_1 : ∀ j : Int, 0 ≤ j → (j = v_iv (n_v vs 1) → w_ei ws (w_ar ws (n_v vs 0) 128) j = v_iv (n_v vs 8)) ∧ (j ≠ v_iv (n_v vs 1) → w_ei ws (w_ar ws (n_v vs 0) 128) j = w_ei w1 (w_ar ws (n_v vs 0) 128) j) := fun j hj => ⟨fun h => by unfold w_ei; rw [s1.1, if_pos ⟨ad_5.symm, by rw [h]⟩], fun h => by unfold w_ei; rw [s1.1, if_neg (fun e => h (by have := e.2; omega))]⟩
  have hE_0_128_2 : ∀ j : Int, w_ei w1 (w_ar ws (n_v vs 0) 128) j = w_ei w2 (w_ar ws (n_v vs 0) 128) j := el_kp s2.1 r4 cr_0_128 (by decide)
  have hK_0_128 := elq_88 hD hth cr_0_128
  have hE_0_129_1 : ∀ j : Int, w_ei ws (w_ar ws (n_v vs 0) 129) j = w_ei w1 (w_ar ws (n_v vs 0) 129) j := el_kp s1.1 r5 cr_0_129 (by decide)
  have hE_0_129_2 : ∀ j : Int, w_ei w1 (w_ar ws (n_v vs 0) 129) j = w_ei w2 (w_ar ws (n_v vs 0) 129) j := el_kp s2.1 r4 cr_0_129 (by decide)
  have hK_0_129 := elq_89 hD hth cr_0_129
  have nf0 : fc_1 PRD (20, [0], [50, 1, 3, 5, 2, 128, 127, 5, 2, 0, 24, 4, 14, 0, 6, 4, 2, 7, 0, 0, 1, 3, 0, 2, 2, 0, 5, 2, 9, 0, 2, 0, -1, 3, 0, 128, 7, 0, 2, 9, 0, 5, 3, 0, 128, 7, 0, 0, 24, 4, 9, 0, 2, 0, 0, 3, 0, 127, 7, 0, 2, 17, 0, 9, 4, 5, 3, 0, 127, 7, 0, 0, 1, 3, 0, 2, 2, 0, 5, 2, 12, 0, 2, 0, 0, 3, 0, 128, 3, 0, 127, 7, 0, 0, 12, 4, 8, 3, 0, 128, 3, 0, 127, 7, 0, 0, 1, 3, 0, 128, 7, 0]) ws (vs) := ⟨nf_in hl rfl, sgq_601 (vc_Mo_hangs_1_0 (v_iv (n_v vs 1)) (v_iv (n_v vs 2)) (v_iv (n_v vs 3)) (v_iv (n_v vs 6)) (v_iv (n_v vs 7)) (v_iv (n_v vs 8)) (w_ei ws (w_ar ws (n_v vs 0) 2)) (w_fi ws (n_v vs 0) 5) (w_ei w1 (w_ar ws (n_v vs 0) 128)) (w_ei w1 (w_ar ws (n_v vs 0) 2)) (w_ei w2 (w_ar ws (n_v vs 0) 2)) (w_ei w2 (w_ar ws (n_v vs 0) 128)) (w_ei w2 (w_ar ws (n_v vs 0) 127)) (w_fi w2 (n_v vs 0) 5) (w_ei w2 (w_ar ws (n_v vs 0) 16)) (w_ei w2 (w_ar ws (n_v vs 0) 129)) (w_fi w1 (n_v vs 0) 5) (w_ei ws (w_ar ws (n_v vs 0) 16)) (w_ei w1 (w_ar ws (n_v vs 0) 16)) (w_ei ws (w_ar ws (n_v vs 0) 127)) (w_ei w1 (w_ar ws (n_v vs 0) 127)) (w_ei ws (w_ar ws (n_v vs 0) 128)) (w_ei ws (w_ar ws (n_v vs 0) 129)) (w_ei w1 (w_ar ws (n_v vs 0) 129)) k1 k2 k3 k6 k7 k8 d0 (shm_269 f0) (shm_269 f1) (shm_12 f3) h4 f6 f7 f8 f11 f12 f13 f14 f15 fe_0_5_1 fe_0_5_2 hE_0_2_1 hE_0_2_2 hE_0_16_1 hE_0_16_2 hK_0_16 hE_0_127_1 hE_0_127_2 hK_0_127 hE_0_128_1 hE_0_128_2 hK_0_128 hE_0_129_1 hE_0_129_2 hK_0_129)⟩
  have nf1 : fc_1 PRD (20, [0, 3], [60, 1, 5, 813, 5, 2, 127, 128, 16, 129]) ws (vs) := ⟨nf_in hl rfl, sgq_602 (vc_Mo_hangs_1_1 (v_iv (n_v vs 1)) (v_iv (n_v vs 2)) (v_iv (n_v vs 3)) (v_iv (n_v vs 6)) (v_iv (n_v vs 7)) (v_iv (n_v vs 8)) (w_ei ws (w_ar ws (n_v vs 0) 2)) (w_fi ws (n_v vs 0) 5) (w_ei w1 (w_ar ws (n_v vs 0) 128)) (w_ei w1 (w_ar ws (n_v vs 0) 2)) (w_ei w2 (w_ar ws (n_v vs 0) 2)) (w_ei w2 (w_ar ws (n_v vs 0) 128)) (w_ei w2 (w_ar ws (n_v vs 0) 127)) (w_fi w2 (n_v vs 0) 5) (w_ei w2 (w_ar ws (n_v vs 0) 16)) (w_ei w2 (w_ar ws (n_v vs 0) 129)) (w_fi w1 (n_v vs 0) 5) (w_ei ws (w_ar ws (n_v vs 0) 16)) (w_ei w1 (w_ar ws (n_v vs 0) 16)) (w_ei ws (w_ar ws (n_v vs 0) 127)) (w_ei w1 (w_ar ws (n_v vs 0) 127)) (w_ei ws (w_ar ws (n_v vs 0) 128)) (w_ei ws (w_ar ws (n_v vs 0) 129)) (w_ei w1 (w_ar ws (n_v vs 0) 129)) k1 k2 k3 k6 k7 k8 d0 (shm_269 f0) (shm_269 f1) (shm_12 f3) h4 f6 f7 f8 f11 f12 f13 f14 f15 fe_0_5_1 fe_0_5_2 hE_0_2_1 hE_0_2_2 hE_0_16_1 hE_0_16_2 hK_0_16 hE_0_127_1 hE_0_127_2 hK_0_127 hE_0_128_1 hE_0_128_2 hK_0_128 hE_0_129_1 hE_0_129_2 hK_0_129)⟩
  refine ⟨(fun _ h => (by cases h)), [], trivial, ?_, (fun _ h => (by cases h))⟩
  rw [List.append_nil]
  exact List.forall_mem_cons.mpr ⟨⟨show (20 : Nat) < 100 from by decide, nf0⟩, List.forall_mem_cons.mpr ⟨⟨show (20 : Nat) < 100 from by decide, nf1⟩, (fun _ h => (by cases h))⟩⟩
def n_Mo_hangs_an : List an_T := []
def t_Mo_hangs_ct : ct_L := []
set_option maxRecDepth 100000 in
theorem c_Mo_hangs {l : Launch} {D : va_G} {kA : Nat → ClassId} : ct_ok PRD l D kA GG y_Mo_hangs z_Mo_hangs e_Mo_hangs := chk_all_ok (FT := [(290, 13, 127), (293, 13, 128)]) (PT := []) (CT := t_Mo_hangs_ct) (KT := []) (NT := []) (AN := n_Mo_hangs_an) (OT := [o_Mo_hangs_0, o_Mo_hangs_1]) 0 200 (List.forall_mem_cons.mpr ⟨oo_Mo_hangs_0, List.forall_mem_cons.mpr ⟨oo_Mo_hangs_1, List.forall_mem_nil _⟩⟩) (by decide +kernel) ⟨List.forall_mem_cons.mpr ⟨gf_Mo_290, List.forall_mem_cons.mpr ⟨gf_Mo_293, List.forall_mem_nil _⟩⟩, List.forall_mem_nil _, List.forall_mem_nil _, List.forall_mem_nil _, List.forall_mem_nil _, GG_pl⟩ (by decide +kernel)
set_option maxHeartbeats 4000000 in
theorem vc_Mo_head_0_0 (x1 : Int) (x3 : Int) (x4 : Int) (x5 : Int) (x6 : Int) (x7 : Int) (all_0 : Int → Int) (r_0 : Int) (k1 : 0 ≤ x1 ∧ x1 ≤ 47) (k3 : 0 ≤ x3 ∧ x3 ≤ 66297) (k4 : 315 ≤ x4 ∧ x4 ≤ 315) (k5 : 315 ≤ x5 ∧ x5 ≤ 66612) (k6 : 315 ≤ x6 ∧ x6 ≤ 66659) (k7 : 0 ≤ x7 ∧ x7 ≤ 23) (d0 : x1 + 315 ≤ x6 ∧ x6 ≤ x1 + 66612) (d1 : x5 + 0 ≤ x6 ∧ x6 ≤ x5 + 47) (d2 : x3 + 315 ≤ x6 ∧ x6 ≤ x3 + 362) (d3 : x3 + 315 ≤ x5 ∧ x5 ≤ x3 + 315) (h0 : x7 = all_0 (x6)) (f1 : x6 = x5 + x1) (f2 : x5 = x3 + x4) (g3 : x3 = r_0) : x7 = all_0 (((r_0 + 315) + x1)) := by
  first | assumption | omega | grind
def o_Mo_head_0 : or_T := (15, 8, [(1, (0, 0, 47, [])), (3, (0, 0, 66297, [])), (4, (0, 315, 315, [])), (5, (0, 315, 66612, [])), (6, (0, 315, 66659, [])), (7, (0, 0, 23, []))], [(10, [7, 2, 6], []), (1, [6, 5, 1], []), (1, [5, 3, 4], []), (9, [3, 0], [5]), (9, [2, 0], [2])], [], [], [(20, [7, 0, 1], [50, 1, 1, 1005, 1002, 1, 2, 1, 0, 3, 1, 2, 4, 7, 4, 3, 2, 1, 5, 0, 315, 1, 2])], [], [(6, 1, 315, 66612), (6, 5, 0, 47), (6, 3, 315, 362), (5, 3, 315, 315)])
theorem oo_Mo_head_0 {kA : Nat → ClassId} : or_ok PRD kA GG o_Mo_head_0 := by
  refine or_mk fun A ta ws vs hD hth hl => ?_
  intro t1 k1 t3 k3 t4 k4 t5 k5 t6 k6 t7 k7 d0 d1 d2 d3 f0 f1 f2 f3 f4
  replace f0 := shm_107 f0
  replace f3 := shm_110 f3
  replace f4 := shm_120 f4
  have ad_2 : v_ad (n_v vs 2) = w_ar ws (n_v vs 0) 2 := congrArg v_ad f4
  simp only [ad_2] at f0
  have h0 : v_iv (n_v vs 7) = w_ei ws (w_ar ws (n_v vs 0) 2) (v_iv (n_v vs 6)) := f0
  have g3 : v_iv (n_v vs 3) = w_fi ws (n_v vs 0) 5 := congrArg v_iv f3
  have nf0 : fc_1 PRD (20, [7, 0, 1], [50, 1, 1, 1005, 1002, 1, 2, 1, 0, 3, 1, 2, 4, 7, 4, 3, 2, 1, 5, 0, 315, 1, 2]) ws (vs) := ⟨nf_in hl rfl, sgq_603 (vc_Mo_head_0_0 (v_iv (n_v vs 1)) (v_iv (n_v vs 3)) (v_iv (n_v vs 4)) (v_iv (n_v vs 5)) (v_iv (n_v vs 6)) (v_iv (n_v vs 7)) (w_ei ws (w_ar ws (n_v vs 0) 2)) (w_fi ws (n_v vs 0) 5) k1 k3 k4 k5 k6 k7 d0 d1 d2 d3 h0 (shm_12 f1) (shm_12 f2) g3)⟩
  refine ⟨(fun _ h => (by cases h)), [], trivial, ?_, (fun _ h => (by cases h))⟩
  rw [List.append_nil]
  exact List.forall_mem_cons.mpr ⟨⟨show (20 : Nat) < 100 from by decide, nf0⟩, (fun _ h => (by cases h))⟩
def n_Mo_head_an : List an_T := []
def t_Mo_head_ct : ct_L := []
set_option maxRecDepth 100000 in
theorem c_Mo_head {l : Launch} {D : va_G} {kA : Nat → ClassId} : ct_ok PRD l D kA GG y_Mo_head z_Mo_head e_Mo_head := chk_all_ok (FT := [(16, 13, 2), (391, 13, 5)]) (PT := []) (CT := t_Mo_head_ct) (KT := []) (NT := []) (AN := n_Mo_head_an) (OT := [o_Mo_head_0]) 0 200 (List.forall_mem_cons.mpr ⟨oo_Mo_head_0, List.forall_mem_nil _⟩) (by decide +kernel) ⟨List.forall_mem_cons.mpr ⟨gf_Mo_16, List.forall_mem_cons.mpr ⟨gf_Mo_391, List.forall_mem_nil _⟩⟩, List.forall_mem_nil _, List.forall_mem_nil _, List.forall_mem_nil _, List.forall_mem_nil _, GG_pl⟩ (by decide +kernel)

set_option maxHeartbeats 4000000 in
theorem vc_Mo_isAhead_0_0 (x1 : Int) (x2 : Int) (x3 : Int) (all_0 : Int → Int) (level_0 : Int → Int) (above_0 : Int → Int) (r_0 : Int) (gx : Int) (k1 : 0 ≤ x1 ∧ x1 ≤ 23) (k2 : (-1) ≤ x2 ∧ x2 ≤ 23) (k3 : 0 ≤ x3 ∧ x3 ≤ 23) (f0 : ∀ j0 : Int, 0 ≤ j0 → j0 < 24 → (((j0 + 1) ≤ all_0 (r_0)) → (((-1) ≤ level_0 (j0)) ∧ ((level_0 (j0) ≤ 24) ∧ ((0 ≤ above_0 (j0)) → (((above_0 (j0) + 1) ≤ all_0 (r_0)) ∧ ((0 ≤ level_0 (above_0 (j0))) ∧ ((level_0 (above_0 (j0)) + 1) ≤ level_0 (j0))))))))) (f1 : 1 * x1 + ((-1) * all_0 (r_0 + 0) + 0) ≤ (-1)) (hK_0_127 : ∀ j : Int, 0 ≤ j → j < 26 → (-1) ≤ above_0 j ∧ above_0 j ≤ 23) (hK_0_128 : ∀ j : Int, 0 ≤ j → j < 26 → (-23) ≤ level_0 j ∧ level_0 j ≤ 24) (ex2 : gx = 60) (ex3 : (-2) ≤ gx ∧ gx ≤ 60) : ∀ j0 : Int, 0 ≤ j0 → j0 < 24 → (((j0 + 1) ≤ all_0 (r_0)) → (((-1) ≤ level_0 (j0)) ∧ ((level_0 (j0) ≤ 24) ∧ ((0 ≤ above_0 (j0)) → (((above_0 (j0) + 1) ≤ all_0 (r_0)) ∧ ((0 ≤ level_0 (above_0 (j0))) ∧ ((level_0 (above_0 (j0)) + 1) ≤ level_0 (j0)))))))) := by
  try simp only [Int.add_zero] at *
  first
    | omega
    | (have q := hK_0_128 x1 (by omega) (by omega); right; exact ⟨by omega, by omega⟩)
    | (have q := hK_0_128 x8 (by omega) (by omega); have g := f5 x8 (by omega) (by omega) (by omega); omega)
    | (have e : x12 = above_0 x8 := by assumption
       have g := f5 x8 (by omega) (by omega) (by omega)
       by_cases w : 0 ≤ x12
       · right
         have g2 := g.2.2 (by omega)
         rw [← e] at g2
         omega
       · left; omega)
  
set_option maxHeartbeats 4000000 in
theorem vc_Mo_isAhead_0_1 (x1 : Int) (x2 : Int) (x3 : Int) (all_0 : Int → Int) (level_0 : Int → Int) (above_0 : Int → Int) (r_0 : Int) (gx : Int) (k1 : 0 ≤ x1 ∧ x1 ≤ 23) (k2 : (-1) ≤ x2 ∧ x2 ≤ 23) (k3 : 0 ≤ x3 ∧ x3 ≤ 23) (f0 : ∀ j0 : Int, 0 ≤ j0 → j0 < 24 → (((j0 + 1) ≤ all_0 (r_0)) → (((-1) ≤ level_0 (j0)) ∧ ((level_0 (j0) ≤ 24) ∧ ((0 ≤ above_0 (j0)) → (((above_0 (j0) + 1) ≤ all_0 (r_0)) ∧ ((0 ≤ level_0 (above_0 (j0))) ∧ ((level_0 (above_0 (j0)) + 1) ≤ level_0 (j0))))))))) (f1 : 1 * x1 + ((-1) * all_0 (r_0 + 0) + 0) ≤ (-1)) (hK_0_127 : ∀ j : Int, 0 ≤ j → j < 26 → (-1) ≤ above_0 j ∧ above_0 j ≤ 23) (hK_0_128 : ∀ j : Int, 0 ≤ j → j < 26 → (-23) ≤ level_0 j ∧ level_0 j ≤ 24) (ex2 : gx = 60) (ex3 : (-2) ≤ gx ∧ gx ≤ 60) : (x1 ≤ (-1)) ∨ (((x1 + 1) ≤ all_0 (r_0)) ∧ ((level_0 (x1) + 0) ≤ gx)) := by
  try simp only [Int.add_zero] at *
  first
    | omega
    | (have q := hK_0_128 x1 (by omega) (by omega); right; exact ⟨by omega, by omega⟩)
    | (have q := hK_0_128 x8 (by omega) (by omega); have g := f5 x8 (by omega) (by omega) (by omega); omega)
    | (have e : x12 = above_0 x8 := by assumption
       have g := f5 x8 (by omega) (by omega) (by omega)
       by_cases w : 0 ≤ x12
       · right
         have g2 := g.2.2 (by omega)
         rw [← e] at g2
         omega
       · left; omega)
  
set_option maxHeartbeats 4000000 in
theorem vc_Mo_isAhead_0_2 (x1 : Int) (x2 : Int) (x3 : Int) (all_0 : Int → Int) (level_0 : Int → Int) (above_0 : Int → Int) (r_0 : Int) (gx : Int) (k1 : 0 ≤ x1 ∧ x1 ≤ 23) (k2 : (-1) ≤ x2 ∧ x2 ≤ 23) (k3 : 0 ≤ x3 ∧ x3 ≤ 23) (f0 : ∀ j0 : Int, 0 ≤ j0 → j0 < 24 → (((j0 + 1) ≤ all_0 (r_0)) → (((-1) ≤ level_0 (j0)) ∧ ((level_0 (j0) ≤ 24) ∧ ((0 ≤ above_0 (j0)) → (((above_0 (j0) + 1) ≤ all_0 (r_0)) ∧ ((0 ≤ level_0 (above_0 (j0))) ∧ ((level_0 (above_0 (j0)) + 1) ≤ level_0 (j0))))))))) (f1 : 1 * x1 + ((-1) * all_0 (r_0 + 0) + 0) ≤ (-1)) (hK_0_127 : ∀ j : Int, 0 ≤ j → j < 26 → (-1) ≤ above_0 j ∧ above_0 j ≤ 23) (hK_0_128 : ∀ j : Int, 0 ≤ j → j < 26 → (-23) ≤ level_0 j ∧ level_0 j ≤ 24) (ex2 : gx = 60) (ex3 : (-2) ≤ gx ∧ gx ≤ 60) : AH1 (above_0) (x1) (x2) (x1) := by
  first
    | assumption
    | exact fun _ _ => by omega
    | (intro a b
       have h := ‹AH1 _ _ _ _› a b
       have e : x11 = above_0 x8 := by assumption
       rw [h, b] at e
       exfalso; omega)
  
def o_Mo_isAhead_0 : or_T := (3, 4, [(0, (2, 0, 0, [165])), (1, (0, 0, 23, [])), (2, (0, -1, 23, [])), (3, (0, 0, 23, []))], [(20, [0], [50, 1, 3, 5, 2, 128, 127, 5, 2, 0, 24, 4, 14, 0, 6, 4, 2, 7, 0, 0, 1, 3, 0, 2, 2, 0, 5, 2, 9, 0, 2, 0, -1, 3, 0, 128, 7, 0, 2, 9, 0, 5, 3, 0, 128, 7, 0, 0, 24, 4, 9, 0, 2, 0, 0, 3, 0, 127, 7, 0, 2, 17, 0, 9, 4, 5, 3, 0, 127, 7, 0, 0, 1, 3, 0, 2, 2, 0, 5, 2, 12, 0, 2, 0, 0, 3, 0, 128, 3, 0, 127, 7, 0, 0, 12, 4, 8, 3, 0, 128, 3, 0, 127, 7, 0, 0, 1, 3, 0, 128, 7, 0]), (20, [1, 0], [30, -1, 1, 0, 0, -1, 3, 2005000])], [], [(0, -2, 60, [])], [(20, [0], [50, 1, 3, 5, 2, 128, 127, 5, 2, 0, 24, 4, 14, 0, 6, 4, 2, 7, 0, 0, 1, 3, 0, 2, 2, 0, 5, 2, 9, 0, 2, 0, -1, 3, 0, 128, 7, 0, 2, 9, 0, 5, 3, 0, 128, 7, 0, 0, 24, 4, 9, 0, 2, 0, 0, 3, 0, 127, 7, 0, 2, 17, 0, 9, 4, 5, 3, 0, 127, 7, 0, 0, 1, 3, 0, 2, 2, 0, 5, 2, 12, 0, 2, 0, 0, 3, 0, 128, 3, 0, 127, 7, 0, 0, 12, 4, 8, 3, 0, 128, 3, 0, 127, 7, 0, 0, 1, 3, 0, 128, 7, 0]), (20, [1, 0, 4], [50, 1, 2, 1005, 1002, 1128, 3, 6, 0, 2, 1, 0, 0, -1, 2, 14, 0, 6, 4, 2, 1, 0, 0, 1, 3, 1, 2, 2, 1, 5, 0, 9, 4, 5, 3, 1, 128, 1, 0, 0, 0, 1, 2]), (20, [0, 1, 2, 1], [60, 0, 1, 798, 127]), (24, [0, 0], []), (24, [1, 1], []), (24, [2, 2], []), (24, [3, 3], [])], [], [])
theorem oo_Mo_isAhead_0 {kA : Nat → ClassId} : or_ok PRD kA GG o_Mo_isAhead_0 := by
  refine or_mk fun A ta ws vs hD hth hl => ?_
  intro t0 r0 t1 k1 t2 k2 t3 k3 f0 f1
  replace f0 := shm_601 f0
  replace f1 := shm_269 f1
  have cr_0_127 := fdq_154 hD hth r0
  have cr_0_128 := fdq_155 hD hth r0
  have hK_0_127 := elq_87 hD hth cr_0_127
  have hK_0_128 := elq_88 hD hth cr_0_128
  obtain ⟨x, ex, hx⟩ := iv_ex (ta := ta) (lo := (-2)) (hi := 60) (z := 60) (by omega) (by omega) (by omega) (by omega)
  have ex2 : v_iv (Value.int x) = 60 := ex
  have ex3 : (-2) ≤ v_iv (Value.int x) ∧ v_iv (Value.int x) ≤ 60 := tv_rng hx
  have e_0 : n_v (vs ++ [Value.int x]) 0 = n_v vs 0 := n_v_old (by rw [hl]; decide)
  have e_1 : n_v (vs ++ [Value.int x]) 1 = n_v vs 1 := n_v_old (by rw [hl]; decide)
  have e_2 : n_v (vs ++ [Value.int x]) 2 = n_v vs 2 := n_v_old (by rw [hl]; decide)
  have e_3 : n_v (vs ++ [Value.int x]) 3 = n_v vs 3 := n_v_old (by rw [hl]; decide)
  have e_4 : n_v (vs ++ [Value.int x]) 4 = Value.int x := n_v_new hl
  have nf0 : fc_1 PRD (20, [0], [50, 1, 3, 5, 2, 128, 127, 5, 2, 0, 24, 4, 14, 0, 6, 4, 2, 7, 0, 0, 1, 3, 0, 2, 2, 0, 5, 2, 9, 0, 2, 0, -1, 3, 0, 128, 7, 0, 2, 9, 0, 5, 3, 0, 128, 7, 0, 0, 24, 4, 9, 0, 2, 0, 0, 3, 0, 127, 7, 0, 2, 17, 0, 9, 4, 5, 3, 0, 127, 7, 0, 0, 1, 3, 0, 2, 2, 0, 5, 2, 12, 0, 2, 0, 0, 3, 0, 128, 3, 0, 127, 7, 0, 0, 12, 4, 8, 3, 0, 128, 3, 0, 127, 7, 0, 0, 1, 3, 0, 128, 7, 0]) ws (vs ++ [Value.int x]) := by
    refine ⟨nf_inA hl rfl, sgq_601 ?_⟩
    · show ∀ j0 : Int, 0 ≤ j0 → j0 < 24 → (((j0 + 1) ≤ w_ei ws (w_ar ws (n_v (vs ++ [Value.int x]) 0) 2) (w_fi ws (n_v (vs ++ [Value.int x]) 0) 5)) → (((-1) ≤ w_ei ws (w_ar ws (n_v (vs ++ [Value.int x]) 0) 128) (j0)) ∧ ((w_ei ws (w_ar ws (n_v (vs ++ [Value.int x]) 0) 128) (j0) ≤ 24) ∧ ((0 ≤ w_ei ws (w_ar ws (n_v (vs ++ [Value.int x]) 0) 127) (j0)) → (((w_ei ws (w_ar ws (n_v (vs ++ [Value.int x]) 0) 127) (j0) + 1) ≤ w_ei ws (w_ar ws (n_v (vs ++ [Value.int x]) 0) 2) (w_fi ws (n_v (vs ++ [Value.int x]) 0) 5)) ∧ ((0 ≤ w_ei ws (w_ar ws (n_v (vs ++ [Value.int x]) 0) 128) (w_ei ws (w_ar ws (n_v (vs ++ [Value.int x]) 0) 127) (j0))) ∧ ((w_ei ws (w_ar ws (n_v (vs ++ [Value.int x]) 0) 128) (w_ei ws (w_ar ws (n_v (vs ++ [Value.int x]) 0) 127) (j0)) + 1) ≤ w_ei ws (w_ar ws (n_v (vs ++ [Value.int x]) 0) 128) (j0))))))))
      rw [e_0]
      exact vc_Mo_isAhead_0_0 (v_iv (n_v vs 1)) (v_iv (n_v vs 2)) (v_iv (n_v vs 3)) (w_ei ws (w_ar ws (n_v vs 0) 2)) (w_ei ws (w_ar ws (n_v vs 0) 128)) (w_ei ws (w_ar ws (n_v vs 0) 127)) (w_fi ws (n_v vs 0) 5) (v_iv (Value.int x)) k1 k2 k3 f0 f1 hK_0_127 hK_0_128 ex2 ex3
  have nf1 : fc_1 PRD (20, [1, 0, 4], [50, 1, 2, 1005, 1002, 1128, 3, 6, 0, 2, 1, 0, 0, -1, 2, 14, 0, 6, 4, 2, 1, 0, 0, 1, 3, 1, 2, 2, 1, 5, 0, 9, 4, 5, 3, 1, 128, 1, 0, 0, 0, 1, 2]) ws (vs ++ [Value.int x]) := by
    refine ⟨nf_inA hl rfl, sgq_604 ?_⟩
    · show (v_iv (n_v (vs ++ [Value.int x]) 1) ≤ (-1)) ∨ (((v_iv (n_v (vs ++ [Value.int x]) 1) + 1) ≤ w_ei ws (w_ar ws (n_v (vs ++ [Value.int x]) 0) 2) (w_fi ws (n_v (vs ++ [Value.int x]) 0) 5)) ∧ ((w_ei ws (w_ar ws (n_v (vs ++ [Value.int x]) 0) 128) (v_iv (n_v (vs ++ [Value.int x]) 1)) + 0) ≤ v_iv (n_v (vs ++ [Value.int x]) 4)))
      simp only [e_0, e_1, e_4]
      exact vc_Mo_isAhead_0_1 (v_iv (n_v vs 1)) (v_iv (n_v vs 2)) (v_iv (n_v vs 3)) (w_ei ws (w_ar ws (n_v vs 0) 2)) (w_ei ws (w_ar ws (n_v vs 0) 128)) (w_ei ws (w_ar ws (n_v vs 0) 127)) (w_fi ws (n_v vs 0) 5) (v_iv (Value.int x)) k1 k2 k3 f0 f1 hK_0_127 hK_0_128 ex2 ex3
  have nf2 : fc_1 PRD (20, [0, 1, 2, 1], [60, 0, 1, 798, 127]) ws (vs ++ [Value.int x]) := by
    refine ⟨nf_inA hl rfl, sgq_605 ?_⟩
    · show AH1 (w_ei ws (w_ar ws (n_v (vs ++ [Value.int x]) 0) 127)) (v_iv (n_v (vs ++ [Value.int x]) 1)) (v_iv (n_v (vs ++ [Value.int x]) 2)) (v_iv (n_v (vs ++ [Value.int x]) 1))
      simp only [e_0, e_1, e_2]
      exact vc_Mo_isAhead_0_2 (v_iv (n_v vs 1)) (v_iv (n_v vs 2)) (v_iv (n_v vs 3)) (w_ei ws (w_ar ws (n_v vs 0) 2)) (w_ei ws (w_ar ws (n_v vs 0) 128)) (w_ei ws (w_ar ws (n_v vs 0) 127)) (w_fi ws (n_v vs 0) 5) (v_iv (Value.int x)) k1 k2 k3 f0 f1 hK_0_127 hK_0_128 ex2 ex3
  have nf3 : fc_1 PRD (24, [0, 0], []) ws (vs ++ [Value.int x]) := by
    refine ⟨nf_inA hl rfl, sgq_1 ?_⟩
    · show n_v (vs ++ [Value.int x]) 0 = n_v (vs ++ [Value.int x]) 0
      first | rfl | simp only [e_0]
  have nf4 : fc_1 PRD (24, [1, 1], []) ws (vs ++ [Value.int x]) := by
    refine ⟨nf_inA hl rfl, sgq_1 ?_⟩
    · show n_v (vs ++ [Value.int x]) 1 = n_v (vs ++ [Value.int x]) 1
      first | rfl | simp only [e_1]
  have nf5 : fc_1 PRD (24, [2, 2], []) ws (vs ++ [Value.int x]) := by
    refine ⟨nf_inA hl rfl, sgq_1 ?_⟩
    · show n_v (vs ++ [Value.int x]) 2 = n_v (vs ++ [Value.int x]) 2
      first | rfl | simp only [e_2]
  have nf6 : fc_1 PRD (24, [3, 3], []) ws (vs ++ [Value.int x]) := by
    refine ⟨nf_inA hl rfl, sgq_1 ?_⟩
    · show n_v (vs ++ [Value.int x]) 3 = n_v (vs ++ [Value.int x]) 3
      first | rfl | simp only [e_3]
  exact ⟨(fun _ h => (by cases h)), [Value.int x], ag_one hx, List.forall_mem_cons.mpr ⟨⟨show (20 : Nat) < 100 from by decide, nf0⟩, List.forall_mem_cons.mpr ⟨⟨show (20 : Nat) < 100 from by decide, nf1⟩, List.forall_mem_cons.mpr ⟨⟨show (20 : Nat) < 100 from by decide, nf2⟩, List.forall_mem_cons.mpr ⟨⟨show (24 : Nat) < 100 from by decide, nf3⟩, List.forall_mem_cons.mpr ⟨⟨show (24 : Nat) < 100 from by decide, nf4⟩, List.forall_mem_cons.mpr ⟨⟨show (24 : Nat) < 100 from by decide, nf5⟩, List.forall_mem_cons.mpr ⟨⟨show (24 : Nat) < 100 from by decide, nf6⟩, (fun _ h => (by cases h))⟩⟩⟩⟩⟩⟩⟩, (fun _ h => (by cases h))⟩
set_option maxHeartbeats 4000000 in
theorem vc_Mo_isAhead_1_0 (x1 : Int) (x2 : Int) (x3 : Int) (x5 : Int) (x6 : Int) (x7 : Int) (x8 : Int) (x9 : Int) (x10 : Int) (all_0 : Int → Int) (level_0 : Int → Int) (above_0 : Int → Int) (r_0 : Int) (k1 : 0 ≤ x1 ∧ x1 ≤ 23) (k2 : (-1) ≤ x2 ∧ x2 ≤ 23) (k3 : 0 ≤ x3 ∧ x3 ≤ 23) (k5 : 0 ≤ x5 ∧ x5 ≤ 23) (k6 : (-1) ≤ x6 ∧ x6 ≤ 23) (k7 : 0 ≤ x7 ∧ x7 ≤ 23) (k8 : (-1) ≤ x8 ∧ x8 ≤ (-1)) (k9 : (-2) ≤ x9 ∧ x9 ≤ 60) (k10 : 0 ≤ x10 ∧ x10 ≤ 0) (d0 : x5 + (-4294967296) ≤ x1 ∧ x1 ≤ x5 + 0) (d1 : x6 + (-4294967296) ≤ x2 ∧ x2 ≤ x6 + 0) (d2 : x7 + (-4294967296) ≤ x3 ∧ x3 ≤ x7 + 0) (d3 : x1 + (-4294967296) ≤ x5 ∧ x5 ≤ x1 + 0) (d4 : x2 + (-4294967296) ≤ x6 ∧ x6 ≤ x2 + 0) (d5 : x3 + (-4294967296) ≤ x7 ∧ x7 ≤ x3 + 0) (f0 : x8 < 0) (f1 : x8 < 0) (f2 : ∀ j0 : Int, 0 ≤ j0 → j0 < 24 → (((j0 + 1) ≤ all_0 (r_0)) → (((-1) ≤ level_0 (j0)) ∧ ((level_0 (j0) ≤ 24) ∧ ((0 ≤ above_0 (j0)) → (((above_0 (j0) + 1) ≤ all_0 (r_0)) ∧ ((0 ≤ level_0 (above_0 (j0))) ∧ ((level_0 (above_0 (j0)) + 1) ≤ level_0 (j0))))))))) (f3 : (x8 ≤ (-1)) ∨ (((x8 + 1) ≤ all_0 (r_0)) ∧ ((level_0 (x8) + 0) ≤ x9))) (f4 : AH1 (above_0) (x1) (x2) (x8)) (hK_0_127 : ∀ j : Int, 0 ≤ j → j < 26 → (-1) ≤ above_0 j ∧ above_0 j ≤ 23) (hK_0_128 : ∀ j : Int, 0 ≤ j → j < 26 → (-23) ≤ level_0 j ∧ level_0 j ≤ 24) : AHP (above_0) (x1) (x2) (x3) (x10) := by
  first
    | (intro a b c; have := ‹AH1 _ _ _ _› a c; omega)
  
def o_Mo_isAhead_1 : or_T := (47, 11, [(0, (2, 0, 0, [165])), (1, (0, 0, 23, [])), (2, (0, -1, 23, [])), (3, (0, 0, 23, [])), (5, (0, 0, 23, [])), (6, (0, -1, 23, [])), (7, (0, 0, 23, [])), (8, (0, -1, -1, [])), (9, (0, -2, 60, [])), (10, (0, 0, 0, []))], [(8, [8], [2]), (8, [8], [2]), (20, [4], [50, 1, 3, 5, 2, 128, 127, 5, 2, 0, 24, 4, 14, 0, 6, 4, 2, 7, 0, 0, 1, 3, 0, 2, 2, 0, 5, 2, 9, 0, 2, 0, -1, 3, 0, 128, 7, 0, 2, 9, 0, 5, 3, 0, 128, 7, 0, 0, 24, 4, 9, 0, 2, 0, 0, 3, 0, 127, 7, 0, 2, 17, 0, 9, 4, 5, 3, 0, 127, 7, 0, 0, 1, 3, 0, 2, 2, 0, 5, 2, 12, 0, 2, 0, 0, 3, 0, 128, 3, 0, 127, 7, 0, 0, 12, 4, 8, 3, 0, 128, 3, 0, 127, 7, 0, 0, 1, 3, 0, 128, 7, 0]), (20, [8, 4, 9], [50, 1, 2, 1005, 1002, 1128, 3, 6, 0, 2, 1, 0, 0, -1, 2, 14, 0, 6, 4, 2, 1, 0, 0, 1, 3, 1, 2, 2, 1, 5, 0, 9, 4, 5, 3, 1, 128, 1, 0, 0, 0, 1, 2]), (20, [4, 5, 6, 8], [60, 0, 1, 798, 127]), (24, [0, 4], []), (24, [1, 5], []), (24, [2, 6], [])], [], [], [(20, [0, 1, 2, 3, 10], [60, 0, 1, 799, 127])], [], [(1, 5, -4294967296, 0), (2, 6, -4294967296, 0), (3, 7, -4294967296, 0), (5, 1, -4294967296, 0), (6, 2, -4294967296, 0), (7, 3, -4294967296, 0)])
theorem oo_Mo_isAhead_1 {kA : Nat → ClassId} : or_ok PRD kA GG o_Mo_isAhead_1 := by
  refine or_mk fun A ta ws vs hD hth hl => ?_
  intro t0 r0 t1 k1 t2 k2 t3 k3 t5 k5 t6 k6 t7 k7 t8 k8 t9 k9 t10 k10 d0 d1 d2 d3 d4 d5 f0 f1 f2 f3 f4 f5 f6 f7
  replace f2 := shm_601 f2
  replace f3 := shm_604 f3
  replace f4 := shm_606 f4
  replace f5 := shm_5 f5
  replace f6 := shm_5 f6
  replace f7 := shm_5 f7
  have q4 : n_v vs 4 = n_v vs 0 := f5.symm
  have q5 : n_v vs 5 = n_v vs 1 := f6.symm
  have q6 : n_v vs 6 = n_v vs 2 := f7.symm
  simp only [q4, q5, q6] at f2 f3 f4
  have cr_0_127 := fdq_154 hD hth r0
  have cr_0_128 := fdq_155 hD hth r0
  have hK_0_127 := elq_87 hD hth cr_0_127
  have hK_0_128 := elq_88 hD hth cr_0_128
  have nf0 : fc_1 PRD (20, [0, 1, 2, 3, 10], [60, 0, 1, 799, 127]) ws (vs) := ⟨nf_in hl rfl, sgq_607 (vc_Mo_isAhead_1_0 (v_iv (n_v vs 1)) (v_iv (n_v vs 2)) (v_iv (n_v vs 3)) (v_iv (n_v vs 5)) (v_iv (n_v vs 6)) (v_iv (n_v vs 7)) (v_iv (n_v vs 8)) (v_iv (n_v vs 9)) (v_iv (n_v vs 10)) (w_ei ws (w_ar ws (n_v vs 0) 2)) (w_ei ws (w_ar ws (n_v vs 0) 128)) (w_ei ws (w_ar ws (n_v vs 0) 127)) (w_fi ws (n_v vs 0) 5) k1 k2 k3 k5 k6 k7 k8 k9 k10 d0 d1 d2 d3 d4 d5 (shm_39 f0) (shm_39 f1) f2 f3 f4 hK_0_127 hK_0_128)⟩
  refine ⟨(fun _ h => (by cases h)), [], trivial, ?_, (fun _ h => (by cases h))⟩
  rw [List.append_nil]
  exact List.forall_mem_cons.mpr ⟨⟨show (20 : Nat) < 100 from by decide, nf0⟩, (fun _ h => (by cases h))⟩
set_option maxHeartbeats 4000000 in
theorem vc_Mo_isAhead_2_0 (x1 : Int) (x2 : Int) (x3 : Int) (x5 : Int) (x6 : Int) (x7 : Int) (x8 : Int) (x9 : Int) (x11 : Int) (x12 : Int) (above_0 : Int → Int) (all_0 : Int → Int) (level_0 : Int → Int) (r_0 : Int) (k1 : 0 ≤ x1 ∧ x1 ≤ 23) (k2 : (-1) ≤ x2 ∧ x2 ≤ 23) (k3 : 0 ≤ x3 ∧ x3 ≤ 23) (k5 : 0 ≤ x5 ∧ x5 ≤ 23) (k6 : (-1) ≤ x6 ∧ x6 ≤ 23) (k7 : 0 ≤ x7 ∧ x7 ≤ 23) (k8 : 0 ≤ x8 ∧ x8 ≤ 23) (k9 : (-2) ≤ x9 ∧ x9 ≤ 60) (k11 : (-1) ≤ x11 ∧ x11 ≤ 23) (k12 : 0 ≤ x12 ∧ x12 ≤ 0) (d0 : x7 + 0 ≤ x8 ∧ x8 ≤ x7 + 4294967296) (d1 : x6 + 0 ≤ x11 ∧ x11 ≤ x6 + 0) (d2 : x5 + (-4294967296) ≤ x1 ∧ x1 ≤ x5 + 0) (d3 : x6 + (-4294967296) ≤ x2 ∧ x2 ≤ x6 + 0) (d4 : x7 + (-4294967296) ≤ x3 ∧ x3 ≤ x7 + 0) (d5 : x1 + (-4294967296) ≤ x5 ∧ x5 ≤ x1 + 0) (d6 : x2 + (-4294967296) ≤ x6 ∧ x6 ≤ x2 + 0) (d7 : x3 + (-4294967296) ≤ x7 ∧ x7 ≤ x3 + 0) (f0 : x3 ≤ x8) (f1 : 0 ≤ x8) (f2 : x11 = x2) (h3 : x11 = above_0 (x8)) (f5 : 0 ≤ x8) (f6 : ∀ j0 : Int, 0 ≤ j0 → j0 < 24 → (((j0 + 1) ≤ all_0 (r_0)) → (((-1) ≤ level_0 (j0)) ∧ ((level_0 (j0) ≤ 24) ∧ ((0 ≤ above_0 (j0)) → (((above_0 (j0) + 1) ≤ all_0 (r_0)) ∧ ((0 ≤ level_0 (above_0 (j0))) ∧ ((level_0 (above_0 (j0)) + 1) ≤ level_0 (j0))))))))) (f7 : (x8 ≤ (-1)) ∨ (((x8 + 1) ≤ all_0 (r_0)) ∧ ((level_0 (x8) + 0) ≤ x9))) (f8 : AH1 (above_0) (x1) (x2) (x8)) (hK_0_127 : ∀ j : Int, 0 ≤ j → j < 26 → (-1) ≤ above_0 j ∧ above_0 j ≤ 23) (hK_0_128 : ∀ j : Int, 0 ≤ j → j < 26 → (-23) ≤ level_0 j ∧ level_0 j ≤ 24) : AHP (above_0) (x1) (x2) (x3) (x12) := by
  first
    | (intro a b c; have := ‹AH1 _ _ _ _› a c; omega)
  
def o_Mo_isAhead_2 : or_T := (47, 13, [(0, (2, 0, 0, [165])), (1, (0, 0, 23, [])), (2, (0, -1, 23, [])), (3, (0, 0, 23, [])), (4, (2, 0, 0, [165])), (5, (0, 0, 23, [])), (6, (0, -1, 23, [])), (7, (0, 0, 23, [])), (8, (0, 0, 23, [])), (9, (0, -2, 60, [])), (10, (2, 0, 0, [257])), (11, (0, -1, 23, [])), (12, (0, 0, 0, []))], [(7, [8, 7], [3]), (8, [8], [3]), (7, [11, 6], [0]), (10, [11, 10, 8], []), (9, [10, 4], [127]), (8, [8], [3]), (20, [4], [50, 1, 3, 5, 2, 128, 127, 5, 2, 0, 24, 4, 14, 0, 6, 4, 2, 7, 0, 0, 1, 3, 0, 2, 2, 0, 5, 2, 9, 0, 2, 0, -1, 3, 0, 128, 7, 0, 2, 9, 0, 5, 3, 0, 128, 7, 0, 0, 24, 4, 9, 0, 2, 0, 0, 3, 0, 127, 7, 0, 2, 17, 0, 9, 4, 5, 3, 0, 127, 7, 0, 0, 1, 3, 0, 2, 2, 0, 5, 2, 12, 0, 2, 0, 0, 3, 0, 128, 3, 0, 127, 7, 0, 0, 12, 4, 8, 3, 0, 128, 3, 0, 127, 7, 0, 0, 1, 3, 0, 128, 7, 0]), (20, [8, 4, 9], [50, 1, 2, 1005, 1002, 1128, 3, 6, 0, 2, 1, 0, 0, -1, 2, 14, 0, 6, 4, 2, 1, 0, 0, 1, 3, 1, 2, 2, 1, 5, 0, 9, 4, 5, 3, 1, 128, 1, 0, 0, 0, 1, 2]), (20, [4, 5, 6, 8], [60, 0, 1, 798, 127]), (24, [0, 4], []), (24, [1, 5], []), (24, [2, 6], []), (24, [3, 7], [])], [], [], [(20, [0, 1, 2, 3, 12], [60, 0, 1, 799, 127])], [], [(8, 7, 0, 4294967296), (11, 6, 0, 0), (1, 5, -4294967296, 0), (2, 6, -4294967296, 0), (3, 7, -4294967296, 0), (5, 1, -4294967296, 0), (6, 2, -4294967296, 0), (7, 3, -4294967296, 0)])
theorem oo_Mo_isAhead_2 {kA : Nat → ClassId} : or_ok PRD kA GG o_Mo_isAhead_2 := by
  refine or_mk fun A ta ws vs hD hth hl => ?_
  intro t0 r0 t1 k1 t2 k2 t3 k3 t4 r4 t5 k5 t6 k6 t7 k7 t8 k8 t9 k9 t10 r10 t11 k11 t12 k12 d0 d1 d2 d3 d4 d5 d6 d7 f0 f1 f2 f3 f4 f5 f6 f7 f8 f9 f10 f11 f12
  replace f0 := shm_2 f0
  replace f2 := shm_37 f2
  replace f3 := shm_107 f3
  replace f4 := shm_600 f4
  replace f6 := shm_601 f6
  replace f7 := shm_604 f7
  replace f8 := shm_606 f8
  replace f9 := shm_5 f9
  replace f10 := shm_5 f10
  replace f11 := shm_5 f11
  replace f12 := shm_5 f12
  have q4 : n_v vs 4 = n_v vs 0 := f9.symm
  have q5 : n_v vs 5 = n_v vs 1 := f10.symm
  have q6 : n_v vs 6 = n_v vs 2 := f11.symm
  have q7 : n_v vs 7 = n_v vs 3 := f12.symm
  simp only [q7, q6, q4, q5] at f0 f2 f4 f6 f7 f8
  have cr_0_127 := fdq_154 hD hth r0
  have cr_0_128 := fdq_155 hD hth r0
  have ad_10 : v_ad (n_v vs 10) = w_ar ws (n_v vs 0) 127 := congrArg v_ad f4
  simp only [ad_10] at f3
  have h3 : v_iv (n_v vs 11) = w_ei ws (w_ar ws (n_v vs 0) 127) (v_iv (n_v vs 8)) := f3
  have hK_0_127 := elq_87 hD hth cr_0_127
  have hK_0_128 := elq_88 hD hth cr_0_128
  have nf0 : fc_1 PRD (20, [0, 1, 2, 3, 12], [60, 0, 1, 799, 127]) ws (vs) := ⟨nf_in hl rfl, sgq_607 (vc_Mo_isAhead_2_0 (v_iv (n_v vs 1)) (v_iv (n_v vs 2)) (v_iv (n_v vs 3)) (v_iv (n_v vs 5)) (v_iv (n_v vs 6)) (v_iv (n_v vs 7)) (v_iv (n_v vs 8)) (v_iv (n_v vs 9)) (v_iv (n_v vs 11)) (v_iv (n_v vs 12)) (w_ei ws (w_ar ws (n_v vs 0) 127)) (w_ei ws (w_ar ws (n_v vs 0) 2)) (w_ei ws (w_ar ws (n_v vs 0) 128)) (w_fi ws (n_v vs 0) 5) k1 k2 k3 k5 k6 k7 k8 k9 k11 k12 d0 d1 d2 d3 d4 d5 d6 d7 f0 (shm_32 f1) f2 h3 (shm_32 f5) f6 f7 f8 hK_0_127 hK_0_128)⟩
  refine ⟨(fun _ h => (by cases h)), [], trivial, ?_, (fun _ h => (by cases h))⟩
  rw [List.append_nil]
  exact List.forall_mem_cons.mpr ⟨⟨show (20 : Nat) < 100 from by decide, nf0⟩, (fun _ h => (by cases h))⟩
set_option maxHeartbeats 4000000 in
theorem vc_Mo_isAhead_3_0 (x1 : Int) (x2 : Int) (x3 : Int) (x5 : Int) (x6 : Int) (x7 : Int) (x8 : Int) (x9 : Int) (x11 : Int) (x12 : Int) (above_0 : Int → Int) (all_0 : Int → Int) (level_0 : Int → Int) (r_0 : Int) (k1 : 0 ≤ x1 ∧ x1 ≤ 23) (k2 : (-1) ≤ x2 ∧ x2 ≤ 23) (k3 : 1 ≤ x3 ∧ x3 ≤ 23) (k5 : 0 ≤ x5 ∧ x5 ≤ 23) (k6 : (-1) ≤ x6 ∧ x6 ≤ 23) (k7 : 1 ≤ x7 ∧ x7 ≤ 23) (k8 : 0 ≤ x8 ∧ x8 ≤ 22) (k9 : (-2) ≤ x9 ∧ x9 ≤ 60) (k11 : (-1) ≤ x11 ∧ x11 ≤ 23) (k12 : 1 ≤ x12 ∧ x12 ≤ 1) (d0 : x7 + (-4294967296) ≤ x8 ∧ x8 ≤ x7 + (-1)) (d1 : x6 + 0 ≤ x11 ∧ x11 ≤ x6 + 0) (d2 : x5 + (-4294967296) ≤ x1 ∧ x1 ≤ x5 + 0) (d3 : x6 + (-4294967296) ≤ x2 ∧ x2 ≤ x6 + 0) (d4 : x7 + (-4294967296) ≤ x3 ∧ x3 ≤ x7 + 0) (d5 : x1 + (-4294967296) ≤ x5 ∧ x5 ≤ x1 + 0) (d6 : x2 + (-4294967296) ≤ x6 ∧ x6 ≤ x2 + 0) (d7 : x3 + (-4294967296) ≤ x7 ∧ x7 ≤ x3 + 0) (f0 : x8 < x3) (f1 : 0 ≤ x8) (f2 : x11 = x2) (h3 : x11 = above_0 (x8)) (f5 : 0 ≤ x8) (f6 : ∀ j0 : Int, 0 ≤ j0 → j0 < 24 → (((j0 + 1) ≤ all_0 (r_0)) → (((-1) ≤ level_0 (j0)) ∧ ((level_0 (j0) ≤ 24) ∧ ((0 ≤ above_0 (j0)) → (((above_0 (j0) + 1) ≤ all_0 (r_0)) ∧ ((0 ≤ level_0 (above_0 (j0))) ∧ ((level_0 (above_0 (j0)) + 1) ≤ level_0 (j0))))))))) (f7 : (x8 ≤ (-1)) ∨ (((x8 + 1) ≤ all_0 (r_0)) ∧ ((level_0 (x8) + 0) ≤ x9))) (f8 : AH1 (above_0) (x1) (x2) (x8)) (hK_0_127 : ∀ j : Int, 0 ≤ j → j < 26 → (-1) ≤ above_0 j ∧ above_0 j ≤ 23) (hK_0_128 : ∀ j : Int, 0 ≤ j → j < 26 → (-23) ≤ level_0 j ∧ level_0 j ≤ 24) : AHP (above_0) (x1) (x2) (x3) (x12) := by
  first
    | (intro a b c; have := ‹AH1 _ _ _ _› a c; omega)
  
def o_Mo_isAhead_3 : or_T := (47, 13, [(0, (2, 0, 0, [165])), (1, (0, 0, 23, [])), (2, (0, -1, 23, [])), (3, (0, 1, 23, [])), (4, (2, 0, 0, [165])), (5, (0, 0, 23, [])), (6, (0, -1, 23, [])), (7, (0, 1, 23, [])), (8, (0, 0, 22, [])), (9, (0, -2, 60, [])), (10, (2, 0, 0, [257])), (11, (0, -1, 23, [])), (12, (0, 1, 1, []))], [(7, [8, 7], [2]), (8, [8], [3]), (7, [11, 6], [0]), (10, [11, 10, 8], []), (9, [10, 4], [127]), (8, [8], [3]), (20, [4], [50, 1, 3, 5, 2, 128, 127, 5, 2, 0, 24, 4, 14, 0, 6, 4, 2, 7, 0, 0, 1, 3, 0, 2, 2, 0, 5, 2, 9, 0, 2, 0, -1, 3, 0, 128, 7, 0, 2, 9, 0, 5, 3, 0, 128, 7, 0, 0, 24, 4, 9, 0, 2, 0, 0, 3, 0, 127, 7, 0, 2, 17, 0, 9, 4, 5, 3, 0, 127, 7, 0, 0, 1, 3, 0, 2, 2, 0, 5, 2, 12, 0, 2, 0, 0, 3, 0, 128, 3, 0, 127, 7, 0, 0, 12, 4, 8, 3, 0, 128, 3, 0, 127, 7, 0, 0, 1, 3, 0, 128, 7, 0]), (20, [8, 4, 9], [50, 1, 2, 1005, 1002, 1128, 3, 6, 0, 2, 1, 0, 0, -1, 2, 14, 0, 6, 4, 2, 1, 0, 0, 1, 3, 1, 2, 2, 1, 5, 0, 9, 4, 5, 3, 1, 128, 1, 0, 0, 0, 1, 2]), (20, [4, 5, 6, 8], [60, 0, 1, 798, 127]), (24, [0, 4], []), (24, [1, 5], []), (24, [2, 6], []), (24, [3, 7], [])], [], [], [(20, [0, 1, 2, 3, 12], [60, 0, 1, 799, 127])], [], [(8, 7, -4294967296, -1), (11, 6, 0, 0), (1, 5, -4294967296, 0), (2, 6, -4294967296, 0), (3, 7, -4294967296, 0), (5, 1, -4294967296, 0), (6, 2, -4294967296, 0), (7, 3, -4294967296, 0)])
theorem oo_Mo_isAhead_3 {kA : Nat → ClassId} : or_ok PRD kA GG o_Mo_isAhead_3 := by
  refine or_mk fun A ta ws vs hD hth hl => ?_
  intro t0 r0 t1 k1 t2 k2 t3 k3 t4 r4 t5 k5 t6 k6 t7 k7 t8 k8 t9 k9 t10 r10 t11 k11 t12 k12 d0 d1 d2 d3 d4 d5 d6 d7 f0 f1 f2 f3 f4 f5 f6 f7 f8 f9 f10 f11 f12
  replace f0 := shm_6 f0
  replace f2 := shm_37 f2
  replace f3 := shm_107 f3
  replace f4 := shm_600 f4
  replace f6 := shm_601 f6
  replace f7 := shm_604 f7
  replace f8 := shm_606 f8
  replace f9 := shm_5 f9
  replace f10 := shm_5 f10
  replace f11 := shm_5 f11
  replace f12 := shm_5 f12
  have q4 : n_v vs 4 = n_v vs 0 := f9.symm
  have q5 : n_v vs 5 = n_v vs 1 := f10.symm
  have q6 : n_v vs 6 = n_v vs 2 := f11.symm
  have q7 : n_v vs 7 = n_v vs 3 := f12.symm
  simp only [q7, q6, q4, q5] at f0 f2 f4 f6 f7 f8
  have cr_0_127 := fdq_154 hD hth r0
  have cr_0_128 := fdq_155 hD hth r0
  have ad_10 : v_ad (n_v vs 10) = w_ar ws (n_v vs 0) 127 := congrArg v_ad f4
  simp only [ad_10] at f3
  have h3 : v_iv (n_v vs 11) = w_ei ws (w_ar ws (n_v vs 0) 127) (v_iv (n_v vs 8)) := f3
  have hK_0_127 := elq_87 hD hth cr_0_127
  have hK_0_128 := elq_88 hD hth cr_0_128
  have nf0 : fc_1 PRD (20, [0, 1, 2, 3, 12], [60, 0, 1, 799, 127]) ws (vs) := ⟨nf_in hl rfl, sgq_607 (vc_Mo_isAhead_3_0 (v_iv (n_v vs 1)) (v_iv (n_v vs 2)) (v_iv (n_v vs 3)) (v_iv (n_v vs 5)) (v_iv (n_v vs 6)) (v_iv (n_v vs 7)) (v_iv (n_v vs 8)) (v_iv (n_v vs 9)) (v_iv (n_v vs 11)) (v_iv (n_v vs 12)) (w_ei ws (w_ar ws (n_v vs 0) 127)) (w_ei ws (w_ar ws (n_v vs 0) 2)) (w_ei ws (w_ar ws (n_v vs 0) 128)) (w_fi ws (n_v vs 0) 5) k1 k2 k3 k5 k6 k7 k8 k9 k11 k12 d0 d1 d2 d3 d4 d5 d6 d7 f0 (shm_32 f1) f2 h3 (shm_32 f5) f6 f7 f8 hK_0_127 hK_0_128)⟩
  refine ⟨(fun _ h => (by cases h)), [], trivial, ?_, (fun _ h => (by cases h))⟩
  rw [List.append_nil]
  exact List.forall_mem_cons.mpr ⟨⟨show (20 : Nat) < 100 from by decide, nf0⟩, (fun _ h => (by cases h))⟩
set_option maxHeartbeats 4000000 in
theorem vc_Mo_isAhead_4_0 (x1 : Int) (x2 : Int) (x3 : Int) (x5 : Int) (x6 : Int) (x7 : Int) (x8 : Int) (x9 : Int) (x11 : Int) (x12 : Int) (above_0 : Int → Int) (all_0 : Int → Int) (level_0 : Int → Int) (r_0 : Int) (gx : Int) (k1 : 0 ≤ x1 ∧ x1 ≤ 23) (k2 : (-1) ≤ x2 ∧ x2 ≤ 23) (k3 : 0 ≤ x3 ∧ x3 ≤ 23) (k5 : 0 ≤ x5 ∧ x5 ≤ 23) (k6 : (-1) ≤ x6 ∧ x6 ≤ 23) (k7 : 0 ≤ x7 ∧ x7 ≤ 23) (k8 : 0 ≤ x8 ∧ x8 ≤ 23) (k9 : (-2) ≤ x9 ∧ x9 ≤ 60) (k11 : (-1) ≤ x11 ∧ x11 ≤ 23) (k12 : (-1) ≤ x12 ∧ x12 ≤ 23) (d0 : x5 + (-4294967296) ≤ x1 ∧ x1 ≤ x5 + 0) (d1 : x6 + (-4294967296) ≤ x2 ∧ x2 ≤ x6 + 0) (d2 : x7 + (-4294967296) ≤ x3 ∧ x3 ≤ x7 + 0) (d3 : x1 + (-4294967296) ≤ x5 ∧ x5 ≤ x1 + 0) (d4 : x2 + (-4294967296) ≤ x6 ∧ x6 ≤ x2 + 0) (d5 : x3 + (-4294967296) ≤ x7 ∧ x7 ≤ x3 + 0) (h0 : x12 = above_0 (x8)) (f2 : x11 ≠ x2) (h3 : x11 = above_0 (x8)) (f4 : 0 ≤ x8) (f5 : ∀ j0 : Int, 0 ≤ j0 → j0 < 24 → (((j0 + 1) ≤ all_0 (r_0)) → (((-1) ≤ level_0 (j0)) ∧ ((level_0 (j0) ≤ 24) ∧ ((0 ≤ above_0 (j0)) → (((above_0 (j0) + 1) ≤ all_0 (r_0)) ∧ ((0 ≤ level_0 (above_0 (j0))) ∧ ((level_0 (above_0 (j0)) + 1) ≤ level_0 (j0))))))))) (f6 : (x8 ≤ (-1)) ∨ (((x8 + 1) ≤ all_0 (r_0)) ∧ ((level_0 (x8) + 0) ≤ x9))) (f7 : AH1 (above_0) (x1) (x2) (x8)) (hK_0_127 : ∀ j : Int, 0 ≤ j → j < 26 → (-1) ≤ above_0 j ∧ above_0 j ≤ 23) (hK_0_128 : ∀ j : Int, 0 ≤ j → j < 26 → (-23) ≤ level_0 j ∧ level_0 j ≤ 24) (ex2 : gx = 0 + (1 * x9 + 0)) (ex3 : (-2) ≤ gx ∧ gx ≤ 60) : ∀ j0 : Int, 0 ≤ j0 → j0 < 24 → (((j0 + 1) ≤ all_0 (r_0)) → (((-1) ≤ level_0 (j0)) ∧ ((level_0 (j0) ≤ 24) ∧ ((0 ≤ above_0 (j0)) → (((above_0 (j0) + 1) ≤ all_0 (r_0)) ∧ ((0 ≤ level_0 (above_0 (j0))) ∧ ((level_0 (above_0 (j0)) + 1) ≤ level_0 (j0)))))))) := by
  try simp only [Int.add_zero] at *
  first
    | omega
    | (have q := hK_0_128 x1 (by omega) (by omega); right; exact ⟨by omega, by omega⟩)
    | (have q := hK_0_128 x8 (by omega) (by omega); have g := f5 x8 (by omega) (by omega) (by omega); omega)
    | (have e : x12 = above_0 x8 := by assumption
       have g := f5 x8 (by omega) (by omega) (by omega)
       by_cases w : 0 ≤ x12
       · right
         have g2 := g.2.2 (by omega)
         rw [← e] at g2
         omega
       · left; omega)
  
set_option maxHeartbeats 4000000 in
theorem vc_Mo_isAhead_4_1 (x1 : Int) (x2 : Int) (x3 : Int) (x5 : Int) (x6 : Int) (x7 : Int) (x8 : Int) (x9 : Int) (x11 : Int) (x12 : Int) (above_0 : Int → Int) (all_0 : Int → Int) (level_0 : Int → Int) (r_0 : Int) (gx : Int) (k1 : 0 ≤ x1 ∧ x1 ≤ 23) (k2 : (-1) ≤ x2 ∧ x2 ≤ 23) (k3 : 0 ≤ x3 ∧ x3 ≤ 23) (k5 : 0 ≤ x5 ∧ x5 ≤ 23) (k6 : (-1) ≤ x6 ∧ x6 ≤ 23) (k7 : 0 ≤ x7 ∧ x7 ≤ 23) (k8 : 0 ≤ x8 ∧ x8 ≤ 23) (k9 : (-2) ≤ x9 ∧ x9 ≤ 60) (k11 : (-1) ≤ x11 ∧ x11 ≤ 23) (k12 : (-1) ≤ x12 ∧ x12 ≤ 23) (d0 : x5 + (-4294967296) ≤ x1 ∧ x1 ≤ x5 + 0) (d1 : x6 + (-4294967296) ≤ x2 ∧ x2 ≤ x6 + 0) (d2 : x7 + (-4294967296) ≤ x3 ∧ x3 ≤ x7 + 0) (d3 : x1 + (-4294967296) ≤ x5 ∧ x5 ≤ x1 + 0) (d4 : x2 + (-4294967296) ≤ x6 ∧ x6 ≤ x2 + 0) (d5 : x3 + (-4294967296) ≤ x7 ∧ x7 ≤ x3 + 0) (h0 : x12 = above_0 (x8)) (f2 : x11 ≠ x2) (h3 : x11 = above_0 (x8)) (f4 : 0 ≤ x8) (f5 : ∀ j0 : Int, 0 ≤ j0 → j0 < 24 → (((j0 + 1) ≤ all_0 (r_0)) → (((-1) ≤ level_0 (j0)) ∧ ((level_0 (j0) ≤ 24) ∧ ((0 ≤ above_0 (j0)) → (((above_0 (j0) + 1) ≤ all_0 (r_0)) ∧ ((0 ≤ level_0 (above_0 (j0))) ∧ ((level_0 (above_0 (j0)) + 1) ≤ level_0 (j0))))))))) (f6 : (x8 ≤ (-1)) ∨ (((x8 + 1) ≤ all_0 (r_0)) ∧ ((level_0 (x8) + 0) ≤ x9))) (f7 : AH1 (above_0) (x1) (x2) (x8)) (hK_0_127 : ∀ j : Int, 0 ≤ j → j < 26 → (-1) ≤ above_0 j ∧ above_0 j ≤ 23) (hK_0_128 : ∀ j : Int, 0 ≤ j → j < 26 → (-23) ≤ level_0 j ∧ level_0 j ≤ 24) (ex2 : gx = 0 + (1 * x9 + 0)) (ex3 : (-2) ≤ gx ∧ gx ≤ 60) : (x12 ≤ (-1)) ∨ (((x12 + 1) ≤ all_0 (r_0)) ∧ ((level_0 (x12) + 1) ≤ gx)) := by
  try simp only [Int.add_zero] at *
  first
    | omega
    | (have q := hK_0_128 x1 (by omega) (by omega); right; exact ⟨by omega, by omega⟩)
    | (have q := hK_0_128 x8 (by omega) (by omega); have g := f5 x8 (by omega) (by omega) (by omega); omega)
    | (have e : x12 = above_0 x8 := by assumption
       have g := f5 x8 (by omega) (by omega) (by omega)
       by_cases w : 0 ≤ x12
       · right
         have g2 := g.2.2 (by omega)
         rw [← e] at g2
         omega
       · left; omega)
  
set_option maxHeartbeats 4000000 in
theorem vc_Mo_isAhead_4_2 (x1 : Int) (x2 : Int) (x3 : Int) (x5 : Int) (x6 : Int) (x7 : Int) (x8 : Int) (x9 : Int) (x11 : Int) (x12 : Int) (above_0 : Int → Int) (all_0 : Int → Int) (level_0 : Int → Int) (r_0 : Int) (gx : Int) (k1 : 0 ≤ x1 ∧ x1 ≤ 23) (k2 : (-1) ≤ x2 ∧ x2 ≤ 23) (k3 : 0 ≤ x3 ∧ x3 ≤ 23) (k5 : 0 ≤ x5 ∧ x5 ≤ 23) (k6 : (-1) ≤ x6 ∧ x6 ≤ 23) (k7 : 0 ≤ x7 ∧ x7 ≤ 23) (k8 : 0 ≤ x8 ∧ x8 ≤ 23) (k9 : (-2) ≤ x9 ∧ x9 ≤ 60) (k11 : (-1) ≤ x11 ∧ x11 ≤ 23) (k12 : (-1) ≤ x12 ∧ x12 ≤ 23) (d0 : x5 + (-4294967296) ≤ x1 ∧ x1 ≤ x5 + 0) (d1 : x6 + (-4294967296) ≤ x2 ∧ x2 ≤ x6 + 0) (d2 : x7 + (-4294967296) ≤ x3 ∧ x3 ≤ x7 + 0) (d3 : x1 + (-4294967296) ≤ x5 ∧ x5 ≤ x1 + 0) (d4 : x2 + (-4294967296) ≤ x6 ∧ x6 ≤ x2 + 0) (d5 : x3 + (-4294967296) ≤ x7 ∧ x7 ≤ x3 + 0) (h0 : x12 = above_0 (x8)) (f2 : x11 ≠ x2) (h3 : x11 = above_0 (x8)) (f4 : 0 ≤ x8) (f5 : ∀ j0 : Int, 0 ≤ j0 → j0 < 24 → (((j0 + 1) ≤ all_0 (r_0)) → (((-1) ≤ level_0 (j0)) ∧ ((level_0 (j0) ≤ 24) ∧ ((0 ≤ above_0 (j0)) → (((above_0 (j0) + 1) ≤ all_0 (r_0)) ∧ ((0 ≤ level_0 (above_0 (j0))) ∧ ((level_0 (above_0 (j0)) + 1) ≤ level_0 (j0))))))))) (f6 : (x8 ≤ (-1)) ∨ (((x8 + 1) ≤ all_0 (r_0)) ∧ ((level_0 (x8) + 0) ≤ x9))) (f7 : AH1 (above_0) (x1) (x2) (x8)) (hK_0_127 : ∀ j : Int, 0 ≤ j → j < 26 → (-1) ≤ above_0 j ∧ above_0 j ≤ 23) (hK_0_128 : ∀ j : Int, 0 ≤ j → j < 26 → (-23) ≤ level_0 j ∧ level_0 j ≤ 24) (ex2 : gx = 0 + (1 * x9 + 0)) (ex3 : (-2) ≤ gx ∧ gx ≤ 60) : (-1) ≤ gx := by
  try simp only [Int.add_zero] at *
  first
    | omega
    | (have q := hK_0_128 x1 (by omega) (by omega); right; exact ⟨by omega, by omega⟩)
    | (have q := hK_0_128 x8 (by omega) (by omega); have g := f5 x8 (by omega) (by omega) (by omega); omega)
    | (have e : x12 = above_0 x8 := by assumption
       have g := f5 x8 (by omega) (by omega) (by omega)
       by_cases w : 0 ≤ x12
       · right
         have g2 := g.2.2 (by omega)
         rw [← e] at g2
         omega
       · left; omega)
  
set_option maxHeartbeats 4000000 in
theorem vc_Mo_isAhead_4_3 (x1 : Int) (x2 : Int) (x3 : Int) (x5 : Int) (x6 : Int) (x7 : Int) (x8 : Int) (x9 : Int) (x11 : Int) (x12 : Int) (above_0 : Int → Int) (all_0 : Int → Int) (level_0 : Int → Int) (r_0 : Int) (gx : Int) (k1 : 0 ≤ x1 ∧ x1 ≤ 23) (k2 : (-1) ≤ x2 ∧ x2 ≤ 23) (k3 : 0 ≤ x3 ∧ x3 ≤ 23) (k5 : 0 ≤ x5 ∧ x5 ≤ 23) (k6 : (-1) ≤ x6 ∧ x6 ≤ 23) (k7 : 0 ≤ x7 ∧ x7 ≤ 23) (k8 : 0 ≤ x8 ∧ x8 ≤ 23) (k9 : (-2) ≤ x9 ∧ x9 ≤ 60) (k11 : (-1) ≤ x11 ∧ x11 ≤ 23) (k12 : (-1) ≤ x12 ∧ x12 ≤ 23) (d0 : x5 + (-4294967296) ≤ x1 ∧ x1 ≤ x5 + 0) (d1 : x6 + (-4294967296) ≤ x2 ∧ x2 ≤ x6 + 0) (d2 : x7 + (-4294967296) ≤ x3 ∧ x3 ≤ x7 + 0) (d3 : x1 + (-4294967296) ≤ x5 ∧ x5 ≤ x1 + 0) (d4 : x2 + (-4294967296) ≤ x6 ∧ x6 ≤ x2 + 0) (d5 : x3 + (-4294967296) ≤ x7 ∧ x7 ≤ x3 + 0) (h0 : x12 = above_0 (x8)) (f2 : x11 ≠ x2) (h3 : x11 = above_0 (x8)) (f4 : 0 ≤ x8) (f5 : ∀ j0 : Int, 0 ≤ j0 → j0 < 24 → (((j0 + 1) ≤ all_0 (r_0)) → (((-1) ≤ level_0 (j0)) ∧ ((level_0 (j0) ≤ 24) ∧ ((0 ≤ above_0 (j0)) → (((above_0 (j0) + 1) ≤ all_0 (r_0)) ∧ ((0 ≤ level_0 (above_0 (j0))) ∧ ((level_0 (above_0 (j0)) + 1) ≤ level_0 (j0))))))))) (f6 : (x8 ≤ (-1)) ∨ (((x8 + 1) ≤ all_0 (r_0)) ∧ ((level_0 (x8) + 0) ≤ x9))) (f7 : AH1 (above_0) (x1) (x2) (x8)) (hK_0_127 : ∀ j : Int, 0 ≤ j → j < 26 → (-1) ≤ above_0 j ∧ above_0 j ≤ 23) (hK_0_128 : ∀ j : Int, 0 ≤ j → j < 26 → (-23) ≤ level_0 j ∧ level_0 j ≤ 24) (ex2 : gx = 0 + (1 * x9 + 0)) (ex3 : (-2) ≤ gx ∧ gx ≤ 60) : AH1 (above_0) (x1) (x2) (x12) := by
  first
    | assumption
    | exact fun _ _ => by omega
    | (intro a b
       have h := ‹AH1 _ _ _ _› a b
       have e : x11 = above_0 x8 := by assumption
       rw [h, b] at e
       exfalso; omega)
  
def o_Mo_isAhead_4 : or_T := (28, 13, [(0, (2, 0, 0, [165])), (1, (0, 0, 23, [])), (2, (0, -1, 23, [])), (3, (0, 0, 23, [])), (4, (2, 0, 0, [165])), (5, (0, 0, 23, [])), (6, (0, -1, 23, [])), (7, (0, 0, 23, [])), (8, (0, 0, 23, [])), (9, (0, -2, 60, [])), (10, (2, 0, 0, [257])), (11, (0, -1, 23, [])), (12, (0, -1, 23, []))], [(10, [12, 10, 8], []), (9, [10, 4], [127]), (7, [11, 6], [1]), (10, [11, 10, 8], []), (8, [8], [3]), (20, [4], [50, 1, 3, 5, 2, 128, 127, 5, 2, 0, 24, 4, 14, 0, 6, 4, 2, 7, 0, 0, 1, 3, 0, 2, 2, 0, 5, 2, 9, 0, 2, 0, -1, 3, 0, 128, 7, 0, 2, 9, 0, 5, 3, 0, 128, 7, 0, 0, 24, 4, 9, 0, 2, 0, 0, 3, 0, 127, 7, 0, 2, 17, 0, 9, 4, 5, 3, 0, 127, 7, 0, 0, 1, 3, 0, 2, 2, 0, 5, 2, 12, 0, 2, 0, 0, 3, 0, 128, 3, 0, 127, 7, 0, 0, 12, 4, 8, 3, 0, 128, 3, 0, 127, 7, 0, 0, 1, 3, 0, 128, 7, 0]), (20, [8, 4, 9], [50, 1, 2, 1005, 1002, 1128, 3, 6, 0, 2, 1, 0, 0, -1, 2, 14, 0, 6, 4, 2, 1, 0, 0, 1, 3, 1, 2, 2, 1, 5, 0, 9, 4, 5, 3, 1, 128, 1, 0, 0, 0, 1, 2]), (20, [4, 5, 6, 8], [60, 0, 1, 798, 127]), (24, [0, 4], []), (24, [1, 5], []), (24, [2, 6], []), (24, [3, 7], [])], [], [(0, -2, 60, [])], [(20, [4], [50, 1, 3, 5, 2, 128, 127, 5, 2, 0, 24, 4, 14, 0, 6, 4, 2, 7, 0, 0, 1, 3, 0, 2, 2, 0, 5, 2, 9, 0, 2, 0, -1, 3, 0, 128, 7, 0, 2, 9, 0, 5, 3, 0, 128, 7, 0, 0, 24, 4, 9, 0, 2, 0, 0, 3, 0, 127, 7, 0, 2, 17, 0, 9, 4, 5, 3, 0, 127, 7, 0, 0, 1, 3, 0, 2, 2, 0, 5, 2, 12, 0, 2, 0, 0, 3, 0, 128, 3, 0, 127, 7, 0, 0, 12, 4, 8, 3, 0, 128, 3, 0, 127, 7, 0, 0, 1, 3, 0, 128, 7, 0]), (20, [12, 4, 13], [50, 1, 2, 1005, 1002, 1128, 3, 6, 0, 2, 1, 0, 0, -1, 2, 14, 0, 6, 4, 2, 1, 0, 0, 1, 3, 1, 2, 2, 1, 5, 0, 9, 4, 5, 3, 1, 128, 1, 0, 0, 1, 1, 2]), (20, [13], [50, 0, 0, 0, 2, 0, -1, 1, 0]), (20, [4, 5, 6, 12], [60, 0, 1, 798, 127]), (24, [0, 4], []), (24, [1, 5], []), (24, [2, 6], []), (24, [3, 7], [])], [(13, 9, 0, 0)], [(1, 5, -4294967296, 0), (2, 6, -4294967296, 0), (3, 7, -4294967296, 0), (5, 1, -4294967296, 0), (6, 2, -4294967296, 0), (7, 3, -4294967296, 0)])
theorem oo_Mo_isAhead_4 {kA : Nat → ClassId} : or_ok PRD kA GG o_Mo_isAhead_4 := by
  refine or_mk fun A ta ws vs hD hth hl => ?_
  intro t0 r0 t1 k1 t2 k2 t3 k3 t4 r4 t5 k5 t6 k6 t7 k7 t8 k8 t9 k9 t10 r10 t11 k11 t12 k12 d0 d1 d2 d3 d4 d5 f0 f1 f2 f3 f4 f5 f6 f7 f8 f9 f10 f11
  replace f0 := shm_107 f0
  replace f1 := shm_600 f1
  replace f2 := shm_40 f2
  replace f3 := shm_107 f3
  replace f4 := shm_32 f4
  replace f5 := shm_601 f5
  replace f6 := shm_604 f6
  replace f7 := shm_606 f7
  replace f8 := shm_5 f8
  replace f9 := shm_5 f9
  replace f10 := shm_5 f10
  replace f11 := shm_5 f11
  have q4 : n_v vs 4 = n_v vs 0 := f8.symm
  have q5 : n_v vs 5 = n_v vs 1 := f9.symm
  have q6 : n_v vs 6 = n_v vs 2 := f10.symm
  have q7 : n_v vs 7 = n_v vs 3 := f11.symm
  simp only [q4, q6, q5] at f1 f2 f5 f6 f7
  have cr_0_2 := fdq_10 hD hth r0
  have cr_0_127 := fdq_154 hD hth r0
  have cr_0_128 := fdq_155 hD hth r0
  have ad_10 : v_ad (n_v vs 10) = w_ar ws (n_v vs 0) 127 := congrArg v_ad f1
  simp only [ad_10] at f0
  have h0 : v_iv (n_v vs 12) = w_ei ws (w_ar ws (n_v vs 0) 127) (v_iv (n_v vs 8)) := f0
  simp only [ad_10] at f3
  have h3 : v_iv (n_v vs 11) = w_ei ws (w_ar ws (n_v vs 0) 127) (v_iv (n_v vs 8)) := f3
  have hK_0_127 := elq_87 hD hth cr_0_127
  have hK_0_128 := elq_88 hD hth cr_0_128
  obtain ⟨x, ex, hx⟩ := iv_ex (ta := ta) (lo := (-2)) (hi := 60) (z := 0 + (1 * v_iv (n_v vs 9) + 0)) (by omega) (by omega) (by omega) (by omega)
  have ex2 : v_iv (Value.int x) = 0 + (1 * v_iv (n_v vs 9) + 0) := ex
  have ex3 : (-2) ≤ v_iv (Value.int x) ∧ v_iv (Value.int x) ≤ 60 := tv_rng hx
  have e_0 : n_v (vs ++ [Value.int x]) 0 = n_v vs 0 := n_v_old (by rw [hl]; decide)
  have e_1 : n_v (vs ++ [Value.int x]) 1 = n_v vs 1 := n_v_old (by rw [hl]; decide)
  have e_2 : n_v (vs ++ [Value.int x]) 2 = n_v vs 2 := n_v_old (by rw [hl]; decide)
  have e_3 : n_v (vs ++ [Value.int x]) 3 = n_v vs 3 := n_v_old (by rw [hl]; decide)
  have e_4 : n_v (vs ++ [Value.int x]) 4 = n_v vs 4 := n_v_old (by rw [hl]; decide)
  have e_5 : n_v (vs ++ [Value.int x]) 5 = n_v vs 5 := n_v_old (by rw [hl]; decide)
  have e_6 : n_v (vs ++ [Value.int x]) 6 = n_v vs 6 := n_v_old (by rw [hl]; decide)
  have e_7 : n_v (vs ++ [Value.int x]) 7 = n_v vs 7 := n_v_old (by rw [hl]; decide)
  have e_12 : n_v (vs ++ [Value.int x]) 12 = n_v vs 12 := n_v_old (by rw [hl]; decide)
  have e_13 : n_v (vs ++ [Value.int x]) 13 = Value.int x := n_v_new hl
  have nf0 : fc_1 PRD (20, [4], [50, 1, 3, 5, 2, 128, 127, 5, 2, 0, 24, 4, 14, 0, 6, 4, 2, 7, 0, 0, 1, 3, 0, 2, 2, 0, 5, 2, 9, 0, 2, 0, -1, 3, 0, 128, 7, 0, 2, 9, 0, 5, 3, 0, 128, 7, 0, 0, 24, 4, 9, 0, 2, 0, 0, 3, 0, 127, 7, 0, 2, 17, 0, 9, 4, 5, 3, 0, 127, 7, 0, 0, 1, 3, 0, 2, 2, 0, 5, 2, 12, 0, 2, 0, 0, 3, 0, 128, 3, 0, 127, 7, 0, 0, 12, 4, 8, 3, 0, 128, 3, 0, 127, 7, 0, 0, 1, 3, 0, 128, 7, 0]) ws (vs ++ [Value.int x]) := by
    refine ⟨nf_inA hl rfl, sgq_601 ?_⟩
    · show ∀ j0 : Int, 0 ≤ j0 → j0 < 24 → (((j0 + 1) ≤ w_ei ws (w_ar ws (n_v (vs ++ [Value.int x]) 4) 2) (w_fi ws (n_v (vs ++ [Value.int x]) 4) 5)) → (((-1) ≤ w_ei ws (w_ar ws (n_v (vs ++ [Value.int x]) 4) 128) (j0)) ∧ ((w_ei ws (w_ar ws (n_v (vs ++ [Value.int x]) 4) 128) (j0) ≤ 24) ∧ ((0 ≤ w_ei ws (w_ar ws (n_v (vs ++ [Value.int x]) 4) 127) (j0)) → (((w_ei ws (w_ar ws (n_v (vs ++ [Value.int x]) 4) 127) (j0) + 1) ≤ w_ei ws (w_ar ws (n_v (vs ++ [Value.int x]) 4) 2) (w_fi ws (n_v (vs ++ [Value.int x]) 4) 5)) ∧ ((0 ≤ w_ei ws (w_ar ws (n_v (vs ++ [Value.int x]) 4) 128) (w_ei ws (w_ar ws (n_v (vs ++ [Value.int x]) 4) 127) (j0))) ∧ ((w_ei ws (w_ar ws (n_v (vs ++ [Value.int x]) 4) 128) (w_ei ws (w_ar ws (n_v (vs ++ [Value.int x]) 4) 127) (j0)) + 1) ≤ w_ei ws (w_ar ws (n_v (vs ++ [Value.int x]) 4) 128) (j0))))))))
      simp only [e_4, q4]
      exact vc_Mo_isAhead_4_0 (v_iv (n_v vs 1)) (v_iv (n_v vs 2)) (v_iv (n_v vs 3)) (v_iv (n_v vs 5)) (v_iv (n_v vs 6)) (v_iv (n_v vs 7)) (v_iv (n_v vs 8)) (v_iv (n_v vs 9)) (v_iv (n_v vs 11)) (v_iv (n_v vs 12)) (w_ei ws (w_ar ws (n_v vs 0) 127)) (w_ei ws (w_ar ws (n_v vs 0) 2)) (w_ei ws (w_ar ws (n_v vs 0) 128)) (w_fi ws (n_v vs 0) 5) (v_iv (Value.int x)) k1 k2 k3 k5 k6 k7 k8 k9 k11 k12 d0 d1 d2 d3 d4 d5 h0 f2 h3 f4 f5 f6 f7 hK_0_127 hK_0_128 ex2 ex3
  have nf1 : fc_1 PRD (20, [12, 4, 13], [50, 1, 2, 1005, 1002, 1128, 3, 6, 0, 2, 1, 0, 0, -1, 2, 14, 0, 6, 4, 2, 1, 0, 0, 1, 3, 1, 2, 2, 1, 5, 0, 9, 4, 5, 3, 1, 128, 1, 0, 0, 1, 1, 2]) ws (vs ++ [Value.int x]) := by
    refine ⟨nf_inA hl rfl, sgq_608 ?_⟩
    · show (v_iv (n_v (vs ++ [Value.int x]) 12) ≤ (-1)) ∨ (((v_iv (n_v (vs ++ [Value.int x]) 12) + 1) ≤ w_ei ws (w_ar ws (n_v (vs ++ [Value.int x]) 4) 2) (w_fi ws (n_v (vs ++ [Value.int x]) 4) 5)) ∧ ((w_ei ws (w_ar ws (n_v (vs ++ [Value.int x]) 4) 128) (v_iv (n_v (vs ++ [Value.int x]) 12)) + 1) ≤ v_iv (n_v (vs ++ [Value.int x]) 13)))
      simp only [e_4, e_12, e_13, q4]
      exact vc_Mo_isAhead_4_1 (v_iv (n_v vs 1)) (v_iv (n_v vs 2)) (v_iv (n_v vs 3)) (v_iv (n_v vs 5)) (v_iv (n_v vs 6)) (v_iv (n_v vs 7)) (v_iv (n_v vs 8)) (v_iv (n_v vs 9)) (v_iv (n_v vs 11)) (v_iv (n_v vs 12)) (w_ei ws (w_ar ws (n_v vs 0) 127)) (w_ei ws (w_ar ws (n_v vs 0) 2)) (w_ei ws (w_ar ws (n_v vs 0) 128)) (w_fi ws (n_v vs 0) 5) (v_iv (Value.int x)) k1 k2 k3 k5 k6 k7 k8 k9 k11 k12 d0 d1 d2 d3 d4 d5 h0 f2 h3 f4 f5 f6 f7 hK_0_127 hK_0_128 ex2 ex3
  have nf2 : fc_1 PRD (20, [13], [50, 0, 0, 0, 2, 0, -1, 1, 0]) ws (vs ++ [Value.int x]) := by
    refine ⟨nf_inA hl rfl, sgq_609 ?_⟩
    · show (-1) ≤ v_iv (n_v (vs ++ [Value.int x]) 13)
      rw [e_13]
      exact vc_Mo_isAhead_4_2 (v_iv (n_v vs 1)) (v_iv (n_v vs 2)) (v_iv (n_v vs 3)) (v_iv (n_v vs 5)) (v_iv (n_v vs 6)) (v_iv (n_v vs 7)) (v_iv (n_v vs 8)) (v_iv (n_v vs 9)) (v_iv (n_v vs 11)) (v_iv (n_v vs 12)) (w_ei ws (w_ar ws (n_v vs 0) 127)) (w_ei ws (w_ar ws (n_v vs 0) 2)) (w_ei ws (w_ar ws (n_v vs 0) 128)) (w_fi ws (n_v vs 0) 5) (v_iv (Value.int x)) k1 k2 k3 k5 k6 k7 k8 k9 k11 k12 d0 d1 d2 d3 d4 d5 h0 f2 h3 f4 f5 f6 f7 hK_0_127 hK_0_128 ex2 ex3
  have nf3 : fc_1 PRD (20, [4, 5, 6, 12], [60, 0, 1, 798, 127]) ws (vs ++ [Value.int x]) := by
    refine ⟨nf_inA hl rfl, sgq_606 ?_⟩
    · show AH1 (w_ei ws (w_ar ws (n_v (vs ++ [Value.int x]) 4) 127)) (v_iv (n_v (vs ++ [Value.int x]) 5)) (v_iv (n_v (vs ++ [Value.int x]) 6)) (v_iv (n_v (vs ++ [Value.int x]) 12))
      simp only [e_4, e_5, e_6, e_12, q4, q5, q6]
      exact vc_Mo_isAhead_4_3 (v_iv (n_v vs 1)) (v_iv (n_v vs 2)) (v_iv (n_v vs 3)) (v_iv (n_v vs 5)) (v_iv (n_v vs 6)) (v_iv (n_v vs 7)) (v_iv (n_v vs 8)) (v_iv (n_v vs 9)) (v_iv (n_v vs 11)) (v_iv (n_v vs 12)) (w_ei ws (w_ar ws (n_v vs 0) 127)) (w_ei ws (w_ar ws (n_v vs 0) 2)) (w_ei ws (w_ar ws (n_v vs 0) 128)) (w_fi ws (n_v vs 0) 5) (v_iv (Value.int x)) k1 k2 k3 k5 k6 k7 k8 k9 k11 k12 d0 d1 d2 d3 d4 d5 h0 f2 h3 f4 f5 f6 f7 hK_0_127 hK_0_128 ex2 ex3
  have nf4 : fc_1 PRD (24, [0, 4], []) ws (vs ++ [Value.int x]) := by
    refine ⟨nf_inA hl rfl, sgq_5 ?_⟩
    · show n_v (vs ++ [Value.int x]) 0 = n_v (vs ++ [Value.int x]) 4
      first | rfl | simp only [e_0, e_4, q4, q5, q6, q7]
  have nf5 : fc_1 PRD (24, [1, 5], []) ws (vs ++ [Value.int x]) := by
    refine ⟨nf_inA hl rfl, sgq_5 ?_⟩
    · show n_v (vs ++ [Value.int x]) 1 = n_v (vs ++ [Value.int x]) 5
      first | rfl | simp only [e_1, e_5, q4, q5, q6, q7]
  have nf6 : fc_1 PRD (24, [2, 6], []) ws (vs ++ [Value.int x]) := by
    refine ⟨nf_inA hl rfl, sgq_5 ?_⟩
    · show n_v (vs ++ [Value.int x]) 2 = n_v (vs ++ [Value.int x]) 6
      first | rfl | simp only [e_2, e_6, q4, q5, q6, q7]
  have nf7 : fc_1 PRD (24, [3, 7], []) ws (vs ++ [Value.int x]) := by
    refine ⟨nf_inA hl rfl, sgq_5 ?_⟩
    · show n_v (vs ++ [Value.int x]) 3 = n_v (vs ++ [Value.int x]) 7
      first | rfl | simp only [e_3, e_7, q4, q5, q6, q7]
  obtain ⟨x0, e0, _, _⟩ := tv_int t9 rfl
  have e1 : v_iv (n_v vs 9) = x0.toInt := by rw [e0]; rfl
  have ho : sy_ofs (vs ++ [Value.int x]) (13, 9, 0, 0) := by
    refine ⟨x, x0, by rw [List.getElem?_append_right (by rw [hl]; decide), hl]; rfl, ?_, ?_, ?_⟩
    · rw [List.getElem?_append_left (by rw [hl]; decide)]; exact n_v_some (by rw [hl]; decide) e0
    · show x0.toInt + 0 ≤ x.toInt; omega
    · show x.toInt ≤ x0.toInt + 0; omega
  exact ⟨(fun _ h => (by cases h)), [Value.int x], ag_one hx, List.forall_mem_cons.mpr ⟨⟨show (20 : Nat) < 100 from by decide, nf0⟩, List.forall_mem_cons.mpr ⟨⟨show (20 : Nat) < 100 from by decide, nf1⟩, List.forall_mem_cons.mpr ⟨⟨show (20 : Nat) < 100 from by decide, nf2⟩, List.forall_mem_cons.mpr ⟨⟨show (20 : Nat) < 100 from by decide, nf3⟩, List.forall_mem_cons.mpr ⟨⟨show (24 : Nat) < 100 from by decide, nf4⟩, List.forall_mem_cons.mpr ⟨⟨show (24 : Nat) < 100 from by decide, nf5⟩, List.forall_mem_cons.mpr ⟨⟨show (24 : Nat) < 100 from by decide, nf6⟩, List.forall_mem_cons.mpr ⟨⟨show (24 : Nat) < 100 from by decide, nf7⟩, (fun _ h => (by cases h))⟩⟩⟩⟩⟩⟩⟩⟩, List.forall_mem_cons.mpr ⟨ho, (fun _ h => (by cases h))⟩⟩
set_option maxHeartbeats 4000000 in
theorem vc_Mo_isAhead_5_0 (x1 : Int) (x2 : Int) (x3 : Int) (x5 : Int) (x6 : Int) (x7 : Int) (x8 : Int) (x9 : Int) (all_0 : Int → Int) (level_0 : Int → Int) (above_0 : Int → Int) (r_0 : Int) (gx : Int) (k1 : 0 ≤ x1 ∧ x1 ≤ 23) (k2 : (-1) ≤ x2 ∧ x2 ≤ 23) (k3 : 0 ≤ x3 ∧ x3 ≤ 23) (k5 : 0 ≤ x5 ∧ x5 ≤ 23) (k6 : (-1) ≤ x6 ∧ x6 ≤ 23) (k7 : 0 ≤ x7 ∧ x7 ≤ 23) (k8 : (-1) ≤ x8 ∧ x8 ≤ 23) (k9 : (-2) ≤ x9 ∧ x9 ≤ 60) (d0 : x5 + (-4294967296) ≤ x1 ∧ x1 ≤ x5 + 0) (d1 : x6 + (-4294967296) ≤ x2 ∧ x2 ≤ x6 + 0) (d2 : x7 + (-4294967296) ≤ x3 ∧ x3 ≤ x7 + 0) (d3 : x1 + (-4294967296) ≤ x5 ∧ x5 ≤ x1 + 0) (d4 : x2 + (-4294967296) ≤ x6 ∧ x6 ≤ x2 + 0) (d5 : x3 + (-4294967296) ≤ x7 ∧ x7 ≤ x3 + 0) (f0 : ∀ j0 : Int, 0 ≤ j0 → j0 < 24 → (((j0 + 1) ≤ all_0 (r_0)) → (((-1) ≤ level_0 (j0)) ∧ ((level_0 (j0) ≤ 24) ∧ ((0 ≤ above_0 (j0)) → (((above_0 (j0) + 1) ≤ all_0 (r_0)) ∧ ((0 ≤ level_0 (above_0 (j0))) ∧ ((level_0 (above_0 (j0)) + 1) ≤ level_0 (j0))))))))) (f1 : (x8 ≤ (-1)) ∨ (((x8 + 1) ≤ all_0 (r_0)) ∧ ((level_0 (x8) + 1) ≤ x9))) (f2 : (-1) ≤ x9) (f3 : AH1 (above_0) (x1) (x2) (x8)) (hK_0_127 : ∀ j : Int, 0 ≤ j → j < 26 → (-1) ≤ above_0 j ∧ above_0 j ≤ 23) (hK_0_128 : ∀ j : Int, 0 ≤ j → j < 26 → (-23) ≤ level_0 j ∧ level_0 j ≤ 24) (ex2 : gx = (-1) + (1 * x9 + 0)) (ex3 : (-2) ≤ gx ∧ gx ≤ 60) : ∀ j0 : Int, 0 ≤ j0 → j0 < 24 → (((j0 + 1) ≤ all_0 (r_0)) → (((-1) ≤ level_0 (j0)) ∧ ((level_0 (j0) ≤ 24) ∧ ((0 ≤ above_0 (j0)) → (((above_0 (j0) + 1) ≤ all_0 (r_0)) ∧ ((0 ≤ level_0 (above_0 (j0))) ∧ ((level_0 (above_0 (j0)) + 1) ≤ level_0 (j0)))))))) := by
  try simp only [Int.add_zero] at *
  first
    | omega
    | (have q := hK_0_128 x1 (by omega) (by omega); right; exact ⟨by omega, by omega⟩)
    | (have q := hK_0_128 x8 (by omega) (by omega); have g := f5 x8 (by omega) (by omega) (by omega); omega)
    | (have e : x12 = above_0 x8 := by assumption
       have g := f5 x8 (by omega) (by omega) (by omega)
       by_cases w : 0 ≤ x12
       · right
         have g2 := g.2.2 (by omega)
         rw [← e] at g2
         omega
       · left; omega)
  
set_option maxHeartbeats 4000000 in
theorem vc_Mo_isAhead_5_1 (x1 : Int) (x2 : Int) (x3 : Int) (x5 : Int) (x6 : Int) (x7 : Int) (x8 : Int) (x9 : Int) (all_0 : Int → Int) (level_0 : Int → Int) (above_0 : Int → Int) (r_0 : Int) (gx : Int) (k1 : 0 ≤ x1 ∧ x1 ≤ 23) (k2 : (-1) ≤ x2 ∧ x2 ≤ 23) (k3 : 0 ≤ x3 ∧ x3 ≤ 23) (k5 : 0 ≤ x5 ∧ x5 ≤ 23) (k6 : (-1) ≤ x6 ∧ x6 ≤ 23) (k7 : 0 ≤ x7 ∧ x7 ≤ 23) (k8 : (-1) ≤ x8 ∧ x8 ≤ 23) (k9 : (-2) ≤ x9 ∧ x9 ≤ 60) (d0 : x5 + (-4294967296) ≤ x1 ∧ x1 ≤ x5 + 0) (d1 : x6 + (-4294967296) ≤ x2 ∧ x2 ≤ x6 + 0) (d2 : x7 + (-4294967296) ≤ x3 ∧ x3 ≤ x7 + 0) (d3 : x1 + (-4294967296) ≤ x5 ∧ x5 ≤ x1 + 0) (d4 : x2 + (-4294967296) ≤ x6 ∧ x6 ≤ x2 + 0) (d5 : x3 + (-4294967296) ≤ x7 ∧ x7 ≤ x3 + 0) (f0 : ∀ j0 : Int, 0 ≤ j0 → j0 < 24 → (((j0 + 1) ≤ all_0 (r_0)) → (((-1) ≤ level_0 (j0)) ∧ ((level_0 (j0) ≤ 24) ∧ ((0 ≤ above_0 (j0)) → (((above_0 (j0) + 1) ≤ all_0 (r_0)) ∧ ((0 ≤ level_0 (above_0 (j0))) ∧ ((level_0 (above_0 (j0)) + 1) ≤ level_0 (j0))))))))) (f1 : (x8 ≤ (-1)) ∨ (((x8 + 1) ≤ all_0 (r_0)) ∧ ((level_0 (x8) + 1) ≤ x9))) (f2 : (-1) ≤ x9) (f3 : AH1 (above_0) (x1) (x2) (x8)) (hK_0_127 : ∀ j : Int, 0 ≤ j → j < 26 → (-1) ≤ above_0 j ∧ above_0 j ≤ 23) (hK_0_128 : ∀ j : Int, 0 ≤ j → j < 26 → (-23) ≤ level_0 j ∧ level_0 j ≤ 24) (ex2 : gx = (-1) + (1 * x9 + 0)) (ex3 : (-2) ≤ gx ∧ gx ≤ 60) : (x8 ≤ (-1)) ∨ (((x8 + 1) ≤ all_0 (r_0)) ∧ ((level_0 (x8) + 0) ≤ gx)) := by
  try simp only [Int.add_zero] at *
  first
    | omega
    | (have q := hK_0_128 x1 (by omega) (by omega); right; exact ⟨by omega, by omega⟩)
    | (have q := hK_0_128 x8 (by omega) (by omega); have g := f5 x8 (by omega) (by omega) (by omega); omega)
    | (have e : x12 = above_0 x8 := by assumption
       have g := f5 x8 (by omega) (by omega) (by omega)
       by_cases w : 0 ≤ x12
       · right
         have g2 := g.2.2 (by omega)
         rw [← e] at g2
         omega
       · left; omega)
  
set_option maxHeartbeats 4000000 in
theorem vc_Mo_isAhead_5_2 (x1 : Int) (x2 : Int) (x3 : Int) (x5 : Int) (x6 : Int) (x7 : Int) (x8 : Int) (x9 : Int) (all_0 : Int → Int) (level_0 : Int → Int) (above_0 : Int → Int) (r_0 : Int) (gx : Int) (k1 : 0 ≤ x1 ∧ x1 ≤ 23) (k2 : (-1) ≤ x2 ∧ x2 ≤ 23) (k3 : 0 ≤ x3 ∧ x3 ≤ 23) (k5 : 0 ≤ x5 ∧ x5 ≤ 23) (k6 : (-1) ≤ x6 ∧ x6 ≤ 23) (k7 : 0 ≤ x7 ∧ x7 ≤ 23) (k8 : (-1) ≤ x8 ∧ x8 ≤ 23) (k9 : (-2) ≤ x9 ∧ x9 ≤ 60) (d0 : x5 + (-4294967296) ≤ x1 ∧ x1 ≤ x5 + 0) (d1 : x6 + (-4294967296) ≤ x2 ∧ x2 ≤ x6 + 0) (d2 : x7 + (-4294967296) ≤ x3 ∧ x3 ≤ x7 + 0) (d3 : x1 + (-4294967296) ≤ x5 ∧ x5 ≤ x1 + 0) (d4 : x2 + (-4294967296) ≤ x6 ∧ x6 ≤ x2 + 0) (d5 : x3 + (-4294967296) ≤ x7 ∧ x7 ≤ x3 + 0) (f0 : ∀ j0 : Int, 0 ≤ j0 → j0 < 24 → (((j0 + 1) ≤ all_0 (r_0)) → (((-1) ≤ level_0 (j0)) ∧ ((level_0 (j0) ≤ 24) ∧ ((0 ≤ above_0 (j0)) → (((above_0 (j0) + 1) ≤ all_0 (r_0)) ∧ ((0 ≤ level_0 (above_0 (j0))) ∧ ((level_0 (above_0 (j0)) + 1) ≤ level_0 (j0))))))))) (f1 : (x8 ≤ (-1)) ∨ (((x8 + 1) ≤ all_0 (r_0)) ∧ ((level_0 (x8) + 1) ≤ x9))) (f2 : (-1) ≤ x9) (f3 : AH1 (above_0) (x1) (x2) (x8)) (hK_0_127 : ∀ j : Int, 0 ≤ j → j < 26 → (-1) ≤ above_0 j ∧ above_0 j ≤ 23) (hK_0_128 : ∀ j : Int, 0 ≤ j → j < 26 → (-23) ≤ level_0 j ∧ level_0 j ≤ 24) (ex2 : gx = (-1) + (1 * x9 + 0)) (ex3 : (-2) ≤ gx ∧ gx ≤ 60) : AH1 (above_0) (x1) (x2) (x8) := by
  first
    | assumption
    | exact fun _ _ => by omega
    | (intro a b
       have h := ‹AH1 _ _ _ _› a b
       have e : x11 = above_0 x8 := by assumption
       rw [h, b] at e
       exfalso; omega)
  
def o_Mo_isAhead_5 : or_T := (3, 10, [(0, (2, 0, 0, [165])), (1, (0, 0, 23, [])), (2, (0, -1, 23, [])), (3, (0, 0, 23, [])), (4, (2, 0, 0, [165])), (5, (0, 0, 23, [])), (6, (0, -1, 23, [])), (7, (0, 0, 23, [])), (8, (0, -1, 23, [])), (9, (0, -2, 60, []))], [(20, [4], [50, 1, 3, 5, 2, 128, 127, 5, 2, 0, 24, 4, 14, 0, 6, 4, 2, 7, 0, 0, 1, 3, 0, 2, 2, 0, 5, 2, 9, 0, 2, 0, -1, 3, 0, 128, 7, 0, 2, 9, 0, 5, 3, 0, 128, 7, 0, 0, 24, 4, 9, 0, 2, 0, 0, 3, 0, 127, 7, 0, 2, 17, 0, 9, 4, 5, 3, 0, 127, 7, 0, 0, 1, 3, 0, 2, 2, 0, 5, 2, 12, 0, 2, 0, 0, 3, 0, 128, 3, 0, 127, 7, 0, 0, 12, 4, 8, 3, 0, 128, 3, 0, 127, 7, 0, 0, 1, 3, 0, 128, 7, 0]), (20, [8, 4, 9], [50, 1, 2, 1005, 1002, 1128, 3, 6, 0, 2, 1, 0, 0, -1, 2, 14, 0, 6, 4, 2, 1, 0, 0, 1, 3, 1, 2, 2, 1, 5, 0, 9, 4, 5, 3, 1, 128, 1, 0, 0, 1, 1, 2]), (20, [9], [50, 0, 0, 0, 2, 0, -1, 1, 0]), (20, [4, 5, 6, 8], [60, 0, 1, 798, 127]), (24, [0, 4], []), (24, [1, 5], []), (24, [2, 6], []), (24, [3, 7], [])], [], [(0, -2, 60, [])], [(20, [4], [50, 1, 3, 5, 2, 128, 127, 5, 2, 0, 24, 4, 14, 0, 6, 4, 2, 7, 0, 0, 1, 3, 0, 2, 2, 0, 5, 2, 9, 0, 2, 0, -1, 3, 0, 128, 7, 0, 2, 9, 0, 5, 3, 0, 128, 7, 0, 0, 24, 4, 9, 0, 2, 0, 0, 3, 0, 127, 7, 0, 2, 17, 0, 9, 4, 5, 3, 0, 127, 7, 0, 0, 1, 3, 0, 2, 2, 0, 5, 2, 12, 0, 2, 0, 0, 3, 0, 128, 3, 0, 127, 7, 0, 0, 12, 4, 8, 3, 0, 128, 3, 0, 127, 7, 0, 0, 1, 3, 0, 128, 7, 0]), (20, [8, 4, 10], [50, 1, 2, 1005, 1002, 1128, 3, 6, 0, 2, 1, 0, 0, -1, 2, 14, 0, 6, 4, 2, 1, 0, 0, 1, 3, 1, 2, 2, 1, 5, 0, 9, 4, 5, 3, 1, 128, 1, 0, 0, 0, 1, 2]), (20, [4, 5, 6, 8], [60, 0, 1, 798, 127]), (24, [0, 4], []), (24, [1, 5], []), (24, [2, 6], []), (24, [3, 7], [])], [(10, 9, -1000000000000, -1)], [(1, 5, -4294967296, 0), (2, 6, -4294967296, 0), (3, 7, -4294967296, 0), (5, 1, -4294967296, 0), (6, 2, -4294967296, 0), (7, 3, -4294967296, 0)])
theorem oo_Mo_isAhead_5 {kA : Nat → ClassId} : or_ok PRD kA GG o_Mo_isAhead_5 := by
  refine or_mk fun A ta ws vs hD hth hl => ?_
  intro t0 r0 t1 k1 t2 k2 t3 k3 t4 r4 t5 k5 t6 k6 t7 k7 t8 k8 t9 k9 d0 d1 d2 d3 d4 d5 f0 f1 f2 f3 f4 f5 f6 f7
  replace f0 := shm_601 f0
  replace f1 := shm_608 f1
  replace f2 := shm_609 f2
  replace f3 := shm_606 f3
  replace f4 := shm_5 f4
  replace f5 := shm_5 f5
  replace f6 := shm_5 f6
  replace f7 := shm_5 f7
  have q4 : n_v vs 4 = n_v vs 0 := f4.symm
  have q5 : n_v vs 5 = n_v vs 1 := f5.symm
  have q6 : n_v vs 6 = n_v vs 2 := f6.symm
  have q7 : n_v vs 7 = n_v vs 3 := f7.symm
  simp only [q4, q5, q6] at f0 f1 f3
  have cr_0_2 := fdq_10 hD hth r0
  have cr_0_127 := fdq_154 hD hth r0
  have cr_0_128 := fdq_155 hD hth r0
  have hK_0_127 := elq_87 hD hth cr_0_127
  have hK_0_128 := elq_88 hD hth cr_0_128
  obtain ⟨x, ex, hx⟩ := iv_ex (ta := ta) (lo := (-2)) (hi := 60) (z := (-1) + (1 * v_iv (n_v vs 9) + 0)) (by omega) (by omega) (by omega) (by omega)
  have ex2 : v_iv (Value.int x) = (-1) + (1 * v_iv (n_v vs 9) + 0) := ex
  have ex3 : (-2) ≤ v_iv (Value.int x) ∧ v_iv (Value.int x) ≤ 60 := tv_rng hx
  have e_0 : n_v (vs ++ [Value.int x]) 0 = n_v vs 0 := n_v_old (by rw [hl]; decide)
  have e_1 : n_v (vs ++ [Value.int x]) 1 = n_v vs 1 := n_v_old (by rw [hl]; decide)
  have e_2 : n_v (vs ++ [Value.int x]) 2 = n_v vs 2 := n_v_old (by rw [hl]; decide)
  have e_3 : n_v (vs ++ [Value.int x]) 3 = n_v vs 3 := n_v_old (by rw [hl]; decide)
  have e_4 : n_v (vs ++ [Value.int x]) 4 = n_v vs 4 := n_v_old (by rw [hl]; decide)
  have e_5 : n_v (vs ++ [Value.int x]) 5 = n_v vs 5 := n_v_old (by rw [hl]; decide)
  have e_6 : n_v (vs ++ [Value.int x]) 6 = n_v vs 6 := n_v_old (by rw [hl]; decide)
  have e_7 : n_v (vs ++ [Value.int x]) 7 = n_v vs 7 := n_v_old (by rw [hl]; decide)
  have e_8 : n_v (vs ++ [Value.int x]) 8 = n_v vs 8 := n_v_old (by rw [hl]; decide)
  have e_10 : n_v (vs ++ [Value.int x]) 10 = Value.int x := n_v_new hl
  have nf0 : fc_1 PRD (20, [4], [50, 1, 3, 5, 2, 128, 127, 5, 2, 0, 24, 4, 14, 0, 6, 4, 2, 7, 0, 0, 1, 3, 0, 2, 2, 0, 5, 2, 9, 0, 2, 0, -1, 3, 0, 128, 7, 0, 2, 9, 0, 5, 3, 0, 128, 7, 0, 0, 24, 4, 9, 0, 2, 0, 0, 3, 0, 127, 7, 0, 2, 17, 0, 9, 4, 5, 3, 0, 127, 7, 0, 0, 1, 3, 0, 2, 2, 0, 5, 2, 12, 0, 2, 0, 0, 3, 0, 128, 3, 0, 127, 7, 0, 0, 12, 4, 8, 3, 0, 128, 3, 0, 127, 7, 0, 0, 1, 3, 0, 128, 7, 0]) ws (vs ++ [Value.int x]) := by
    refine ⟨nf_inA hl rfl, sgq_601 ?_⟩
    · show ∀ j0 : Int, 0 ≤ j0 → j0 < 24 → (((j0 + 1) ≤ w_ei ws (w_ar ws (n_v (vs ++ [Value.int x]) 4) 2) (w_fi ws (n_v (vs ++ [Value.int x]) 4) 5)) → (((-1) ≤ w_ei ws (w_ar ws (n_v (vs ++ [Value.int x]) 4) 128) (j0)) ∧ ((w_ei ws (w_ar ws (n_v (vs ++ [Value.int x]) 4) 128) (j0) ≤ 24) ∧ ((0 ≤ w_ei ws (w_ar ws (n_v (vs ++ [Value.int x]) 4) 127) (j0)) → (((w_ei ws (w_ar ws (n_v (vs ++ [Value.int x]) 4) 127) (j0) + 1) ≤ w_ei ws (w_ar ws (n_v (vs ++ [Value.int x]) 4) 2) (w_fi ws (n_v (vs ++ [Value.int x]) 4) 5)) ∧ ((0 ≤ w_ei ws (w_ar ws (n_v (vs ++ [Value.int x]) 4) 128) (w_ei ws (w_ar ws (n_v (vs ++ [Value.int x]) 4) 127) (j0))) ∧ ((w_ei ws (w_ar ws (n_v (vs ++ [Value.int x]) 4) 128) (w_ei ws (w_ar ws (n_v (vs ++ [Value.int x]) 4) 127) (j0)) + 1) ≤ w_ei ws (w_ar ws (n_v (vs ++ [Value.int x]) 4) 128) (j0))))))))
      simp only [e_4, q4]
      exact vc_Mo_isAhead_5_0 (v_iv (n_v vs 1)) (v_iv (n_v vs 2)) (v_iv (n_v vs 3)) (v_iv (n_v vs 5)) (v_iv (n_v vs 6)) (v_iv (n_v vs 7)) (v_iv (n_v vs 8)) (v_iv (n_v vs 9)) (w_ei ws (w_ar ws (n_v vs 0) 2)) (w_ei ws (w_ar ws (n_v vs 0) 128)) (w_ei ws (w_ar ws (n_v vs 0) 127)) (w_fi ws (n_v vs 0) 5) (v_iv (Value.int x)) k1 k2 k3 k5 k6 k7 k8 k9 d0 d1 d2 d3 d4 d5 f0 f1 f2 f3 hK_0_127 hK_0_128 ex2 ex3
  have nf1 : fc_1 PRD (20, [8, 4, 10], [50, 1, 2, 1005, 1002, 1128, 3, 6, 0, 2, 1, 0, 0, -1, 2, 14, 0, 6, 4, 2, 1, 0, 0, 1, 3, 1, 2, 2, 1, 5, 0, 9, 4, 5, 3, 1, 128, 1, 0, 0, 0, 1, 2]) ws (vs ++ [Value.int x]) := by
    refine ⟨nf_inA hl rfl, sgq_604 ?_⟩
    · show (v_iv (n_v (vs ++ [Value.int x]) 8) ≤ (-1)) ∨ (((v_iv (n_v (vs ++ [Value.int x]) 8) + 1) ≤ w_ei ws (w_ar ws (n_v (vs ++ [Value.int x]) 4) 2) (w_fi ws (n_v (vs ++ [Value.int x]) 4) 5)) ∧ ((w_ei ws (w_ar ws (n_v (vs ++ [Value.int x]) 4) 128) (v_iv (n_v (vs ++ [Value.int x]) 8)) + 0) ≤ v_iv (n_v (vs ++ [Value.int x]) 10)))
      simp only [e_4, e_8, e_10, q4]
      exact vc_Mo_isAhead_5_1 (v_iv (n_v vs 1)) (v_iv (n_v vs 2)) (v_iv (n_v vs 3)) (v_iv (n_v vs 5)) (v_iv (n_v vs 6)) (v_iv (n_v vs 7)) (v_iv (n_v vs 8)) (v_iv (n_v vs 9)) (w_ei ws (w_ar ws (n_v vs 0) 2)) (w_ei ws (w_ar ws (n_v vs 0) 128)) (w_ei ws (w_ar ws (n_v vs 0) 127)) (w_fi ws (n_v vs 0) 5) (v_iv (Value.int x)) k1 k2 k3 k5 k6 k7 k8 k9 d0 d1 d2 d3 d4 d5 f0 f1 f2 f3 hK_0_127 hK_0_128 ex2 ex3
  have nf2 : fc_1 PRD (20, [4, 5, 6, 8], [60, 0, 1, 798, 127]) ws (vs ++ [Value.int x]) := by
    refine ⟨nf_inA hl rfl, sgq_606 ?_⟩
    · show AH1 (w_ei ws (w_ar ws (n_v (vs ++ [Value.int x]) 4) 127)) (v_iv (n_v (vs ++ [Value.int x]) 5)) (v_iv (n_v (vs ++ [Value.int x]) 6)) (v_iv (n_v (vs ++ [Value.int x]) 8))
      simp only [e_4, e_5, e_6, e_8, q4, q5, q6]
      exact vc_Mo_isAhead_5_2 (v_iv (n_v vs 1)) (v_iv (n_v vs 2)) (v_iv (n_v vs 3)) (v_iv (n_v vs 5)) (v_iv (n_v vs 6)) (v_iv (n_v vs 7)) (v_iv (n_v vs 8)) (v_iv (n_v vs 9)) (w_ei ws (w_ar ws (n_v vs 0) 2)) (w_ei ws (w_ar ws (n_v vs 0) 128)) (w_ei ws (w_ar ws (n_v vs 0) 127)) (w_fi ws (n_v vs 0) 5) (v_iv (Value.int x)) k1 k2 k3 k5 k6 k7 k8 k9 d0 d1 d2 d3 d4 d5 f0 f1 f2 f3 hK_0_127 hK_0_128 ex2 ex3
  have nf3 : fc_1 PRD (24, [0, 4], []) ws (vs ++ [Value.int x]) := by
    refine ⟨nf_inA hl rfl, sgq_5 ?_⟩
    · show n_v (vs ++ [Value.int x]) 0 = n_v (vs ++ [Value.int x]) 4
      first | rfl | simp only [e_0, e_4, q4, q5, q6, q7]
  have nf4 : fc_1 PRD (24, [1, 5], []) ws (vs ++ [Value.int x]) := by
    refine ⟨nf_inA hl rfl, sgq_5 ?_⟩
    · show n_v (vs ++ [Value.int x]) 1 = n_v (vs ++ [Value.int x]) 5
      first | rfl | simp only [e_1, e_5, q4, q5, q6, q7]
  have nf5 : fc_1 PRD (24, [2, 6], []) ws (vs ++ [Value.int x]) := by
    refine ⟨nf_inA hl rfl, sgq_5 ?_⟩
    · show n_v (vs ++ [Value.int x]) 2 = n_v (vs ++ [Value.int x]) 6
      first | rfl | simp only [e_2, e_6, q4, q5, q6, q7]
  have nf6 : fc_1 PRD (24, [3, 7], []) ws (vs ++ [Value.int x]) := by
    refine ⟨nf_inA hl rfl, sgq_5 ?_⟩
    · show n_v (vs ++ [Value.int x]) 3 = n_v (vs ++ [Value.int x]) 7
      first | rfl | simp only [e_3, e_7, q4, q5, q6, q7]
  obtain ⟨x0, e0, _, _⟩ := tv_int t9 rfl
  have e1 : v_iv (n_v vs 9) = x0.toInt := by rw [e0]; rfl
  have ho : sy_ofs (vs ++ [Value.int x]) (10, 9, -1000000000000, -1) := by
    refine ⟨x, x0, by rw [List.getElem?_append_right (by rw [hl]; decide), hl]; rfl, ?_, ?_, ?_⟩
    · rw [List.getElem?_append_left (by rw [hl]; decide)]; exact n_v_some (by rw [hl]; decide) e0
    · show x0.toInt + (-1000000000000) ≤ x.toInt; omega
    · show x.toInt ≤ x0.toInt + (-1); omega
  exact ⟨(fun _ h => (by cases h)), [Value.int x], ag_one hx, List.forall_mem_cons.mpr ⟨⟨show (20 : Nat) < 100 from by decide, nf0⟩, List.forall_mem_cons.mpr ⟨⟨show (20 : Nat) < 100 from by decide, nf1⟩, List.forall_mem_cons.mpr ⟨⟨show (20 : Nat) < 100 from by decide, nf2⟩, List.forall_mem_cons.mpr ⟨⟨show (24 : Nat) < 100 from by decide, nf3⟩, List.forall_mem_cons.mpr ⟨⟨show (24 : Nat) < 100 from by decide, nf4⟩, List.forall_mem_cons.mpr ⟨⟨show (24 : Nat) < 100 from by decide, nf5⟩, List.forall_mem_cons.mpr ⟨⟨show (24 : Nat) < 100 from by decide, nf6⟩, (fun _ h => (by cases h))⟩⟩⟩⟩⟩⟩⟩, List.forall_mem_cons.mpr ⟨ho, (fun _ h => (by cases h))⟩⟩
def n_Mo_isAhead_an : List an_T := [(3, [(0, (2, 0, 0, [165])), (1, (0, 0, 23, [])), (2, (0, (Int.negSucc 0), 23, [])), (3, (0, 0, 23, [])), (4, (0, (Int.negSucc 0), 23, []))], [], (0, 0), [(0, 0, 99997), (2, 9, (Int.negSucc 1)), (0, 0, 100000)], [(1, 5, (Int.negSucc 999999999999), 0), (2, 6, (Int.negSucc 999999999999), 0), (3, 7, (Int.negSucc 999999999999), 0), (5, 1, (Int.negSucc 999999999999), 0), (6, 2, (Int.negSucc 999999999999), 0), (7, 3, (Int.negSucc 999999999999), 0)], [], [(2, 0, 0, [165]), (0, 0, 23, []), (0, (Int.negSucc 0), 23, []), (0, 0, 23, [])], 0, [(0, (Int.negSucc 1), 60, [])], [(20, [4], [50, 1, 3, 5, 2, 128, 127, 5, 2, 0, 24, 4, 14, 0, 6, 4, 2, 7, 0, 0, 1, 3, 0, 2, 2, 0, 5, 2, 9, 0, 2, 0, (Int.negSucc 0), 3, 0, 128, 7, 0, 2, 9, 0, 5, 3, 0, 128, 7, 0, 0, 24, 4, 9, 0, 2, 0, 0, 3, 0, 127, 7, 0, 2, 17, 0, 9, 4, 5, 3, 0, 127, 7, 0, 0, 1, 3, 0, 2, 2, 0, 5, 2, 12, 0, 2, 0, 0, 3, 0, 128, 3, 0, 127, 7, 0, 0, 12, 4, 8, 3, 0, 128, 3, 0, 127, 7, 0, 0, 1, 3, 0, 128, 7, 0]), (20, [8, 4, 9], [50, 1, 2, 1005, 1002, 1128, 3, 6, 0, 2, 1, 0, 0, (Int.negSucc 0), 2, 14, 0, 6, 4, 2, 1, 0, 0, 1, 3, 1, 2, 2, 1, 5, 0, 9, 4, 5, 3, 1, 128, 1, 0, 0, 0, 1, 2]), (20, [4, 5, 6, 8], [60, 0, 1, 798, 127]), (24, [0, 4], []), (24, [1, 5], []), (24, [2, 6], []), (24, [3, 7], [])]), (28, [(0, (2, 0, 0, [165])), (1, (0, 0, 23, [])), (2, (0, (Int.negSucc 0), 23, [])), (3, (0, 0, 23, [])), (4, (0, (Int.negSucc 0), 23, []))], [], (0, 0), [(0, 0, 99997), (2, 9, (Int.negSucc 1)), (0, 0, 99972)], [(1, 5, (Int.negSucc 999999999999), 0), (2, 6, (Int.negSucc 999999999999), 0), (3, 7, (Int.negSucc 999999999999), 0), (5, 1, (Int.negSucc 999999999999), 0), (6, 2, (Int.negSucc 999999999999), 0), (7, 3, (Int.negSucc 999999999999), 0)], [], [(2, 0, 0, [165]), (0, 0, 23, []), (0, (Int.negSucc 0), 23, []), (0, 0, 23, [])], 0, [(0, (Int.negSucc 1), 60, [])], [(20, [4], [50, 1, 3, 5, 2, 128, 127, 5, 2, 0, 24, 4, 14, 0, 6, 4, 2, 7, 0, 0, 1, 3, 0, 2, 2, 0, 5, 2, 9, 0, 2, 0, (Int.negSucc 0), 3, 0, 128, 7, 0, 2, 9, 0, 5, 3, 0, 128, 7, 0, 0, 24, 4, 9, 0, 2, 0, 0, 3, 0, 127, 7, 0, 2, 17, 0, 9, 4, 5, 3, 0, 127, 7, 0, 0, 1, 3, 0, 2, 2, 0, 5, 2, 12, 0, 2, 0, 0, 3, 0, 128, 3, 0, 127, 7, 0, 0, 12, 4, 8, 3, 0, 128, 3, 0, 127, 7, 0, 0, 1, 3, 0, 128, 7, 0]), (20, [8, 4, 9], [50, 1, 2, 1005, 1002, 1128, 3, 6, 0, 2, 1, 0, 0, (Int.negSucc 0), 2, 14, 0, 6, 4, 2, 1, 0, 0, 1, 3, 1, 2, 2, 1, 5, 0, 9, 4, 5, 3, 1, 128, 1, 0, 0, 1, 1, 2]), (20, [9], [50, 0, 0, 0, 2, 0, (Int.negSucc 0), 1, 0]), (20, [4, 5, 6, 8], [60, 0, 1, 798, 127]), (24, [0, 4], []), (24, [1, 5], []), (24, [2, 6], []), (24, [3, 7], [])])]
def t_Mo_isAhead_ct : ct_L := []
set_option maxRecDepth 100000 in
theorem c_Mo_isAhead {l : Launch} {D : va_G} {kA : Nat → ClassId} : ct_ok PRD l D kA GG y_Mo_isAhead z_Mo_isAhead e_Mo_isAhead := chk_all_ok (FT := [(290, 13, 127)]) (PT := []) (CT := t_Mo_isAhead_ct) (KT := []) (NT := []) (AN := n_Mo_isAhead_an) (OT := [o_Mo_isAhead_0, o_Mo_isAhead_1, o_Mo_isAhead_2, o_Mo_isAhead_3, o_Mo_isAhead_4, o_Mo_isAhead_5]) 3 200 (List.forall_mem_cons.mpr ⟨oo_Mo_isAhead_0, List.forall_mem_cons.mpr ⟨oo_Mo_isAhead_1, List.forall_mem_cons.mpr ⟨oo_Mo_isAhead_2, List.forall_mem_cons.mpr ⟨oo_Mo_isAhead_3, List.forall_mem_cons.mpr ⟨oo_Mo_isAhead_4, List.forall_mem_cons.mpr ⟨oo_Mo_isAhead_5, List.forall_mem_nil _⟩⟩⟩⟩⟩⟩) (by decide +kernel) ⟨List.forall_mem_cons.mpr ⟨gf_Mo_290, List.forall_mem_nil _⟩, List.forall_mem_nil _, List.forall_mem_nil _, List.forall_mem_nil _, List.forall_mem_nil _, GG_pl⟩ (by decide +kernel)
set_option maxHeartbeats 4000000 in
theorem vc_Mo_isEnd_0_0 (x1 : Int) (x2 : Int) (x4 : Int) (x5 : Int) (x6 : Int) (x7 : Int) (x8 : Int) (x9 : Int) (ends_0 : Int → Int) (k1 : 0 ≤ x1 ∧ x1 ≤ 79) (k2 : 0 ≤ x2 ∧ x2 ≤ 25) (k4 : 0 ≤ x4 ∧ x4 ≤ 33554431) (k5 : 0 ≤ x5 ∧ x5 ≤ 33554431) (k6 : 1 ≤ x6 ∧ x6 ≤ 1) (k7 : 0 ≤ x7 ∧ x7 ≤ 0) (k8 : 1 ≤ x8 ∧ x8 ≤ 1) (k9 : 0 ≤ x9 ∧ x9 ≤ 0) (f0 : x7 ≠ x8) (f1 : x7 = x5 % 2) (f2 : bvp (x7) = bvp (x5) &&& bvp (x6)) (f3 : bvp (x5) = bvp (x4) >>> (x2).toNat) (h4 : x4 = ends_0 (x1)) (hK_0_50 : ∀ j : Int, 0 ≤ j → j < 80 → 0 ≤ ends_0 j ∧ ends_0 j ≤ 33554431) : ISE (ends_0) (x1) (x2) (x9) := by
  first | subst h4 | skip
  unfold ISE
  have b1 := bit_shr (n := x5) (b := x2) (by assumption) (by omega)
  have b2 := bit_and (n := x7) (a := x5) (b := x6) (by assumption) 0
  have b3 := bit_01 (x := x7) (by omega) (by omega)
  have b4 : bit x6 0 := (bit_01 (by omega) (by omega)).mpr (by omega)
  rw [← b1]
  constructor
  · intro h
    exact (b2.mp (b3.mpr (by omega))).1
  · intro h
    have := b3.mp (b2.mpr ⟨h, b4⟩)
    omega
def o_Mo_isEnd_0 : or_T := (19, 10, [(0, (2, 0, 0, [165])), (1, (0, 0, 79, [])), (2, (0, 0, 25, [])), (3, (2, 0, 0, [193])), (4, (0, 0, 33554431, [])), (5, (0, 0, 33554431, [])), (6, (0, 1, 1, [])), (7, (0, 0, 0, [])), (8, (0, 1, 1, [])), (9, (0, 0, 0, []))], [(7, [7, 8], [1]), (12, [7, 5], [2]), (16, [7, 5, 6], [0]), (16, [5, 4, 2], [4]), (10, [4, 3, 1], []), (9, [3, 0], [50])], [], [], [(20, [0, 1, 2, 9], [60, 0, 1, 114, 50])], [], [])
theorem oo_Mo_isEnd_0 {kA : Nat → ClassId} : or_ok PRD kA GG o_Mo_isEnd_0 := by
  refine or_mk fun A ta ws vs hD hth hl => ?_
  intro t0 r0 t1 k1 t2 k2 t3 r3 t4 k4 t5 k5 t6 k6 t7 k7 t8 k8 t9 k9 f0 f1 f2 f3 f4 f5
  replace f4 := shm_107 f4
  replace f5 := shm_528 f5
  have cr_0_50 := fdq_139 hD hth r0
  have ad_3 : v_ad (n_v vs 3) = w_ar ws (n_v vs 0) 50 := congrArg v_ad f5
  simp only [ad_3] at f4
  have h4 : v_iv (n_v vs 4) = w_ei ws (w_ar ws (n_v vs 0) 50) (v_iv (n_v vs 1)) := f4
  have hK_0_50 := elq_78 hD hth cr_0_50
  have nf0 : fc_1 PRD (20, [0, 1, 2, 9], [60, 0, 1, 114, 50]) ws (vs) := ⟨nf_in hl rfl, sgq_610 (vc_Mo_isEnd_0_0 (v_iv (n_v vs 1)) (v_iv (n_v vs 2)) (v_iv (n_v vs 4)) (v_iv (n_v vs 5)) (v_iv (n_v vs 6)) (v_iv (n_v vs 7)) (v_iv (n_v vs 8)) (v_iv (n_v vs 9)) (w_ei ws (w_ar ws (n_v vs 0) 50)) k1 k2 k4 k5 k6 k7 k8 k9 (shm_40 f0) (shm_364 f1) (shm_11 f2) (shm_13 f3) h4 hK_0_50)⟩
  refine ⟨(fun _ h => (by cases h)), [], trivial, ?_, (fun _ h => (by cases h))⟩
  rw [List.append_nil]
  exact List.forall_mem_cons.mpr ⟨⟨show (20 : Nat) < 100 from by decide, nf0⟩, (fun _ h => (by cases h))⟩
set_option maxHeartbeats 4000000 in
theorem vc_Mo_isEnd_1_0 (x1 : Int) (x2 : Int) (x4 : Int) (x5 : Int) (x6 : Int) (x7 : Int) (x8 : Int) (x9 : Int) (ends_0 : Int → Int) (k1 : 0 ≤ x1 ∧ x1 ≤ 79) (k2 : 0 ≤ x2 ∧ x2 ≤ 25) (k4 : 0 ≤ x4 ∧ x4 ≤ 33554431) (k5 : 0 ≤ x5 ∧ x5 ≤ 33554431) (k6 : 1 ≤ x6 ∧ x6 ≤ 1) (k7 : 1 ≤ x7 ∧ x7 ≤ 1) (k8 : 1 ≤ x8 ∧ x8 ≤ 1) (k9 : 1 ≤ x9 ∧ x9 ≤ 1) (f0 : x7 = x8) (f1 : x7 = x5 % 2) (f2 : bvp (x7) = bvp (x5) &&& bvp (x6)) (f3 : bvp (x5) = bvp (x4) >>> (x2).toNat) (h4 : x4 = ends_0 (x1)) (hK_0_50 : ∀ j : Int, 0 ≤ j → j < 80 → 0 ≤ ends_0 j ∧ ends_0 j ≤ 33554431) : ISE (ends_0) (x1) (x2) (x9) := by
  first | subst h4 | skip
  unfold ISE
  have b1 := bit_shr (n := x5) (b := x2) (by assumption) (by omega)
  have b2 := bit_and (n := x7) (a := x5) (b := x6) (by assumption) 0
  have b3 := bit_01 (x := x7) (by omega) (by omega)
  have b4 : bit x6 0 := (bit_01 (by omega) (by omega)).mpr (by omega)
  rw [← b1]
  constructor
  · intro h
    exact (b2.mp (b3.mpr (by omega))).1
  · intro h
    have := b3.mp (b2.mpr ⟨h, b4⟩)
    omega
def o_Mo_isEnd_1 : or_T := (19, 10, [(0, (2, 0, 0, [165])), (1, (0, 0, 79, [])), (2, (0, 0, 25, [])), (3, (2, 0, 0, [193])), (4, (0, 0, 33554431, [])), (5, (0, 0, 33554431, [])), (6, (0, 1, 1, [])), (7, (0, 1, 1, [])), (8, (0, 1, 1, [])), (9, (0, 1, 1, []))], [(7, [7, 8], [0]), (12, [7, 5], [2]), (16, [7, 5, 6], [0]), (16, [5, 4, 2], [4]), (10, [4, 3, 1], []), (9, [3, 0], [50])], [], [], [(20, [0, 1, 2, 9], [60, 0, 1, 114, 50])], [], [])
theorem oo_Mo_isEnd_1 {kA : Nat → ClassId} : or_ok PRD kA GG o_Mo_isEnd_1 := by
  refine or_mk fun A ta ws vs hD hth hl => ?_
  intro t0 r0 t1 k1 t2 k2 t3 r3 t4 k4 t5 k5 t6 k6 t7 k7 t8 k8 t9 k9 f0 f1 f2 f3 f4 f5
  replace f4 := shm_107 f4
  replace f5 := shm_528 f5
  have cr_0_50 := fdq_139 hD hth r0
  have ad_3 : v_ad (n_v vs 3) = w_ar ws (n_v vs 0) 50 := congrArg v_ad f5
  simp only [ad_3] at f4
  have h4 : v_iv (n_v vs 4) = w_ei ws (w_ar ws (n_v vs 0) 50) (v_iv (n_v vs 1)) := f4
  have hK_0_50 := elq_78 hD hth cr_0_50
  have nf0 : fc_1 PRD (20, [0, 1, 2, 9], [60, 0, 1, 114, 50]) ws (vs) := ⟨nf_in hl rfl, sgq_610 (vc_Mo_isEnd_1_0 (v_iv (n_v vs 1)) (v_iv (n_v vs 2)) (v_iv (n_v vs 4)) (v_iv (n_v vs 5)) (v_iv (n_v vs 6)) (v_iv (n_v vs 7)) (v_iv (n_v vs 8)) (v_iv (n_v vs 9)) (w_ei ws (w_ar ws (n_v vs 0) 50)) k1 k2 k4 k5 k6 k7 k8 k9 (shm_37 f0) (shm_364 f1) (shm_11 f2) (shm_13 f3) h4 hK_0_50)⟩
  refine ⟨(fun _ h => (by cases h)), [], trivial, ?_, (fun _ h => (by cases h))⟩
  rw [List.append_nil]
  exact List.forall_mem_cons.mpr ⟨⟨show (20 : Nat) < 100 from by decide, nf0⟩, (fun _ h => (by cases h))⟩
def n_Mo_isEnd_an : List an_T := []
def t_Mo_isEnd_ct : ct_L := []
set_option maxRecDepth 100000 in
theorem c_Mo_isEnd {l : Launch} {D : va_G} {kA : Nat → ClassId} : ct_ok PRD l D kA GG y_Mo_isEnd z_Mo_isEnd e_Mo_isEnd := chk_all_ok (FT := [(96, 13, 50)]) (PT := []) (CT := t_Mo_isEnd_ct) (KT := []) (NT := []) (AN := n_Mo_isEnd_an) (OT := [o_Mo_isEnd_0, o_Mo_isEnd_1]) 0 200 (List.forall_mem_cons.mpr ⟨oo_Mo_isEnd_0, List.forall_mem_cons.mpr ⟨oo_Mo_isEnd_1, List.forall_mem_nil _⟩⟩) (by decide +kernel) ⟨List.forall_mem_cons.mpr ⟨gf_Mo_96, List.forall_mem_nil _⟩, List.forall_mem_nil _, List.forall_mem_nil _, List.forall_mem_nil _, List.forall_mem_nil _, GG_pl⟩ (by decide +kernel)
set_option maxHeartbeats 4000000 in
theorem vc_Mo_isMember_0_0 (x1 : Int) (x2 : Int) (member_0 : Int → Int) (members_0 : Int) (k1 : 0 ≤ x1 ∧ x1 ≤ 23) (k2 : 0 ≤ x2 ∧ x2 ≤ 0) (hK_0_98 : ∀ j : Int, 0 ≤ j → j < 26 → 0 ≤ member_0 j ∧ member_0 j ≤ 25) (kz_0_99 : 0 ≤ members_0 ∧ members_0 ≤ 26) : ISL (members_0) (member_0) (x1) (x2) := by
  first
    | (intro t a b; exfalso; omega)
    | exact isl_next ‹ISL _ _ _ _› (by omega) (by omega)
def o_Mo_isMember_0 : or_T := (2, 3, [(0, (2, 0, 0, [165])), (1, (0, 0, 23, [])), (2, (0, 0, 0, []))], [], [], [], [(20, [0, 1, 2], [60, 1, 1, 379, 99, 98]), (24, [0, 0], []), (24, [1, 1], [])], [], [])
theorem oo_Mo_isMember_0 {kA : Nat → ClassId} : or_ok PRD kA GG o_Mo_isMember_0 := by
  refine or_mk fun A ta ws vs hD hth hl => ?_
  intro t0 r0 t1 k1 t2 k2
  have cr_0_98 := fdq_157 hD hth r0
  have hK_0_98 := elq_90 hD hth cr_0_98
  have kz_0_99 := fdq_158 hD hth r0
  have nf0 : fc_1 PRD (20, [0, 1, 2], [60, 1, 1, 379, 99, 98]) ws (vs) := ⟨nf_in hl rfl, sgq_611 (vc_Mo_isMember_0_0 (v_iv (n_v vs 1)) (v_iv (n_v vs 2)) (w_ei ws (w_ar ws (n_v vs 0) 98)) (w_fi ws (n_v vs 0) 99) k1 k2 hK_0_98 kz_0_99)⟩
  have nf1 : fc_1 PRD (24, [0, 0], []) ws (vs) := by
    refine ⟨nf_in hl rfl, sgq_1 ?_⟩
    · show n_v vs 0 = n_v vs 0
      first | rfl | simp only [true_and]
  have nf2 : fc_1 PRD (24, [1, 1], []) ws (vs) := by
    refine ⟨nf_in hl rfl, sgq_1 ?_⟩
    · show n_v vs 1 = n_v vs 1
      first | rfl | simp only [true_and]
  refine ⟨(fun _ h => (by cases h)), [], trivial, ?_, (fun _ h => (by cases h))⟩
  rw [List.append_nil]
  exact List.forall_mem_cons.mpr ⟨⟨show (20 : Nat) < 100 from by decide, nf0⟩, List.forall_mem_cons.mpr ⟨⟨show (24 : Nat) < 100 from by decide, nf1⟩, List.forall_mem_cons.mpr ⟨⟨show (24 : Nat) < 100 from by decide, nf2⟩, (fun _ h => (by cases h))⟩⟩⟩
set_option maxHeartbeats 4000000 in
theorem vc_Mo_isMember_1_0 (x1 : Int) (x3 : Int) (x4 : Int) (x5 : Int) (x6 : Int) (members_0 : Int) (member_0 : Int → Int) (k1 : 0 ≤ x1 ∧ x1 ≤ 23) (k3 : 0 ≤ x3 ∧ x3 ≤ 23) (k4 : 0 ≤ x4 ∧ x4 ≤ 26) (k5 : 0 ≤ x5 ∧ x5 ≤ 26) (k6 : 0 ≤ x6 ∧ x6 ≤ 0) (d0 : x5 + 0 ≤ x4 ∧ x4 ≤ x5 + 4294967296) (d1 : x3 + (-4294967296) ≤ x1 ∧ x1 ≤ x3 + 0) (d2 : x1 + (-4294967296) ≤ x3 ∧ x3 ≤ x1 + 0) (f0 : x5 ≤ x4) (g1 : x5 = members_0) (f2 : ISL (members_0) (member_0) (x1) (x4)) (hK_0_98 : ∀ j : Int, 0 ≤ j → j < 26 → 0 ≤ member_0 j ∧ member_0 j ≤ 25) (kz_0_99 : 0 ≤ members_0 ∧ members_0 ≤ 26) : ISM (members_0) (member_0) (x1) (x6) := by
  first
    | (intro _; omega)
    | (have h := ‹ISL _ _ _ _›
       intro z
       obtain ⟨t, a, b, c⟩ := z
       exact absurd c (h t a (by omega)))
set_option maxHeartbeats 4000000 in
theorem vc_Mo_isMember_1_1 (x1 : Int) (x3 : Int) (x4 : Int) (x5 : Int) (x6 : Int) (members_0 : Int) (member_0 : Int → Int) (k1 : 0 ≤ x1 ∧ x1 ≤ 23) (k3 : 0 ≤ x3 ∧ x3 ≤ 23) (k4 : 0 ≤ x4 ∧ x4 ≤ 26) (k5 : 0 ≤ x5 ∧ x5 ≤ 26) (k6 : 0 ≤ x6 ∧ x6 ≤ 0) (d0 : x5 + 0 ≤ x4 ∧ x4 ≤ x5 + 4294967296) (d1 : x3 + (-4294967296) ≤ x1 ∧ x1 ≤ x3 + 0) (d2 : x1 + (-4294967296) ≤ x3 ∧ x3 ≤ x1 + 0) (f0 : x5 ≤ x4) (g1 : x5 = members_0) (f2 : ISL (members_0) (member_0) (x1) (x4)) (hK_0_98 : ∀ j : Int, 0 ≤ j → j < 26 → 0 ≤ member_0 j ∧ member_0 j ≤ 25) (kz_0_99 : 0 ≤ members_0 ∧ members_0 ≤ 26) : ISX (members_0) (member_0) (x1) (x6) := by
  first
    | (intro z; exfalso; omega)
    | exact fun _ => ⟨x4, by omega, by omega, by omega⟩
def o_Mo_isMember_1 : or_T := (29, 7, [(0, (2, 0, 0, [165])), (1, (0, 0, 23, [])), (3, (0, 0, 23, [])), (4, (0, 0, 26, [])), (5, (0, 0, 26, [])), (6, (0, 0, 0, []))], [(7, [4, 5], [3]), (9, [5, 2], [99]), (20, [2, 3, 4], [60, 1, 1, 379, 99, 98]), (24, [0, 2], []), (24, [1, 3], [])], [], [], [(20, [0, 1, 6], [60, 1, 1, 380, 99, 98]), (20, [0, 1, 6], [60, 1, 1, 385, 99, 98])], [], [(4, 5, 0, 4294967296), (1, 3, -4294967296, 0), (3, 1, -4294967296, 0)])
theorem oo_Mo_isMember_1 {kA : Nat → ClassId} : or_ok PRD kA GG o_Mo_isMember_1 := by
  refine or_mk fun A ta ws vs hD hth hl => ?_
  intro t0 r0 t1 k1 t3 k3 t4 k4 t5 k5 t6 k6 d0 d1 d2 f0 f1 f2 f3 f4
  replace f1 := shm_612 f1
  replace f2 := shm_611 f2
  replace f3 := shm_5 f3
  replace f4 := shm_5 f4
  have q2 : n_v vs 2 = n_v vs 0 := f3.symm
  have q3 : n_v vs 3 = n_v vs 1 := f4.symm
  simp only [q2, q3] at f1 f2
  have cr_0_98 := fdq_157 hD hth r0
  have g1 : v_iv (n_v vs 5) = w_fi ws (n_v vs 0) 99 := congrArg v_iv f1
  have hK_0_98 := elq_90 hD hth cr_0_98
  have kz_0_99 := fdq_158 hD hth r0
  have nf0 : fc_1 PRD (20, [0, 1, 6], [60, 1, 1, 380, 99, 98]) ws (vs) := ⟨nf_in hl rfl, sgq_613 (vc_Mo_isMember_1_0 (v_iv (n_v vs 1)) (v_iv (n_v vs 3)) (v_iv (n_v vs 4)) (v_iv (n_v vs 5)) (v_iv (n_v vs 6)) (w_fi ws (n_v vs 0) 99) (w_ei ws (w_ar ws (n_v vs 0) 98)) k1 k3 k4 k5 k6 d0 d1 d2 (shm_2 f0) g1 f2 hK_0_98 kz_0_99)⟩
  have nf1 : fc_1 PRD (20, [0, 1, 6], [60, 1, 1, 385, 99, 98]) ws (vs) := ⟨nf_in hl rfl, sgq_614 (vc_Mo_isMember_1_1 (v_iv (n_v vs 1)) (v_iv (n_v vs 3)) (v_iv (n_v vs 4)) (v_iv (n_v vs 5)) (v_iv (n_v vs 6)) (w_fi ws (n_v vs 0) 99) (w_ei ws (w_ar ws (n_v vs 0) 98)) k1 k3 k4 k5 k6 d0 d1 d2 (shm_2 f0) g1 f2 hK_0_98 kz_0_99)⟩
  refine ⟨(fun _ h => (by cases h)), [], trivial, ?_, (fun _ h => (by cases h))⟩
  rw [List.append_nil]
  exact List.forall_mem_cons.mpr ⟨⟨show (20 : Nat) < 100 from by decide, nf0⟩, List.forall_mem_cons.mpr ⟨⟨show (20 : Nat) < 100 from by decide, nf1⟩, (fun _ h => (by cases h))⟩⟩
set_option maxHeartbeats 4000000 in
theorem vc_Mo_isMember_2_0 (x1 : Int) (x3 : Int) (x4 : Int) (x5 : Int) (x7 : Int) (x8 : Int) (member_0 : Int → Int) (members_0 : Int) (k1 : 0 ≤ x1 ∧ x1 ≤ 23) (k3 : 0 ≤ x3 ∧ x3 ≤ 23) (k4 : 0 ≤ x4 ∧ x4 ≤ 25) (k5 : 1 ≤ x5 ∧ x5 ≤ 26) (k7 : 0 ≤ x7 ∧ x7 ≤ 25) (k8 : 1 ≤ x8 ∧ x8 ≤ 26) (d0 : x4 + 1 ≤ x8 ∧ x8 ≤ x4 + 1) (d1 : x5 + (-4294967296) ≤ x8 ∧ x8 ≤ x5 + 0) (d2 : x5 + (-4294967296) ≤ x4 ∧ x4 ≤ x5 + (-1)) (d3 : x3 + (-4294967296) ≤ x1 ∧ x1 ≤ x3 + 0) (d4 : x1 + (-4294967296) ≤ x3 ∧ x3 ≤ x1 + 0) (f0 : x8 = x4 + 1) (f1 : x7 ≠ x1) (h2 : x7 = member_0 (x4)) (f4 : x4 < x5) (g5 : x5 = members_0) (f6 : ISL (members_0) (member_0) (x1) (x4)) (hK_0_98 : ∀ j : Int, 0 ≤ j → j < 26 → 0 ≤ member_0 j ∧ member_0 j ≤ 25) (kz_0_99 : 0 ≤ members_0 ∧ members_0 ≤ 26) : ISL (members_0) (member_0) (x1) (x8) := by
  first
    | (intro t a b; exfalso; omega)
    | exact isl_next ‹ISL _ _ _ _› (by omega) (by omega)
def o_Mo_isMember_2 : or_T := (2, 9, [(0, (2, 0, 0, [165])), (1, (0, 0, 23, [])), (3, (0, 0, 23, [])), (4, (0, 0, 25, [])), (5, (0, 1, 26, [])), (7, (0, 0, 25, [])), (8, (0, 1, 26, []))], [(6, [8, 4], [1]), (7, [7, 3], [1]), (10, [7, 6, 4], []), (9, [6, 2], [98]), (7, [4, 5], [2]), (9, [5, 2], [99]), (20, [2, 3, 4], [60, 1, 1, 379, 99, 98]), (24, [0, 2], []), (24, [1, 3], [])], [], [], [(20, [2, 3, 8], [60, 1, 1, 379, 99, 98])], [], [(8, 4, 1, 1), (8, 5, -4294967296, 0), (4, 5, -4294967296, -1), (1, 3, -4294967296, 0), (3, 1, -4294967296, 0)])
theorem oo_Mo_isMember_2 {kA : Nat → ClassId} : or_ok PRD kA GG o_Mo_isMember_2 := by
  refine or_mk fun A ta ws vs hD hth hl => ?_
  intro t0 r0 t1 k1 t3 k3 t4 k4 t5 k5 t7 k7 t8 k8 d0 d1 d2 d3 d4 f0 f1 f2 f3 f4 f5 f6 f7 f8
  replace f0 := shm_4 f0
  replace f1 := shm_40 f1
  replace f2 := shm_107 f2
  replace f3 := shm_615 f3
  replace f4 := shm_6 f4
  replace f5 := shm_612 f5
  replace f6 := shm_611 f6
  replace f7 := shm_5 f7
  replace f8 := shm_5 f8
  have q2 : n_v vs 2 = n_v vs 0 := f7.symm
  have q3 : n_v vs 3 = n_v vs 1 := f8.symm
  simp only [q3, q2] at f1 f3 f5 f6
  have cr_0_98 := fdq_157 hD hth r0
  have ad_6 : v_ad (n_v vs 6) = w_ar ws (n_v vs 0) 98 := congrArg v_ad f3
  simp only [ad_6] at f2
  have h2 : v_iv (n_v vs 7) = w_ei ws (w_ar ws (n_v vs 0) 98) (v_iv (n_v vs 4)) := f2
  have g5 : v_iv (n_v vs 5) = w_fi ws (n_v vs 0) 99 := congrArg v_iv f5
  have hK_0_98 := elq_90 hD hth cr_0_98
  have kz_0_99 := fdq_158 hD hth r0
  have nf0 : fc_1 PRD (20, [2, 3, 8], [60, 1, 1, 379, 99, 98]) ws (vs) := by
    refine ⟨nf_in hl rfl, sgq_611 ?_⟩
    · show ISL (w_fi ws (n_v vs 2) 99) (w_ei ws (w_ar ws (n_v vs 2) 98)) (v_iv (n_v vs 3)) (v_iv (n_v vs 8))
      simp only [q2, q3]
      exact vc_Mo_isMember_2_0 (v_iv (n_v vs 1)) (v_iv (n_v vs 3)) (v_iv (n_v vs 4)) (v_iv (n_v vs 5)) (v_iv (n_v vs 7)) (v_iv (n_v vs 8)) (w_ei ws (w_ar ws (n_v vs 0) 98)) (w_fi ws (n_v vs 0) 99) k1 k3 k4 k5 k7 k8 d0 d1 d2 d3 d4 f0 f1 h2 f4 g5 f6 hK_0_98 kz_0_99
  refine ⟨(fun _ h => (by cases h)), [], trivial, ?_, (fun _ h => (by cases h))⟩
  rw [List.append_nil]
  exact List.forall_mem_cons.mpr ⟨⟨show (20 : Nat) < 100 from by decide, nf0⟩, (fun _ h => (by cases h))⟩
set_option maxHeartbeats 4000000 in
theorem vc_Mo_isMember_3_0 (x1 : Int) (x3 : Int) (x4 : Int) (x5 : Int) (x7 : Int) (x8 : Int) (member_0 : Int → Int) (members_0 : Int) (k1 : 0 ≤ x1 ∧ x1 ≤ 23) (k3 : 0 ≤ x3 ∧ x3 ≤ 23) (k4 : 0 ≤ x4 ∧ x4 ≤ 25) (k5 : 1 ≤ x5 ∧ x5 ≤ 26) (k7 : 0 ≤ x7 ∧ x7 ≤ 23) (k8 : 1 ≤ x8 ∧ x8 ≤ 1) (d0 : x3 + 0 ≤ x7 ∧ x7 ≤ x3 + 0) (d1 : x5 + (-4294967296) ≤ x4 ∧ x4 ≤ x5 + (-1)) (d2 : x3 + (-4294967296) ≤ x1 ∧ x1 ≤ x3 + 0) (d3 : x1 + (-4294967296) ≤ x3 ∧ x3 ≤ x1 + 0) (f0 : x7 = x1) (h1 : x7 = member_0 (x4)) (f3 : x4 < x5) (g4 : x5 = members_0) (f5 : ISL (members_0) (member_0) (x1) (x4)) (hK_0_98 : ∀ j : Int, 0 ≤ j → j < 26 → 0 ≤ member_0 j ∧ member_0 j ≤ 25) (kz_0_99 : 0 ≤ members_0 ∧ members_0 ≤ 26) : ISM (members_0) (member_0) (x1) (x8) := by
  first
    | (intro _; omega)
    | (have h := ‹ISL _ _ _ _›
       intro z
       obtain ⟨t, a, b, c⟩ := z
       exact absurd c (h t a (by omega)))
set_option maxHeartbeats 4000000 in
theorem vc_Mo_isMember_3_1 (x1 : Int) (x3 : Int) (x4 : Int) (x5 : Int) (x7 : Int) (x8 : Int) (member_0 : Int → Int) (members_0 : Int) (k1 : 0 ≤ x1 ∧ x1 ≤ 23) (k3 : 0 ≤ x3 ∧ x3 ≤ 23) (k4 : 0 ≤ x4 ∧ x4 ≤ 25) (k5 : 1 ≤ x5 ∧ x5 ≤ 26) (k7 : 0 ≤ x7 ∧ x7 ≤ 23) (k8 : 1 ≤ x8 ∧ x8 ≤ 1) (d0 : x3 + 0 ≤ x7 ∧ x7 ≤ x3 + 0) (d1 : x5 + (-4294967296) ≤ x4 ∧ x4 ≤ x5 + (-1)) (d2 : x3 + (-4294967296) ≤ x1 ∧ x1 ≤ x3 + 0) (d3 : x1 + (-4294967296) ≤ x3 ∧ x3 ≤ x1 + 0) (f0 : x7 = x1) (h1 : x7 = member_0 (x4)) (f3 : x4 < x5) (g4 : x5 = members_0) (f5 : ISL (members_0) (member_0) (x1) (x4)) (hK_0_98 : ∀ j : Int, 0 ≤ j → j < 26 → 0 ≤ member_0 j ∧ member_0 j ≤ 25) (kz_0_99 : 0 ≤ members_0 ∧ members_0 ≤ 26) : ISX (members_0) (member_0) (x1) (x8) := by
  first
    | (intro z; exfalso; omega)
    | exact fun _ => ⟨x4, by omega, by omega, by omega⟩
def o_Mo_isMember_3 : or_T := (21, 9, [(0, (2, 0, 0, [165])), (1, (0, 0, 23, [])), (3, (0, 0, 23, [])), (4, (0, 0, 25, [])), (5, (0, 1, 26, [])), (7, (0, 0, 23, [])), (8, (0, 1, 1, []))], [(7, [7, 3], [0]), (10, [7, 6, 4], []), (9, [6, 2], [98]), (7, [4, 5], [2]), (9, [5, 2], [99]), (20, [2, 3, 4], [60, 1, 1, 379, 99, 98]), (24, [0, 2], []), (24, [1, 3], [])], [], [], [(20, [0, 1, 8], [60, 1, 1, 380, 99, 98]), (20, [0, 1, 8], [60, 1, 1, 385, 99, 98])], [], [(7, 3, 0, 0), (4, 5, -4294967296, -1), (1, 3, -4294967296, 0), (3, 1, -4294967296, 0)])
theorem oo_Mo_isMember_3 {kA : Nat → ClassId} : or_ok PRD kA GG o_Mo_isMember_3 := by
  refine or_mk fun A ta ws vs hD hth hl => ?_
  intro t0 r0 t1 k1 t3 k3 t4 k4 t5 k5 t7 k7 t8 k8 d0 d1 d2 d3 f0 f1 f2 f3 f4 f5 f6 f7
  replace f0 := shm_37 f0
  replace f1 := shm_107 f1
  replace f2 := shm_615 f2
  replace f4 := shm_612 f4
  replace f5 := shm_611 f5
  replace f6 := shm_5 f6
  replace f7 := shm_5 f7
  have q2 : n_v vs 2 = n_v vs 0 := f6.symm
  have q3 : n_v vs 3 = n_v vs 1 := f7.symm
  simp only [q3, q2] at f0 f2 f4 f5
  have cr_0_98 := fdq_157 hD hth r0
  have ad_6 : v_ad (n_v vs 6) = w_ar ws (n_v vs 0) 98 := congrArg v_ad f2
  simp only [ad_6] at f1
  have h1 : v_iv (n_v vs 7) = w_ei ws (w_ar ws (n_v vs 0) 98) (v_iv (n_v vs 4)) := f1
  have g4 : v_iv (n_v vs 5) = w_fi ws (n_v vs 0) 99 := congrArg v_iv f4
  have hK_0_98 := elq_90 hD hth cr_0_98
  have kz_0_99 := fdq_158 hD hth r0
  have nf0 : fc_1 PRD (20, [0, 1, 8], [60, 1, 1, 380, 99, 98]) ws (vs) := ⟨nf_in hl rfl, sgq_613 (vc_Mo_isMember_3_0 (v_iv (n_v vs 1)) (v_iv (n_v vs 3)) (v_iv (n_v vs 4)) (v_iv (n_v vs 5)) (v_iv (n_v vs 7)) (v_iv (n_v vs 8)) (w_ei ws (w_ar ws (n_v vs 0) 98)) (w_fi ws (n_v vs 0) 99) k1 k3 k4 k5 k7 k8 d0 d1 d2 d3 f0 h1 (shm_6 f3) g4 f5 hK_0_98 kz_0_99)⟩
  have nf1 : fc_1 PRD (20, [0, 1, 8], [60, 1, 1, 385, 99, 98]) ws (vs) := ⟨nf_in hl rfl, sgq_614 (vc_Mo_isMember_3_1 (v_iv (n_v vs 1)) (v_iv (n_v vs 3)) (v_iv (n_v vs 4)) (v_iv (n_v vs 5)) (v_iv (n_v vs 7)) (v_iv (n_v vs 8)) (w_ei ws (w_ar ws (n_v vs 0) 98)) (w_fi ws (n_v vs 0) 99) k1 k3 k4 k5 k7 k8 d0 d1 d2 d3 f0 h1 (shm_6 f3) g4 f5 hK_0_98 kz_0_99)⟩
  refine ⟨(fun _ h => (by cases h)), [], trivial, ?_, (fun _ h => (by cases h))⟩
  rw [List.append_nil]
  exact List.forall_mem_cons.mpr ⟨⟨show (20 : Nat) < 100 from by decide, nf0⟩, List.forall_mem_cons.mpr ⟨⟨show (20 : Nat) < 100 from by decide, nf1⟩, (fun _ h => (by cases h))⟩⟩
def n_Mo_isMember_an : List an_T := [(2, [(0, (2, 0, 0, [165])), (1, (0, 0, 23, [])), (2, (0, 0, 26, []))], [], (0, 0), [(0, 0, 99998), (1, 4, 26), (0, 0, 100000)], [(1, 3, (Int.negSucc 999999999999), 0), (3, 1, (Int.negSucc 999999999999), 0)], [], [(2, 0, 0, [165]), (0, 0, 23, [])], 0, [], [(20, [2, 3, 4], [60, 1, 1, 379, 99, 98]), (24, [0, 2], []), (24, [1, 3], [])])]
def t_Mo_isMember_ct : ct_L := []
set_option maxRecDepth 100000 in
theorem c_Mo_isMember {l : Launch} {D : va_G} {kA : Nat → ClassId} : ct_ok PRD l D kA GG y_Mo_isMember z_Mo_isMember e_Mo_isMember := chk_all_ok (FT := [(219, 13, 98), (795, 13, 99)]) (PT := []) (CT := t_Mo_isMember_ct) (KT := []) (NT := []) (AN := n_Mo_isMember_an) (OT := [o_Mo_isMember_0, o_Mo_isMember_1, o_Mo_isMember_2, o_Mo_isMember_3]) 3 200 (List.forall_mem_cons.mpr ⟨oo_Mo_isMember_0, List.forall_mem_cons.mpr ⟨oo_Mo_isMember_1, List.forall_mem_cons.mpr ⟨oo_Mo_isMember_2, List.forall_mem_cons.mpr ⟨oo_Mo_isMember_3, List.forall_mem_nil _⟩⟩⟩⟩) (by decide +kernel) ⟨List.forall_mem_cons.mpr ⟨gf_Mo_219, List.forall_mem_cons.mpr ⟨gf_Mo_795, List.forall_mem_nil _⟩⟩, List.forall_mem_nil _, List.forall_mem_nil _, List.forall_mem_nil _, List.forall_mem_nil _, GG_pl⟩ (by decide +kernel)
set_option maxHeartbeats 4000000 in
theorem vc_Mo_isSmall_0_0 (x1 : Int) (layerSize_0 : Int → Int) (k1 : 0 ≤ x1 ∧ x1 ≤ 0) (hK_0_105 : ∀ j : Int, 0 ≤ j → j < 76 → 0 ≤ layerSize_0 j ∧ layerSize_0 j ≤ 76) : ISI (layerSize_0) (x1) := by
  first
    | (intro m a b; exfalso; omega)
    | (have h := ‹ISI _ _›; intro m a b; by_cases e : m = x2
       · subst e; omega
       · exact h m a (by omega))
def o_Mo_isSmall_0 : or_T := (2, 2, [(0, (2, 0, 0, [165])), (1, (0, 0, 0, []))], [], [], [], [(20, [0, 1], [60, 0, 1, 460, 105]), (24, [0, 0], [])], [], [])
theorem oo_Mo_isSmall_0 {kA : Nat → ClassId} : or_ok PRD kA GG o_Mo_isSmall_0 := by
  refine or_mk fun A ta ws vs hD hth hl => ?_
  intro t0 r0 t1 k1
  have cr_0_105 := fdq_122 hD hth r0
  have hK_0_105 := elq_65 hD hth cr_0_105
  have nf0 : fc_1 PRD (20, [0, 1], [60, 0, 1, 460, 105]) ws (vs) := ⟨nf_in hl rfl, sgq_616 (vc_Mo_isSmall_0_0 (v_iv (n_v vs 1)) (w_ei ws (w_ar ws (n_v vs 0) 105)) k1 hK_0_105)⟩
  have nf1 : fc_1 PRD (24, [0, 0], []) ws (vs) := by
    refine ⟨nf_in hl rfl, sgq_1 ?_⟩
    · show n_v vs 0 = n_v vs 0
      first | rfl | simp only [true_and]
  refine ⟨(fun _ h => (by cases h)), [], trivial, ?_, (fun _ h => (by cases h))⟩
  rw [List.append_nil]
  exact List.forall_mem_cons.mpr ⟨⟨show (20 : Nat) < 100 from by decide, nf0⟩, List.forall_mem_cons.mpr ⟨⟨show (24 : Nat) < 100 from by decide, nf1⟩, (fun _ h => (by cases h))⟩⟩
set_option maxHeartbeats 4000000 in
theorem vc_Mo_isSmall_1_0 (x2 : Int) (x3 : Int) (x4 : Int) (layerMany_0 : Int) (layerSize_0 : Int → Int) (k2 : 0 ≤ x2 ∧ x2 ≤ 76) (k3 : 0 ≤ x3 ∧ x3 ≤ 76) (k4 : 1 ≤ x4 ∧ x4 ≤ 1) (d0 : x3 + 0 ≤ x2 ∧ x2 ≤ x3 + 4294967296) (f0 : x3 ≤ x2) (g1 : x3 = layerMany_0) (f2 : ISI (layerSize_0) (x2)) (hK_0_105 : ∀ j : Int, 0 ≤ j → j < 76 → 0 ≤ layerSize_0 j ∧ layerSize_0 j ≤ 76) (kz_0_101 : 0 ≤ layerMany_0 ∧ layerMany_0 ≤ 76) : ISS (layerMany_0) (layerSize_0) (x4) := by
  first
    | (intro z; exfalso; omega)
    | exact fun _ l a b => ‹ISI _ _› l a (by omega)
def o_Mo_isSmall_1 : or_T := (30, 5, [(0, (2, 0, 0, [165])), (2, (0, 0, 76, [])), (3, (0, 0, 76, [])), (4, (0, 1, 1, []))], [(7, [2, 3], [3]), (9, [3, 1], [101]), (20, [1, 2], [60, 0, 1, 460, 105]), (24, [0, 1], [])], [], [], [(20, [0, 4], [60, 1, 1, 459, 101, 105])], [], [(2, 3, 0, 4294967296)])
theorem oo_Mo_isSmall_1 {kA : Nat → ClassId} : or_ok PRD kA GG o_Mo_isSmall_1 := by
  refine or_mk fun A ta ws vs hD hth hl => ?_
  intro t0 r0 t2 k2 t3 k3 t4 k4 d0 f0 f1 f2 f3
  replace f1 := shm_617 f1
  replace f2 := shm_616 f2
  replace f3 := shm_5 f3
  have q1 : n_v vs 1 = n_v vs 0 := f3.symm
  simp only [q1] at f1 f2
  have cr_0_105 := fdq_122 hD hth r0
  have g1 : v_iv (n_v vs 3) = w_fi ws (n_v vs 0) 101 := congrArg v_iv f1
  have hK_0_105 := elq_65 hD hth cr_0_105
  have kz_0_101 := fdq_125 hD hth r0
  have nf0 : fc_1 PRD (20, [0, 4], [60, 1, 1, 459, 101, 105]) ws (vs) := ⟨nf_in hl rfl, sgq_618 (vc_Mo_isSmall_1_0 (v_iv (n_v vs 2)) (v_iv (n_v vs 3)) (v_iv (n_v vs 4)) (w_fi ws (n_v vs 0) 101) (w_ei ws (w_ar ws (n_v vs 0) 105)) k2 k3 k4 d0 (shm_2 f0) g1 f2 hK_0_105 kz_0_101)⟩
  refine ⟨(fun _ h => (by cases h)), [], trivial, ?_, (fun _ h => (by cases h))⟩
  rw [List.append_nil]
  exact List.forall_mem_cons.mpr ⟨⟨show (20 : Nat) < 100 from by decide, nf0⟩, (fun _ h => (by cases h))⟩
set_option maxHeartbeats 4000000 in
theorem vc_Mo_isSmall_2_0 (x2 : Int) (x3 : Int) (x5 : Int) (x6 : Int) (x7 : Int) (layerSize_0 : Int → Int) (layerMany_0 : Int) (k2 : 0 ≤ x2 ∧ x2 ≤ 75) (k3 : 1 ≤ x3 ∧ x3 ≤ 76) (k5 : 0 ≤ x5 ∧ x5 ≤ 6) (k6 : 6 ≤ x6 ∧ x6 ≤ 6) (k7 : 1 ≤ x7 ∧ x7 ≤ 76) (d0 : x2 + 1 ≤ x7 ∧ x7 ≤ x2 + 1) (d1 : x3 + (-4294967296) ≤ x7 ∧ x7 ≤ x3 + 0) (d2 : x3 + (-4294967296) ≤ x2 ∧ x2 ≤ x3 + (-1)) (f0 : x7 = x2 + 1) (f1 : x5 ≤ x6) (h2 : x5 = layerSize_0 (x2)) (f4 : x2 < x3) (g5 : x3 = layerMany_0) (f6 : ISI (layerSize_0) (x2)) (hK_0_105 : ∀ j : Int, 0 ≤ j → j < 76 → 0 ≤ layerSize_0 j ∧ layerSize_0 j ≤ 76) (kz_0_101 : 0 ≤ layerMany_0 ∧ layerMany_0 ≤ 76) : ISI (layerSize_0) (x7) := by
  first
    | (intro m a b; exfalso; omega)
    | (have h := ‹ISI _ _›; intro m a b; by_cases e : m = x2
       · subst e; omega
       · exact h m a (by omega))
def o_Mo_isSmall_2 : or_T := (2, 8, [(0, (2, 0, 0, [165])), (2, (0, 0, 75, [])), (3, (0, 1, 76, [])), (5, (0, 0, 6, [])), (6, (0, 6, 6, [])), (7, (0, 1, 76, []))], [(6, [7, 2], [1]), (7, [5, 6], [5]), (10, [5, 4, 2], []), (9, [4, 1], [105]), (7, [2, 3], [2]), (9, [3, 1], [101]), (20, [1, 2], [60, 0, 1, 460, 105]), (24, [0, 1], [])], [], [], [(20, [1, 7], [60, 0, 1, 460, 105])], [], [(7, 2, 1, 1), (7, 3, -4294967296, 0), (2, 3, -4294967296, -1)])
theorem oo_Mo_isSmall_2 {kA : Nat → ClassId} : or_ok PRD kA GG o_Mo_isSmall_2 := by
  refine or_mk fun A ta ws vs hD hth hl => ?_
  intro t0 r0 t2 k2 t3 k3 t5 k5 t6 k6 t7 k7 d0 d1 d2 f0 f1 f2 f3 f4 f5 f6 f7
  replace f0 := shm_4 f0
  replace f1 := shm_24 f1
  replace f2 := shm_107 f2
  replace f3 := shm_619 f3
  replace f4 := shm_6 f4
  replace f5 := shm_617 f5
  replace f6 := shm_616 f6
  replace f7 := shm_5 f7
  have q1 : n_v vs 1 = n_v vs 0 := f7.symm
  simp only [q1] at f3 f5 f6
  have cr_0_105 := fdq_122 hD hth r0
  have ad_4 : v_ad (n_v vs 4) = w_ar ws (n_v vs 0) 105 := congrArg v_ad f3
  simp only [ad_4] at f2
  have h2 : v_iv (n_v vs 5) = w_ei ws (w_ar ws (n_v vs 0) 105) (v_iv (n_v vs 2)) := f2
  have g5 : v_iv (n_v vs 3) = w_fi ws (n_v vs 0) 101 := congrArg v_iv f5
  have hK_0_105 := elq_65 hD hth cr_0_105
  have kz_0_101 := fdq_125 hD hth r0
  have nf0 : fc_1 PRD (20, [1, 7], [60, 0, 1, 460, 105]) ws (vs) := by
    refine ⟨nf_in hl rfl, sgq_616 ?_⟩
    · show ISI (w_ei ws (w_ar ws (n_v vs 1) 105)) (v_iv (n_v vs 7))
      rw [q1]
      exact vc_Mo_isSmall_2_0 (v_iv (n_v vs 2)) (v_iv (n_v vs 3)) (v_iv (n_v vs 5)) (v_iv (n_v vs 6)) (v_iv (n_v vs 7)) (w_ei ws (w_ar ws (n_v vs 0) 105)) (w_fi ws (n_v vs 0) 101) k2 k3 k5 k6 k7 d0 d1 d2 f0 f1 h2 f4 g5 f6 hK_0_105 kz_0_101
  refine ⟨(fun _ h => (by cases h)), [], trivial, ?_, (fun _ h => (by cases h))⟩
  rw [List.append_nil]
  exact List.forall_mem_cons.mpr ⟨⟨show (20 : Nat) < 100 from by decide, nf0⟩, (fun _ h => (by cases h))⟩
set_option maxHeartbeats 4000000 in
theorem vc_Mo_isSmall_3_0 (x2 : Int) (x3 : Int) (x5 : Int) (x6 : Int) (x7 : Int) (layerSize_0 : Int → Int) (layerMany_0 : Int) (k2 : 0 ≤ x2 ∧ x2 ≤ 75) (k3 : 1 ≤ x3 ∧ x3 ≤ 76) (k5 : 7 ≤ x5 ∧ x5 ≤ 76) (k6 : 6 ≤ x6 ∧ x6 ≤ 6) (k7 : 0 ≤ x7 ∧ x7 ≤ 0) (d0 : x3 + (-4294967296) ≤ x2 ∧ x2 ≤ x3 + (-1)) (f0 : x6 < x5) (h1 : x5 = layerSize_0 (x2)) (f3 : x2 < x3) (g4 : x3 = layerMany_0) (f5 : ISI (layerSize_0) (x2)) (hK_0_105 : ∀ j : Int, 0 ≤ j → j < 76 → 0 ≤ layerSize_0 j ∧ layerSize_0 j ≤ 76) (kz_0_101 : 0 ≤ layerMany_0 ∧ layerMany_0 ≤ 76) : ISS (layerMany_0) (layerSize_0) (x7) := by
  first
    | (intro z; exfalso; omega)
    | exact fun _ l a b => ‹ISI _ _› l a (by omega)
def o_Mo_isSmall_3 : or_T := (22, 8, [(0, (2, 0, 0, [165])), (2, (0, 0, 75, [])), (3, (0, 1, 76, [])), (5, (0, 7, 76, [])), (6, (0, 6, 6, [])), (7, (0, 0, 0, []))], [(7, [5, 6], [4]), (10, [5, 4, 2], []), (9, [4, 1], [105]), (7, [2, 3], [2]), (9, [3, 1], [101]), (20, [1, 2], [60, 0, 1, 460, 105]), (24, [0, 1], [])], [], [], [(20, [0, 7], [60, 1, 1, 459, 101, 105])], [], [(2, 3, -4294967296, -1)])
theorem oo_Mo_isSmall_3 {kA : Nat → ClassId} : or_ok PRD kA GG o_Mo_isSmall_3 := by
  refine or_mk fun A ta ws vs hD hth hl => ?_
  intro t0 r0 t2 k2 t3 k3 t5 k5 t6 k6 t7 k7 d0 f0 f1 f2 f3 f4 f5 f6
  replace f1 := shm_107 f1
  replace f2 := shm_619 f2
  replace f4 := shm_617 f4
  replace f5 := shm_616 f5
  replace f6 := shm_5 f6
  have q1 : n_v vs 1 = n_v vs 0 := f6.symm
  simp only [q1] at f2 f4 f5
  have cr_0_105 := fdq_122 hD hth r0
  have ad_4 : v_ad (n_v vs 4) = w_ar ws (n_v vs 0) 105 := congrArg v_ad f2
  simp only [ad_4] at f1
  have h1 : v_iv (n_v vs 5) = w_ei ws (w_ar ws (n_v vs 0) 105) (v_iv (n_v vs 2)) := f1
  have g4 : v_iv (n_v vs 3) = w_fi ws (n_v vs 0) 101 := congrArg v_iv f4
  have hK_0_105 := elq_65 hD hth cr_0_105
  have kz_0_101 := fdq_125 hD hth r0
  have nf0 : fc_1 PRD (20, [0, 7], [60, 1, 1, 459, 101, 105]) ws (vs) := ⟨nf_in hl rfl, sgq_618 (vc_Mo_isSmall_3_0 (v_iv (n_v vs 2)) (v_iv (n_v vs 3)) (v_iv (n_v vs 5)) (v_iv (n_v vs 6)) (v_iv (n_v vs 7)) (w_ei ws (w_ar ws (n_v vs 0) 105)) (w_fi ws (n_v vs 0) 101) k2 k3 k5 k6 k7 d0 (shm_21 f0) h1 (shm_6 f3) g4 f5 hK_0_105 kz_0_101)⟩
  refine ⟨(fun _ h => (by cases h)), [], trivial, ?_, (fun _ h => (by cases h))⟩
  rw [List.append_nil]
  exact List.forall_mem_cons.mpr ⟨⟨show (20 : Nat) < 100 from by decide, nf0⟩, (fun _ h => (by cases h))⟩
def n_Mo_isSmall_an : List an_T := [(2, [(0, (2, 0, 0, [165])), (1, (0, 0, 76, []))], [], (0, 0), [(0, 0, 99998), (1, 2, 76), (0, 0, 100000)], [], [], [(2, 0, 0, [165])], 0, [], [(20, [1, 2], [60, 0, 1, 460, 105]), (24, [0, 1], [])])]
def t_Mo_isSmall_ct : ct_L := []
set_option maxRecDepth 100000 in
theorem c_Mo_isSmall {l : Launch} {D : va_G} {kA : Nat → ClassId} : ct_ok PRD l D kA GG y_Mo_isSmall z_Mo_isSmall e_Mo_isSmall := chk_all_ok (FT := [(231, 13, 105), (852, 13, 101)]) (PT := []) (CT := t_Mo_isSmall_ct) (KT := []) (NT := []) (AN := n_Mo_isSmall_an) (OT := [o_Mo_isSmall_0, o_Mo_isSmall_1, o_Mo_isSmall_2, o_Mo_isSmall_3]) 3 200 (List.forall_mem_cons.mpr ⟨oo_Mo_isSmall_0, List.forall_mem_cons.mpr ⟨oo_Mo_isSmall_1, List.forall_mem_cons.mpr ⟨oo_Mo_isSmall_2, List.forall_mem_cons.mpr ⟨oo_Mo_isSmall_3, List.forall_mem_nil _⟩⟩⟩⟩) (by decide +kernel) ⟨List.forall_mem_cons.mpr ⟨gf_Mo_231, List.forall_mem_cons.mpr ⟨gf_Mo_852, List.forall_mem_nil _⟩⟩, List.forall_mem_nil _, List.forall_mem_nil _, List.forall_mem_nil _, List.forall_mem_nil _, GG_pl⟩ (by decide +kernel)
set_option maxHeartbeats 4000000 in
theorem vc_Mo_isUnder_0_0 (x1 : Int) (x2 : Int) (all_0 : Int → Int) (level_0 : Int → Int) (above_0 : Int → Int) (r_0 : Int) (gx : Int) (k1 : 0 ≤ x1 ∧ x1 ≤ 23) (k2 : 0 ≤ x2 ∧ x2 ≤ 23) (f0 : ∀ j0 : Int, 0 ≤ j0 → j0 < 24 → (((j0 + 1) ≤ all_0 (r_0)) → (((-1) ≤ level_0 (j0)) ∧ ((level_0 (j0) ≤ 24) ∧ ((0 ≤ above_0 (j0)) → (((above_0 (j0) + 1) ≤ all_0 (r_0)) ∧ ((0 ≤ level_0 (above_0 (j0))) ∧ ((level_0 (above_0 (j0)) + 1) ≤ level_0 (j0))))))))) (f1 : 1 * x1 + ((-1) * all_0 (r_0 + 0) + 0) ≤ (-1)) (hK_0_127 : ∀ j : Int, 0 ≤ j → j < 26 → (-1) ≤ above_0 j ∧ above_0 j ≤ 23) (hK_0_128 : ∀ j : Int, 0 ≤ j → j < 26 → (-23) ≤ level_0 j ∧ level_0 j ≤ 24) (ex2 : gx = 60) (ex3 : (-2) ≤ gx ∧ gx ≤ 60) : ∀ j0 : Int, 0 ≤ j0 → j0 < 24 → (((j0 + 1) ≤ all_0 (r_0)) → (((-1) ≤ level_0 (j0)) ∧ ((level_0 (j0) ≤ 24) ∧ ((0 ≤ above_0 (j0)) → (((above_0 (j0) + 1) ≤ all_0 (r_0)) ∧ ((0 ≤ level_0 (above_0 (j0))) ∧ ((level_0 (above_0 (j0)) + 1) ≤ level_0 (j0)))))))) := by
  try simp only [Int.add_zero] at *
  first
    | omega
    | (have q := hK_0_128 x1 (by omega) (by omega); right; exact ⟨by omega, by omega⟩)
    | (have q := hK_0_128 x6 (by omega) (by omega); have g := f4 x6 (by omega) (by omega) (by omega); omega)
    | (have g := f4 x6 (by omega) (by omega) (by omega)
       have e : x9 = above_0 x6 := by assumption
       by_cases w : 0 ≤ x9
       · right
         have g2 := g.2.2 (by omega)
         rw [← e] at g2
         omega
       · left; omega)
  
set_option maxHeartbeats 4000000 in
theorem vc_Mo_isUnder_0_1 (x1 : Int) (x2 : Int) (all_0 : Int → Int) (level_0 : Int → Int) (above_0 : Int → Int) (r_0 : Int) (gx : Int) (k1 : 0 ≤ x1 ∧ x1 ≤ 23) (k2 : 0 ≤ x2 ∧ x2 ≤ 23) (f0 : ∀ j0 : Int, 0 ≤ j0 → j0 < 24 → (((j0 + 1) ≤ all_0 (r_0)) → (((-1) ≤ level_0 (j0)) ∧ ((level_0 (j0) ≤ 24) ∧ ((0 ≤ above_0 (j0)) → (((above_0 (j0) + 1) ≤ all_0 (r_0)) ∧ ((0 ≤ level_0 (above_0 (j0))) ∧ ((level_0 (above_0 (j0)) + 1) ≤ level_0 (j0))))))))) (f1 : 1 * x1 + ((-1) * all_0 (r_0 + 0) + 0) ≤ (-1)) (hK_0_127 : ∀ j : Int, 0 ≤ j → j < 26 → (-1) ≤ above_0 j ∧ above_0 j ≤ 23) (hK_0_128 : ∀ j : Int, 0 ≤ j → j < 26 → (-23) ≤ level_0 j ∧ level_0 j ≤ 24) (ex2 : gx = 60) (ex3 : (-2) ≤ gx ∧ gx ≤ 60) : (x1 ≤ (-1)) ∨ (((x1 + 1) ≤ all_0 (r_0)) ∧ ((level_0 (x1) + 0) ≤ gx)) := by
  try simp only [Int.add_zero] at *
  first
    | omega
    | (have q := hK_0_128 x1 (by omega) (by omega); right; exact ⟨by omega, by omega⟩)
    | (have q := hK_0_128 x6 (by omega) (by omega); have g := f4 x6 (by omega) (by omega) (by omega); omega)
    | (have g := f4 x6 (by omega) (by omega) (by omega)
       have e : x9 = above_0 x6 := by assumption
       by_cases w : 0 ≤ x9
       · right
         have g2 := g.2.2 (by omega)
         rw [← e] at g2
         omega
       · left; omega)
  
set_option maxHeartbeats 4000000 in
theorem vc_Mo_isUnder_0_2 (x1 : Int) (x2 : Int) (all_0 : Int → Int) (level_0 : Int → Int) (above_0 : Int → Int) (r_0 : Int) (gx : Int) (k1 : 0 ≤ x1 ∧ x1 ≤ 23) (k2 : 0 ≤ x2 ∧ x2 ≤ 23) (f0 : ∀ j0 : Int, 0 ≤ j0 → j0 < 24 → (((j0 + 1) ≤ all_0 (r_0)) → (((-1) ≤ level_0 (j0)) ∧ ((level_0 (j0) ≤ 24) ∧ ((0 ≤ above_0 (j0)) → (((above_0 (j0) + 1) ≤ all_0 (r_0)) ∧ ((0 ≤ level_0 (above_0 (j0))) ∧ ((level_0 (above_0 (j0)) + 1) ≤ level_0 (j0))))))))) (f1 : 1 * x1 + ((-1) * all_0 (r_0 + 0) + 0) ≤ (-1)) (hK_0_127 : ∀ j : Int, 0 ≤ j → j < 26 → (-1) ≤ above_0 j ∧ above_0 j ≤ 23) (hK_0_128 : ∀ j : Int, 0 ≤ j → j < 26 → (-23) ≤ level_0 j ∧ level_0 j ≤ 24) (ex2 : gx = 60) (ex3 : (-2) ≤ gx ∧ gx ≤ 60) : UN1 (level_0) (x1) (x2) (x1) := by
  first
    | assumption
    | exact ⟨fun e => by omega, Or.inl (by omega)⟩
    | (have h := ‹UN1 _ _ _ _›
       have g := f4 x6 (by omega) (by omega) (by omega)
       have e : x9 = above_0 x6 := by assumption
       refine ⟨fun q => by have := h.1 q; omega, ?_⟩
       by_cases w : 0 ≤ x9
       · right; right
         have g2 := (g.2.2 (by omega)).2.2
         rw [← e] at g2
         rcases h.2 with q | q | q
         · rw [q] at g2; omega
         · omega
         · omega
       · right; left; omega)
  
def o_Mo_isUnder_0 : or_T := (2, 3, [(0, (2, 0, 0, [165])), (1, (0, 0, 23, [])), (2, (0, 0, 23, []))], [(20, [0], [50, 1, 3, 5, 2, 128, 127, 5, 2, 0, 24, 4, 14, 0, 6, 4, 2, 7, 0, 0, 1, 3, 0, 2, 2, 0, 5, 2, 9, 0, 2, 0, -1, 3, 0, 128, 7, 0, 2, 9, 0, 5, 3, 0, 128, 7, 0, 0, 24, 4, 9, 0, 2, 0, 0, 3, 0, 127, 7, 0, 2, 17, 0, 9, 4, 5, 3, 0, 127, 7, 0, 0, 1, 3, 0, 2, 2, 0, 5, 2, 12, 0, 2, 0, 0, 3, 0, 128, 3, 0, 127, 7, 0, 0, 12, 4, 8, 3, 0, 128, 3, 0, 127, 7, 0, 0, 1, 3, 0, 128, 7, 0]), (20, [1, 0], [30, -1, 1, 0, 0, -1, 3, 2005000])], [], [(0, -2, 60, [])], [(20, [0], [50, 1, 3, 5, 2, 128, 127, 5, 2, 0, 24, 4, 14, 0, 6, 4, 2, 7, 0, 0, 1, 3, 0, 2, 2, 0, 5, 2, 9, 0, 2, 0, -1, 3, 0, 128, 7, 0, 2, 9, 0, 5, 3, 0, 128, 7, 0, 0, 24, 4, 9, 0, 2, 0, 0, 3, 0, 127, 7, 0, 2, 17, 0, 9, 4, 5, 3, 0, 127, 7, 0, 0, 1, 3, 0, 2, 2, 0, 5, 2, 12, 0, 2, 0, 0, 3, 0, 128, 3, 0, 127, 7, 0, 0, 12, 4, 8, 3, 0, 128, 3, 0, 127, 7, 0, 0, 1, 3, 0, 128, 7, 0]), (20, [1, 0, 3], [50, 1, 2, 1005, 1002, 1128, 3, 6, 0, 2, 1, 0, 0, -1, 2, 14, 0, 6, 4, 2, 1, 0, 0, 1, 3, 1, 2, 2, 1, 5, 0, 9, 4, 5, 3, 1, 128, 1, 0, 0, 0, 1, 2]), (20, [0, 1, 2, 1], [60, 0, 1, 796, 128]), (24, [0, 0], []), (24, [1, 1], []), (24, [2, 2], [])], [], [])
theorem oo_Mo_isUnder_0 {kA : Nat → ClassId} : or_ok PRD kA GG o_Mo_isUnder_0 := by
  refine or_mk fun A ta ws vs hD hth hl => ?_
  intro t0 r0 t1 k1 t2 k2 f0 f1
  replace f0 := shm_601 f0
  replace f1 := shm_269 f1
  have cr_0_127 := fdq_154 hD hth r0
  have cr_0_128 := fdq_155 hD hth r0
  have hK_0_127 := elq_87 hD hth cr_0_127
  have hK_0_128 := elq_88 hD hth cr_0_128
  obtain ⟨x, ex, hx⟩ := iv_ex (ta := ta) (lo := (-2)) (hi := 60) (z := 60) (by omega) (by omega) (by omega) (by omega)
  have ex2 : v_iv (Value.int x) = 60 := ex
  have ex3 : (-2) ≤ v_iv (Value.int x) ∧ v_iv (Value.int x) ≤ 60 := tv_rng hx
  have e_0 : n_v (vs ++ [Value.int x]) 0 = n_v vs 0 := n_v_old (by rw [hl]; decide)
  have e_1 : n_v (vs ++ [Value.int x]) 1 = n_v vs 1 := n_v_old (by rw [hl]; decide)
  have e_2 : n_v (vs ++ [Value.int x]) 2 = n_v vs 2 := n_v_old (by rw [hl]; decide)
  have e_3 : n_v (vs ++ [Value.int x]) 3 = Value.int x := n_v_new hl
  have nf0 : fc_1 PRD (20, [0], [50, 1, 3, 5, 2, 128, 127, 5, 2, 0, 24, 4, 14, 0, 6, 4, 2, 7, 0, 0, 1, 3, 0, 2, 2, 0, 5, 2, 9, 0, 2, 0, -1, 3, 0, 128, 7, 0, 2, 9, 0, 5, 3, 0, 128, 7, 0, 0, 24, 4, 9, 0, 2, 0, 0, 3, 0, 127, 7, 0, 2, 17, 0, 9, 4, 5, 3, 0, 127, 7, 0, 0, 1, 3, 0, 2, 2, 0, 5, 2, 12, 0, 2, 0, 0, 3, 0, 128, 3, 0, 127, 7, 0, 0, 12, 4, 8, 3, 0, 128, 3, 0, 127, 7, 0, 0, 1, 3, 0, 128, 7, 0]) ws (vs ++ [Value.int x]) := by
    refine ⟨nf_inA hl rfl, sgq_601 ?_⟩
    · show ∀ j0 : Int, 0 ≤ j0 → j0 < 24 → (((j0 + 1) ≤ w_ei ws (w_ar ws (n_v (vs ++ [Value.int x]) 0) 2) (w_fi ws (n_v (vs ++ [Value.int x]) 0) 5)) → (((-1) ≤ w_ei ws (w_ar ws (n_v (vs ++ [Value.int x]) 0) 128) (j0)) ∧ ((w_ei ws (w_ar ws (n_v (vs ++ [Value.int x]) 0) 128) (j0) ≤ 24) ∧ ((0 ≤ w_ei ws (w_ar ws (n_v (vs ++ [Value.int x]) 0) 127) (j0)) → (((w_ei ws (w_ar ws (n_v (vs ++ [Value.int x]) 0) 127) (j0) + 1) ≤ w_ei ws (w_ar ws (n_v (vs ++ [Value.int x]) 0) 2) (w_fi ws (n_v (vs ++ [Value.int x]) 0) 5)) ∧ ((0 ≤ w_ei ws (w_ar ws (n_v (vs ++ [Value.int x]) 0) 128) (w_ei ws (w_ar ws (n_v (vs ++ [Value.int x]) 0) 127) (j0))) ∧ ((w_ei ws (w_ar ws (n_v (vs ++ [Value.int x]) 0) 128) (w_ei ws (w_ar ws (n_v (vs ++ [Value.int x]) 0) 127) (j0)) + 1) ≤ w_ei ws (w_ar ws (n_v (vs ++ [Value.int x]) 0) 128) (j0))))))))
      rw [e_0]
      exact vc_Mo_isUnder_0_0 (v_iv (n_v vs 1)) (v_iv (n_v vs 2)) (w_ei ws (w_ar ws (n_v vs 0) 2)) (w_ei ws (w_ar ws (n_v vs 0) 128)) (w_ei ws (w_ar ws (n_v vs 0) 127)) (w_fi ws (n_v vs 0) 5) (v_iv (Value.int x)) k1 k2 f0 f1 hK_0_127 hK_0_128 ex2 ex3
  have nf1 : fc_1 PRD (20, [1, 0, 3], [50, 1, 2, 1005, 1002, 1128, 3, 6, 0, 2, 1, 0, 0, -1, 2, 14, 0, 6, 4, 2, 1, 0, 0, 1, 3, 1, 2, 2, 1, 5, 0, 9, 4, 5, 3, 1, 128, 1, 0, 0, 0, 1, 2]) ws (vs ++ [Value.int x]) := by
    refine ⟨nf_inA hl rfl, sgq_604 ?_⟩
    · show (v_iv (n_v (vs ++ [Value.int x]) 1) ≤ (-1)) ∨ (((v_iv (n_v (vs ++ [Value.int x]) 1) + 1) ≤ w_ei ws (w_ar ws (n_v (vs ++ [Value.int x]) 0) 2) (w_fi ws (n_v (vs ++ [Value.int x]) 0) 5)) ∧ ((w_ei ws (w_ar ws (n_v (vs ++ [Value.int x]) 0) 128) (v_iv (n_v (vs ++ [Value.int x]) 1)) + 0) ≤ v_iv (n_v (vs ++ [Value.int x]) 3)))
      simp only [e_0, e_1, e_3]
      exact vc_Mo_isUnder_0_1 (v_iv (n_v vs 1)) (v_iv (n_v vs 2)) (w_ei ws (w_ar ws (n_v vs 0) 2)) (w_ei ws (w_ar ws (n_v vs 0) 128)) (w_ei ws (w_ar ws (n_v vs 0) 127)) (w_fi ws (n_v vs 0) 5) (v_iv (Value.int x)) k1 k2 f0 f1 hK_0_127 hK_0_128 ex2 ex3
  have nf2 : fc_1 PRD (20, [0, 1, 2, 1], [60, 0, 1, 796, 128]) ws (vs ++ [Value.int x]) := by
    refine ⟨nf_inA hl rfl, sgq_620 ?_⟩
    · show UN1 (w_ei ws (w_ar ws (n_v (vs ++ [Value.int x]) 0) 128)) (v_iv (n_v (vs ++ [Value.int x]) 1)) (v_iv (n_v (vs ++ [Value.int x]) 2)) (v_iv (n_v (vs ++ [Value.int x]) 1))
      simp only [e_0, e_1, e_2]
      exact vc_Mo_isUnder_0_2 (v_iv (n_v vs 1)) (v_iv (n_v vs 2)) (w_ei ws (w_ar ws (n_v vs 0) 2)) (w_ei ws (w_ar ws (n_v vs 0) 128)) (w_ei ws (w_ar ws (n_v vs 0) 127)) (w_fi ws (n_v vs 0) 5) (v_iv (Value.int x)) k1 k2 f0 f1 hK_0_127 hK_0_128 ex2 ex3
  have nf3 : fc_1 PRD (24, [0, 0], []) ws (vs ++ [Value.int x]) := by
    refine ⟨nf_inA hl rfl, sgq_1 ?_⟩
    · show n_v (vs ++ [Value.int x]) 0 = n_v (vs ++ [Value.int x]) 0
      first | rfl | simp only [e_0]
  have nf4 : fc_1 PRD (24, [1, 1], []) ws (vs ++ [Value.int x]) := by
    refine ⟨nf_inA hl rfl, sgq_1 ?_⟩
    · show n_v (vs ++ [Value.int x]) 1 = n_v (vs ++ [Value.int x]) 1
      first | rfl | simp only [e_1]
  have nf5 : fc_1 PRD (24, [2, 2], []) ws (vs ++ [Value.int x]) := by
    refine ⟨nf_inA hl rfl, sgq_1 ?_⟩
    · show n_v (vs ++ [Value.int x]) 2 = n_v (vs ++ [Value.int x]) 2
      first | rfl | simp only [e_2]
  exact ⟨(fun _ h => (by cases h)), [Value.int x], ag_one hx, List.forall_mem_cons.mpr ⟨⟨show (20 : Nat) < 100 from by decide, nf0⟩, List.forall_mem_cons.mpr ⟨⟨show (20 : Nat) < 100 from by decide, nf1⟩, List.forall_mem_cons.mpr ⟨⟨show (20 : Nat) < 100 from by decide, nf2⟩, List.forall_mem_cons.mpr ⟨⟨show (24 : Nat) < 100 from by decide, nf3⟩, List.forall_mem_cons.mpr ⟨⟨show (24 : Nat) < 100 from by decide, nf4⟩, List.forall_mem_cons.mpr ⟨⟨show (24 : Nat) < 100 from by decide, nf5⟩, (fun _ h => (by cases h))⟩⟩⟩⟩⟩⟩, (fun _ h => (by cases h))⟩
set_option maxHeartbeats 4000000 in
theorem vc_Mo_isUnder_1_0 (x1 : Int) (x2 : Int) (x4 : Int) (x5 : Int) (x6 : Int) (x7 : Int) (x8 : Int) (all_0 : Int → Int) (level_0 : Int → Int) (above_0 : Int → Int) (r_0 : Int) (k1 : 0 ≤ x1 ∧ x1 ≤ 23) (k2 : 0 ≤ x2 ∧ x2 ≤ 23) (k4 : 0 ≤ x4 ∧ x4 ≤ 23) (k5 : 0 ≤ x5 ∧ x5 ≤ 23) (k6 : 0 ≤ x6 ∧ x6 ≤ 23) (k7 : (-2) ≤ x7 ∧ x7 ≤ 60) (k8 : 0 ≤ x8 ∧ x8 ≤ 0) (d0 : x5 + 0 ≤ x6 ∧ x6 ≤ x5 + 0) (d1 : x4 + (-4294967296) ≤ x1 ∧ x1 ≤ x4 + 0) (d2 : x5 + (-4294967296) ≤ x2 ∧ x2 ≤ x5 + 0) (d3 : x1 + (-4294967296) ≤ x4 ∧ x4 ≤ x1 + 0) (d4 : x2 + (-4294967296) ≤ x5 ∧ x5 ≤ x2 + 0) (f0 : x6 ≠ x2) (f1 : x6 = x2) (f2 : ∀ j0 : Int, 0 ≤ j0 → j0 < 24 → (((j0 + 1) ≤ all_0 (r_0)) → (((-1) ≤ level_0 (j0)) ∧ ((level_0 (j0) ≤ 24) ∧ ((0 ≤ above_0 (j0)) → (((above_0 (j0) + 1) ≤ all_0 (r_0)) ∧ ((0 ≤ level_0 (above_0 (j0))) ∧ ((level_0 (above_0 (j0)) + 1) ≤ level_0 (j0))))))))) (f3 : (x6 ≤ (-1)) ∨ (((x6 + 1) ≤ all_0 (r_0)) ∧ ((level_0 (x6) + 0) ≤ x7))) (f4 : UN1 (level_0) (x1) (x2) (x6)) (hK_0_127 : ∀ j : Int, 0 ≤ j → j < 26 → (-1) ≤ above_0 j ∧ above_0 j ≤ 23) (hK_0_128 : ∀ j : Int, 0 ≤ j → j < 26 → (-23) ≤ level_0 j ∧ level_0 j ≤ 24) : UNQ2 (level_0) (x1) (x2) (x8) := by
  first
    | (have h := ‹UN1 _ _ _ _›
       exact ⟨fun e => by have := h.1 e; omega, fun z => by rcases h.2 with q | q | q <;> first | (left; omega) | (exfalso; omega) | (right; rw [show x2 = x6 by omega]; exact q)⟩)
  
def o_Mo_isUnder_1 : or_T := (31, 9, [(0, (2, 0, 0, [165])), (1, (0, 0, 23, [])), (2, (0, 0, 23, [])), (3, (2, 0, 0, [165])), (4, (0, 0, 23, [])), (5, (0, 0, 23, [])), (6, (0, 0, 23, [])), (7, (0, -2, 60, [])), (8, (0, 0, 0, []))], [(7, [6, 5], [1]), (7, [6, 5], [0]), (20, [3], [50, 1, 3, 5, 2, 128, 127, 5, 2, 0, 24, 4, 14, 0, 6, 4, 2, 7, 0, 0, 1, 3, 0, 2, 2, 0, 5, 2, 9, 0, 2, 0, -1, 3, 0, 128, 7, 0, 2, 9, 0, 5, 3, 0, 128, 7, 0, 0, 24, 4, 9, 0, 2, 0, 0, 3, 0, 127, 7, 0, 2, 17, 0, 9, 4, 5, 3, 0, 127, 7, 0, 0, 1, 3, 0, 2, 2, 0, 5, 2, 12, 0, 2, 0, 0, 3, 0, 128, 3, 0, 127, 7, 0, 0, 12, 4, 8, 3, 0, 128, 3, 0, 127, 7, 0, 0, 1, 3, 0, 128, 7, 0]), (20, [6, 3, 7], [50, 1, 2, 1005, 1002, 1128, 3, 6, 0, 2, 1, 0, 0, -1, 2, 14, 0, 6, 4, 2, 1, 0, 0, 1, 3, 1, 2, 2, 1, 5, 0, 9, 4, 5, 3, 1, 128, 1, 0, 0, 0, 1, 2]), (20, [3, 4, 5, 6], [60, 0, 1, 796, 128]), (24, [0, 3], []), (24, [1, 4], []), (24, [2, 5], [])], [], [], [(20, [0, 1, 2, 8], [60, 0, 1, 797, 128])], [], [(6, 5, 0, 0), (1, 4, -4294967296, 0), (2, 5, -4294967296, 0), (4, 1, -4294967296, 0), (5, 2, -4294967296, 0)])
theorem oo_Mo_isUnder_1 {kA : Nat → ClassId} : or_ok PRD kA GG o_Mo_isUnder_1 := by
  refine or_mk fun A ta ws vs hD hth hl => ?_
  intro t0 r0 t1 k1 t2 k2 t3 r3 t4 k4 t5 k5 t6 k6 t7 k7 t8 k8 d0 d1 d2 d3 d4 f0 f1 f2 f3 f4 f5 f6 f7
  replace f0 := shm_40 f0
  replace f1 := shm_37 f1
  replace f2 := shm_601 f2
  replace f3 := shm_604 f3
  replace f4 := shm_621 f4
  replace f5 := shm_5 f5
  replace f6 := shm_5 f6
  replace f7 := shm_5 f7
  have q3 : n_v vs 3 = n_v vs 0 := f5.symm
  have q4 : n_v vs 4 = n_v vs 1 := f6.symm
  have q5 : n_v vs 5 = n_v vs 2 := f7.symm
  simp only [q5, q3, q4] at f0 f1 f2 f3 f4
  have cr_0_127 := fdq_154 hD hth r0
  have cr_0_128 := fdq_155 hD hth r0
  have hK_0_127 := elq_87 hD hth cr_0_127
  have hK_0_128 := elq_88 hD hth cr_0_128
  have nf0 : fc_1 PRD (20, [0, 1, 2, 8], [60, 0, 1, 797, 128]) ws (vs) := ⟨nf_in hl rfl, sgq_622 (vc_Mo_isUnder_1_0 (v_iv (n_v vs 1)) (v_iv (n_v vs 2)) (v_iv (n_v vs 4)) (v_iv (n_v vs 5)) (v_iv (n_v vs 6)) (v_iv (n_v vs 7)) (v_iv (n_v vs 8)) (w_ei ws (w_ar ws (n_v vs 0) 2)) (w_ei ws (w_ar ws (n_v vs 0) 128)) (w_ei ws (w_ar ws (n_v vs 0) 127)) (w_fi ws (n_v vs 0) 5) k1 k2 k4 k5 k6 k7 k8 d0 d1 d2 d3 d4 f0 f1 f2 f3 f4 hK_0_127 hK_0_128)⟩
  refine ⟨(fun _ h => (by cases h)), [], trivial, ?_, (fun _ h => (by cases h))⟩
  rw [List.append_nil]
  exact List.forall_mem_cons.mpr ⟨⟨show (20 : Nat) < 100 from by decide, nf0⟩, (fun _ h => (by cases h))⟩
set_option maxHeartbeats 4000000 in
theorem vc_Mo_isUnder_2_0 (x1 : Int) (x2 : Int) (x4 : Int) (x5 : Int) (x6 : Int) (x7 : Int) (x8 : Int) (all_0 : Int → Int) (level_0 : Int → Int) (above_0 : Int → Int) (r_0 : Int) (k1 : 0 ≤ x1 ∧ x1 ≤ 23) (k2 : 0 ≤ x2 ∧ x2 ≤ 23) (k4 : 0 ≤ x4 ∧ x4 ≤ 23) (k5 : 0 ≤ x5 ∧ x5 ≤ 23) (k6 : 0 ≤ x6 ∧ x6 ≤ 23) (k7 : (-2) ≤ x7 ∧ x7 ≤ 60) (k8 : 1 ≤ x8 ∧ x8 ≤ 1) (d0 : x5 + 0 ≤ x6 ∧ x6 ≤ x5 + 0) (d1 : x4 + (-4294967296) ≤ x1 ∧ x1 ≤ x4 + 0) (d2 : x5 + (-4294967296) ≤ x2 ∧ x2 ≤ x5 + 0) (d3 : x1 + (-4294967296) ≤ x4 ∧ x4 ≤ x1 + 0) (d4 : x2 + (-4294967296) ≤ x5 ∧ x5 ≤ x2 + 0) (f0 : x6 = x2) (f1 : x6 = x2) (f2 : ∀ j0 : Int, 0 ≤ j0 → j0 < 24 → (((j0 + 1) ≤ all_0 (r_0)) → (((-1) ≤ level_0 (j0)) ∧ ((level_0 (j0) ≤ 24) ∧ ((0 ≤ above_0 (j0)) → (((above_0 (j0) + 1) ≤ all_0 (r_0)) ∧ ((0 ≤ level_0 (above_0 (j0))) ∧ ((level_0 (above_0 (j0)) + 1) ≤ level_0 (j0))))))))) (f3 : (x6 ≤ (-1)) ∨ (((x6 + 1) ≤ all_0 (r_0)) ∧ ((level_0 (x6) + 0) ≤ x7))) (f4 : UN1 (level_0) (x1) (x2) (x6)) (hK_0_127 : ∀ j : Int, 0 ≤ j → j < 26 → (-1) ≤ above_0 j ∧ above_0 j ≤ 23) (hK_0_128 : ∀ j : Int, 0 ≤ j → j < 26 → (-23) ≤ level_0 j ∧ level_0 j ≤ 24) : UNQ2 (level_0) (x1) (x2) (x8) := by
  first
    | (have h := ‹UN1 _ _ _ _›
       exact ⟨fun e => by have := h.1 e; omega, fun z => by rcases h.2 with q | q | q <;> first | (left; omega) | (exfalso; omega) | (right; rw [show x2 = x6 by omega]; exact q)⟩)
  
def o_Mo_isUnder_2 : or_T := (31, 9, [(0, (2, 0, 0, [165])), (1, (0, 0, 23, [])), (2, (0, 0, 23, [])), (3, (2, 0, 0, [165])), (4, (0, 0, 23, [])), (5, (0, 0, 23, [])), (6, (0, 0, 23, [])), (7, (0, -2, 60, [])), (8, (0, 1, 1, []))], [(7, [6, 5], [0]), (7, [6, 5], [0]), (20, [3], [50, 1, 3, 5, 2, 128, 127, 5, 2, 0, 24, 4, 14, 0, 6, 4, 2, 7, 0, 0, 1, 3, 0, 2, 2, 0, 5, 2, 9, 0, 2, 0, -1, 3, 0, 128, 7, 0, 2, 9, 0, 5, 3, 0, 128, 7, 0, 0, 24, 4, 9, 0, 2, 0, 0, 3, 0, 127, 7, 0, 2, 17, 0, 9, 4, 5, 3, 0, 127, 7, 0, 0, 1, 3, 0, 2, 2, 0, 5, 2, 12, 0, 2, 0, 0, 3, 0, 128, 3, 0, 127, 7, 0, 0, 12, 4, 8, 3, 0, 128, 3, 0, 127, 7, 0, 0, 1, 3, 0, 128, 7, 0]), (20, [6, 3, 7], [50, 1, 2, 1005, 1002, 1128, 3, 6, 0, 2, 1, 0, 0, -1, 2, 14, 0, 6, 4, 2, 1, 0, 0, 1, 3, 1, 2, 2, 1, 5, 0, 9, 4, 5, 3, 1, 128, 1, 0, 0, 0, 1, 2]), (20, [3, 4, 5, 6], [60, 0, 1, 796, 128]), (24, [0, 3], []), (24, [1, 4], []), (24, [2, 5], [])], [], [], [(20, [0, 1, 2, 8], [60, 0, 1, 797, 128])], [], [(6, 5, 0, 0), (1, 4, -4294967296, 0), (2, 5, -4294967296, 0), (4, 1, -4294967296, 0), (5, 2, -4294967296, 0)])
theorem oo_Mo_isUnder_2 {kA : Nat → ClassId} : or_ok PRD kA GG o_Mo_isUnder_2 := by
  refine or_mk fun A ta ws vs hD hth hl => ?_
  intro t0 r0 t1 k1 t2 k2 t3 r3 t4 k4 t5 k5 t6 k6 t7 k7 t8 k8 d0 d1 d2 d3 d4 f0 f1 f2 f3 f4 f5 f6 f7
  replace f0 := shm_37 f0
  replace f1 := shm_37 f1
  replace f2 := shm_601 f2
  replace f3 := shm_604 f3
  replace f4 := shm_621 f4
  replace f5 := shm_5 f5
  replace f6 := shm_5 f6
  replace f7 := shm_5 f7
  have q3 : n_v vs 3 = n_v vs 0 := f5.symm
  have q4 : n_v vs 4 = n_v vs 1 := f6.symm
  have q5 : n_v vs 5 = n_v vs 2 := f7.symm
  simp only [q5, q3, q4] at f0 f1 f2 f3 f4
  have cr_0_127 := fdq_154 hD hth r0
  have cr_0_128 := fdq_155 hD hth r0
  have hK_0_127 := elq_87 hD hth cr_0_127
  have hK_0_128 := elq_88 hD hth cr_0_128
  have nf0 : fc_1 PRD (20, [0, 1, 2, 8], [60, 0, 1, 797, 128]) ws (vs) := ⟨nf_in hl rfl, sgq_622 (vc_Mo_isUnder_2_0 (v_iv (n_v vs 1)) (v_iv (n_v vs 2)) (v_iv (n_v vs 4)) (v_iv (n_v vs 5)) (v_iv (n_v vs 6)) (v_iv (n_v vs 7)) (v_iv (n_v vs 8)) (w_ei ws (w_ar ws (n_v vs 0) 2)) (w_ei ws (w_ar ws (n_v vs 0) 128)) (w_ei ws (w_ar ws (n_v vs 0) 127)) (w_fi ws (n_v vs 0) 5) k1 k2 k4 k5 k6 k7 k8 d0 d1 d2 d3 d4 f0 f1 f2 f3 f4 hK_0_127 hK_0_128)⟩
  refine ⟨(fun _ h => (by cases h)), [], trivial, ?_, (fun _ h => (by cases h))⟩
  rw [List.append_nil]
  exact List.forall_mem_cons.mpr ⟨⟨show (20 : Nat) < 100 from by decide, nf0⟩, (fun _ h => (by cases h))⟩
set_option maxHeartbeats 4000000 in
theorem vc_Mo_isUnder_3_0 (x1 : Int) (x2 : Int) (x4 : Int) (x5 : Int) (x6 : Int) (x7 : Int) (x8 : Int) (all_0 : Int → Int) (level_0 : Int → Int) (above_0 : Int → Int) (r_0 : Int) (k1 : 0 ≤ x1 ∧ x1 ≤ 23) (k2 : 0 ≤ x2 ∧ x2 ≤ 23) (k4 : 0 ≤ x4 ∧ x4 ≤ 23) (k5 : 0 ≤ x5 ∧ x5 ≤ 23) (k6 : (-1) ≤ x6 ∧ x6 ≤ (-1)) (k7 : (-2) ≤ x7 ∧ x7 ≤ 60) (k8 : 0 ≤ x8 ∧ x8 ≤ 0) (d0 : x4 + (-4294967296) ≤ x1 ∧ x1 ≤ x4 + 0) (d1 : x5 + (-4294967296) ≤ x2 ∧ x2 ≤ x5 + 0) (d2 : x1 + (-4294967296) ≤ x4 ∧ x4 ≤ x1 + 0) (d3 : x2 + (-4294967296) ≤ x5 ∧ x5 ≤ x2 + 0) (f0 : x6 ≠ x2) (f1 : x6 < 0) (f2 : x6 ≠ x2) (f3 : ∀ j0 : Int, 0 ≤ j0 → j0 < 24 → (((j0 + 1) ≤ all_0 (r_0)) → (((-1) ≤ level_0 (j0)) ∧ ((level_0 (j0) ≤ 24) ∧ ((0 ≤ above_0 (j0)) → (((above_0 (j0) + 1) ≤ all_0 (r_0)) ∧ ((0 ≤ level_0 (above_0 (j0))) ∧ ((level_0 (above_0 (j0)) + 1) ≤ level_0 (j0))))))))) (f4 : (x6 ≤ (-1)) ∨ (((x6 + 1) ≤ all_0 (r_0)) ∧ ((level_0 (x6) + 0) ≤ x7))) (f5 : UN1 (level_0) (x1) (x2) (x6)) (hK_0_127 : ∀ j : Int, 0 ≤ j → j < 26 → (-1) ≤ above_0 j ∧ above_0 j ≤ 23) (hK_0_128 : ∀ j : Int, 0 ≤ j → j < 26 → (-23) ≤ level_0 j ∧ level_0 j ≤ 24) : UNQ2 (level_0) (x1) (x2) (x8) := by
  first
    | (have h := ‹UN1 _ _ _ _›
       exact ⟨fun e => by have := h.1 e; omega, fun z => by rcases h.2 with q | q | q <;> first | (left; omega) | (exfalso; omega) | (right; rw [show x2 = x6 by omega]; exact q)⟩)
  
def o_Mo_isUnder_3 : or_T := (31, 9, [(0, (2, 0, 0, [165])), (1, (0, 0, 23, [])), (2, (0, 0, 23, [])), (3, (2, 0, 0, [165])), (4, (0, 0, 23, [])), (5, (0, 0, 23, [])), (6, (0, -1, -1, [])), (7, (0, -2, 60, [])), (8, (0, 0, 0, []))], [(7, [6, 5], [1]), (8, [6], [2]), (7, [6, 5], [1]), (20, [3], [50, 1, 3, 5, 2, 128, 127, 5, 2, 0, 24, 4, 14, 0, 6, 4, 2, 7, 0, 0, 1, 3, 0, 2, 2, 0, 5, 2, 9, 0, 2, 0, -1, 3, 0, 128, 7, 0, 2, 9, 0, 5, 3, 0, 128, 7, 0, 0, 24, 4, 9, 0, 2, 0, 0, 3, 0, 127, 7, 0, 2, 17, 0, 9, 4, 5, 3, 0, 127, 7, 0, 0, 1, 3, 0, 2, 2, 0, 5, 2, 12, 0, 2, 0, 0, 3, 0, 128, 3, 0, 127, 7, 0, 0, 12, 4, 8, 3, 0, 128, 3, 0, 127, 7, 0, 0, 1, 3, 0, 128, 7, 0]), (20, [6, 3, 7], [50, 1, 2, 1005, 1002, 1128, 3, 6, 0, 2, 1, 0, 0, -1, 2, 14, 0, 6, 4, 2, 1, 0, 0, 1, 3, 1, 2, 2, 1, 5, 0, 9, 4, 5, 3, 1, 128, 1, 0, 0, 0, 1, 2]), (20, [3, 4, 5, 6], [60, 0, 1, 796, 128]), (24, [0, 3], []), (24, [1, 4], []), (24, [2, 5], [])], [], [], [(20, [0, 1, 2, 8], [60, 0, 1, 797, 128])], [], [(1, 4, -4294967296, 0), (2, 5, -4294967296, 0), (4, 1, -4294967296, 0), (5, 2, -4294967296, 0)])
theorem oo_Mo_isUnder_3 {kA : Nat → ClassId} : or_ok PRD kA GG o_Mo_isUnder_3 := by
  refine or_mk fun A ta ws vs hD hth hl => ?_
  intro t0 r0 t1 k1 t2 k2 t3 r3 t4 k4 t5 k5 t6 k6 t7 k7 t8 k8 d0 d1 d2 d3 f0 f1 f2 f3 f4 f5 f6 f7 f8
  replace f0 := shm_40 f0
  replace f2 := shm_40 f2
  replace f3 := shm_601 f3
  replace f4 := shm_604 f4
  replace f5 := shm_621 f5
  replace f6 := shm_5 f6
  replace f7 := shm_5 f7
  replace f8 := shm_5 f8
  have q3 : n_v vs 3 = n_v vs 0 := f6.symm
  have q4 : n_v vs 4 = n_v vs 1 := f7.symm
  have q5 : n_v vs 5 = n_v vs 2 := f8.symm
  simp only [q5, q3, q4] at f0 f2 f3 f4 f5
  have cr_0_127 := fdq_154 hD hth r0
  have cr_0_128 := fdq_155 hD hth r0
  have hK_0_127 := elq_87 hD hth cr_0_127
  have hK_0_128 := elq_88 hD hth cr_0_128
  have nf0 : fc_1 PRD (20, [0, 1, 2, 8], [60, 0, 1, 797, 128]) ws (vs) := ⟨nf_in hl rfl, sgq_622 (vc_Mo_isUnder_3_0 (v_iv (n_v vs 1)) (v_iv (n_v vs 2)) (v_iv (n_v vs 4)) (v_iv (n_v vs 5)) (v_iv (n_v vs 6)) (v_iv (n_v vs 7)) (v_iv (n_v vs 8)) (w_ei ws (w_ar ws (n_v vs 0) 2)) (w_ei ws (w_ar ws (n_v vs 0) 128)) (w_ei ws (w_ar ws (n_v vs 0) 127)) (w_fi ws (n_v vs 0) 5) k1 k2 k4 k5 k6 k7 k8 d0 d1 d2 d3 f0 (shm_39 f1) f2 f3 f4 f5 hK_0_127 hK_0_128)⟩
  refine ⟨(fun _ h => (by cases h)), [], trivial, ?_, (fun _ h => (by cases h))⟩
  rw [List.append_nil]
  exact List.forall_mem_cons.mpr ⟨⟨show (20 : Nat) < 100 from by decide, nf0⟩, (fun _ h => (by cases h))⟩
set_option maxHeartbeats 4000000 in
theorem vc_Mo_isUnder_4_0 (x1 : Int) (x2 : Int) (x4 : Int) (x5 : Int) (x6 : Int) (x7 : Int) (x9 : Int) (above_0 : Int → Int) (all_0 : Int → Int) (level_0 : Int → Int) (r_0 : Int) (gx : Int) (k1 : 0 ≤ x1 ∧ x1 ≤ 23) (k2 : 0 ≤ x2 ∧ x2 ≤ 23) (k4 : 0 ≤ x4 ∧ x4 ≤ 23) (k5 : 0 ≤ x5 ∧ x5 ≤ 23) (k6 : 0 ≤ x6 ∧ x6 ≤ 23) (k7 : (-2) ≤ x7 ∧ x7 ≤ 60) (k9 : (-1) ≤ x9 ∧ x9 ≤ 23) (d0 : x4 + (-4294967296) ≤ x1 ∧ x1 ≤ x4 + 0) (d1 : x5 + (-4294967296) ≤ x2 ∧ x2 ≤ x5 + 0) (d2 : x1 + (-4294967296) ≤ x4 ∧ x4 ≤ x1 + 0) (d3 : x2 + (-4294967296) ≤ x5 ∧ x5 ≤ x2 + 0) (h0 : x9 = above_0 (x6)) (f2 : 0 ≤ x6) (f3 : x6 ≠ x2) (f4 : ∀ j0 : Int, 0 ≤ j0 → j0 < 24 → (((j0 + 1) ≤ all_0 (r_0)) → (((-1) ≤ level_0 (j0)) ∧ ((level_0 (j0) ≤ 24) ∧ ((0 ≤ above_0 (j0)) → (((above_0 (j0) + 1) ≤ all_0 (r_0)) ∧ ((0 ≤ level_0 (above_0 (j0))) ∧ ((level_0 (above_0 (j0)) + 1) ≤ level_0 (j0))))))))) (f5 : (x6 ≤ (-1)) ∨ (((x6 + 1) ≤ all_0 (r_0)) ∧ ((level_0 (x6) + 0) ≤ x7))) (f6 : UN1 (level_0) (x1) (x2) (x6)) (hK_0_127 : ∀ j : Int, 0 ≤ j → j < 26 → (-1) ≤ above_0 j ∧ above_0 j ≤ 23) (hK_0_128 : ∀ j : Int, 0 ≤ j → j < 26 → (-23) ≤ level_0 j ∧ level_0 j ≤ 24) (ex2 : gx = 0 + (1 * x7 + 0)) (ex3 : (-2) ≤ gx ∧ gx ≤ 60) : ∀ j0 : Int, 0 ≤ j0 → j0 < 24 → (((j0 + 1) ≤ all_0 (r_0)) → (((-1) ≤ level_0 (j0)) ∧ ((level_0 (j0) ≤ 24) ∧ ((0 ≤ above_0 (j0)) → (((above_0 (j0) + 1) ≤ all_0 (r_0)) ∧ ((0 ≤ level_0 (above_0 (j0))) ∧ ((level_0 (above_0 (j0)) + 1) ≤ level_0 (j0)))))))) := by
  try simp only [Int.add_zero] at *
  first
    | omega
    | (have q := hK_0_128 x1 (by omega) (by omega); right; exact ⟨by omega, by omega⟩)
    | (have q := hK_0_128 x6 (by omega) (by omega); have g := f4 x6 (by omega) (by omega) (by omega); omega)
    | (have g := f4 x6 (by omega) (by omega) (by omega)
       have e : x9 = above_0 x6 := by assumption
       by_cases w : 0 ≤ x9
       · right
         have g2 := g.2.2 (by omega)
         rw [← e] at g2
         omega
       · left; omega)
  
set_option maxHeartbeats 4000000 in
theorem vc_Mo_isUnder_4_1 (x1 : Int) (x2 : Int) (x4 : Int) (x5 : Int) (x6 : Int) (x7 : Int) (x9 : Int) (above_0 : Int → Int) (all_0 : Int → Int) (level_0 : Int → Int) (r_0 : Int) (gx : Int) (k1 : 0 ≤ x1 ∧ x1 ≤ 23) (k2 : 0 ≤ x2 ∧ x2 ≤ 23) (k4 : 0 ≤ x4 ∧ x4 ≤ 23) (k5 : 0 ≤ x5 ∧ x5 ≤ 23) (k6 : 0 ≤ x6 ∧ x6 ≤ 23) (k7 : (-2) ≤ x7 ∧ x7 ≤ 60) (k9 : (-1) ≤ x9 ∧ x9 ≤ 23) (d0 : x4 + (-4294967296) ≤ x1 ∧ x1 ≤ x4 + 0) (d1 : x5 + (-4294967296) ≤ x2 ∧ x2 ≤ x5 + 0) (d2 : x1 + (-4294967296) ≤ x4 ∧ x4 ≤ x1 + 0) (d3 : x2 + (-4294967296) ≤ x5 ∧ x5 ≤ x2 + 0) (h0 : x9 = above_0 (x6)) (f2 : 0 ≤ x6) (f3 : x6 ≠ x2) (f4 : ∀ j0 : Int, 0 ≤ j0 → j0 < 24 → (((j0 + 1) ≤ all_0 (r_0)) → (((-1) ≤ level_0 (j0)) ∧ ((level_0 (j0) ≤ 24) ∧ ((0 ≤ above_0 (j0)) → (((above_0 (j0) + 1) ≤ all_0 (r_0)) ∧ ((0 ≤ level_0 (above_0 (j0))) ∧ ((level_0 (above_0 (j0)) + 1) ≤ level_0 (j0))))))))) (f5 : (x6 ≤ (-1)) ∨ (((x6 + 1) ≤ all_0 (r_0)) ∧ ((level_0 (x6) + 0) ≤ x7))) (f6 : UN1 (level_0) (x1) (x2) (x6)) (hK_0_127 : ∀ j : Int, 0 ≤ j → j < 26 → (-1) ≤ above_0 j ∧ above_0 j ≤ 23) (hK_0_128 : ∀ j : Int, 0 ≤ j → j < 26 → (-23) ≤ level_0 j ∧ level_0 j ≤ 24) (ex2 : gx = 0 + (1 * x7 + 0)) (ex3 : (-2) ≤ gx ∧ gx ≤ 60) : (x9 ≤ (-1)) ∨ (((x9 + 1) ≤ all_0 (r_0)) ∧ ((level_0 (x9) + 1) ≤ gx)) := by
  try simp only [Int.add_zero] at *
  first
    | omega
    | (have q := hK_0_128 x1 (by omega) (by omega); right; exact ⟨by omega, by omega⟩)
    | (have q := hK_0_128 x6 (by omega) (by omega); have g := f4 x6 (by omega) (by omega) (by omega); omega)
    | (have g := f4 x6 (by omega) (by omega) (by omega)
       have e : x9 = above_0 x6 := by assumption
       by_cases w : 0 ≤ x9
       · right
         have g2 := g.2.2 (by omega)
         rw [← e] at g2
         omega
       · left; omega)
  
set_option maxHeartbeats 4000000 in
theorem vc_Mo_isUnder_4_2 (x1 : Int) (x2 : Int) (x4 : Int) (x5 : Int) (x6 : Int) (x7 : Int) (x9 : Int) (above_0 : Int → Int) (all_0 : Int → Int) (level_0 : Int → Int) (r_0 : Int) (gx : Int) (k1 : 0 ≤ x1 ∧ x1 ≤ 23) (k2 : 0 ≤ x2 ∧ x2 ≤ 23) (k4 : 0 ≤ x4 ∧ x4 ≤ 23) (k5 : 0 ≤ x5 ∧ x5 ≤ 23) (k6 : 0 ≤ x6 ∧ x6 ≤ 23) (k7 : (-2) ≤ x7 ∧ x7 ≤ 60) (k9 : (-1) ≤ x9 ∧ x9 ≤ 23) (d0 : x4 + (-4294967296) ≤ x1 ∧ x1 ≤ x4 + 0) (d1 : x5 + (-4294967296) ≤ x2 ∧ x2 ≤ x5 + 0) (d2 : x1 + (-4294967296) ≤ x4 ∧ x4 ≤ x1 + 0) (d3 : x2 + (-4294967296) ≤ x5 ∧ x5 ≤ x2 + 0) (h0 : x9 = above_0 (x6)) (f2 : 0 ≤ x6) (f3 : x6 ≠ x2) (f4 : ∀ j0 : Int, 0 ≤ j0 → j0 < 24 → (((j0 + 1) ≤ all_0 (r_0)) → (((-1) ≤ level_0 (j0)) ∧ ((level_0 (j0) ≤ 24) ∧ ((0 ≤ above_0 (j0)) → (((above_0 (j0) + 1) ≤ all_0 (r_0)) ∧ ((0 ≤ level_0 (above_0 (j0))) ∧ ((level_0 (above_0 (j0)) + 1) ≤ level_0 (j0))))))))) (f5 : (x6 ≤ (-1)) ∨ (((x6 + 1) ≤ all_0 (r_0)) ∧ ((level_0 (x6) + 0) ≤ x7))) (f6 : UN1 (level_0) (x1) (x2) (x6)) (hK_0_127 : ∀ j : Int, 0 ≤ j → j < 26 → (-1) ≤ above_0 j ∧ above_0 j ≤ 23) (hK_0_128 : ∀ j : Int, 0 ≤ j → j < 26 → (-23) ≤ level_0 j ∧ level_0 j ≤ 24) (ex2 : gx = 0 + (1 * x7 + 0)) (ex3 : (-2) ≤ gx ∧ gx ≤ 60) : (-1) ≤ gx := by
  try simp only [Int.add_zero] at *
  first
    | omega
    | (have q := hK_0_128 x1 (by omega) (by omega); right; exact ⟨by omega, by omega⟩)
    | (have q := hK_0_128 x6 (by omega) (by omega); have g := f4 x6 (by omega) (by omega) (by omega); omega)
    | (have g := f4 x6 (by omega) (by omega) (by omega)
       have e : x9 = above_0 x6 := by assumption
       by_cases w : 0 ≤ x9
       · right
         have g2 := g.2.2 (by omega)
         rw [← e] at g2
         omega
       · left; omega)
  
set_option maxHeartbeats 4000000 in
theorem vc_Mo_isUnder_4_3 (x1 : Int) (x2 : Int) (x4 : Int) (x5 : Int) (x6 : Int) (x7 : Int) (x9 : Int) (above_0 : Int → Int) (all_0 : Int → Int) (level_0 : Int → Int) (r_0 : Int) (gx : Int) (k1 : 0 ≤ x1 ∧ x1 ≤ 23) (k2 : 0 ≤ x2 ∧ x2 ≤ 23) (k4 : 0 ≤ x4 ∧ x4 ≤ 23) (k5 : 0 ≤ x5 ∧ x5 ≤ 23) (k6 : 0 ≤ x6 ∧ x6 ≤ 23) (k7 : (-2) ≤ x7 ∧ x7 ≤ 60) (k9 : (-1) ≤ x9 ∧ x9 ≤ 23) (d0 : x4 + (-4294967296) ≤ x1 ∧ x1 ≤ x4 + 0) (d1 : x5 + (-4294967296) ≤ x2 ∧ x2 ≤ x5 + 0) (d2 : x1 + (-4294967296) ≤ x4 ∧ x4 ≤ x1 + 0) (d3 : x2 + (-4294967296) ≤ x5 ∧ x5 ≤ x2 + 0) (h0 : x9 = above_0 (x6)) (f2 : 0 ≤ x6) (f3 : x6 ≠ x2) (f4 : ∀ j0 : Int, 0 ≤ j0 → j0 < 24 → (((j0 + 1) ≤ all_0 (r_0)) → (((-1) ≤ level_0 (j0)) ∧ ((level_0 (j0) ≤ 24) ∧ ((0 ≤ above_0 (j0)) → (((above_0 (j0) + 1) ≤ all_0 (r_0)) ∧ ((0 ≤ level_0 (above_0 (j0))) ∧ ((level_0 (above_0 (j0)) + 1) ≤ level_0 (j0))))))))) (f5 : (x6 ≤ (-1)) ∨ (((x6 + 1) ≤ all_0 (r_0)) ∧ ((level_0 (x6) + 0) ≤ x7))) (f6 : UN1 (level_0) (x1) (x2) (x6)) (hK_0_127 : ∀ j : Int, 0 ≤ j → j < 26 → (-1) ≤ above_0 j ∧ above_0 j ≤ 23) (hK_0_128 : ∀ j : Int, 0 ≤ j → j < 26 → (-23) ≤ level_0 j ∧ level_0 j ≤ 24) (ex2 : gx = 0 + (1 * x7 + 0)) (ex3 : (-2) ≤ gx ∧ gx ≤ 60) : UN1 (level_0) (x1) (x2) (x9) := by
  first
    | assumption
    | exact ⟨fun e => by omega, Or.inl (by omega)⟩
    | (have h := ‹UN1 _ _ _ _›
       have g := f4 x6 (by omega) (by omega) (by omega)
       have e : x9 = above_0 x6 := by assumption
       refine ⟨fun q => by have := h.1 q; omega, ?_⟩
       by_cases w : 0 ≤ x9
       · right; right
         have g2 := (g.2.2 (by omega)).2.2
         rw [← e] at g2
         rcases h.2 with q | q | q
         · rw [q] at g2; omega
         · omega
         · omega
       · right; left; omega)
  
def o_Mo_isUnder_4 : or_T := (18, 10, [(0, (2, 0, 0, [165])), (1, (0, 0, 23, [])), (2, (0, 0, 23, [])), (3, (2, 0, 0, [165])), (4, (0, 0, 23, [])), (5, (0, 0, 23, [])), (6, (0, 0, 23, [])), (7, (0, -2, 60, [])), (8, (2, 0, 0, [257])), (9, (0, -1, 23, []))], [(10, [9, 8, 6], []), (9, [8, 3], [127]), (8, [6], [3]), (7, [6, 5], [1]), (20, [3], [50, 1, 3, 5, 2, 128, 127, 5, 2, 0, 24, 4, 14, 0, 6, 4, 2, 7, 0, 0, 1, 3, 0, 2, 2, 0, 5, 2, 9, 0, 2, 0, -1, 3, 0, 128, 7, 0, 2, 9, 0, 5, 3, 0, 128, 7, 0, 0, 24, 4, 9, 0, 2, 0, 0, 3, 0, 127, 7, 0, 2, 17, 0, 9, 4, 5, 3, 0, 127, 7, 0, 0, 1, 3, 0, 2, 2, 0, 5, 2, 12, 0, 2, 0, 0, 3, 0, 128, 3, 0, 127, 7, 0, 0, 12, 4, 8, 3, 0, 128, 3, 0, 127, 7, 0, 0, 1, 3, 0, 128, 7, 0]), (20, [6, 3, 7], [50, 1, 2, 1005, 1002, 1128, 3, 6, 0, 2, 1, 0, 0, -1, 2, 14, 0, 6, 4, 2, 1, 0, 0, 1, 3, 1, 2, 2, 1, 5, 0, 9, 4, 5, 3, 1, 128, 1, 0, 0, 0, 1, 2]), (20, [3, 4, 5, 6], [60, 0, 1, 796, 128]), (24, [0, 3], []), (24, [1, 4], []), (24, [2, 5], [])], [], [(0, -2, 60, [])], [(20, [3], [50, 1, 3, 5, 2, 128, 127, 5, 2, 0, 24, 4, 14, 0, 6, 4, 2, 7, 0, 0, 1, 3, 0, 2, 2, 0, 5, 2, 9, 0, 2, 0, -1, 3, 0, 128, 7, 0, 2, 9, 0, 5, 3, 0, 128, 7, 0, 0, 24, 4, 9, 0, 2, 0, 0, 3, 0, 127, 7, 0, 2, 17, 0, 9, 4, 5, 3, 0, 127, 7, 0, 0, 1, 3, 0, 2, 2, 0, 5, 2, 12, 0, 2, 0, 0, 3, 0, 128, 3, 0, 127, 7, 0, 0, 12, 4, 8, 3, 0, 128, 3, 0, 127, 7, 0, 0, 1, 3, 0, 128, 7, 0]), (20, [9, 3, 10], [50, 1, 2, 1005, 1002, 1128, 3, 6, 0, 2, 1, 0, 0, -1, 2, 14, 0, 6, 4, 2, 1, 0, 0, 1, 3, 1, 2, 2, 1, 5, 0, 9, 4, 5, 3, 1, 128, 1, 0, 0, 1, 1, 2]), (20, [10], [50, 0, 0, 0, 2, 0, -1, 1, 0]), (20, [3, 4, 5, 9], [60, 0, 1, 796, 128]), (24, [0, 3], []), (24, [1, 4], []), (24, [2, 5], [])], [(10, 7, 0, 0)], [(1, 4, -4294967296, 0), (2, 5, -4294967296, 0), (4, 1, -4294967296, 0), (5, 2, -4294967296, 0)])
theorem oo_Mo_isUnder_4 {kA : Nat → ClassId} : or_ok PRD kA GG o_Mo_isUnder_4 := by
  refine or_mk fun A ta ws vs hD hth hl => ?_
  intro t0 r0 t1 k1 t2 k2 t3 r3 t4 k4 t5 k5 t6 k6 t7 k7 t8 r8 t9 k9 d0 d1 d2 d3 f0 f1 f2 f3 f4 f5 f6 f7 f8 f9
  replace f0 := shm_107 f0
  replace f1 := shm_600 f1
  replace f2 := shm_32 f2
  replace f3 := shm_40 f3
  replace f4 := shm_601 f4
  replace f5 := shm_604 f5
  replace f6 := shm_621 f6
  replace f7 := shm_5 f7
  replace f8 := shm_5 f8
  replace f9 := shm_5 f9
  have q3 : n_v vs 3 = n_v vs 0 := f7.symm
  have q4 : n_v vs 4 = n_v vs 1 := f8.symm
  have q5 : n_v vs 5 = n_v vs 2 := f9.symm
  simp only [q3, q5, q4] at f1 f3 f4 f5 f6
  have cr_0_2 := fdq_10 hD hth r0
  have cr_0_127 := fdq_154 hD hth r0
  have cr_0_128 := fdq_155 hD hth r0
  have ad_8 : v_ad (n_v vs 8) = w_ar ws (n_v vs 0) 127 := congrArg v_ad f1
  simp only [ad_8] at f0
  have h0 : v_iv (n_v vs 9) = w_ei ws (w_ar ws (n_v vs 0) 127) (v_iv (n_v vs 6)) := f0
  have hK_0_127 := elq_87 hD hth cr_0_127
  have hK_0_128 := elq_88 hD hth cr_0_128
  obtain ⟨x, ex, hx⟩ := iv_ex (ta := ta) (lo := (-2)) (hi := 60) (z := 0 + (1 * v_iv (n_v vs 7) + 0)) (by omega) (by omega) (by omega) (by omega)
  have ex2 : v_iv (Value.int x) = 0 + (1 * v_iv (n_v vs 7) + 0) := ex
  have ex3 : (-2) ≤ v_iv (Value.int x) ∧ v_iv (Value.int x) ≤ 60 := tv_rng hx
  have e_0 : n_v (vs ++ [Value.int x]) 0 = n_v vs 0 := n_v_old (by rw [hl]; decide)
  have e_1 : n_v (vs ++ [Value.int x]) 1 = n_v vs 1 := n_v_old (by rw [hl]; decide)
  have e_2 : n_v (vs ++ [Value.int x]) 2 = n_v vs 2 := n_v_old (by rw [hl]; decide)
  have e_3 : n_v (vs ++ [Value.int x]) 3 = n_v vs 3 := n_v_old (by rw [hl]; decide)
  have e_4 : n_v (vs ++ [Value.int x]) 4 = n_v vs 4 := n_v_old (by rw [hl]; decide)
  have e_5 : n_v (vs ++ [Value.int x]) 5 = n_v vs 5 := n_v_old (by rw [hl]; decide)
  have e_9 : n_v (vs ++ [Value.int x]) 9 = n_v vs 9 := n_v_old (by rw [hl]; decide)
  have e_10 : n_v (vs ++ [Value.int x]) 10 = Value.int x := n_v_new hl
  have nf0 : fc_1 PRD (20, [3], [50, 1, 3, 5, 2, 128, 127, 5, 2, 0, 24, 4, 14, 0, 6, 4, 2, 7, 0, 0, 1, 3, 0, 2, 2, 0, 5, 2, 9, 0, 2, 0, -1, 3, 0, 128, 7, 0, 2, 9, 0, 5, 3, 0, 128, 7, 0, 0, 24, 4, 9, 0, 2, 0, 0, 3, 0, 127, 7, 0, 2, 17, 0, 9, 4, 5, 3, 0, 127, 7, 0, 0, 1, 3, 0, 2, 2, 0, 5, 2, 12, 0, 2, 0, 0, 3, 0, 128, 3, 0, 127, 7, 0, 0, 12, 4, 8, 3, 0, 128, 3, 0, 127, 7, 0, 0, 1, 3, 0, 128, 7, 0]) ws (vs ++ [Value.int x]) := by
    refine ⟨nf_inA hl rfl, sgq_601 ?_⟩
    · show ∀ j0 : Int, 0 ≤ j0 → j0 < 24 → (((j0 + 1) ≤ w_ei ws (w_ar ws (n_v (vs ++ [Value.int x]) 3) 2) (w_fi ws (n_v (vs ++ [Value.int x]) 3) 5)) → (((-1) ≤ w_ei ws (w_ar ws (n_v (vs ++ [Value.int x]) 3) 128) (j0)) ∧ ((w_ei ws (w_ar ws (n_v (vs ++ [Value.int x]) 3) 128) (j0) ≤ 24) ∧ ((0 ≤ w_ei ws (w_ar ws (n_v (vs ++ [Value.int x]) 3) 127) (j0)) → (((w_ei ws (w_ar ws (n_v (vs ++ [Value.int x]) 3) 127) (j0) + 1) ≤ w_ei ws (w_ar ws (n_v (vs ++ [Value.int x]) 3) 2) (w_fi ws (n_v (vs ++ [Value.int x]) 3) 5)) ∧ ((0 ≤ w_ei ws (w_ar ws (n_v (vs ++ [Value.int x]) 3) 128) (w_ei ws (w_ar ws (n_v (vs ++ [Value.int x]) 3) 127) (j0))) ∧ ((w_ei ws (w_ar ws (n_v (vs ++ [Value.int x]) 3) 128) (w_ei ws (w_ar ws (n_v (vs ++ [Value.int x]) 3) 127) (j0)) + 1) ≤ w_ei ws (w_ar ws (n_v (vs ++ [Value.int x]) 3) 128) (j0))))))))
      simp only [e_3, q3]
      exact vc_Mo_isUnder_4_0 (v_iv (n_v vs 1)) (v_iv (n_v vs 2)) (v_iv (n_v vs 4)) (v_iv (n_v vs 5)) (v_iv (n_v vs 6)) (v_iv (n_v vs 7)) (v_iv (n_v vs 9)) (w_ei ws (w_ar ws (n_v vs 0) 127)) (w_ei ws (w_ar ws (n_v vs 0) 2)) (w_ei ws (w_ar ws (n_v vs 0) 128)) (w_fi ws (n_v vs 0) 5) (v_iv (Value.int x)) k1 k2 k4 k5 k6 k7 k9 d0 d1 d2 d3 h0 f2 f3 f4 f5 f6 hK_0_127 hK_0_128 ex2 ex3
  have nf1 : fc_1 PRD (20, [9, 3, 10], [50, 1, 2, 1005, 1002, 1128, 3, 6, 0, 2, 1, 0, 0, -1, 2, 14, 0, 6, 4, 2, 1, 0, 0, 1, 3, 1, 2, 2, 1, 5, 0, 9, 4, 5, 3, 1, 128, 1, 0, 0, 1, 1, 2]) ws (vs ++ [Value.int x]) := by
    refine ⟨nf_inA hl rfl, sgq_608 ?_⟩
    · show (v_iv (n_v (vs ++ [Value.int x]) 9) ≤ (-1)) ∨ (((v_iv (n_v (vs ++ [Value.int x]) 9) + 1) ≤ w_ei ws (w_ar ws (n_v (vs ++ [Value.int x]) 3) 2) (w_fi ws (n_v (vs ++ [Value.int x]) 3) 5)) ∧ ((w_ei ws (w_ar ws (n_v (vs ++ [Value.int x]) 3) 128) (v_iv (n_v (vs ++ [Value.int x]) 9)) + 1) ≤ v_iv (n_v (vs ++ [Value.int x]) 10)))
      simp only [e_3, e_9, e_10, q3]
      exact vc_Mo_isUnder_4_1 (v_iv (n_v vs 1)) (v_iv (n_v vs 2)) (v_iv (n_v vs 4)) (v_iv (n_v vs 5)) (v_iv (n_v vs 6)) (v_iv (n_v vs 7)) (v_iv (n_v vs 9)) (w_ei ws (w_ar ws (n_v vs 0) 127)) (w_ei ws (w_ar ws (n_v vs 0) 2)) (w_ei ws (w_ar ws (n_v vs 0) 128)) (w_fi ws (n_v vs 0) 5) (v_iv (Value.int x)) k1 k2 k4 k5 k6 k7 k9 d0 d1 d2 d3 h0 f2 f3 f4 f5 f6 hK_0_127 hK_0_128 ex2 ex3
  have nf2 : fc_1 PRD (20, [10], [50, 0, 0, 0, 2, 0, -1, 1, 0]) ws (vs ++ [Value.int x]) := by
    refine ⟨nf_inA hl rfl, sgq_609 ?_⟩
    · show (-1) ≤ v_iv (n_v (vs ++ [Value.int x]) 10)
      rw [e_10]
      exact vc_Mo_isUnder_4_2 (v_iv (n_v vs 1)) (v_iv (n_v vs 2)) (v_iv (n_v vs 4)) (v_iv (n_v vs 5)) (v_iv (n_v vs 6)) (v_iv (n_v vs 7)) (v_iv (n_v vs 9)) (w_ei ws (w_ar ws (n_v vs 0) 127)) (w_ei ws (w_ar ws (n_v vs 0) 2)) (w_ei ws (w_ar ws (n_v vs 0) 128)) (w_fi ws (n_v vs 0) 5) (v_iv (Value.int x)) k1 k2 k4 k5 k6 k7 k9 d0 d1 d2 d3 h0 f2 f3 f4 f5 f6 hK_0_127 hK_0_128 ex2 ex3
  have nf3 : fc_1 PRD (20, [3, 4, 5, 9], [60, 0, 1, 796, 128]) ws (vs ++ [Value.int x]) := by
    refine ⟨nf_inA hl rfl, sgq_621 ?_⟩
    · show UN1 (w_ei ws (w_ar ws (n_v (vs ++ [Value.int x]) 3) 128)) (v_iv (n_v (vs ++ [Value.int x]) 4)) (v_iv (n_v (vs ++ [Value.int x]) 5)) (v_iv (n_v (vs ++ [Value.int x]) 9))
      simp only [e_3, e_4, e_5, e_9, q3, q4, q5]
      exact vc_Mo_isUnder_4_3 (v_iv (n_v vs 1)) (v_iv (n_v vs 2)) (v_iv (n_v vs 4)) (v_iv (n_v vs 5)) (v_iv (n_v vs 6)) (v_iv (n_v vs 7)) (v_iv (n_v vs 9)) (w_ei ws (w_ar ws (n_v vs 0) 127)) (w_ei ws (w_ar ws (n_v vs 0) 2)) (w_ei ws (w_ar ws (n_v vs 0) 128)) (w_fi ws (n_v vs 0) 5) (v_iv (Value.int x)) k1 k2 k4 k5 k6 k7 k9 d0 d1 d2 d3 h0 f2 f3 f4 f5 f6 hK_0_127 hK_0_128 ex2 ex3
  have nf4 : fc_1 PRD (24, [0, 3], []) ws (vs ++ [Value.int x]) := by
    refine ⟨nf_inA hl rfl, sgq_5 ?_⟩
    · show n_v (vs ++ [Value.int x]) 0 = n_v (vs ++ [Value.int x]) 3
      first | rfl | simp only [e_0, e_3, q3, q4, q5]
  have nf5 : fc_1 PRD (24, [1, 4], []) ws (vs ++ [Value.int x]) := by
    refine ⟨nf_inA hl rfl, sgq_5 ?_⟩
    · show n_v (vs ++ [Value.int x]) 1 = n_v (vs ++ [Value.int x]) 4
      first | rfl | simp only [e_1, e_4, q3, q4, q5]
  have nf6 : fc_1 PRD (24, [2, 5], []) ws (vs ++ [Value.int x]) := by
    refine ⟨nf_inA hl rfl, sgq_5 ?_⟩
    · show n_v (vs ++ [Value.int x]) 2 = n_v (vs ++ [Value.int x]) 5
      first | rfl | simp only [e_2, e_5, q3, q4, q5]
  obtain ⟨x0, e0, _, _⟩ := tv_int t7 rfl
  have e1 : v_iv (n_v vs 7) = x0.toInt := by rw [e0]; rfl
  have ho : sy_ofs (vs ++ [Value.int x]) (10, 7, 0, 0) := by
    refine ⟨x, x0, by rw [List.getElem?_append_right (by rw [hl]; decide), hl]; rfl, ?_, ?_, ?_⟩
    · rw [List.getElem?_append_left (by rw [hl]; decide)]; exact n_v_some (by rw [hl]; decide) e0
    · show x0.toInt + 0 ≤ x.toInt; omega
    · show x.toInt ≤ x0.toInt + 0; omega
  exact ⟨(fun _ h => (by cases h)), [Value.int x], ag_one hx, List.forall_mem_cons.mpr ⟨⟨show (20 : Nat) < 100 from by decide, nf0⟩, List.forall_mem_cons.mpr ⟨⟨show (20 : Nat) < 100 from by decide, nf1⟩, List.forall_mem_cons.mpr ⟨⟨show (20 : Nat) < 100 from by decide, nf2⟩, List.forall_mem_cons.mpr ⟨⟨show (20 : Nat) < 100 from by decide, nf3⟩, List.forall_mem_cons.mpr ⟨⟨show (24 : Nat) < 100 from by decide, nf4⟩, List.forall_mem_cons.mpr ⟨⟨show (24 : Nat) < 100 from by decide, nf5⟩, List.forall_mem_cons.mpr ⟨⟨show (24 : Nat) < 100 from by decide, nf6⟩, (fun _ h => (by cases h))⟩⟩⟩⟩⟩⟩⟩, List.forall_mem_cons.mpr ⟨ho, (fun _ h => (by cases h))⟩⟩
set_option maxHeartbeats 4000000 in
theorem vc_Mo_isUnder_5_0 (x1 : Int) (x2 : Int) (x4 : Int) (x5 : Int) (x6 : Int) (x7 : Int) (all_0 : Int → Int) (level_0 : Int → Int) (above_0 : Int → Int) (r_0 : Int) (gx : Int) (k1 : 0 ≤ x1 ∧ x1 ≤ 23) (k2 : 0 ≤ x2 ∧ x2 ≤ 23) (k4 : 0 ≤ x4 ∧ x4 ≤ 23) (k5 : 0 ≤ x5 ∧ x5 ≤ 23) (k6 : (-1) ≤ x6 ∧ x6 ≤ 23) (k7 : (-2) ≤ x7 ∧ x7 ≤ 60) (d0 : x4 + (-4294967296) ≤ x1 ∧ x1 ≤ x4 + 0) (d1 : x5 + (-4294967296) ≤ x2 ∧ x2 ≤ x5 + 0) (d2 : x1 + (-4294967296) ≤ x4 ∧ x4 ≤ x1 + 0) (d3 : x2 + (-4294967296) ≤ x5 ∧ x5 ≤ x2 + 0) (f0 : ∀ j0 : Int, 0 ≤ j0 → j0 < 24 → (((j0 + 1) ≤ all_0 (r_0)) → (((-1) ≤ level_0 (j0)) ∧ ((level_0 (j0) ≤ 24) ∧ ((0 ≤ above_0 (j0)) → (((above_0 (j0) + 1) ≤ all_0 (r_0)) ∧ ((0 ≤ level_0 (above_0 (j0))) ∧ ((level_0 (above_0 (j0)) + 1) ≤ level_0 (j0))))))))) (f1 : (x6 ≤ (-1)) ∨ (((x6 + 1) ≤ all_0 (r_0)) ∧ ((level_0 (x6) + 1) ≤ x7))) (f2 : (-1) ≤ x7) (f3 : UN1 (level_0) (x1) (x2) (x6)) (hK_0_127 : ∀ j : Int, 0 ≤ j → j < 26 → (-1) ≤ above_0 j ∧ above_0 j ≤ 23) (hK_0_128 : ∀ j : Int, 0 ≤ j → j < 26 → (-23) ≤ level_0 j ∧ level_0 j ≤ 24) (ex2 : gx = (-1) + (1 * x7 + 0)) (ex3 : (-2) ≤ gx ∧ gx ≤ 60) : ∀ j0 : Int, 0 ≤ j0 → j0 < 24 → (((j0 + 1) ≤ all_0 (r_0)) → (((-1) ≤ level_0 (j0)) ∧ ((level_0 (j0) ≤ 24) ∧ ((0 ≤ above_0 (j0)) → (((above_0 (j0) + 1) ≤ all_0 (r_0)) ∧ ((0 ≤ level_0 (above_0 (j0))) ∧ ((level_0 (above_0 (j0)) + 1) ≤ level_0 (j0)))))))) := by
  try simp only [Int.add_zero] at *
  first
    | omega
    | (have q := hK_0_128 x1 (by omega) (by omega); right; exact ⟨by omega, by omega⟩)
    | (have q := hK_0_128 x6 (by omega) (by omega); have g := f4 x6 (by omega) (by omega) (by omega); omega)
    | (have g := f4 x6 (by omega) (by omega) (by omega)
       have e : x9 = above_0 x6 := by assumption
       by_cases w : 0 ≤ x9
       · right
         have g2 := g.2.2 (by omega)
         rw [← e] at g2
         omega
       · left; omega)
  
set_option maxHeartbeats 4000000 in
theorem vc_Mo_isUnder_5_1 (x1 : Int) (x2 : Int) (x4 : Int) (x5 : Int) (x6 : Int) (x7 : Int) (all_0 : Int → Int) (level_0 : Int → Int) (above_0 : Int → Int) (r_0 : Int) (gx : Int) (k1 : 0 ≤ x1 ∧ x1 ≤ 23) (k2 : 0 ≤ x2 ∧ x2 ≤ 23) (k4 : 0 ≤ x4 ∧ x4 ≤ 23) (k5 : 0 ≤ x5 ∧ x5 ≤ 23) (k6 : (-1) ≤ x6 ∧ x6 ≤ 23) (k7 : (-2) ≤ x7 ∧ x7 ≤ 60) (d0 : x4 + (-4294967296) ≤ x1 ∧ x1 ≤ x4 + 0) (d1 : x5 + (-4294967296) ≤ x2 ∧ x2 ≤ x5 + 0) (d2 : x1 + (-4294967296) ≤ x4 ∧ x4 ≤ x1 + 0) (d3 : x2 + (-4294967296) ≤ x5 ∧ x5 ≤ x2 + 0) (f0 : ∀ j0 : Int, 0 ≤ j0 → j0 < 24 → (((j0 + 1) ≤ all_0 (r_0)) → (((-1) ≤ level_0 (j0)) ∧ ((level_0 (j0) ≤ 24) ∧ ((0 ≤ above_0 (j0)) → (((above_0 (j0) + 1) ≤ all_0 (r_0)) ∧ ((0 ≤ level_0 (above_0 (j0))) ∧ ((level_0 (above_0 (j0)) + 1) ≤ level_0 (j0))))))))) (f1 : (x6 ≤ (-1)) ∨ (((x6 + 1) ≤ all_0 (r_0)) ∧ ((level_0 (x6) + 1) ≤ x7))) (f2 : (-1) ≤ x7) (f3 : UN1 (level_0) (x1) (x2) (x6)) (hK_0_127 : ∀ j : Int, 0 ≤ j → j < 26 → (-1) ≤ above_0 j ∧ above_0 j ≤ 23) (hK_0_128 : ∀ j : Int, 0 ≤ j → j < 26 → (-23) ≤ level_0 j ∧ level_0 j ≤ 24) (ex2 : gx = (-1) + (1 * x7 + 0)) (ex3 : (-2) ≤ gx ∧ gx ≤ 60) : (x6 ≤ (-1)) ∨ (((x6 + 1) ≤ all_0 (r_0)) ∧ ((level_0 (x6) + 0) ≤ gx)) := by
  try simp only [Int.add_zero] at *
  first
    | omega
    | (have q := hK_0_128 x1 (by omega) (by omega); right; exact ⟨by omega, by omega⟩)
    | (have q := hK_0_128 x6 (by omega) (by omega); have g := f4 x6 (by omega) (by omega) (by omega); omega)
    | (have g := f4 x6 (by omega) (by omega) (by omega)
       have e : x9 = above_0 x6 := by assumption
       by_cases w : 0 ≤ x9
       · right
         have g2 := g.2.2 (by omega)
         rw [← e] at g2
         omega
       · left; omega)
  
set_option maxHeartbeats 4000000 in
theorem vc_Mo_isUnder_5_2 (x1 : Int) (x2 : Int) (x4 : Int) (x5 : Int) (x6 : Int) (x7 : Int) (all_0 : Int → Int) (level_0 : Int → Int) (above_0 : Int → Int) (r_0 : Int) (gx : Int) (k1 : 0 ≤ x1 ∧ x1 ≤ 23) (k2 : 0 ≤ x2 ∧ x2 ≤ 23) (k4 : 0 ≤ x4 ∧ x4 ≤ 23) (k5 : 0 ≤ x5 ∧ x5 ≤ 23) (k6 : (-1) ≤ x6 ∧ x6 ≤ 23) (k7 : (-2) ≤ x7 ∧ x7 ≤ 60) (d0 : x4 + (-4294967296) ≤ x1 ∧ x1 ≤ x4 + 0) (d1 : x5 + (-4294967296) ≤ x2 ∧ x2 ≤ x5 + 0) (d2 : x1 + (-4294967296) ≤ x4 ∧ x4 ≤ x1 + 0) (d3 : x2 + (-4294967296) ≤ x5 ∧ x5 ≤ x2 + 0) (f0 : ∀ j0 : Int, 0 ≤ j0 → j0 < 24 → (((j0 + 1) ≤ all_0 (r_0)) → (((-1) ≤ level_0 (j0)) ∧ ((level_0 (j0) ≤ 24) ∧ ((0 ≤ above_0 (j0)) → (((above_0 (j0) + 1) ≤ all_0 (r_0)) ∧ ((0 ≤ level_0 (above_0 (j0))) ∧ ((level_0 (above_0 (j0)) + 1) ≤ level_0 (j0))))))))) (f1 : (x6 ≤ (-1)) ∨ (((x6 + 1) ≤ all_0 (r_0)) ∧ ((level_0 (x6) + 1) ≤ x7))) (f2 : (-1) ≤ x7) (f3 : UN1 (level_0) (x1) (x2) (x6)) (hK_0_127 : ∀ j : Int, 0 ≤ j → j < 26 → (-1) ≤ above_0 j ∧ above_0 j ≤ 23) (hK_0_128 : ∀ j : Int, 0 ≤ j → j < 26 → (-23) ≤ level_0 j ∧ level_0 j ≤ 24) (ex2 : gx = (-1) + (1 * x7 + 0)) (ex3 : (-2) ≤ gx ∧ gx ≤ 60) : UN1 (level_0) (x1) (x2) (x6) := by
  first
    | assumption
    | exact ⟨fun e => by omega, Or.inl (by omega)⟩
    | (have h := ‹UN1 _ _ _ _›
       have g := f4 x6 (by omega) (by omega) (by omega)
       have e : x9 = above_0 x6 := by assumption
       refine ⟨fun q => by have := h.1 q; omega, ?_⟩
       by_cases w : 0 ≤ x9
       · right; right
         have g2 := (g.2.2 (by omega)).2.2
         rw [← e] at g2
         rcases h.2 with q | q | q
         · rw [q] at g2; omega
         · omega
         · omega
       · right; left; omega)
  
def o_Mo_isUnder_5 : or_T := (2, 8, [(0, (2, 0, 0, [165])), (1, (0, 0, 23, [])), (2, (0, 0, 23, [])), (3, (2, 0, 0, [165])), (4, (0, 0, 23, [])), (5, (0, 0, 23, [])), (6, (0, -1, 23, [])), (7, (0, -2, 60, []))], [(20, [3], [50, 1, 3, 5, 2, 128, 127, 5, 2, 0, 24, 4, 14, 0, 6, 4, 2, 7, 0, 0, 1, 3, 0, 2, 2, 0, 5, 2, 9, 0, 2, 0, -1, 3, 0, 128, 7, 0, 2, 9, 0, 5, 3, 0, 128, 7, 0, 0, 24, 4, 9, 0, 2, 0, 0, 3, 0, 127, 7, 0, 2, 17, 0, 9, 4, 5, 3, 0, 127, 7, 0, 0, 1, 3, 0, 2, 2, 0, 5, 2, 12, 0, 2, 0, 0, 3, 0, 128, 3, 0, 127, 7, 0, 0, 12, 4, 8, 3, 0, 128, 3, 0, 127, 7, 0, 0, 1, 3, 0, 128, 7, 0]), (20, [6, 3, 7], [50, 1, 2, 1005, 1002, 1128, 3, 6, 0, 2, 1, 0, 0, -1, 2, 14, 0, 6, 4, 2, 1, 0, 0, 1, 3, 1, 2, 2, 1, 5, 0, 9, 4, 5, 3, 1, 128, 1, 0, 0, 1, 1, 2]), (20, [7], [50, 0, 0, 0, 2, 0, -1, 1, 0]), (20, [3, 4, 5, 6], [60, 0, 1, 796, 128]), (24, [0, 3], []), (24, [1, 4], []), (24, [2, 5], [])], [], [(0, -2, 60, [])], [(20, [3], [50, 1, 3, 5, 2, 128, 127, 5, 2, 0, 24, 4, 14, 0, 6, 4, 2, 7, 0, 0, 1, 3, 0, 2, 2, 0, 5, 2, 9, 0, 2, 0, -1, 3, 0, 128, 7, 0, 2, 9, 0, 5, 3, 0, 128, 7, 0, 0, 24, 4, 9, 0, 2, 0, 0, 3, 0, 127, 7, 0, 2, 17, 0, 9, 4, 5, 3, 0, 127, 7, 0, 0, 1, 3, 0, 2, 2, 0, 5, 2, 12, 0, 2, 0, 0, 3, 0, 128, 3, 0, 127, 7, 0, 0, 12, 4, 8, 3, 0, 128, 3, 0, 127, 7, 0, 0, 1, 3, 0, 128, 7, 0]), (20, [6, 3, 8], [50, 1, 2, 1005, 1002, 1128, 3, 6, 0, 2, 1, 0, 0, -1, 2, 14, 0, 6, 4, 2, 1, 0, 0, 1, 3, 1, 2, 2, 1, 5, 0, 9, 4, 5, 3, 1, 128, 1, 0, 0, 0, 1, 2]), (20, [3, 4, 5, 6], [60, 0, 1, 796, 128]), (24, [0, 3], []), (24, [1, 4], []), (24, [2, 5], [])], [(8, 7, -1000000000000, -1)], [(1, 4, -4294967296, 0), (2, 5, -4294967296, 0), (4, 1, -4294967296, 0), (5, 2, -4294967296, 0)])
theorem oo_Mo_isUnder_5 {kA : Nat → ClassId} : or_ok PRD kA GG o_Mo_isUnder_5 := by
  refine or_mk fun A ta ws vs hD hth hl => ?_
  intro t0 r0 t1 k1 t2 k2 t3 r3 t4 k4 t5 k5 t6 k6 t7 k7 d0 d1 d2 d3 f0 f1 f2 f3 f4 f5 f6
  replace f0 := shm_601 f0
  replace f1 := shm_608 f1
  replace f2 := shm_609 f2
  replace f3 := shm_621 f3
  replace f4 := shm_5 f4
  replace f5 := shm_5 f5
  replace f6 := shm_5 f6
  have q3 : n_v vs 3 = n_v vs 0 := f4.symm
  have q4 : n_v vs 4 = n_v vs 1 := f5.symm
  have q5 : n_v vs 5 = n_v vs 2 := f6.symm
  simp only [q3, q4, q5] at f0 f1 f3
  have cr_0_2 := fdq_10 hD hth r0
  have cr_0_127 := fdq_154 hD hth r0
  have cr_0_128 := fdq_155 hD hth r0
  have hK_0_127 := elq_87 hD hth cr_0_127
  have hK_0_128 := elq_88 hD hth cr_0_128
  obtain ⟨x, ex, hx⟩ := iv_ex (ta := ta) (lo := (-2)) (hi := 60) (z := (-1) + (1 * v_iv (n_v vs 7) + 0)) (by omega) (by omega) (by omega) (by omega)
  have ex2 : v_iv (Value.int x) = (-1) + (1 * v_iv (n_v vs 7) + 0) := ex
  have ex3 : (-2) ≤ v_iv (Value.int x) ∧ v_iv (Value.int x) ≤ 60 := tv_rng hx
  have e_0 : n_v (vs ++ [Value.int x]) 0 = n_v vs 0 := n_v_old (by rw [hl]; decide)
  have e_1 : n_v (vs ++ [Value.int x]) 1 = n_v vs 1 := n_v_old (by rw [hl]; decide)
  have e_2 : n_v (vs ++ [Value.int x]) 2 = n_v vs 2 := n_v_old (by rw [hl]; decide)
  have e_3 : n_v (vs ++ [Value.int x]) 3 = n_v vs 3 := n_v_old (by rw [hl]; decide)
  have e_4 : n_v (vs ++ [Value.int x]) 4 = n_v vs 4 := n_v_old (by rw [hl]; decide)
  have e_5 : n_v (vs ++ [Value.int x]) 5 = n_v vs 5 := n_v_old (by rw [hl]; decide)
  have e_6 : n_v (vs ++ [Value.int x]) 6 = n_v vs 6 := n_v_old (by rw [hl]; decide)
  have e_8 : n_v (vs ++ [Value.int x]) 8 = Value.int x := n_v_new hl
  have nf0 : fc_1 PRD (20, [3], [50, 1, 3, 5, 2, 128, 127, 5, 2, 0, 24, 4, 14, 0, 6, 4, 2, 7, 0, 0, 1, 3, 0, 2, 2, 0, 5, 2, 9, 0, 2, 0, -1, 3, 0, 128, 7, 0, 2, 9, 0, 5, 3, 0, 128, 7, 0, 0, 24, 4, 9, 0, 2, 0, 0, 3, 0, 127, 7, 0, 2, 17, 0, 9, 4, 5, 3, 0, 127, 7, 0, 0, 1, 3, 0, 2, 2, 0, 5, 2, 12, 0, 2, 0, 0, 3, 0, 128, 3, 0, 127, 7, 0, 0, 12, 4, 8, 3, 0, 128, 3, 0, 127, 7, 0, 0, 1, 3, 0, 128, 7, 0]) ws (vs ++ [Value.int x]) := by
    refine ⟨nf_inA hl rfl, sgq_601 ?_⟩
    · show ∀ j0 : Int, 0 ≤ j0 → j0 < 24 → (((j0 + 1) ≤ w_ei ws (w_ar ws (n_v (vs ++ [Value.int x]) 3) 2) (w_fi ws (n_v (vs ++ [Value.int x]) 3) 5)) → (((-1) ≤ w_ei ws (w_ar ws (n_v (vs ++ [Value.int x]) 3) 128) (j0)) ∧ ((w_ei ws (w_ar ws (n_v (vs ++ [Value.int x]) 3) 128) (j0) ≤ 24) ∧ ((0 ≤ w_ei ws (w_ar ws (n_v (vs ++ [Value.int x]) 3) 127) (j0)) → (((w_ei ws (w_ar ws (n_v (vs ++ [Value.int x]) 3) 127) (j0) + 1) ≤ w_ei ws (w_ar ws (n_v (vs ++ [Value.int x]) 3) 2) (w_fi ws (n_v (vs ++ [Value.int x]) 3) 5)) ∧ ((0 ≤ w_ei ws (w_ar ws (n_v (vs ++ [Value.int x]) 3) 128) (w_ei ws (w_ar ws (n_v (vs ++ [Value.int x]) 3) 127) (j0))) ∧ ((w_ei ws (w_ar ws (n_v (vs ++ [Value.int x]) 3) 128) (w_ei ws (w_ar ws (n_v (vs ++ [Value.int x]) 3) 127) (j0)) + 1) ≤ w_ei ws (w_ar ws (n_v (vs ++ [Value.int x]) 3) 128) (j0))))))))
      simp only [e_3, q3]
      exact vc_Mo_isUnder_5_0 (v_iv (n_v vs 1)) (v_iv (n_v vs 2)) (v_iv (n_v vs 4)) (v_iv (n_v vs 5)) (v_iv (n_v vs 6)) (v_iv (n_v vs 7)) (w_ei ws (w_ar ws (n_v vs 0) 2)) (w_ei ws (w_ar ws (n_v vs 0) 128)) (w_ei ws (w_ar ws (n_v vs 0) 127)) (w_fi ws (n_v vs 0) 5) (v_iv (Value.int x)) k1 k2 k4 k5 k6 k7 d0 d1 d2 d3 f0 f1 f2 f3 hK_0_127 hK_0_128 ex2 ex3
  have nf1 : fc_1 PRD (20, [6, 3, 8], [50, 1, 2, 1005, 1002, 1128, 3, 6, 0, 2, 1, 0, 0, -1, 2, 14, 0, 6, 4, 2, 1, 0, 0, 1, 3, 1, 2, 2, 1, 5, 0, 9, 4, 5, 3, 1, 128, 1, 0, 0, 0, 1, 2]) ws (vs ++ [Value.int x]) := by
    refine ⟨nf_inA hl rfl, sgq_604 ?_⟩
    · show (v_iv (n_v (vs ++ [Value.int x]) 6) ≤ (-1)) ∨ (((v_iv (n_v (vs ++ [Value.int x]) 6) + 1) ≤ w_ei ws (w_ar ws (n_v (vs ++ [Value.int x]) 3) 2) (w_fi ws (n_v (vs ++ [Value.int x]) 3) 5)) ∧ ((w_ei ws (w_ar ws (n_v (vs ++ [Value.int x]) 3) 128) (v_iv (n_v (vs ++ [Value.int x]) 6)) + 0) ≤ v_iv (n_v (vs ++ [Value.int x]) 8)))
      simp only [e_3, e_6, e_8, q3]
      exact vc_Mo_isUnder_5_1 (v_iv (n_v vs 1)) (v_iv (n_v vs 2)) (v_iv (n_v vs 4)) (v_iv (n_v vs 5)) (v_iv (n_v vs 6)) (v_iv (n_v vs 7)) (w_ei ws (w_ar ws (n_v vs 0) 2)) (w_ei ws (w_ar ws (n_v vs 0) 128)) (w_ei ws (w_ar ws (n_v vs 0) 127)) (w_fi ws (n_v vs 0) 5) (v_iv (Value.int x)) k1 k2 k4 k5 k6 k7 d0 d1 d2 d3 f0 f1 f2 f3 hK_0_127 hK_0_128 ex2 ex3
  have nf2 : fc_1 PRD (20, [3, 4, 5, 6], [60, 0, 1, 796, 128]) ws (vs ++ [Value.int x]) := by
    refine ⟨nf_inA hl rfl, sgq_621 ?_⟩
    · show UN1 (w_ei ws (w_ar ws (n_v (vs ++ [Value.int x]) 3) 128)) (v_iv (n_v (vs ++ [Value.int x]) 4)) (v_iv (n_v (vs ++ [Value.int x]) 5)) (v_iv (n_v (vs ++ [Value.int x]) 6))
      simp only [e_3, e_4, e_5, e_6, q3, q4, q5]
      exact vc_Mo_isUnder_5_2 (v_iv (n_v vs 1)) (v_iv (n_v vs 2)) (v_iv (n_v vs 4)) (v_iv (n_v vs 5)) (v_iv (n_v vs 6)) (v_iv (n_v vs 7)) (w_ei ws (w_ar ws (n_v vs 0) 2)) (w_ei ws (w_ar ws (n_v vs 0) 128)) (w_ei ws (w_ar ws (n_v vs 0) 127)) (w_fi ws (n_v vs 0) 5) (v_iv (Value.int x)) k1 k2 k4 k5 k6 k7 d0 d1 d2 d3 f0 f1 f2 f3 hK_0_127 hK_0_128 ex2 ex3
  have nf3 : fc_1 PRD (24, [0, 3], []) ws (vs ++ [Value.int x]) := by
    refine ⟨nf_inA hl rfl, sgq_5 ?_⟩
    · show n_v (vs ++ [Value.int x]) 0 = n_v (vs ++ [Value.int x]) 3
      first | rfl | simp only [e_0, e_3, q3, q4, q5]
  have nf4 : fc_1 PRD (24, [1, 4], []) ws (vs ++ [Value.int x]) := by
    refine ⟨nf_inA hl rfl, sgq_5 ?_⟩
    · show n_v (vs ++ [Value.int x]) 1 = n_v (vs ++ [Value.int x]) 4
      first | rfl | simp only [e_1, e_4, q3, q4, q5]
  have nf5 : fc_1 PRD (24, [2, 5], []) ws (vs ++ [Value.int x]) := by
    refine ⟨nf_inA hl rfl, sgq_5 ?_⟩
    · show n_v (vs ++ [Value.int x]) 2 = n_v (vs ++ [Value.int x]) 5
      first | rfl | simp only [e_2, e_5, q3, q4, q5]
  obtain ⟨x0, e0, _, _⟩ := tv_int t7 rfl
  have e1 : v_iv (n_v vs 7) = x0.toInt := by rw [e0]; rfl
  have ho : sy_ofs (vs ++ [Value.int x]) (8, 7, -1000000000000, -1) := by
    refine ⟨x, x0, by rw [List.getElem?_append_right (by rw [hl]; decide), hl]; rfl, ?_, ?_, ?_⟩
    · rw [List.getElem?_append_left (by rw [hl]; decide)]; exact n_v_some (by rw [hl]; decide) e0
    · show x0.toInt + (-1000000000000) ≤ x.toInt; omega
    · show x.toInt ≤ x0.toInt + (-1); omega
  exact ⟨(fun _ h => (by cases h)), [Value.int x], ag_one hx, List.forall_mem_cons.mpr ⟨⟨show (20 : Nat) < 100 from by decide, nf0⟩, List.forall_mem_cons.mpr ⟨⟨show (20 : Nat) < 100 from by decide, nf1⟩, List.forall_mem_cons.mpr ⟨⟨show (20 : Nat) < 100 from by decide, nf2⟩, List.forall_mem_cons.mpr ⟨⟨show (24 : Nat) < 100 from by decide, nf3⟩, List.forall_mem_cons.mpr ⟨⟨show (24 : Nat) < 100 from by decide, nf4⟩, List.forall_mem_cons.mpr ⟨⟨show (24 : Nat) < 100 from by decide, nf5⟩, (fun _ h => (by cases h))⟩⟩⟩⟩⟩⟩, List.forall_mem_cons.mpr ⟨ho, (fun _ h => (by cases h))⟩⟩
def n_Mo_isUnder_an : List an_T := [(2, [(0, (2, 0, 0, [165])), (1, (0, 0, 23, [])), (2, (0, 0, 23, [])), (3, (0, (Int.negSucc 0), 23, []))], [], (0, 0), [(0, 0, 99998), (2, 7, (Int.negSucc 1)), (0, 0, 100000)], [(1, 4, (Int.negSucc 999999999999), 0), (2, 5, (Int.negSucc 999999999999), 0), (4, 1, (Int.negSucc 999999999999), 0), (5, 2, (Int.negSucc 999999999999), 0)], [], [(2, 0, 0, [165]), (0, 0, 23, []), (0, 0, 23, [])], 0, [(0, (Int.negSucc 1), 60, [])], [(20, [3], [50, 1, 3, 5, 2, 128, 127, 5, 2, 0, 24, 4, 14, 0, 6, 4, 2, 7, 0, 0, 1, 3, 0, 2, 2, 0, 5, 2, 9, 0, 2, 0, (Int.negSucc 0), 3, 0, 128, 7, 0, 2, 9, 0, 5, 3, 0, 128, 7, 0, 0, 24, 4, 9, 0, 2, 0, 0, 3, 0, 127, 7, 0, 2, 17, 0, 9, 4, 5, 3, 0, 127, 7, 0, 0, 1, 3, 0, 2, 2, 0, 5, 2, 12, 0, 2, 0, 0, 3, 0, 128, 3, 0, 127, 7, 0, 0, 12, 4, 8, 3, 0, 128, 3, 0, 127, 7, 0, 0, 1, 3, 0, 128, 7, 0]), (20, [6, 3, 7], [50, 1, 2, 1005, 1002, 1128, 3, 6, 0, 2, 1, 0, 0, (Int.negSucc 0), 2, 14, 0, 6, 4, 2, 1, 0, 0, 1, 3, 1, 2, 2, 1, 5, 0, 9, 4, 5, 3, 1, 128, 1, 0, 0, 0, 1, 2]), (20, [3, 4, 5, 6], [60, 0, 1, 796, 128]), (24, [0, 3], []), (24, [1, 4], []), (24, [2, 5], [])]), (18, [(0, (2, 0, 0, [165])), (1, (0, 0, 23, [])), (2, (0, 0, 23, [])), (3, (0, (Int.negSucc 0), 23, []))], [], (0, 0), [(0, 0, 99998), (2, 7, (Int.negSucc 1)), (0, 0, 99982)], [(1, 4, (Int.negSucc 999999999999), 0), (2, 5, (Int.negSucc 999999999999), 0), (4, 1, (Int.negSucc 999999999999), 0), (5, 2, (Int.negSucc 999999999999), 0)], [], [(2, 0, 0, [165]), (0, 0, 23, []), (0, 0, 23, [])], 0, [(0, (Int.negSucc 1), 60, [])], [(20, [3], [50, 1, 3, 5, 2, 128, 127, 5, 2, 0, 24, 4, 14, 0, 6, 4, 2, 7, 0, 0, 1, 3, 0, 2, 2, 0, 5, 2, 9, 0, 2, 0, (Int.negSucc 0), 3, 0, 128, 7, 0, 2, 9, 0, 5, 3, 0, 128, 7, 0, 0, 24, 4, 9, 0, 2, 0, 0, 3, 0, 127, 7, 0, 2, 17, 0, 9, 4, 5, 3, 0, 127, 7, 0, 0, 1, 3, 0, 2, 2, 0, 5, 2, 12, 0, 2, 0, 0, 3, 0, 128, 3, 0, 127, 7, 0, 0, 12, 4, 8, 3, 0, 128, 3, 0, 127, 7, 0, 0, 1, 3, 0, 128, 7, 0]), (20, [6, 3, 7], [50, 1, 2, 1005, 1002, 1128, 3, 6, 0, 2, 1, 0, 0, (Int.negSucc 0), 2, 14, 0, 6, 4, 2, 1, 0, 0, 1, 3, 1, 2, 2, 1, 5, 0, 9, 4, 5, 3, 1, 128, 1, 0, 0, 1, 1, 2]), (20, [7], [50, 0, 0, 0, 2, 0, (Int.negSucc 0), 1, 0]), (20, [3, 4, 5, 6], [60, 0, 1, 796, 128]), (24, [0, 3], []), (24, [1, 4], []), (24, [2, 5], [])])]
def t_Mo_isUnder_ct : ct_L := []
set_option maxRecDepth 100000 in
theorem c_Mo_isUnder {l : Launch} {D : va_G} {kA : Nat → ClassId} : ct_ok PRD l D kA GG y_Mo_isUnder z_Mo_isUnder e_Mo_isUnder := chk_all_ok (FT := [(290, 13, 127)]) (PT := []) (CT := t_Mo_isUnder_ct) (KT := []) (NT := []) (AN := n_Mo_isUnder_an) (OT := [o_Mo_isUnder_0, o_Mo_isUnder_1, o_Mo_isUnder_2, o_Mo_isUnder_3, o_Mo_isUnder_4, o_Mo_isUnder_5]) 3 200 (List.forall_mem_cons.mpr ⟨oo_Mo_isUnder_0, List.forall_mem_cons.mpr ⟨oo_Mo_isUnder_1, List.forall_mem_cons.mpr ⟨oo_Mo_isUnder_2, List.forall_mem_cons.mpr ⟨oo_Mo_isUnder_3, List.forall_mem_cons.mpr ⟨oo_Mo_isUnder_4, List.forall_mem_cons.mpr ⟨oo_Mo_isUnder_5, List.forall_mem_nil _⟩⟩⟩⟩⟩⟩) (by decide +kernel) ⟨List.forall_mem_cons.mpr ⟨gf_Mo_290, List.forall_mem_nil _⟩, List.forall_mem_nil _, List.forall_mem_nil _, List.forall_mem_nil _, List.forall_mem_nil _, GG_pl⟩ (by decide +kernel)
set_option maxHeartbeats 4000000 in
theorem vc_Mo_isWithin_0_0 (x1 : Int) (x2 : Int) (gx : Int) (k1 : (-1) ≤ x1 ∧ x1 ≤ 7) (k2 : (-1) ≤ x2 ∧ x2 ≤ 7) (ex2 : gx = 8) (ex3 : (-1) ≤ gx ∧ gx ≤ 8) : 1 * x1 + ((-1) * gx + 0) ≤ 0 := by
  first
    | omega
  
set_option maxHeartbeats 4000000 in
theorem vc_Mo_isWithin_0_1 (x1 : Int) (x2 : Int) (gx : Int) (all_0 : Int → Int) (r_0 : Int) (k1 : (-1) ≤ x1 ∧ x1 ≤ 7) (k2 : (-1) ≤ x2 ∧ x2 ≤ 7) (ex2 : gx = 8) (ex3 : (-1) ≤ gx ∧ gx ≤ 8) : WI1 (r_0) (all_0) (x1) (x2) (x1) := by
  first
    | exact wi1_start rfl
    | assumption
    | exact wi1_step (x := x6) (p := x12) ‹WI1 _ _ _ _ _› (by omega) (by omega) (by omega) (by assumption)
  
def o_Mo_isWithin_0 : or_T := (2, 3, [(1, (0, -1, 7, [])), (2, (0, -1, 7, []))], [], [], [(0, -1, 8, [])], [(23, [1, 3], [0, 1, -1]), (20, [0, 1, 2, 1], [60, 1, 1, 778, 5, 2]), (24, [0, 0], []), (24, [1, 1], []), (24, [2, 2], [])], [], [])
theorem oo_Mo_isWithin_0 {kA : Nat → ClassId} : or_ok PRD kA GG o_Mo_isWithin_0 := by
  refine or_mk fun A ta ws vs hD hth hl => ?_
  intro t1 k1 t2 k2
  obtain ⟨x, ex, hx⟩ := iv_ex (ta := ta) (lo := (-1)) (hi := 8) (z := 8) (by omega) (by omega) (by omega) (by omega)
  have ex2 : v_iv (Value.int x) = 8 := ex
  have ex3 : (-1) ≤ v_iv (Value.int x) ∧ v_iv (Value.int x) ≤ 8 := tv_rng hx
  have e_0 : n_v (vs ++ [Value.int x]) 0 = n_v vs 0 := n_v_old (by rw [hl]; decide)
  have e_1 : n_v (vs ++ [Value.int x]) 1 = n_v vs 1 := n_v_old (by rw [hl]; decide)
  have e_2 : n_v (vs ++ [Value.int x]) 2 = n_v vs 2 := n_v_old (by rw [hl]; decide)
  have e_3 : n_v (vs ++ [Value.int x]) 3 = Value.int x := n_v_new hl
  have nf0 : fc_1 PRD (23, [1, 3], [0, 1, -1]) ws (vs ++ [Value.int x]) := by
    refine ⟨nf_inA hl rfl, sgq_7 ?_⟩
    · show 1 * v_iv (n_v (vs ++ [Value.int x]) 1) + ((-1) * v_iv (n_v (vs ++ [Value.int x]) 3) + 0) ≤ 0
      simp only [e_1, e_3]
      exact vc_Mo_isWithin_0_0 (v_iv (n_v vs 1)) (v_iv (n_v vs 2)) (v_iv (Value.int x)) k1 k2 ex2 ex3
  have nf1 : fc_1 PRD (20, [0, 1, 2, 1], [60, 1, 1, 778, 5, 2]) ws (vs ++ [Value.int x]) := by
    refine ⟨nf_inA hl rfl, sgq_623 ?_⟩
    · show WI1 (w_fi ws (n_v (vs ++ [Value.int x]) 0) 5) (w_ei ws (w_ar ws (n_v (vs ++ [Value.int x]) 0) 2)) (v_iv (n_v (vs ++ [Value.int x]) 1)) (v_iv (n_v (vs ++ [Value.int x]) 2)) (v_iv (n_v (vs ++ [Value.int x]) 1))
      simp only [e_0, e_1, e_2]
      exact vc_Mo_isWithin_0_1 (v_iv (n_v vs 1)) (v_iv (n_v vs 2)) (v_iv (Value.int x)) (w_ei ws (w_ar ws (n_v vs 0) 2)) (w_fi ws (n_v vs 0) 5) k1 k2 ex2 ex3
  have nf2 : fc_1 PRD (24, [0, 0], []) ws (vs ++ [Value.int x]) := by
    refine ⟨nf_inA hl rfl, sgq_1 ?_⟩
    · show n_v (vs ++ [Value.int x]) 0 = n_v (vs ++ [Value.int x]) 0
      first | rfl | simp only [e_0]
  have nf3 : fc_1 PRD (24, [1, 1], []) ws (vs ++ [Value.int x]) := by
    refine ⟨nf_inA hl rfl, sgq_1 ?_⟩
    · show n_v (vs ++ [Value.int x]) 1 = n_v (vs ++ [Value.int x]) 1
      first | rfl | simp only [e_1]
  have nf4 : fc_1 PRD (24, [2, 2], []) ws (vs ++ [Value.int x]) := by
    refine ⟨nf_inA hl rfl, sgq_1 ?_⟩
    · show n_v (vs ++ [Value.int x]) 2 = n_v (vs ++ [Value.int x]) 2
      first | rfl | simp only [e_2]
  exact ⟨(fun _ h => (by cases h)), [Value.int x], ag_one hx, List.forall_mem_cons.mpr ⟨⟨show (23 : Nat) < 100 from by decide, nf0⟩, List.forall_mem_cons.mpr ⟨⟨show (20 : Nat) < 100 from by decide, nf1⟩, List.forall_mem_cons.mpr ⟨⟨show (24 : Nat) < 100 from by decide, nf2⟩, List.forall_mem_cons.mpr ⟨⟨show (24 : Nat) < 100 from by decide, nf3⟩, List.forall_mem_cons.mpr ⟨⟨show (24 : Nat) < 100 from by decide, nf4⟩, (fun _ h => (by cases h))⟩⟩⟩⟩⟩, (fun _ h => (by cases h))⟩
set_option maxHeartbeats 4000000 in
theorem vc_Mo_isWithin_1_0 (x1 : Int) (x2 : Int) (x4 : Int) (x5 : Int) (x6 : Int) (x7 : Int) (x8 : Int) (all_0 : Int → Int) (r_0 : Int) (k1 : (-1) ≤ x1 ∧ x1 ≤ 7) (k2 : (-1) ≤ x2 ∧ x2 ≤ 7) (k4 : (-1) ≤ x4 ∧ x4 ≤ 7) (k5 : (-1) ≤ x5 ∧ x5 ≤ 7) (k6 : (-1) ≤ x6 ∧ x6 ≤ 0) (k7 : (-1) ≤ x7 ∧ x7 ≤ 8) (k8 : 0 ≤ x8 ∧ x8 ≤ 0) (d0 : x4 + (-4294967296) ≤ x1 ∧ x1 ≤ x4 + 0) (d1 : x5 + (-4294967296) ≤ x2 ∧ x2 ≤ x5 + 0) (d2 : x1 + (-4294967296) ≤ x4 ∧ x4 ≤ x1 + 0) (d3 : x2 + (-4294967296) ≤ x5 ∧ x5 ≤ x2 + 0) (f0 : x6 ≠ x2) (f1 : x6 ≤ 0) (f2 : 1 * x6 + ((-1) * x7 + 0) ≤ 0) (f3 : WI1 (r_0) (all_0) (x1) (x2) (x6)) : WIN (r_0) (all_0) (x1) (x2) (x8) := by
  first
    | exact win_end ‹WI1 _ _ _ _ _› (by omega) (by omega)
  
def o_Mo_isWithin_1 : or_T := (40, 9, [(0, (2, 0, 0, [165])), (1, (0, -1, 7, [])), (2, (0, -1, 7, [])), (3, (2, 0, 0, [165])), (4, (0, -1, 7, [])), (5, (0, -1, 7, [])), (6, (0, -1, 0, [])), (7, (0, -1, 8, [])), (8, (0, 0, 0, []))], [(7, [6, 5], [1]), (8, [6], [5]), (23, [6, 7], [0, 1, -1]), (20, [3, 4, 5, 6], [60, 1, 1, 778, 5, 2]), (24, [0, 3], []), (24, [1, 4], []), (24, [2, 5], [])], [], [], [(20, [0, 1, 2, 8], [60, 1, 1, 779, 5, 2])], [], [(1, 4, -4294967296, 0), (2, 5, -4294967296, 0), (4, 1, -4294967296, 0), (5, 2, -4294967296, 0)])
theorem oo_Mo_isWithin_1 {kA : Nat → ClassId} : or_ok PRD kA GG o_Mo_isWithin_1 := by
  refine or_mk fun A ta ws vs hD hth hl => ?_
  intro t0 r0 t1 k1 t2 k2 t3 r3 t4 k4 t5 k5 t6 k6 t7 k7 t8 k8 d0 d1 d2 d3 f0 f1 f2 f3 f4 f5 f6
  replace f0 := shm_40 f0
  replace f3 := shm_624 f3
  replace f4 := shm_5 f4
  replace f5 := shm_5 f5
  replace f6 := shm_5 f6
  have q3 : n_v vs 3 = n_v vs 0 := f4.symm
  have q4 : n_v vs 4 = n_v vs 1 := f5.symm
  have q5 : n_v vs 5 = n_v vs 2 := f6.symm
  simp only [q5, q3, q4] at f0 f3
  have nf0 : fc_1 PRD (20, [0, 1, 2, 8], [60, 1, 1, 779, 5, 2]) ws (vs) := ⟨nf_in hl rfl, sgq_625 (vc_Mo_isWithin_1_0 (v_iv (n_v vs 1)) (v_iv (n_v vs 2)) (v_iv (n_v vs 4)) (v_iv (n_v vs 5)) (v_iv (n_v vs 6)) (v_iv (n_v vs 7)) (v_iv (n_v vs 8)) (w_ei ws (w_ar ws (n_v vs 0) 2)) (w_fi ws (n_v vs 0) 5) k1 k2 k4 k5 k6 k7 k8 d0 d1 d2 d3 f0 (shm_295 f1) (shm_7 f2) f3)⟩
  refine ⟨(fun _ h => (by cases h)), [], trivial, ?_, (fun _ h => (by cases h))⟩
  rw [List.append_nil]
  exact List.forall_mem_cons.mpr ⟨⟨show (20 : Nat) < 100 from by decide, nf0⟩, (fun _ h => (by cases h))⟩
set_option maxHeartbeats 4000000 in
theorem vc_Mo_isWithin_2_0 (x1 : Int) (x2 : Int) (x4 : Int) (x5 : Int) (x6 : Int) (x7 : Int) (x8 : Int) (all_0 : Int → Int) (r_0 : Int) (k1 : (-1) ≤ x1 ∧ x1 ≤ 7) (k2 : (-1) ≤ x2 ∧ x2 ≤ 0) (k4 : (-1) ≤ x4 ∧ x4 ≤ 7) (k5 : (-1) ≤ x5 ∧ x5 ≤ 0) (k6 : (-1) ≤ x6 ∧ x6 ≤ 0) (k7 : (-1) ≤ x7 ∧ x7 ≤ 8) (k8 : 1 ≤ x8 ∧ x8 ≤ 1) (d0 : x5 + 0 ≤ x6 ∧ x6 ≤ x5 + 0) (d1 : x4 + (-4294967296) ≤ x1 ∧ x1 ≤ x4 + 0) (d2 : x5 + (-4294967296) ≤ x2 ∧ x2 ≤ x5 + 0) (d3 : x1 + (-4294967296) ≤ x4 ∧ x4 ≤ x1 + 0) (d4 : x2 + (-4294967296) ≤ x5 ∧ x5 ≤ x2 + 0) (f0 : x6 = x2) (f1 : x6 ≤ 0) (f2 : 1 * x6 + ((-1) * x7 + 0) ≤ 0) (f3 : WI1 (r_0) (all_0) (x1) (x2) (x6)) : WIN (r_0) (all_0) (x1) (x2) (x8) := by
  first
    | exact win_end ‹WI1 _ _ _ _ _› (by omega) (by omega)
  
def o_Mo_isWithin_2 : or_T := (40, 9, [(0, (2, 0, 0, [165])), (1, (0, -1, 7, [])), (2, (0, -1, 0, [])), (3, (2, 0, 0, [165])), (4, (0, -1, 7, [])), (5, (0, -1, 0, [])), (6, (0, -1, 0, [])), (7, (0, -1, 8, [])), (8, (0, 1, 1, []))], [(7, [6, 5], [0]), (8, [6], [5]), (23, [6, 7], [0, 1, -1]), (20, [3, 4, 5, 6], [60, 1, 1, 778, 5, 2]), (24, [0, 3], []), (24, [1, 4], []), (24, [2, 5], [])], [], [], [(20, [0, 1, 2, 8], [60, 1, 1, 779, 5, 2])], [], [(6, 5, 0, 0), (1, 4, -4294967296, 0), (2, 5, -4294967296, 0), (4, 1, -4294967296, 0), (5, 2, -4294967296, 0)])
theorem oo_Mo_isWithin_2 {kA : Nat → ClassId} : or_ok PRD kA GG o_Mo_isWithin_2 := by
  refine or_mk fun A ta ws vs hD hth hl => ?_
  intro t0 r0 t1 k1 t2 k2 t3 r3 t4 k4 t5 k5 t6 k6 t7 k7 t8 k8 d0 d1 d2 d3 d4 f0 f1 f2 f3 f4 f5 f6
  replace f0 := shm_37 f0
  replace f3 := shm_624 f3
  replace f4 := shm_5 f4
  replace f5 := shm_5 f5
  replace f6 := shm_5 f6
  have q3 : n_v vs 3 = n_v vs 0 := f4.symm
  have q4 : n_v vs 4 = n_v vs 1 := f5.symm
  have q5 : n_v vs 5 = n_v vs 2 := f6.symm
  simp only [q5, q3, q4] at f0 f3
  have nf0 : fc_1 PRD (20, [0, 1, 2, 8], [60, 1, 1, 779, 5, 2]) ws (vs) := ⟨nf_in hl rfl, sgq_625 (vc_Mo_isWithin_2_0 (v_iv (n_v vs 1)) (v_iv (n_v vs 2)) (v_iv (n_v vs 4)) (v_iv (n_v vs 5)) (v_iv (n_v vs 6)) (v_iv (n_v vs 7)) (v_iv (n_v vs 8)) (w_ei ws (w_ar ws (n_v vs 0) 2)) (w_fi ws (n_v vs 0) 5) k1 k2 k4 k5 k6 k7 k8 d0 d1 d2 d3 d4 f0 (shm_295 f1) (shm_7 f2) f3)⟩
  refine ⟨(fun _ h => (by cases h)), [], trivial, ?_, (fun _ h => (by cases h))⟩
  rw [List.append_nil]
  exact List.forall_mem_cons.mpr ⟨⟨show (20 : Nat) < 100 from by decide, nf0⟩, (fun _ h => (by cases h))⟩
set_option maxHeartbeats 4000000 in
theorem vc_Mo_isWithin_3_0 (x1 : Int) (x2 : Int) (x4 : Int) (x5 : Int) (x6 : Int) (x7 : Int) (x8 : Int) (all_0 : Int → Int) (r_0 : Int) (k1 : (-1) ≤ x1 ∧ x1 ≤ 7) (k2 : 1 ≤ x2 ∧ x2 ≤ 7) (k4 : (-1) ≤ x4 ∧ x4 ≤ 7) (k5 : 1 ≤ x5 ∧ x5 ≤ 7) (k6 : 1 ≤ x6 ∧ x6 ≤ 7) (k7 : (-1) ≤ x7 ∧ x7 ≤ 8) (k8 : 0 ≤ x8 ∧ x8 ≤ 0) (d0 : x5 + 0 ≤ x6 ∧ x6 ≤ x5 + 0) (d1 : x4 + (-4294967296) ≤ x1 ∧ x1 ≤ x4 + 0) (d2 : x5 + (-4294967296) ≤ x2 ∧ x2 ≤ x5 + 0) (d3 : x1 + (-4294967296) ≤ x4 ∧ x4 ≤ x1 + 0) (d4 : x2 + (-4294967296) ≤ x5 ∧ x5 ≤ x2 + 0) (d5 : x1 + (-4294967296) ≤ x6 ∧ x6 ≤ x1 + 7) (d6 : x4 + (-4294967296) ≤ x6 ∧ x6 ≤ x4 + 7) (f0 : x6 ≠ x2) (f1 : x6 = x2) (f2 : 0 < x6) (f3 : 1 * x6 + ((-1) * x7 + 0) ≤ 0) (f4 : WI1 (r_0) (all_0) (x1) (x2) (x6)) : WIN (r_0) (all_0) (x1) (x2) (x8) := by
  first
    | exact win_end ‹WI1 _ _ _ _ _› (by omega) (by omega)
  
def o_Mo_isWithin_3 : or_T := (40, 9, [(0, (2, 0, 0, [165])), (1, (0, -1, 7, [])), (2, (0, 1, 7, [])), (3, (2, 0, 0, [165])), (4, (0, -1, 7, [])), (5, (0, 1, 7, [])), (6, (0, 1, 7, [])), (7, (0, -1, 8, [])), (8, (0, 0, 0, []))], [(7, [6, 5], [1]), (7, [6, 5], [0]), (8, [6], [4]), (23, [6, 7], [0, 1, -1]), (20, [3, 4, 5, 6], [60, 1, 1, 778, 5, 2]), (24, [0, 3], []), (24, [1, 4], []), (24, [2, 5], [])], [], [], [(20, [0, 1, 2, 8], [60, 1, 1, 779, 5, 2])], [], [(6, 5, 0, 0), (1, 4, -4294967296, 0), (2, 5, -4294967296, 0), (4, 1, -4294967296, 0), (5, 2, -4294967296, 0), (6, 1, -4294967296, 7), (6, 4, -4294967296, 7)])
theorem oo_Mo_isWithin_3 {kA : Nat → ClassId} : or_ok PRD kA GG o_Mo_isWithin_3 := by
  refine or_mk fun A ta ws vs hD hth hl => ?_
  intro t0 r0 t1 k1 t2 k2 t3 r3 t4 k4 t5 k5 t6 k6 t7 k7 t8 k8 d0 d1 d2 d3 d4 d5 d6 f0 f1 f2 f3 f4 f5 f6 f7
  replace f0 := shm_40 f0
  replace f1 := shm_37 f1
  replace f4 := shm_624 f4
  replace f5 := shm_5 f5
  replace f6 := shm_5 f6
  replace f7 := shm_5 f7
  have q3 : n_v vs 3 = n_v vs 0 := f5.symm
  have q4 : n_v vs 4 = n_v vs 1 := f6.symm
  have q5 : n_v vs 5 = n_v vs 2 := f7.symm
  simp only [q5, q3, q4] at f0 f1 f4
  have nf0 : fc_1 PRD (20, [0, 1, 2, 8], [60, 1, 1, 779, 5, 2]) ws (vs) := ⟨nf_in hl rfl, sgq_625 (vc_Mo_isWithin_3_0 (v_iv (n_v vs 1)) (v_iv (n_v vs 2)) (v_iv (n_v vs 4)) (v_iv (n_v vs 5)) (v_iv (n_v vs 6)) (v_iv (n_v vs 7)) (v_iv (n_v vs 8)) (w_ei ws (w_ar ws (n_v vs 0) 2)) (w_fi ws (n_v vs 0) 5) k1 k2 k4 k5 k6 k7 k8 d0 d1 d2 d3 d4 d5 d6 f0 f1 (shm_308 f2) (shm_7 f3) f4)⟩
  refine ⟨(fun _ h => (by cases h)), [], trivial, ?_, (fun _ h => (by cases h))⟩
  rw [List.append_nil]
  exact List.forall_mem_cons.mpr ⟨⟨show (20 : Nat) < 100 from by decide, nf0⟩, (fun _ h => (by cases h))⟩
set_option maxHeartbeats 4000000 in
theorem vc_Mo_isWithin_4_0 (x1 : Int) (x2 : Int) (x4 : Int) (x5 : Int) (x6 : Int) (x7 : Int) (x8 : Int) (all_0 : Int → Int) (r_0 : Int) (k1 : (-1) ≤ x1 ∧ x1 ≤ 7) (k2 : 1 ≤ x2 ∧ x2 ≤ 7) (k4 : (-1) ≤ x4 ∧ x4 ≤ 7) (k5 : 1 ≤ x5 ∧ x5 ≤ 7) (k6 : 1 ≤ x6 ∧ x6 ≤ 7) (k7 : (-1) ≤ x7 ∧ x7 ≤ 8) (k8 : 1 ≤ x8 ∧ x8 ≤ 1) (d0 : x5 + 0 ≤ x6 ∧ x6 ≤ x5 + 0) (d1 : x4 + (-4294967296) ≤ x1 ∧ x1 ≤ x4 + 0) (d2 : x5 + (-4294967296) ≤ x2 ∧ x2 ≤ x5 + 0) (d3 : x1 + (-4294967296) ≤ x4 ∧ x4 ≤ x1 + 0) (d4 : x2 + (-4294967296) ≤ x5 ∧ x5 ≤ x2 + 0) (d5 : x1 + (-4294967296) ≤ x6 ∧ x6 ≤ x1 + 7) (d6 : x4 + (-4294967296) ≤ x6 ∧ x6 ≤ x4 + 7) (f0 : x6 = x2) (f1 : x6 = x2) (f2 : 0 < x6) (f3 : 1 * x6 + ((-1) * x7 + 0) ≤ 0) (f4 : WI1 (r_0) (all_0) (x1) (x2) (x6)) : WIN (r_0) (all_0) (x1) (x2) (x8) := by
  first
    | exact win_end ‹WI1 _ _ _ _ _› (by omega) (by omega)
  
def o_Mo_isWithin_4 : or_T := (40, 9, [(0, (2, 0, 0, [165])), (1, (0, -1, 7, [])), (2, (0, 1, 7, [])), (3, (2, 0, 0, [165])), (4, (0, -1, 7, [])), (5, (0, 1, 7, [])), (6, (0, 1, 7, [])), (7, (0, -1, 8, [])), (8, (0, 1, 1, []))], [(7, [6, 5], [0]), (7, [6, 5], [0]), (8, [6], [4]), (23, [6, 7], [0, 1, -1]), (20, [3, 4, 5, 6], [60, 1, 1, 778, 5, 2]), (24, [0, 3], []), (24, [1, 4], []), (24, [2, 5], [])], [], [], [(20, [0, 1, 2, 8], [60, 1, 1, 779, 5, 2])], [], [(6, 5, 0, 0), (1, 4, -4294967296, 0), (2, 5, -4294967296, 0), (4, 1, -4294967296, 0), (5, 2, -4294967296, 0), (6, 1, -4294967296, 7), (6, 4, -4294967296, 7)])
theorem oo_Mo_isWithin_4 {kA : Nat → ClassId} : or_ok PRD kA GG o_Mo_isWithin_4 := by
  refine or_mk fun A ta ws vs hD hth hl => ?_
  intro t0 r0 t1 k1 t2 k2 t3 r3 t4 k4 t5 k5 t6 k6 t7 k7 t8 k8 d0 d1 d2 d3 d4 d5 d6 f0 f1 f2 f3 f4 f5 f6 f7
  replace f0 := shm_37 f0
  replace f1 := shm_37 f1
  replace f4 := shm_624 f4
  replace f5 := shm_5 f5
  replace f6 := shm_5 f6
  replace f7 := shm_5 f7
  have q3 : n_v vs 3 = n_v vs 0 := f5.symm
  have q4 : n_v vs 4 = n_v vs 1 := f6.symm
  have q5 : n_v vs 5 = n_v vs 2 := f7.symm
  simp only [q5, q3, q4] at f0 f1 f4
  have nf0 : fc_1 PRD (20, [0, 1, 2, 8], [60, 1, 1, 779, 5, 2]) ws (vs) := ⟨nf_in hl rfl, sgq_625 (vc_Mo_isWithin_4_0 (v_iv (n_v vs 1)) (v_iv (n_v vs 2)) (v_iv (n_v vs 4)) (v_iv (n_v vs 5)) (v_iv (n_v vs 6)) (v_iv (n_v vs 7)) (v_iv (n_v vs 8)) (w_ei ws (w_ar ws (n_v vs 0) 2)) (w_fi ws (n_v vs 0) 5) k1 k2 k4 k5 k6 k7 k8 d0 d1 d2 d3 d4 d5 d6 f0 f1 (shm_308 f2) (shm_7 f3) f4)⟩
  refine ⟨(fun _ h => (by cases h)), [], trivial, ?_, (fun _ h => (by cases h))⟩
  rw [List.append_nil]
  exact List.forall_mem_cons.mpr ⟨⟨show (20 : Nat) < 100 from by decide, nf0⟩, (fun _ h => (by cases h))⟩
def o_Mo_isWithin_5 : or_T := (26, 14, [(6, (0, 1, 7, [])), (7, (0, -1, 8, [])), (9, (5, 0, 66297, [539])), (10, (0, 531, 531, [])), (11, (0, 531, 66828, [])), (12, (0, 532, 66835, [])), (13, (0, -1, 6, [])), (8, (2, 0, 0, [167]))], [(10, [13, 8, 12], []), (1, [12, 11, 6], []), (1, [11, 9, 10], []), (8, [6], [4]), (23, [6, 7], [0, 1, -1])], [], [], [(23, [13, 6], [-1, 1, -1])], [], [(12, 6, 531, 66828), (12, 11, 1, 7), (12, 9, 532, 538), (11, 9, 531, 531)])
theorem oo_Mo_isWithin_5 {kA : Nat → ClassId} : or_ok PRD kA GG o_Mo_isWithin_5 := by
  refine or_mk fun A ta ws vs hD hth hl => ?_
  intro t6 k6 t7 k7 t9 t10 k10 t11 k11 t12 k12 t13 k13 t8 r8 d0 d1 d2 d3 f0 f1 f2 f3 f4
  obtain ⟨k9, q9_⟩ : (0 ≤ v_iv (n_v vs 9) ∧ v_iv (n_v vs 9) ≤ 66297) ∧ ∃ q : Int, v_iv (n_v vs 9) = 539 * q := tv_dvk t9
  obtain ⟨q9, hq9⟩ := q9_
  replace f0 := shm_107 f0
  replace f1 := shm_12 f1
  replace f2 := shm_12 f2
  replace f3 := shm_308 f3
  replace f4 := shm_7 f4
  have e0 := pl_cp hD hth r8 (g := GG_167) rfl rfl rfl pl_M1 (i := (v_iv (n_v vs 12)).toNat) (j := (v_iv (n_v vs 12)).toNat) (by show (v_iv (n_v vs 12)).toNat < 66836; omega) rfl
  rw [← f0] at e0
  have e1 := pl_gin e0 (k := v_iv (n_v vs 6)) (by omega) (by omega) (by omega)
  have nf0 : fc_1 PRD (23, [13, 6], [-1, 1, -1]) ws (vs) := by
    refine ⟨nf_in hl rfl, sgq_193 ?_⟩
    · show 1 * v_iv (n_v vs 13) + ((-1) * v_iv (n_v vs 6) + 0) ≤ (-1)
      omega
  refine ⟨(fun _ h => (by cases h)), [], trivial, ?_, (fun _ h => (by cases h))⟩
  rw [List.append_nil]
  exact List.forall_mem_cons.mpr ⟨⟨show (23 : Nat) < 100 from by decide, nf0⟩, (fun _ h => (by cases h))⟩
set_option maxHeartbeats 4000000 in
theorem vc_Mo_isWithin_6_0 (x1 : Int) (x2 : Int) (x4 : Int) (x5 : Int) (x6 : Int) (x7 : Int) (x9 : Int) (x10 : Int) (x11 : Int) (x12 : Int) (x13 : Int) (all_0 : Int → Int) (r_0 : Int) (gx : Int) (k1 : (-1) ≤ x1 ∧ x1 ≤ 7) (k2 : (-1) ≤ x2 ∧ x2 ≤ 7) (k4 : (-1) ≤ x4 ∧ x4 ≤ 7) (k5 : (-1) ≤ x5 ∧ x5 ≤ 7) (k6 : 1 ≤ x6 ∧ x6 ≤ 7) (k7 : (-1) ≤ x7 ∧ x7 ≤ 8) (k9 : 0 ≤ x9 ∧ x9 ≤ 66297) (k10 : 531 ≤ x10 ∧ x10 ≤ 531) (k11 : 531 ≤ x11 ∧ x11 ≤ 66828) (k12 : 532 ≤ x12 ∧ x12 ≤ 66835) (k13 : (-1) ≤ x13 ∧ x13 ≤ 6) (d0 : x6 + 531 ≤ x12 ∧ x12 ≤ x6 + 66828) (d1 : x1 + (-4294967296) ≤ x12 ∧ x12 ≤ x1 + 66835) (d2 : x4 + (-4294967296) ≤ x12 ∧ x12 ≤ x4 + 66835) (d3 : x11 + 1 ≤ x12 ∧ x12 ≤ x11 + 7) (d4 : x9 + 532 ≤ x12 ∧ x12 ≤ x9 + 538) (d5 : x9 + 531 ≤ x11 ∧ x11 ≤ x9 + 531) (d6 : x4 + (-4294967296) ≤ x1 ∧ x1 ≤ x4 + 0) (d7 : x5 + (-4294967296) ≤ x2 ∧ x2 ≤ x5 + 0) (d8 : x1 + (-4294967296) ≤ x4 ∧ x4 ≤ x1 + 0) (d9 : x2 + (-4294967296) ≤ x5 ∧ x5 ≤ x2 + 0) (d10 : x1 + (-4294967296) ≤ x6 ∧ x6 ≤ x1 + 7) (d11 : x4 + (-4294967296) ≤ x6 ∧ x6 ≤ x4 + 7) (f0 : 1 * x13 + ((-1) * x6 + 0) ≤ (-1)) (h1 : x13 = all_0 (x12)) (f2 : x12 = x11 + x6) (f3 : x11 = x9 + x10) (g4 : x9 = r_0) (f6 : x6 ≠ x2) (f7 : 0 < x6) (f8 : 1 * x6 + ((-1) * x7 + 0) ≤ 0) (f9 : WI1 (r_0) (all_0) (x1) (x2) (x6)) (ex2 : gx = 0 + (1 * x7 + 0)) (ex3 : (-1) ≤ gx ∧ gx ≤ 8) : 1 * x13 + ((-1) * gx + 0) ≤ (-1) := by
  first
    | omega
  
set_option maxHeartbeats 4000000 in
theorem vc_Mo_isWithin_6_1 (x1 : Int) (x2 : Int) (x4 : Int) (x5 : Int) (x6 : Int) (x7 : Int) (x9 : Int) (x10 : Int) (x11 : Int) (x12 : Int) (x13 : Int) (all_0 : Int → Int) (r_0 : Int) (gx : Int) (k1 : (-1) ≤ x1 ∧ x1 ≤ 7) (k2 : (-1) ≤ x2 ∧ x2 ≤ 7) (k4 : (-1) ≤ x4 ∧ x4 ≤ 7) (k5 : (-1) ≤ x5 ∧ x5 ≤ 7) (k6 : 1 ≤ x6 ∧ x6 ≤ 7) (k7 : (-1) ≤ x7 ∧ x7 ≤ 8) (k9 : 0 ≤ x9 ∧ x9 ≤ 66297) (k10 : 531 ≤ x10 ∧ x10 ≤ 531) (k11 : 531 ≤ x11 ∧ x11 ≤ 66828) (k12 : 532 ≤ x12 ∧ x12 ≤ 66835) (k13 : (-1) ≤ x13 ∧ x13 ≤ 6) (d0 : x6 + 531 ≤ x12 ∧ x12 ≤ x6 + 66828) (d1 : x1 + (-4294967296) ≤ x12 ∧ x12 ≤ x1 + 66835) (d2 : x4 + (-4294967296) ≤ x12 ∧ x12 ≤ x4 + 66835) (d3 : x11 + 1 ≤ x12 ∧ x12 ≤ x11 + 7) (d4 : x9 + 532 ≤ x12 ∧ x12 ≤ x9 + 538) (d5 : x9 + 531 ≤ x11 ∧ x11 ≤ x9 + 531) (d6 : x4 + (-4294967296) ≤ x1 ∧ x1 ≤ x4 + 0) (d7 : x5 + (-4294967296) ≤ x2 ∧ x2 ≤ x5 + 0) (d8 : x1 + (-4294967296) ≤ x4 ∧ x4 ≤ x1 + 0) (d9 : x2 + (-4294967296) ≤ x5 ∧ x5 ≤ x2 + 0) (d10 : x1 + (-4294967296) ≤ x6 ∧ x6 ≤ x1 + 7) (d11 : x4 + (-4294967296) ≤ x6 ∧ x6 ≤ x4 + 7) (f0 : 1 * x13 + ((-1) * x6 + 0) ≤ (-1)) (h1 : x13 = all_0 (x12)) (f2 : x12 = x11 + x6) (f3 : x11 = x9 + x10) (g4 : x9 = r_0) (f6 : x6 ≠ x2) (f7 : 0 < x6) (f8 : 1 * x6 + ((-1) * x7 + 0) ≤ 0) (f9 : WI1 (r_0) (all_0) (x1) (x2) (x6)) (ex2 : gx = 0 + (1 * x7 + 0)) (ex3 : (-1) ≤ gx ∧ gx ≤ 8) : (-1) * gx + 0 ≤ (-1) := by
  first
    | omega
  
set_option maxHeartbeats 4000000 in
theorem vc_Mo_isWithin_6_2 (x1 : Int) (x2 : Int) (x4 : Int) (x5 : Int) (x6 : Int) (x7 : Int) (x9 : Int) (x10 : Int) (x11 : Int) (x12 : Int) (x13 : Int) (all_0 : Int → Int) (r_0 : Int) (gx : Int) (k1 : (-1) ≤ x1 ∧ x1 ≤ 7) (k2 : (-1) ≤ x2 ∧ x2 ≤ 7) (k4 : (-1) ≤ x4 ∧ x4 ≤ 7) (k5 : (-1) ≤ x5 ∧ x5 ≤ 7) (k6 : 1 ≤ x6 ∧ x6 ≤ 7) (k7 : (-1) ≤ x7 ∧ x7 ≤ 8) (k9 : 0 ≤ x9 ∧ x9 ≤ 66297) (k10 : 531 ≤ x10 ∧ x10 ≤ 531) (k11 : 531 ≤ x11 ∧ x11 ≤ 66828) (k12 : 532 ≤ x12 ∧ x12 ≤ 66835) (k13 : (-1) ≤ x13 ∧ x13 ≤ 6) (d0 : x6 + 531 ≤ x12 ∧ x12 ≤ x6 + 66828) (d1 : x1 + (-4294967296) ≤ x12 ∧ x12 ≤ x1 + 66835) (d2 : x4 + (-4294967296) ≤ x12 ∧ x12 ≤ x4 + 66835) (d3 : x11 + 1 ≤ x12 ∧ x12 ≤ x11 + 7) (d4 : x9 + 532 ≤ x12 ∧ x12 ≤ x9 + 538) (d5 : x9 + 531 ≤ x11 ∧ x11 ≤ x9 + 531) (d6 : x4 + (-4294967296) ≤ x1 ∧ x1 ≤ x4 + 0) (d7 : x5 + (-4294967296) ≤ x2 ∧ x2 ≤ x5 + 0) (d8 : x1 + (-4294967296) ≤ x4 ∧ x4 ≤ x1 + 0) (d9 : x2 + (-4294967296) ≤ x5 ∧ x5 ≤ x2 + 0) (d10 : x1 + (-4294967296) ≤ x6 ∧ x6 ≤ x1 + 7) (d11 : x4 + (-4294967296) ≤ x6 ∧ x6 ≤ x4 + 7) (f0 : 1 * x13 + ((-1) * x6 + 0) ≤ (-1)) (h1 : x13 = all_0 (x12)) (f2 : x12 = x11 + x6) (f3 : x11 = x9 + x10) (g4 : x9 = r_0) (f6 : x6 ≠ x2) (f7 : 0 < x6) (f8 : 1 * x6 + ((-1) * x7 + 0) ≤ 0) (f9 : WI1 (r_0) (all_0) (x1) (x2) (x6)) (ex2 : gx = 0 + (1 * x7 + 0)) (ex3 : (-1) ≤ gx ∧ gx ≤ 8) : WI1 (r_0) (all_0) (x1) (x2) (x13) := by
  first
    | exact wi1_start rfl
    | assumption
    | exact wi1_step (x := x6) (p := x12) ‹WI1 _ _ _ _ _› (by omega) (by omega) (by omega) (by assumption)
  
def o_Mo_isWithin_6 : or_T := (27, 14, [(0, (2, 0, 0, [165])), (1, (0, -1, 7, [])), (2, (0, -1, 7, [])), (3, (2, 0, 0, [165])), (4, (0, -1, 7, [])), (5, (0, -1, 7, [])), (6, (0, 1, 7, [])), (7, (0, -1, 8, [])), (8, (2, 0, 0, [167])), (9, (0, 0, 66297, [])), (10, (0, 531, 531, [])), (11, (0, 531, 66828, [])), (12, (0, 532, 66835, [])), (13, (0, -1, 6, []))], [(23, [13, 6], [-1, 1, -1]), (10, [13, 8, 12], []), (1, [12, 11, 6], []), (1, [11, 9, 10], []), (9, [9, 3], [5]), (9, [8, 3], [2]), (7, [6, 5], [1]), (8, [6], [4]), (23, [6, 7], [0, 1, -1]), (20, [3, 4, 5, 6], [60, 1, 1, 778, 5, 2]), (24, [0, 3], []), (24, [1, 4], []), (24, [2, 5], [])], [], [(0, -1, 8, [])], [(23, [13, 14], [-1, 1, -1]), (23, [14], [-1, -1]), (20, [3, 4, 5, 13], [60, 1, 1, 778, 5, 2]), (24, [0, 3], []), (24, [1, 4], []), (24, [2, 5], [])], [(14, 7, 0, 0)], [(12, 6, 531, 66828), (12, 1, -4294967296, 66835), (12, 4, -4294967296, 66835), (12, 11, 1, 7), (12, 9, 532, 538), (11, 9, 531, 531), (1, 4, -4294967296, 0), (2, 5, -4294967296, 0), (4, 1, -4294967296, 0), (5, 2, -4294967296, 0), (6, 1, -4294967296, 7), (6, 4, -4294967296, 7)])
theorem oo_Mo_isWithin_6 {kA : Nat → ClassId} : or_ok PRD kA GG o_Mo_isWithin_6 := by
  refine or_mk fun A ta ws vs hD hth hl => ?_
  intro t0 r0 t1 k1 t2 k2 t3 r3 t4 k4 t5 k5 t6 k6 t7 k7 t8 r8 t9 k9 t10 k10 t11 k11 t12 k12 t13 k13 d0 d1 d2 d3 d4 d5 d6 d7 d8 d9 d10 d11 f0 f1 f2 f3 f4 f5 f6 f7 f8 f9 f10 f11 f12
  replace f0 := shm_193 f0
  replace f1 := shm_107 f1
  replace f2 := shm_12 f2
  replace f3 := shm_12 f3
  replace f4 := shm_110 f4
  replace f5 := shm_120 f5
  replace f6 := shm_40 f6
  replace f7 := shm_308 f7
  replace f8 := shm_7 f8
  replace f9 := shm_624 f9
  replace f10 := shm_5 f10
  replace f11 := shm_5 f11
  replace f12 := shm_5 f12
  have q3 : n_v vs 3 = n_v vs 0 := f10.symm
  have q4 : n_v vs 4 = n_v vs 1 := f11.symm
  have q5 : n_v vs 5 = n_v vs 2 := f12.symm
  simp only [q3, q5, q4] at f4 f5 f6 f9
  have cr_0_2 := fdq_10 hD hth r0
  have ad_8 : v_ad (n_v vs 8) = w_ar ws (n_v vs 0) 2 := congrArg v_ad f5
  simp only [ad_8] at f1
  have h1 : v_iv (n_v vs 13) = w_ei ws (w_ar ws (n_v vs 0) 2) (v_iv (n_v vs 12)) := f1
  have g4 : v_iv (n_v vs 9) = w_fi ws (n_v vs 0) 5 := congrArg v_iv f4
  obtain ⟨x, ex, hx⟩ := iv_ex (ta := ta) (lo := (-1)) (hi := 8) (z := 0 + (1 * v_iv (n_v vs 7) + 0)) (by omega) (by omega) (by omega) (by omega)
  have ex2 : v_iv (Value.int x) = 0 + (1 * v_iv (n_v vs 7) + 0) := ex
  have ex3 : (-1) ≤ v_iv (Value.int x) ∧ v_iv (Value.int x) ≤ 8 := tv_rng hx
  have e_0 : n_v (vs ++ [Value.int x]) 0 = n_v vs 0 := n_v_old (by rw [hl]; decide)
  have e_1 : n_v (vs ++ [Value.int x]) 1 = n_v vs 1 := n_v_old (by rw [hl]; decide)
  have e_2 : n_v (vs ++ [Value.int x]) 2 = n_v vs 2 := n_v_old (by rw [hl]; decide)
  have e_3 : n_v (vs ++ [Value.int x]) 3 = n_v vs 3 := n_v_old (by rw [hl]; decide)
  have e_4 : n_v (vs ++ [Value.int x]) 4 = n_v vs 4 := n_v_old (by rw [hl]; decide)
  have e_5 : n_v (vs ++ [Value.int x]) 5 = n_v vs 5 := n_v_old (by rw [hl]; decide)
  have e_13 : n_v (vs ++ [Value.int x]) 13 = n_v vs 13 := n_v_old (by rw [hl]; decide)
  have e_14 : n_v (vs ++ [Value.int x]) 14 = Value.int x := n_v_new hl
  have nf0 : fc_1 PRD (23, [13, 14], [-1, 1, -1]) ws (vs ++ [Value.int x]) := by
    refine ⟨nf_inA hl rfl, sgq_193 ?_⟩
    · show 1 * v_iv (n_v (vs ++ [Value.int x]) 13) + ((-1) * v_iv (n_v (vs ++ [Value.int x]) 14) + 0) ≤ (-1)
      simp only [e_13, e_14]
      exact vc_Mo_isWithin_6_0 (v_iv (n_v vs 1)) (v_iv (n_v vs 2)) (v_iv (n_v vs 4)) (v_iv (n_v vs 5)) (v_iv (n_v vs 6)) (v_iv (n_v vs 7)) (v_iv (n_v vs 9)) (v_iv (n_v vs 10)) (v_iv (n_v vs 11)) (v_iv (n_v vs 12)) (v_iv (n_v vs 13)) (w_ei ws (w_ar ws (n_v vs 0) 2)) (w_fi ws (n_v vs 0) 5) (v_iv (Value.int x)) k1 k2 k4 k5 k6 k7 k9 k10 k11 k12 k13 d0 d1 d2 d3 d4 d5 d6 d7 d8 d9 d10 d11 f0 h1 f2 f3 g4 f6 f7 f8 f9 ex2 ex3
  have nf1 : fc_1 PRD (23, [14], [-1, -1]) ws (vs ++ [Value.int x]) := by
    refine ⟨nf_inA hl rfl, sgq_626 ?_⟩
    · show (-1) * v_iv (n_v (vs ++ [Value.int x]) 14) + 0 ≤ (-1)
      rw [e_14]
      exact vc_Mo_isWithin_6_1 (v_iv (n_v vs 1)) (v_iv (n_v vs 2)) (v_iv (n_v vs 4)) (v_iv (n_v vs 5)) (v_iv (n_v vs 6)) (v_iv (n_v vs 7)) (v_iv (n_v vs 9)) (v_iv (n_v vs 10)) (v_iv (n_v vs 11)) (v_iv (n_v vs 12)) (v_iv (n_v vs 13)) (w_ei ws (w_ar ws (n_v vs 0) 2)) (w_fi ws (n_v vs 0) 5) (v_iv (Value.int x)) k1 k2 k4 k5 k6 k7 k9 k10 k11 k12 k13 d0 d1 d2 d3 d4 d5 d6 d7 d8 d9 d10 d11 f0 h1 f2 f3 g4 f6 f7 f8 f9 ex2 ex3
  have nf2 : fc_1 PRD (20, [3, 4, 5, 13], [60, 1, 1, 778, 5, 2]) ws (vs ++ [Value.int x]) := by
    refine ⟨nf_inA hl rfl, sgq_624 ?_⟩
    · show WI1 (w_fi ws (n_v (vs ++ [Value.int x]) 3) 5) (w_ei ws (w_ar ws (n_v (vs ++ [Value.int x]) 3) 2)) (v_iv (n_v (vs ++ [Value.int x]) 4)) (v_iv (n_v (vs ++ [Value.int x]) 5)) (v_iv (n_v (vs ++ [Value.int x]) 13))
      simp only [e_3, e_4, e_5, e_13, q3, q4, q5]
      exact vc_Mo_isWithin_6_2 (v_iv (n_v vs 1)) (v_iv (n_v vs 2)) (v_iv (n_v vs 4)) (v_iv (n_v vs 5)) (v_iv (n_v vs 6)) (v_iv (n_v vs 7)) (v_iv (n_v vs 9)) (v_iv (n_v vs 10)) (v_iv (n_v vs 11)) (v_iv (n_v vs 12)) (v_iv (n_v vs 13)) (w_ei ws (w_ar ws (n_v vs 0) 2)) (w_fi ws (n_v vs 0) 5) (v_iv (Value.int x)) k1 k2 k4 k5 k6 k7 k9 k10 k11 k12 k13 d0 d1 d2 d3 d4 d5 d6 d7 d8 d9 d10 d11 f0 h1 f2 f3 g4 f6 f7 f8 f9 ex2 ex3
  have nf3 : fc_1 PRD (24, [0, 3], []) ws (vs ++ [Value.int x]) := by
    refine ⟨nf_inA hl rfl, sgq_5 ?_⟩
    · show n_v (vs ++ [Value.int x]) 0 = n_v (vs ++ [Value.int x]) 3
      first | rfl | simp only [e_0, e_3, q3, q4, q5]
  have nf4 : fc_1 PRD (24, [1, 4], []) ws (vs ++ [Value.int x]) := by
    refine ⟨nf_inA hl rfl, sgq_5 ?_⟩
    · show n_v (vs ++ [Value.int x]) 1 = n_v (vs ++ [Value.int x]) 4
      first | rfl | simp only [e_1, e_4, q3, q4, q5]
  have nf5 : fc_1 PRD (24, [2, 5], []) ws (vs ++ [Value.int x]) := by
    refine ⟨nf_inA hl rfl, sgq_5 ?_⟩
    · show n_v (vs ++ [Value.int x]) 2 = n_v (vs ++ [Value.int x]) 5
      first | rfl | simp only [e_2, e_5, q3, q4, q5]
  obtain ⟨x0, e0, _, _⟩ := tv_int t7 rfl
  have e1 : v_iv (n_v vs 7) = x0.toInt := by rw [e0]; rfl
  have ho : sy_ofs (vs ++ [Value.int x]) (14, 7, 0, 0) := by
    refine ⟨x, x0, by rw [List.getElem?_append_right (by rw [hl]; decide), hl]; rfl, ?_, ?_, ?_⟩
    · rw [List.getElem?_append_left (by rw [hl]; decide)]; exact n_v_some (by rw [hl]; decide) e0
    · show x0.toInt + 0 ≤ x.toInt; omega
    · show x.toInt ≤ x0.toInt + 0; omega
  exact ⟨(fun _ h => (by cases h)), [Value.int x], ag_one hx, List.forall_mem_cons.mpr ⟨⟨show (23 : Nat) < 100 from by decide, nf0⟩, List.forall_mem_cons.mpr ⟨⟨show (23 : Nat) < 100 from by decide, nf1⟩, List.forall_mem_cons.mpr ⟨⟨show (20 : Nat) < 100 from by decide, nf2⟩, List.forall_mem_cons.mpr ⟨⟨show (24 : Nat) < 100 from by decide, nf3⟩, List.forall_mem_cons.mpr ⟨⟨show (24 : Nat) < 100 from by decide, nf4⟩, List.forall_mem_cons.mpr ⟨⟨show (24 : Nat) < 100 from by decide, nf5⟩, (fun _ h => (by cases h))⟩⟩⟩⟩⟩⟩, List.forall_mem_cons.mpr ⟨ho, (fun _ h => (by cases h))⟩⟩
set_option maxHeartbeats 4000000 in
theorem vc_Mo_isWithin_7_0 (x1 : Int) (x2 : Int) (x4 : Int) (x5 : Int) (x6 : Int) (x8 : Int) (all_0 : Int → Int) (r_0 : Int) (gx : Int) (k1 : (-1) ≤ x1 ∧ x1 ≤ 7) (k2 : (-1) ≤ x2 ∧ x2 ≤ 7) (k4 : (-1) ≤ x4 ∧ x4 ≤ 7) (k5 : (-1) ≤ x5 ∧ x5 ≤ 7) (k6 : (-1) ≤ x6 ∧ x6 ≤ 6) (k8 : (-1) ≤ x8 ∧ x8 ≤ 8) (d0 : x4 + (-4294967296) ≤ x1 ∧ x1 ≤ x4 + 0) (d1 : x5 + (-4294967296) ≤ x2 ∧ x2 ≤ x5 + 0) (d2 : x1 + (-4294967296) ≤ x4 ∧ x4 ≤ x1 + 0) (d3 : x2 + (-4294967296) ≤ x5 ∧ x5 ≤ x2 + 0) (f0 : 1 * x6 + ((-1) * x8 + 0) ≤ (-1)) (f1 : (-1) * x8 + 0 ≤ (-1)) (f2 : WI1 (r_0) (all_0) (x1) (x2) (x6)) (ex2 : gx = (-1) + (1 * x8 + 0)) (ex3 : (-1) ≤ gx ∧ gx ≤ 8) : 1 * x6 + ((-1) * gx + 0) ≤ 0 := by
  first
    | omega
  
set_option maxHeartbeats 4000000 in
theorem vc_Mo_isWithin_7_1 (x1 : Int) (x2 : Int) (x4 : Int) (x5 : Int) (x6 : Int) (x8 : Int) (all_0 : Int → Int) (r_0 : Int) (gx : Int) (k1 : (-1) ≤ x1 ∧ x1 ≤ 7) (k2 : (-1) ≤ x2 ∧ x2 ≤ 7) (k4 : (-1) ≤ x4 ∧ x4 ≤ 7) (k5 : (-1) ≤ x5 ∧ x5 ≤ 7) (k6 : (-1) ≤ x6 ∧ x6 ≤ 6) (k8 : (-1) ≤ x8 ∧ x8 ≤ 8) (d0 : x4 + (-4294967296) ≤ x1 ∧ x1 ≤ x4 + 0) (d1 : x5 + (-4294967296) ≤ x2 ∧ x2 ≤ x5 + 0) (d2 : x1 + (-4294967296) ≤ x4 ∧ x4 ≤ x1 + 0) (d3 : x2 + (-4294967296) ≤ x5 ∧ x5 ≤ x2 + 0) (f0 : 1 * x6 + ((-1) * x8 + 0) ≤ (-1)) (f1 : (-1) * x8 + 0 ≤ (-1)) (f2 : WI1 (r_0) (all_0) (x1) (x2) (x6)) (ex2 : gx = (-1) + (1 * x8 + 0)) (ex3 : (-1) ≤ gx ∧ gx ≤ 8) : WI1 (r_0) (all_0) (x1) (x2) (x6) := by
  first
    | exact wi1_start rfl
    | assumption
    | exact wi1_step (x := x6) (p := x12) ‹WI1 _ _ _ _ _› (by omega) (by omega) (by omega) (by assumption)
  
def o_Mo_isWithin_7 : or_T := (2, 9, [(0, (2, 0, 0, [165])), (1, (0, -1, 7, [])), (2, (0, -1, 7, [])), (3, (2, 0, 0, [165])), (4, (0, -1, 7, [])), (5, (0, -1, 7, [])), (6, (0, -1, 6, [])), (8, (0, -1, 8, []))], [(23, [6, 8], [-1, 1, -1]), (23, [8], [-1, -1]), (20, [3, 4, 5, 6], [60, 1, 1, 778, 5, 2]), (24, [0, 3], []), (24, [1, 4], []), (24, [2, 5], [])], [], [(0, -1, 8, [])], [(23, [6, 9], [0, 1, -1]), (20, [3, 4, 5, 6], [60, 1, 1, 778, 5, 2]), (24, [0, 3], []), (24, [1, 4], []), (24, [2, 5], [])], [(9, 8, -1000000000000, -1)], [(1, 4, -4294967296, 0), (2, 5, -4294967296, 0), (4, 1, -4294967296, 0), (5, 2, -4294967296, 0)])
theorem oo_Mo_isWithin_7 {kA : Nat → ClassId} : or_ok PRD kA GG o_Mo_isWithin_7 := by
  refine or_mk fun A ta ws vs hD hth hl => ?_
  intro t0 r0 t1 k1 t2 k2 t3 r3 t4 k4 t5 k5 t6 k6 t8 k8 d0 d1 d2 d3 f0 f1 f2 f3 f4 f5
  replace f0 := shm_193 f0
  replace f1 := shm_626 f1
  replace f2 := shm_624 f2
  replace f3 := shm_5 f3
  replace f4 := shm_5 f4
  replace f5 := shm_5 f5
  have q3 : n_v vs 3 = n_v vs 0 := f3.symm
  have q4 : n_v vs 4 = n_v vs 1 := f4.symm
  have q5 : n_v vs 5 = n_v vs 2 := f5.symm
  simp only [q3, q4, q5] at f2
  have cr_0_2 := fdq_10 hD hth r0
  obtain ⟨x, ex, hx⟩ := iv_ex (ta := ta) (lo := (-1)) (hi := 8) (z := (-1) + (1 * v_iv (n_v vs 8) + 0)) (by omega) (by omega) (by omega) (by omega)
  have ex2 : v_iv (Value.int x) = (-1) + (1 * v_iv (n_v vs 8) + 0) := ex
  have ex3 : (-1) ≤ v_iv (Value.int x) ∧ v_iv (Value.int x) ≤ 8 := tv_rng hx
  have e_0 : n_v (vs ++ [Value.int x]) 0 = n_v vs 0 := n_v_old (by rw [hl]; decide)
  have e_1 : n_v (vs ++ [Value.int x]) 1 = n_v vs 1 := n_v_old (by rw [hl]; decide)
  have e_2 : n_v (vs ++ [Value.int x]) 2 = n_v vs 2 := n_v_old (by rw [hl]; decide)
  have e_3 : n_v (vs ++ [Value.int x]) 3 = n_v vs 3 := n_v_old (by rw [hl]; decide)
  have e_4 : n_v (vs ++ [Value.int x]) 4 = n_v vs 4 := n_v_old (by rw [hl]; decide)
  have e_5 : n_v (vs ++ [Value.int x]) 5 = n_v vs 5 := n_v_old (by rw [hl]; decide)
  have e_6 : n_v (vs ++ [Value.int x]) 6 = n_v vs 6 := n_v_old (by rw [hl]; decide)
  have e_9 : n_v (vs ++ [Value.int x]) 9 = Value.int x := n_v_new hl
  have nf0 : fc_1 PRD (23, [6, 9], [0, 1, -1]) ws (vs ++ [Value.int x]) := by
    refine ⟨nf_inA hl rfl, sgq_7 ?_⟩
    · show 1 * v_iv (n_v (vs ++ [Value.int x]) 6) + ((-1) * v_iv (n_v (vs ++ [Value.int x]) 9) + 0) ≤ 0
      simp only [e_6, e_9]
      exact vc_Mo_isWithin_7_0 (v_iv (n_v vs 1)) (v_iv (n_v vs 2)) (v_iv (n_v vs 4)) (v_iv (n_v vs 5)) (v_iv (n_v vs 6)) (v_iv (n_v vs 8)) (w_ei ws (w_ar ws (n_v vs 0) 2)) (w_fi ws (n_v vs 0) 5) (v_iv (Value.int x)) k1 k2 k4 k5 k6 k8 d0 d1 d2 d3 f0 f1 f2 ex2 ex3
  have nf1 : fc_1 PRD (20, [3, 4, 5, 6], [60, 1, 1, 778, 5, 2]) ws (vs ++ [Value.int x]) := by
    refine ⟨nf_inA hl rfl, sgq_624 ?_⟩
    · show WI1 (w_fi ws (n_v (vs ++ [Value.int x]) 3) 5) (w_ei ws (w_ar ws (n_v (vs ++ [Value.int x]) 3) 2)) (v_iv (n_v (vs ++ [Value.int x]) 4)) (v_iv (n_v (vs ++ [Value.int x]) 5)) (v_iv (n_v (vs ++ [Value.int x]) 6))
      simp only [e_3, e_4, e_5, e_6, q3, q4, q5]
      exact vc_Mo_isWithin_7_1 (v_iv (n_v vs 1)) (v_iv (n_v vs 2)) (v_iv (n_v vs 4)) (v_iv (n_v vs 5)) (v_iv (n_v vs 6)) (v_iv (n_v vs 8)) (w_ei ws (w_ar ws (n_v vs 0) 2)) (w_fi ws (n_v vs 0) 5) (v_iv (Value.int x)) k1 k2 k4 k5 k6 k8 d0 d1 d2 d3 f0 f1 f2 ex2 ex3
  have nf2 : fc_1 PRD (24, [0, 3], []) ws (vs ++ [Value.int x]) := by
    refine ⟨nf_inA hl rfl, sgq_5 ?_⟩
    · show n_v (vs ++ [Value.int x]) 0 = n_v (vs ++ [Value.int x]) 3
      first | rfl | simp only [e_0, e_3, q3, q4, q5]
  have nf3 : fc_1 PRD (24, [1, 4], []) ws (vs ++ [Value.int x]) := by
    refine ⟨nf_inA hl rfl, sgq_5 ?_⟩
    · show n_v (vs ++ [Value.int x]) 1 = n_v (vs ++ [Value.int x]) 4
      first | rfl | simp only [e_1, e_4, q3, q4, q5]
  have nf4 : fc_1 PRD (24, [2, 5], []) ws (vs ++ [Value.int x]) := by
    refine ⟨nf_inA hl rfl, sgq_5 ?_⟩
    · show n_v (vs ++ [Value.int x]) 2 = n_v (vs ++ [Value.int x]) 5
      first | rfl | simp only [e_2, e_5, q3, q4, q5]
  obtain ⟨x0, e0, _, _⟩ := tv_int t8 rfl
  have e1 : v_iv (n_v vs 8) = x0.toInt := by rw [e0]; rfl
  have ho : sy_ofs (vs ++ [Value.int x]) (9, 8, -1000000000000, -1) := by
    refine ⟨x, x0, by rw [List.getElem?_append_right (by rw [hl]; decide), hl]; rfl, ?_, ?_, ?_⟩
    · rw [List.getElem?_append_left (by rw [hl]; decide)]; exact n_v_some (by rw [hl]; decide) e0
    · show x0.toInt + (-1000000000000) ≤ x.toInt; omega
    · show x.toInt ≤ x0.toInt + (-1); omega
  exact ⟨(fun _ h => (by cases h)), [Value.int x], ag_one hx, List.forall_mem_cons.mpr ⟨⟨show (23 : Nat) < 100 from by decide, nf0⟩, List.forall_mem_cons.mpr ⟨⟨show (20 : Nat) < 100 from by decide, nf1⟩, List.forall_mem_cons.mpr ⟨⟨show (24 : Nat) < 100 from by decide, nf2⟩, List.forall_mem_cons.mpr ⟨⟨show (24 : Nat) < 100 from by decide, nf3⟩, List.forall_mem_cons.mpr ⟨⟨show (24 : Nat) < 100 from by decide, nf4⟩, (fun _ h => (by cases h))⟩⟩⟩⟩⟩, List.forall_mem_cons.mpr ⟨ho, (fun _ h => (by cases h))⟩⟩
def n_Mo_isWithin_an : List an_T := [(2, [(0, (2, 0, 0, [165])), (1, (0, (Int.negSucc 0), 7, [])), (2, (0, (Int.negSucc 0), 7, [])), (3, (0, (Int.negSucc 0), 7, []))], [], (0, 0), [(0, 0, 99998), (2, 7, (Int.negSucc 0)), (0, 0, 100000)], [(1, 4, (Int.negSucc 999999999999), 0), (2, 5, (Int.negSucc 999999999999), 0), (4, 1, (Int.negSucc 999999999999), 0), (5, 2, (Int.negSucc 999999999999), 0), (6, 1, (Int.negSucc 999999999999), 7), (6, 4, (Int.negSucc 999999999999), 7)], [], [(2, 0, 0, [165]), (0, (Int.negSucc 0), 7, []), (0, (Int.negSucc 0), 7, [])], 0, [(0, (Int.negSucc 0), 8, [])], [(23, [6, 7], [0, 1, (Int.negSucc 0)]), (20, [3, 4, 5, 6], [60, 1, 1, 778, 5, 2]), (24, [0, 3], []), (24, [1, 4], []), (24, [2, 5], [])]), (27, [(0, (2, 0, 0, [165])), (1, (0, (Int.negSucc 0), 7, [])), (2, (0, (Int.negSucc 0), 7, [])), (3, (0, (Int.negSucc 0), 6, []))], [], (0, 0), [(0, 0, 99998), (2, 8, (Int.negSucc 0)), (0, 0, 99973)], [(1, 4, (Int.negSucc 999999999999), 0), (2, 5, (Int.negSucc 999999999999), 0), (4, 1, (Int.negSucc 999999999999), 0), (5, 2, (Int.negSucc 999999999999), 0)], [((0, 5), (5, 0, 66297, [539]))], [(2, 0, 0, [165]), (0, (Int.negSucc 0), 7, []), (0, (Int.negSucc 0), 7, [])], 0, [(0, (Int.negSucc 0), 8, [])], [(23, [6, 8], [(Int.negSucc 0), 1, (Int.negSucc 0)]), (23, [8], [(Int.negSucc 0), (Int.negSucc 0)]), (20, [3, 4, 5, 6], [60, 1, 1, 778, 5, 2]), (24, [0, 3], []), (24, [1, 4], []), (24, [2, 5], [])])]
def t_Mo_isWithin_ct : ct_L := []
set_option maxRecDepth 100000 in
theorem c_Mo_isWithin {l : Launch} {D : va_G} {kA : Nat → ClassId} : ct_ok PRD l D kA GG y_Mo_isWithin z_Mo_isWithin e_Mo_isWithin := chk_all_ok (FT := [(16, 13, 2), (391, 13, 5)]) (PT := []) (CT := t_Mo_isWithin_ct) (KT := []) (NT := []) (AN := n_Mo_isWithin_an) (OT := [o_Mo_isWithin_0, o_Mo_isWithin_1, o_Mo_isWithin_2, o_Mo_isWithin_3, o_Mo_isWithin_4, o_Mo_isWithin_5, o_Mo_isWithin_6, o_Mo_isWithin_7]) 3 200 (List.forall_mem_cons.mpr ⟨oo_Mo_isWithin_0, List.forall_mem_cons.mpr ⟨oo_Mo_isWithin_1, List.forall_mem_cons.mpr ⟨oo_Mo_isWithin_2, List.forall_mem_cons.mpr ⟨oo_Mo_isWithin_3, List.forall_mem_cons.mpr ⟨oo_Mo_isWithin_4, List.forall_mem_cons.mpr ⟨oo_Mo_isWithin_5, List.forall_mem_cons.mpr ⟨oo_Mo_isWithin_6, List.forall_mem_cons.mpr ⟨oo_Mo_isWithin_7, List.forall_mem_nil _⟩⟩⟩⟩⟩⟩⟩⟩) (by decide +kernel) ⟨List.forall_mem_cons.mpr ⟨gf_Mo_16, List.forall_mem_cons.mpr ⟨gf_Mo_391, List.forall_mem_nil _⟩⟩, List.forall_mem_nil _, List.forall_mem_nil _, List.forall_mem_nil _, List.forall_mem_nil _, GG_pl⟩ (by decide +kernel)
set_option maxHeartbeats 4000000 in
theorem vc_Mo_line_at_g1_0_r0 (x1 : Int) (x2 : Int) (x3 : Int) (x5 : Int) (lines_0 : Int) (all_0 : Int → Int) (itemLayer_0 : Int → Int) (lineA_0 : Int → Int) (lineB_0 : Int → Int) (r_0 : Int) (items_0 : Int) (k1 : 0 ≤ x1 ∧ x1 ≤ 75) (k2 : 0 ≤ x2 ∧ x2 ≤ 75) (k3 : 0 ≤ x3 ∧ x3 ≤ 129) (k5 : 0 ≤ x5 ∧ x5 ≤ 130) (g0 : x5 = lines_0) (f2 : lines_0 = x3) (f3 : LNP (r_0) (lines_0) (items_0) (all_0) (itemLayer_0) (lineA_0) (lineB_0)) (f4 : LNM (r_0) (items_0) (all_0) (itemLayer_0) (x1) (x2)) (hK_0_102 : ∀ j : Int, 0 ≤ j → j < 76 → 0 ≤ itemLayer_0 j ∧ itemLayer_0 j ≤ 75) (hK_0_108 : ∀ j : Int, 0 ≤ j → j < 130 → 0 ≤ lineA_0 j ∧ lineA_0 j ≤ 75) (hK_0_109 : ∀ j : Int, 0 ≤ j → j < 130 → 0 ≤ lineB_0 j ∧ lineB_0 j ≤ 75) (kz_0_100 : 0 ≤ items_0 ∧ items_0 ≤ 76) (kz_0_107 : 0 ≤ lines_0 ∧ lines_0 ≤ 130) : 0 ≤ x5 ∧ x5 ≤ 129 := by
  omega
def o_Mo_line_at_g1_0 : or_T := (9, 6, [(0, (2, 0, 0, [165])), (1, (0, 0, 75, [])), (2, (0, 0, 75, [])), (3, (0, 0, 129, [])), (4, (2, 0, 0, [240])), (5, (0, 0, 130, []))], [(9, [5, 0], [107]), (9, [4, 0], [108]), (20, [0, 3], [50, 1, 0, 107, 1, 3, 2, 0, 107, 1, 1]), (20, [0], [60, 3, 4, 439, 5, 107, 100, 2, 102, 108, 109]), (20, [0, 1, 2], [60, 2, 2, 465, 5, 100, 2, 102])], [(5, (0, 0, 129, []))], [], [], [], [])
theorem oo_Mo_line_at_g1_0 {kA : Nat → ClassId} : or_ok PRD kA GG o_Mo_line_at_g1_0 := by
  refine or_mk fun A ta ws vs hD hth hl => ?_
  intro t0 r0 t1 k1 t2 k2 t3 k3 t4 r4 t5 k5 f0 f1 f2 f3 f4
  replace f0 := shm_627 f0
  have cr_0_102 := fdq_159 hD hth r0
  have cr_0_108 := fdq_160 hD hth r0
  have cr_0_109 := fdq_161 hD hth r0
  have g0 : v_iv (n_v vs 5) = w_fi ws (n_v vs 0) 107 := congrArg v_iv f0
  have hK_0_102 := elq_91 hD hth cr_0_102
  have hK_0_108 := elq_92 hD hth cr_0_108
  have hK_0_109 := elq_93 hD hth cr_0_109
  have kz_0_100 := fdq_162 hD hth r0
  have kz_0_107 := fdq_163 hD hth r0
  have hrf0 : 0 ≤ v_iv (n_v vs 5) ∧ v_iv (n_v vs 5) ≤ 129 := vc_Mo_line_at_g1_0_r0 (v_iv (n_v vs 1)) (v_iv (n_v vs 2)) (v_iv (n_v vs 3)) (v_iv (n_v vs 5)) (w_fi ws (n_v vs 0) 107) (w_ei ws (w_ar ws (n_v vs 0) 2)) (w_ei ws (w_ar ws (n_v vs 0) 102)) (w_ei ws (w_ar ws (n_v vs 0) 108)) (w_ei ws (w_ar ws (n_v vs 0) 109)) (w_fi ws (n_v vs 0) 5) (w_fi ws (n_v vs 0) 100) k1 k2 k3 k5 g0 (shm_629 f2) (shm_630 f3) (shm_631 f4) hK_0_102 hK_0_108 hK_0_109 kz_0_100 kz_0_107
  have rf5 : tv_ok ta (0, 0, 129, []) (n_v vs 5) := tv_in t5 (by first | omega | grind) (by first | omega | grind)
  refine ⟨List.forall_mem_cons.mpr ⟨rf5, (fun _ h => (by cases h))⟩, [], trivial, ?_, (fun _ h => (by cases h))⟩
  rw [List.append_nil]
  exact (fun _ h => (by cases h))
set_option maxHeartbeats 4000000 in
theorem vc_Mo_line_at_g1_1_0 (x1 : Int) (x2 : Int) (x3 : Int) (x5 : Int) (x7 : Int) (x8 : Int) (all_0 : Int → Int) (itemLayer_0 : Int → Int) (r_0 : Int) (items_0 : Int) (lines_1 : Int) (all_1 : Int → Int) (itemLayer_1 : Int → Int) (r_1 : Int) (items_1 : Int) (lines_2 : Int) (all_2 : Int → Int) (itemLayer_2 : Int → Int) (r_2 : Int) (items_2 : Int) (lines_3 : Int) (all_3 : Int → Int) (itemLayer_3 : Int → Int) (lineA_3 : Int → Int) (lineB_3 : Int → Int) (r_3 : Int) (items_3 : Int) (lines_0 : Int) (lineA_0 : Int → Int) (lineA_1 : Int → Int) (lineA_2 : Int → Int) (lineB_0 : Int → Int) (lineB_1 : Int → Int) (lineB_2 : Int → Int) (k1 : 0 ≤ x1 ∧ x1 ≤ 75) (k2 : 0 ≤ x2 ∧ x2 ≤ 75) (k3 : 0 ≤ x3 ∧ x3 ≤ 129) (k5 : 0 ≤ x5 ∧ x5 ≤ 129) (k7 : 1 ≤ x7 ∧ x7 ≤ 1) (k8 : 1 ≤ x8 ∧ x8 ≤ 130) (d0 : x5 + 1 ≤ x8 ∧ x8 ≤ x5 + 1) (f0 : LNM (r_0) (items_0) (all_0) (itemLayer_0) (x1) (x2)) (f2 : x8 = x5 + x7) (g3 : x5 = lines_1) (f4 : lines_1 = x3) (f5 : LNM (r_1) (items_1) (all_1) (itemLayer_1) (x1) (x2)) (f8 : lines_2 = x3) (f9 : LNM (r_2) (items_2) (all_2) (itemLayer_2) (x1) (x2)) (f12 : lines_3 = x3) (f13 : LNP (r_3) (lines_3) (items_3) (all_3) (itemLayer_3) (lineA_3) (lineB_3)) (f14 : LNM (r_3) (items_3) (all_3) (itemLayer_3) (x1) (x2)) (fe_0_5_1 : r_0 = r_1) (fe_0_100_1 : items_0 = items_1) (fe_0_107_1 : lines_0 = x8) (fe_0_5_2 : r_1 = r_2) (fe_0_100_2 : items_1 = items_2) (fe_0_107_2 : lines_1 = lines_2) (fe_0_5_3 : r_2 = r_3) (fe_0_100_3 : items_2 = items_3) (fe_0_107_3 : lines_2 = lines_3) (hE_0_2_1 : ∀ j : Int, all_0 j = all_1 j) (hE_0_2_2 : ∀ j : Int, all_1 j = all_2 j) (hE_0_2_3 : ∀ j : Int, all_2 j = all_3 j) (hE_0_102_1 : ∀ j : Int, itemLayer_0 j = itemLayer_1 j) (hE_0_102_2 : ∀ j : Int, itemLayer_1 j = itemLayer_2 j) (hE_0_102_3 : ∀ j : Int, itemLayer_2 j = itemLayer_3 j) (hK_0_102 : ∀ j : Int, 0 ≤ j → j < 76 → 0 ≤ itemLayer_0 j ∧ itemLayer_0 j ≤ 75) (hE_0_108_1 : ∀ j : Int, lineA_0 j = lineA_1 j) (hE_0_108_2 : ∀ j : Int, lineA_1 j = lineA_2 j) (hE_0_108_3 : ∀ j : Int, 0 ≤ j → (j = x5 → lineA_2 j = x1) ∧ (j ≠ x5 → lineA_2 j = lineA_3 j)) (hK_0_108 : ∀ j : Int, 0 ≤ j → j < 130 → 0 ≤ lineA_0 j ∧ lineA_0 j ≤ 75) (hE_0_109_1 : ∀ j : Int, lineB_0 j = lineB_1 j) (hE_0_109_2 : ∀ j : Int, 0 ≤ j → (j = x5 → lineB_1 j = x2) ∧ (j ≠ x5 → lineB_1 j = lineB_2 j)) (hE_0_109_3 : ∀ j : Int, lineB_2 j = lineB_3 j) (hK_0_109 : ∀ j : Int, 0 ≤ j → j < 130 → 0 ≤ lineB_0 j ∧ lineB_0 j ≤ 75) (kz_0_100 : 0 ≤ items_0 ∧ items_0 ≤ 76) (kz_0_107 : 0 ≤ lines_0 ∧ lines_0 ≤ 130) : lines_0 = (x3 + 1) := by
  subst fe_0_5_1
  subst fe_0_100_1
  subst fe_0_5_2
  subst fe_0_100_2
  subst fe_0_107_2
  subst fe_0_5_3
  subst fe_0_100_3
  subst fe_0_107_3
  have e_hE_0_2_1 := funext hE_0_2_1; subst e_hE_0_2_1
  have e_hE_0_2_2 := funext hE_0_2_2; subst e_hE_0_2_2
  have e_hE_0_2_3 := funext hE_0_2_3; subst e_hE_0_2_3
  have e_hE_0_102_1 := funext hE_0_102_1; subst e_hE_0_102_1
  have e_hE_0_102_2 := funext hE_0_102_2; subst e_hE_0_102_2
  have e_hE_0_102_3 := funext hE_0_102_3; subst e_hE_0_102_3
  have e_hE_0_108_1 := funext hE_0_108_1; subst e_hE_0_108_1
  have e_hE_0_108_2 := funext hE_0_108_2; subst e_hE_0_108_2
  have e_hE_0_109_1 := funext hE_0_109_1; subst e_hE_0_109_1
  have e_hE_0_109_3 := funext hE_0_109_3; subst e_hE_0_109_3
  omega
set_option maxHeartbeats 4000000 in
theorem vc_Mo_line_at_g1_1_1 (x1 : Int) (x2 : Int) (x3 : Int) (x5 : Int) (x7 : Int) (x8 : Int) (all_0 : Int → Int) (itemLayer_0 : Int → Int) (r_0 : Int) (items_0 : Int) (lines_1 : Int) (all_1 : Int → Int) (itemLayer_1 : Int → Int) (r_1 : Int) (items_1 : Int) (lines_2 : Int) (all_2 : Int → Int) (itemLayer_2 : Int → Int) (r_2 : Int) (items_2 : Int) (lines_3 : Int) (all_3 : Int → Int) (itemLayer_3 : Int → Int) (lineA_3 : Int → Int) (lineB_3 : Int → Int) (r_3 : Int) (items_3 : Int) (lines_0 : Int) (lineA_0 : Int → Int) (lineA_1 : Int → Int) (lineA_2 : Int → Int) (lineB_0 : Int → Int) (lineB_1 : Int → Int) (lineB_2 : Int → Int) (k1 : 0 ≤ x1 ∧ x1 ≤ 75) (k2 : 0 ≤ x2 ∧ x2 ≤ 75) (k3 : 0 ≤ x3 ∧ x3 ≤ 129) (k5 : 0 ≤ x5 ∧ x5 ≤ 129) (k7 : 1 ≤ x7 ∧ x7 ≤ 1) (k8 : 1 ≤ x8 ∧ x8 ≤ 130) (d0 : x5 + 1 ≤ x8 ∧ x8 ≤ x5 + 1) (f0 : LNM (r_0) (items_0) (all_0) (itemLayer_0) (x1) (x2)) (f2 : x8 = x5 + x7) (g3 : x5 = lines_1) (f4 : lines_1 = x3) (f5 : LNM (r_1) (items_1) (all_1) (itemLayer_1) (x1) (x2)) (f8 : lines_2 = x3) (f9 : LNM (r_2) (items_2) (all_2) (itemLayer_2) (x1) (x2)) (f12 : lines_3 = x3) (f13 : LNP (r_3) (lines_3) (items_3) (all_3) (itemLayer_3) (lineA_3) (lineB_3)) (f14 : LNM (r_3) (items_3) (all_3) (itemLayer_3) (x1) (x2)) (fe_0_5_1 : r_0 = r_1) (fe_0_100_1 : items_0 = items_1) (fe_0_107_1 : lines_0 = x8) (fe_0_5_2 : r_1 = r_2) (fe_0_100_2 : items_1 = items_2) (fe_0_107_2 : lines_1 = lines_2) (fe_0_5_3 : r_2 = r_3) (fe_0_100_3 : items_2 = items_3) (fe_0_107_3 : lines_2 = lines_3) (hE_0_2_1 : ∀ j : Int, all_0 j = all_1 j) (hE_0_2_2 : ∀ j : Int, all_1 j = all_2 j) (hE_0_2_3 : ∀ j : Int, all_2 j = all_3 j) (hE_0_102_1 : ∀ j : Int, itemLayer_0 j = itemLayer_1 j) (hE_0_102_2 : ∀ j : Int, itemLayer_1 j = itemLayer_2 j) (hE_0_102_3 : ∀ j : Int, itemLayer_2 j = itemLayer_3 j) (hK_0_102 : ∀ j : Int, 0 ≤ j → j < 76 → 0 ≤ itemLayer_0 j ∧ itemLayer_0 j ≤ 75) (hE_0_108_1 : ∀ j : Int, lineA_0 j = lineA_1 j) (hE_0_108_2 : ∀ j : Int, lineA_1 j = lineA_2 j) (hE_0_108_3 : ∀ j : Int, 0 ≤ j → (j = x5 → lineA_2 j = x1) ∧ (j ≠ x5 → lineA_2 j = lineA_3 j)) (hK_0_108 : ∀ j : Int, 0 ≤ j → j < 130 → 0 ≤ lineA_0 j ∧ lineA_0 j ≤ 75) (hE_0_109_1 : ∀ j : Int, lineB_0 j = lineB_1 j) (hE_0_109_2 : ∀ j : Int, 0 ≤ j → (j = x5 → lineB_1 j = x2) ∧ (j ≠ x5 → lineB_1 j = lineB_2 j)) (hE_0_109_3 : ∀ j : Int, lineB_2 j = lineB_3 j) (hK_0_109 : ∀ j : Int, 0 ≤ j → j < 130 → 0 ≤ lineB_0 j ∧ lineB_0 j ≤ 75) (kz_0_100 : 0 ≤ items_0 ∧ items_0 ≤ 76) (kz_0_107 : 0 ≤ lines_0 ∧ lines_0 ≤ 130) : LNX (r_0) (lines_0) (items_0) (all_0) (itemLayer_0) (lineA_0) (lineB_0) := by
  subst fe_0_5_1
  subst fe_0_100_1
  subst fe_0_5_2
  subst fe_0_100_2
  subst fe_0_107_2
  subst fe_0_5_3
  subst fe_0_100_3
  subst fe_0_107_3
  have e_hE_0_2_1 := funext hE_0_2_1; subst e_hE_0_2_1
  have e_hE_0_2_2 := funext hE_0_2_2; subst e_hE_0_2_2
  have e_hE_0_2_3 := funext hE_0_2_3; subst e_hE_0_2_3
  have e_hE_0_102_1 := funext hE_0_102_1; subst e_hE_0_102_1
  have e_hE_0_102_2 := funext hE_0_102_2; subst e_hE_0_102_2
  have e_hE_0_102_3 := funext hE_0_102_3; subst e_hE_0_102_3
  have e_hE_0_108_1 := funext hE_0_108_1; subst e_hE_0_108_1
  have e_hE_0_108_2 := funext hE_0_108_2; subst e_hE_0_108_2
  have e_hE_0_109_1 := funext hE_0_109_1; subst e_hE_0_109_1
  have e_hE_0_109_3 := funext hE_0_109_3; subst e_hE_0_109_3
  exact lnp_more ‹LNP _ _ _ _ _ _ _› (by omega) (by omega) (by omega) ‹LNM _ _ _ _ _ _› (by assumption) (by assumption) (by omega) (by omega)
def o_Mo_line_at_g1_1 : or_T := (30, 9, [(0, (2, 0, 0, [165])), (1, (0, 0, 75, [])), (2, (0, 0, 75, [])), (3, (0, 0, 129, [])), (4, (2, 0, 0, [240])), (5, (0, 0, 129, [])), (6, (2, 0, 0, [241])), (7, (0, 1, 1, [])), (8, (0, 1, 130, []))], [(20, [0, 1, 2], [60, 2, 2, 465, 5, 100, 2, 102]), (101, [0, 8], [107]), (1, [8, 5, 7], []), (9, [5, 0], [107]), (20, [0, 3], [50, 1, 0, 107, 1, 3, 2, 0, 107, 1, 1]), (20, [0, 1, 2], [60, 2, 2, 465, 5, 100, 2, 102]), (100, [6, 5, 2], []), (9, [6, 0], [109]), (20, [0, 3], [50, 1, 0, 107, 1, 3, 2, 0, 107, 1, 1]), (20, [0, 1, 2], [60, 2, 2, 465, 5, 100, 2, 102]), (100, [4, 5, 1], []), (9, [4, 0], [108]), (20, [0, 3], [50, 1, 0, 107, 1, 3, 2, 0, 107, 1, 1]), (20, [0], [60, 3, 4, 439, 5, 107, 100, 2, 102, 108, 109]), (20, [0, 1, 2], [60, 2, 2, 465, 5, 100, 2, 102])], [], [], [(20, [0, 3], [50, 1, 0, 107, 1, 3, 2, 0, 107, 4, 2, 1, 1, 0, 1]), (20, [0], [60, 3, 4, 440, 5, 107, 100, 2, 102, 108, 109])], [], [(8, 5, 1, 1)])
theorem oo_Mo_line_at_g1_1 {kA : Nat → ClassId} : or_ok PRD kA GG o_Mo_line_at_g1_1 := by
  refine or_mk fun A ta ws vs hD hth hl => ?_
  intro t0 r0 t1 k1 t2 k2 t3 k3 t4 r4 t5 k5 t6 r6 t7 k7 t8 k8 d0 f0 ta1 w1 le1 s1 f2 f3 f4 f5 ta2 w2 le2 s2 f7 f8 f9 ta3 w3 le3 s3 f11 f12 f13 f14
  have s1 : (∀ b j, w_el ws b j = w_el w1 b j) ∧ ∀ b j, w_fd ws b j = if b = v_ad (n_v vs 0) ∧ j = 107 then n_v vs 8 else w_fd w1 b j := s1.2
  replace f3 := shm_627 f3
  replace f5 := shm_631 f5
  have s2 : (∀ b j, w_el w1 b j = if b = v_ad (n_v vs 6) ∧ j = (v_iv (n_v vs 5)).toNat then v_iv (n_v vs 2) else w_el w2 b j) ∧ ∀ b k, w_fd w1 b k = w_fd w2 b k := s2.2
  replace f7 := shm_632 f7
  replace f9 := shm_631 f9
  have s3 : (∀ b j, w_el w2 b j = if b = v_ad (n_v vs 4) ∧ j = (v_iv (n_v vs 5)).toNat then v_iv (n_v vs 1) else w_el w3 b j) ∧ ∀ b k, w_fd w2 b k = w_fd w3 b k := s3.2
  replace f11 := shm_628 f11
  replace f13 := shm_630 f13
  replace f14 := shm_631 f14
  have ar_0_2_1 : w_ar w1 (n_v vs 0) 2 = w_ar ws (n_v vs 0) 2 := by show v_ad (w_fd w1 _ _) = v_ad (w_fd ws _ _); rw [s1.2, if_neg (fun e => absurd e.2 (by decide))]
  have ar_0_2_2 : w_ar w2 (n_v vs 0) 2 = w_ar ws (n_v vs 0) 2 := by rw [← ar_0_2_1]; show v_ad (w_fd w2 _ _) = v_ad (w_fd w1 _ _); rw [s2.2]
  have ar_0_2_3 : w_ar w3 (n_v vs 0) 2 = w_ar ws (n_v vs 0) 2 := by rw [← ar_0_2_2]; show v_ad (w_fd w3 _ _) = v_ad (w_fd w2 _ _); rw [s3.2]
  have cr_0_2 := fdq_10 hD hth r0
  have ar_0_102_1 : w_ar w1 (n_v vs 0) 102 = w_ar ws (n_v vs 0) 102 := by show v_ad (w_fd w1 _ _) = v_ad (w_fd ws _ _); rw [s1.2, if_neg (fun e => absurd e.2 (by decide))]
  have ar_0_102_2 : w_ar w2 (n_v vs 0) 102 = w_ar ws (n_v vs 0) 102 := by rw [← ar_0_102_1]; show v_ad (w_fd w2 _ _) = v_ad (w_fd w1 _ _); rw [s2.2]
  have ar_0_102_3 : w_ar w3 (n_v vs 0) 102 = w_ar ws (n_v vs 0) 102 := by rw [← ar_0_102_2]; show v_ad (w_fd w3 _ _) = v_ad (w_fd w2 _ _); rw [s3.2]
  have cr_0_102 := fdq_159 hD hth r0
  have ar_0_108_1 : w_ar w1 (n_v vs 0) 108 = w_ar ws (n_v vs 0) 108 := by show v_ad (w_fd w1 _ _) = v_ad (w_fd ws _ _); rw [s1.2, if_neg (fun e => absurd e.2 (by decide))]
  have ar_0_108_2 : w_ar w2 (n_v vs 0) 108 = w_ar ws (n_v vs 0) 108 := by rw [← ar_0_108_1]; show v_ad (w_fd w2 _ _) = v_ad (w_fd w1 _ _); rw [s2.2]
  have ar_0_108_3 : w_ar w3 (n_v vs 0) 108 = w_ar ws (n_v vs 0) 108 := by rw [← ar_0_108_2]; show v_ad (w_fd w3 _ _) = v_ad (w_fd w2 _ _); rw [s3.2]
  have cr_0_108 := fdq_160 hD hth r0
  have ar_0_109_1 : w_ar w1 (n_v vs 0) 109 = w_ar ws (n_v vs 0) 109 := by show v_ad (w_fd w1 _ _) = v_ad (w_fd ws _ _); rw [s1.2, if_neg (fun e => absurd e.2 (by decide))]
  have ar_0_109_2 : w_ar w2 (n_v vs 0) 109 = w_ar ws (n_v vs 0) 109 := by rw [← ar_0_109_1]; show v_ad (w_fd w2 _ _) = v_ad (w_fd w1 _ _); rw [s2.2]
  have ar_0_109_3 : w_ar w3 (n_v vs 0) 109 = w_ar ws (n_v vs 0) 109 := by rw [← ar_0_109_2]; show v_ad (w_fd w3 _ _) = v_ad (w_fd w2 _ _); rw [s3.2]
  have cr_0_109 := fdq_161 hD hth r0
  have ad_6 : v_ad (n_v vs 6) = w_ar ws (n_v vs 0) 109 := (congrArg v_ad f7).trans ar_0_109_2
  have ad_4 : v_ad (n_v vs 4) = w_ar ws (n_v vs 0) 108 := (congrArg v_ad f11).trans ar_0_108_3
  have g3 : v_iv (n_v vs 5) = w_fi w1 (n_v vs 0) 107 := congrArg v_iv f3
  simp only [ar_0_2_1, ar_0_102_1, ar_0_2_2, ar_0_102_2, ar_0_2_3, ar_0_102_3, ar_0_108_3, ar_0_109_3] at f5 f9 f13 f14
  have fe_0_5_1 : w_fi ws (n_v vs 0) 5 = w_fi w1 (n_v vs 0) 5 := by show v_iv (w_fd _ _ _) = v_iv (w_fd _ _ _); rw [s1.2, if_neg (fun e => absurd e.2 (by decide))]
  have fe_0_100_1 : w_fi ws (n_v vs 0) 100 = w_fi w1 (n_v vs 0) 100 := by show v_iv (w_fd _ _ _) = v_iv (w_fd _ _ _); rw [s1.2, if_neg (fun e => absurd e.2 (by decide))]
  have fe_0_107_1 : w_fi ws (n_v vs 0) 107 = v_iv (n_v vs 8) := by show v_iv (w_fd _ _ _) = _; rw [s1.2, if_pos ⟨rfl, rfl⟩]
  have fe_0_5_2 : w_fi w1 (n_v vs 0) 5 = w_fi w2 (n_v vs 0) 5 := congrArg v_iv (s2.2 _ _)
  have fe_0_100_2 : w_fi w1 (n_v vs 0) 100 = w_fi w2 (n_v vs 0) 100 := congrArg v_iv (s2.2 _ _)
  have fe_0_107_2 : w_fi w1 (n_v vs 0) 107 = w_fi w2 (n_v vs 0) 107 := congrArg v_iv (s2.2 _ _)
  have fe_0_5_3 : w_fi w2 (n_v vs 0) 5 = w_fi w3 (n_v vs 0) 5 := congrArg v_iv (s3.2 _ _)
  have fe_0_100_3 : w_fi w2 (n_v vs 0) 100 = w_fi w3 (n_v vs 0) 100 := congrArg v_iv (s3.2 _ _)
  have fe_0_107_3 : w_fi w2 (n_v vs 0) 107 = w_fi w3 (n_v vs 0) 107 := congrArg v_iv (s3.2 _ _)
  have hE_0_2_1 : ∀ j : Int, w_ei ws (w_ar ws (n_v vs 0) 2) j = w_ei w1 (w_ar ws (n_v vs 0) 2) j := fun j => s1.1 _ _
  have hE_0_2_2 : ∀ j : Int, w_ei w1 (w_ar ws (n_v vs 0) 2) j = w_ei w2 (w_ar ws (n_v vs 0) 2) j := el_kp s2.1 r6 cr_0_2 (by decide)
  have hE_0_2_3 : ∀ j : Int, w_ei w2 (w_ar ws (n_v vs 0) 2) j = w_ei w3 (w_ar ws (n_v vs 0) 2) j := el_kp s3.1 r4 cr_0_2 (by decide)
  have hE_0_102_1 : ∀ j : Int, w_ei ws (w_ar ws (n_v vs 0) 102) j = w_ei w1 (w_ar ws (n_v vs 0) 102) j := fun j => s1.1 _ _
  have hE_0_102_2 : ∀ j : Int, w_ei w1 (w_ar ws (n_v vs 0) 102) j = w_ei w2 (w_ar ws (n_v vs 0) 102) j := el_kp s2.1 r6 cr_0_102 (by decide)
  have hE_0_102_3 : ∀ j : Int, w_ei w2 (w_ar ws (n_v vs 0) 102) j = w_ei w3 (w_ar ws (n_v vs 0) 102) j := el_kp s3.1 r4 cr_0_102 (by decide)
  have hK_0_102 := elq_91 hD hth cr_0_102
  have hE_0_108_1 : ∀ j : Int, w_ei ws (w_ar ws (n_v vs 0) 108) j = w_ei w1 (w_ar ws (n_v vs 0) 108) j := fun j => s1.1 _ _
  have hE_0_108_2 : ∀ j : Int, w_ei w1 (w_ar ws (n_v vs 0) 108) j = w_ei w2 (w_ar ws (n_v vs 0) 108) j := el_kp s2.1 r6 cr_0_108 (by decide)
  have hE_0_108_3 : ∀ j : Int, 0 ≤ j → (j = v_iv (n_v vs 5) → w_ei w2 (w_ar ws (n_v vs 0) 108) j = v_iv (n_v vs 1)) ∧ (j ≠ v_iv (n_v vs 5) → w_ei w2 (w_ar ws (n_v vs 0) 108) j = w_ei w3 (w_ar ws (n_v vs 0) 108) j) := fun j hj => ⟨fun h => by unfold w_ei; rw [s3.1, if_pos ⟨ad_4.symm, by rw [h]⟩], fun h => by unfold w_ei; rw [s3.1, if_neg (fun e => h (by have := e.2; omega))]⟩
  have hK_0_108 := elq_92 hD hth cr_0_108
  have hE_0_109_1 : ∀ j : Int, w_ei ws (w_ar ws (n_v vs 0) 109) j = w_ei w1 (w_ar ws (n_v vs 0) 109) j := fun j => s1.1 _ _
  have hE_0_109_2 : ∀ j : Int, 0 ≤ j → (j = v_iv (n_v vs 5) → w_ei w1 (w_ar ws (n_v vs 0) 109) j = v_iv (n_v vs 2)) ∧ (j ≠ v_iv (n_v vs 5) → w_ei w1 (w_ar ws (n_v vs 0) 109) j = w_ei w2 (w_ar ws (n_v vs 0) 109) j) := fun j hj => ⟨fun h => by unfold w_ei; rw [s2.1, if_pos ⟨ad_6.symm, by rw [h]⟩], fun h => by unfold w_ei; rw [s2.1, if_neg (fun e => h (by have := e.2; omega))]⟩
  have hE_0_109_3 : ∀ j : Int, w_ei w2 (w_ar ws (n_v vs 0) 109) j = w_ei w3 (w_ar ws (n_v vs 0) 109) j := el_kp s3.1 r4 cr_0_109 (by decide)
  have hK_0_109 := elq_93 hD hth cr_0_109
  have kz_0_100 := fdq_162 hD hth r0
  have kz_0_107 := fdq_163 hD hth r0
  have nf0 : fc_1 PRD (20, [0, 3], [50, 1, 0, 107, 1, 3, 2, 0, 107, 4, 2, 1, 1, 0, 1]) ws (vs) := ⟨nf_in hl rfl, sgq_633 (vc_Mo_line_at_g1_1_0 (v_iv (n_v vs 1)) (v_iv (n_v vs 2)) (v_iv (n_v vs 3)) (v_iv (n_v vs 5)) (v_iv (n_v vs 7)) (v_iv (n_v vs 8)) (w_ei ws (w_ar ws (n_v vs 0) 2)) (w_ei ws (w_ar ws (n_v vs 0) 102)) (w_fi ws (n_v vs 0) 5) (w_fi ws (n_v vs 0) 100) (w_fi w1 (n_v vs 0) 107) (w_ei w1 (w_ar ws (n_v vs 0) 2)) (w_ei w1 (w_ar ws (n_v vs 0) 102)) (w_fi w1 (n_v vs 0) 5) (w_fi w1 (n_v vs 0) 100) (w_fi w2 (n_v vs 0) 107) (w_ei w2 (w_ar ws (n_v vs 0) 2)) (w_ei w2 (w_ar ws (n_v vs 0) 102)) (w_fi w2 (n_v vs 0) 5) (w_fi w2 (n_v vs 0) 100) (w_fi w3 (n_v vs 0) 107) (w_ei w3 (w_ar ws (n_v vs 0) 2)) (w_ei w3 (w_ar ws (n_v vs 0) 102)) (w_ei w3 (w_ar ws (n_v vs 0) 108)) (w_ei w3 (w_ar ws (n_v vs 0) 109)) (w_fi w3 (n_v vs 0) 5) (w_fi w3 (n_v vs 0) 100) (w_fi ws (n_v vs 0) 107) (w_ei ws (w_ar ws (n_v vs 0) 108)) (w_ei w1 (w_ar ws (n_v vs 0) 108)) (w_ei w2 (w_ar ws (n_v vs 0) 108)) (w_ei ws (w_ar ws (n_v vs 0) 109)) (w_ei w1 (w_ar ws (n_v vs 0) 109)) (w_ei w2 (w_ar ws (n_v vs 0) 109)) k1 k2 k3 k5 k7 k8 d0 (shm_631 f0) (shm_12 f2) g3 (shm_629 f4) f5 (shm_629 f8) f9 (shm_629 f12) f13 f14 fe_0_5_1 fe_0_100_1 fe_0_107_1 fe_0_5_2 fe_0_100_2 fe_0_107_2 fe_0_5_3 fe_0_100_3 fe_0_107_3 hE_0_2_1 hE_0_2_2 hE_0_2_3 hE_0_102_1 hE_0_102_2 hE_0_102_3 hK_0_102 hE_0_108_1 hE_0_108_2 hE_0_108_3 hK_0_108 hE_0_109_1 hE_0_109_2 hE_0_109_3 hK_0_109 kz_0_100 kz_0_107)⟩
  have nf1 : fc_1 PRD (20, [0], [60, 3, 4, 440, 5, 107, 100, 2, 102, 108, 109]) ws (vs) := ⟨nf_in hl rfl, sgq_634 (vc_Mo_line_at_g1_1_1 (v_iv (n_v vs 1)) (v_iv (n_v vs 2)) (v_iv (n_v vs 3)) (v_iv (n_v vs 5)) (v_iv (n_v vs 7)) (v_iv (n_v vs 8)) (w_ei ws (w_ar ws (n_v vs 0) 2)) (w_ei ws (w_ar ws (n_v vs 0) 102)) (w_fi ws (n_v vs 0) 5) (w_fi ws (n_v vs 0) 100) (w_fi w1 (n_v vs 0) 107) (w_ei w1 (w_ar ws (n_v vs 0) 2)) (w_ei w1 (w_ar ws (n_v vs 0) 102)) (w_fi w1 (n_v vs 0) 5) (w_fi w1 (n_v vs 0) 100) (w_fi w2 (n_v vs 0) 107) (w_ei w2 (w_ar ws (n_v vs 0) 2)) (w_ei w2 (w_ar ws (n_v vs 0) 102)) (w_fi w2 (n_v vs 0) 5) (w_fi w2 (n_v vs 0) 100) (w_fi w3 (n_v vs 0) 107) (w_ei w3 (w_ar ws (n_v vs 0) 2)) (w_ei w3 (w_ar ws (n_v vs 0) 102)) (w_ei w3 (w_ar ws (n_v vs 0) 108)) (w_ei w3 (w_ar ws (n_v vs 0) 109)) (w_fi w3 (n_v vs 0) 5) (w_fi w3 (n_v vs 0) 100) (w_fi ws (n_v vs 0) 107) (w_ei ws (w_ar ws (n_v vs 0) 108)) (w_ei w1 (w_ar ws (n_v vs 0) 108)) (w_ei w2 (w_ar ws (n_v vs 0) 108)) (w_ei ws (w_ar ws (n_v vs 0) 109)) (w_ei w1 (w_ar ws (n_v vs 0) 109)) (w_ei w2 (w_ar ws (n_v vs 0) 109)) k1 k2 k3 k5 k7 k8 d0 (shm_631 f0) (shm_12 f2) g3 (shm_629 f4) f5 (shm_629 f8) f9 (shm_629 f12) f13 f14 fe_0_5_1 fe_0_100_1 fe_0_107_1 fe_0_5_2 fe_0_100_2 fe_0_107_2 fe_0_5_3 fe_0_100_3 fe_0_107_3 hE_0_2_1 hE_0_2_2 hE_0_2_3 hE_0_102_1 hE_0_102_2 hE_0_102_3 hK_0_102 hE_0_108_1 hE_0_108_2 hE_0_108_3 hK_0_108 hE_0_109_1 hE_0_109_2 hE_0_109_3 hK_0_109 kz_0_100 kz_0_107)⟩
  refine ⟨(fun _ h => (by cases h)), [], trivial, ?_, (fun _ h => (by cases h))⟩
  rw [List.append_nil]
  exact List.forall_mem_cons.mpr ⟨⟨show (20 : Nat) < 100 from by decide, nf0⟩, List.forall_mem_cons.mpr ⟨⟨show (20 : Nat) < 100 from by decide, nf1⟩, (fun _ h => (by cases h))⟩⟩
def n_Mo_line_at_g1_an : List an_T := []
def t_Mo_line_at_g1_ct : ct_L := []
set_option maxRecDepth 100000 in
theorem c_Mo_line_at_g1 {l : Launch} {D : va_G} {kA : Nat → ClassId} : ct_ok PRD l D kA GG y_Mo_line_at_g1 z_Mo_line_at_g1 e_Mo_line_at_g1 := chk_all_ok (FT := [(237, 13, 108), (240, 13, 109), (847, 13, 107)]) (PT := [(847, 13, 107, .int)]) (CT := t_Mo_line_at_g1_ct) (KT := []) (NT := []) (AN := n_Mo_line_at_g1_an) (OT := [o_Mo_line_at_g1_0, o_Mo_line_at_g1_1]) 0 200 (List.forall_mem_cons.mpr ⟨oo_Mo_line_at_g1_0, List.forall_mem_cons.mpr ⟨oo_Mo_line_at_g1_1, List.forall_mem_nil _⟩⟩) (by decide +kernel) ⟨List.forall_mem_cons.mpr ⟨gf_Mo_237, List.forall_mem_cons.mpr ⟨gf_Mo_240, List.forall_mem_cons.mpr ⟨gf_Mo_847, List.forall_mem_nil _⟩⟩⟩, List.forall_mem_cons.mpr ⟨pf_Mo_847, List.forall_mem_nil _⟩, List.forall_mem_nil _, List.forall_mem_nil _, List.forall_mem_nil _, GG_pl⟩ (by decide +kernel)
set_option maxHeartbeats 4000000 in
theorem vc_Mo_line_at_g2_0_r0 (x1 : Int) (x2 : Int) (x3 : Int) (x5 : Int) (lines_0 : Int) (all_0 : Int → Int) (itemLayer_0 : Int → Int) (lineA_0 : Int → Int) (lineB_0 : Int → Int) (r_0 : Int) (items_0 : Int) (k1 : 0 ≤ x1 ∧ x1 ≤ 75) (k2 : 0 ≤ x2 ∧ x2 ≤ 75) (k3 : 0 ≤ x3 ∧ x3 ≤ 129) (k5 : 0 ≤ x5 ∧ x5 ≤ 130) (g0 : x5 = lines_0) (f2 : lines_0 = x3) (f3 : LNP (r_0) (lines_0) (items_0) (all_0) (itemLayer_0) (lineA_0) (lineB_0)) (f4 : LNK (r_0) (items_0) (all_0) (itemLayer_0) (x1) (x2)) (hK_0_102 : ∀ j : Int, 0 ≤ j → j < 76 → 0 ≤ itemLayer_0 j ∧ itemLayer_0 j ≤ 75) (hK_0_108 : ∀ j : Int, 0 ≤ j → j < 130 → 0 ≤ lineA_0 j ∧ lineA_0 j ≤ 75) (hK_0_109 : ∀ j : Int, 0 ≤ j → j < 130 → 0 ≤ lineB_0 j ∧ lineB_0 j ≤ 75) (kz_0_100 : 0 ≤ items_0 ∧ items_0 ≤ 76) (kz_0_107 : 0 ≤ lines_0 ∧ lines_0 ≤ 130) : 0 ≤ x5 ∧ x5 ≤ 129 := by
  omega
def o_Mo_line_at_g2_0 : or_T := (9, 6, [(0, (2, 0, 0, [165])), (1, (0, 0, 75, [])), (2, (0, 0, 75, [])), (3, (0, 0, 129, [])), (4, (2, 0, 0, [240])), (5, (0, 0, 130, []))], [(9, [5, 0], [107]), (9, [4, 0], [108]), (20, [0, 3], [50, 1, 0, 107, 1, 3, 2, 0, 107, 1, 1]), (20, [0], [60, 3, 4, 439, 5, 107, 100, 2, 102, 108, 109]), (20, [0, 1, 2], [60, 2, 2, 464, 5, 100, 2, 102])], [(5, (0, 0, 129, []))], [], [], [], [])
theorem oo_Mo_line_at_g2_0 {kA : Nat → ClassId} : or_ok PRD kA GG o_Mo_line_at_g2_0 := by
  refine or_mk fun A ta ws vs hD hth hl => ?_
  intro t0 r0 t1 k1 t2 k2 t3 k3 t4 r4 t5 k5 f0 f1 f2 f3 f4
  replace f0 := shm_627 f0
  have cr_0_102 := fdq_159 hD hth r0
  have cr_0_108 := fdq_160 hD hth r0
  have cr_0_109 := fdq_161 hD hth r0
  have g0 : v_iv (n_v vs 5) = w_fi ws (n_v vs 0) 107 := congrArg v_iv f0
  have hK_0_102 := elq_91 hD hth cr_0_102
  have hK_0_108 := elq_92 hD hth cr_0_108
  have hK_0_109 := elq_93 hD hth cr_0_109
  have kz_0_100 := fdq_162 hD hth r0
  have kz_0_107 := fdq_163 hD hth r0
  have hrf0 : 0 ≤ v_iv (n_v vs 5) ∧ v_iv (n_v vs 5) ≤ 129 := vc_Mo_line_at_g2_0_r0 (v_iv (n_v vs 1)) (v_iv (n_v vs 2)) (v_iv (n_v vs 3)) (v_iv (n_v vs 5)) (w_fi ws (n_v vs 0) 107) (w_ei ws (w_ar ws (n_v vs 0) 2)) (w_ei ws (w_ar ws (n_v vs 0) 102)) (w_ei ws (w_ar ws (n_v vs 0) 108)) (w_ei ws (w_ar ws (n_v vs 0) 109)) (w_fi ws (n_v vs 0) 5) (w_fi ws (n_v vs 0) 100) k1 k2 k3 k5 g0 (shm_629 f2) (shm_630 f3) (shm_635 f4) hK_0_102 hK_0_108 hK_0_109 kz_0_100 kz_0_107
  have rf5 : tv_ok ta (0, 0, 129, []) (n_v vs 5) := tv_in t5 (by first | omega | grind) (by first | omega | grind)
  refine ⟨List.forall_mem_cons.mpr ⟨rf5, (fun _ h => (by cases h))⟩, [], trivial, ?_, (fun _ h => (by cases h))⟩
  rw [List.append_nil]
  exact (fun _ h => (by cases h))
set_option maxHeartbeats 4000000 in
theorem vc_Mo_line_at_g2_1_0 (x1 : Int) (x2 : Int) (x3 : Int) (x5 : Int) (x7 : Int) (x8 : Int) (all_0 : Int → Int) (itemLayer_0 : Int → Int) (r_0 : Int) (items_0 : Int) (lines_1 : Int) (all_1 : Int → Int) (itemLayer_1 : Int → Int) (r_1 : Int) (items_1 : Int) (lines_2 : Int) (all_2 : Int → Int) (itemLayer_2 : Int → Int) (r_2 : Int) (items_2 : Int) (lines_3 : Int) (all_3 : Int → Int) (itemLayer_3 : Int → Int) (lineA_3 : Int → Int) (lineB_3 : Int → Int) (r_3 : Int) (items_3 : Int) (lines_0 : Int) (lineA_0 : Int → Int) (lineA_1 : Int → Int) (lineA_2 : Int → Int) (lineB_0 : Int → Int) (lineB_1 : Int → Int) (lineB_2 : Int → Int) (k1 : 0 ≤ x1 ∧ x1 ≤ 75) (k2 : 0 ≤ x2 ∧ x2 ≤ 75) (k3 : 0 ≤ x3 ∧ x3 ≤ 129) (k5 : 0 ≤ x5 ∧ x5 ≤ 129) (k7 : 1 ≤ x7 ∧ x7 ≤ 1) (k8 : 1 ≤ x8 ∧ x8 ≤ 130) (d0 : x5 + 1 ≤ x8 ∧ x8 ≤ x5 + 1) (f0 : LNK (r_0) (items_0) (all_0) (itemLayer_0) (x1) (x2)) (f2 : x8 = x5 + x7) (g3 : x5 = lines_1) (f4 : lines_1 = x3) (f5 : LNK (r_1) (items_1) (all_1) (itemLayer_1) (x1) (x2)) (f8 : lines_2 = x3) (f9 : LNK (r_2) (items_2) (all_2) (itemLayer_2) (x1) (x2)) (f12 : lines_3 = x3) (f13 : LNP (r_3) (lines_3) (items_3) (all_3) (itemLayer_3) (lineA_3) (lineB_3)) (f14 : LNK (r_3) (items_3) (all_3) (itemLayer_3) (x1) (x2)) (fe_0_5_1 : r_0 = r_1) (fe_0_100_1 : items_0 = items_1) (fe_0_107_1 : lines_0 = x8) (fe_0_5_2 : r_1 = r_2) (fe_0_100_2 : items_1 = items_2) (fe_0_107_2 : lines_1 = lines_2) (fe_0_5_3 : r_2 = r_3) (fe_0_100_3 : items_2 = items_3) (fe_0_107_3 : lines_2 = lines_3) (hE_0_2_1 : ∀ j : Int, all_0 j = all_1 j) (hE_0_2_2 : ∀ j : Int, all_1 j = all_2 j) (hE_0_2_3 : ∀ j : Int, all_2 j = all_3 j) (hE_0_102_1 : ∀ j : Int, itemLayer_0 j = itemLayer_1 j) (hE_0_102_2 : ∀ j : Int, itemLayer_1 j = itemLayer_2 j) (hE_0_102_3 : ∀ j : Int, itemLayer_2 j = itemLayer_3 j) (hK_0_102 : ∀ j : Int, 0 ≤ j → j < 76 → 0 ≤ itemLayer_0 j ∧ itemLayer_0 j ≤ 75) (hE_0_108_1 : ∀ j : Int, lineA_0 j = lineA_1 j) (hE_0_108_2 : ∀ j : Int, lineA_1 j = lineA_2 j) (hE_0_108_3 : ∀ j : Int, 0 ≤ j → (j = x5 → lineA_2 j = x1) ∧ (j ≠ x5 → lineA_2 j = lineA_3 j)) (hK_0_108 : ∀ j : Int, 0 ≤ j → j < 130 → 0 ≤ lineA_0 j ∧ lineA_0 j ≤ 75) (hE_0_109_1 : ∀ j : Int, lineB_0 j = lineB_1 j) (hE_0_109_2 : ∀ j : Int, 0 ≤ j → (j = x5 → lineB_1 j = x2) ∧ (j ≠ x5 → lineB_1 j = lineB_2 j)) (hE_0_109_3 : ∀ j : Int, lineB_2 j = lineB_3 j) (hK_0_109 : ∀ j : Int, 0 ≤ j → j < 130 → 0 ≤ lineB_0 j ∧ lineB_0 j ≤ 75) (kz_0_100 : 0 ≤ items_0 ∧ items_0 ≤ 76) (kz_0_107 : 0 ≤ lines_0 ∧ lines_0 ≤ 130) : lines_0 = (x3 + 1) := by
  subst fe_0_5_1
  subst fe_0_100_1
  subst fe_0_5_2
  subst fe_0_100_2
  subst fe_0_107_2
  subst fe_0_5_3
  subst fe_0_100_3
  subst fe_0_107_3
  have e_hE_0_2_1 := funext hE_0_2_1; subst e_hE_0_2_1
  have e_hE_0_2_2 := funext hE_0_2_2; subst e_hE_0_2_2
  have e_hE_0_2_3 := funext hE_0_2_3; subst e_hE_0_2_3
  have e_hE_0_102_1 := funext hE_0_102_1; subst e_hE_0_102_1
  have e_hE_0_102_2 := funext hE_0_102_2; subst e_hE_0_102_2
  have e_hE_0_102_3 := funext hE_0_102_3; subst e_hE_0_102_3
  have e_hE_0_108_1 := funext hE_0_108_1; subst e_hE_0_108_1
  have e_hE_0_108_2 := funext hE_0_108_2; subst e_hE_0_108_2
  have e_hE_0_109_1 := funext hE_0_109_1; subst e_hE_0_109_1
  have e_hE_0_109_3 := funext hE_0_109_3; subst e_hE_0_109_3
  omega
set_option maxHeartbeats 4000000 in
theorem vc_Mo_line_at_g2_1_1 (x1 : Int) (x2 : Int) (x3 : Int) (x5 : Int) (x7 : Int) (x8 : Int) (all_0 : Int → Int) (itemLayer_0 : Int → Int) (r_0 : Int) (items_0 : Int) (lines_1 : Int) (all_1 : Int → Int) (itemLayer_1 : Int → Int) (r_1 : Int) (items_1 : Int) (lines_2 : Int) (all_2 : Int → Int) (itemLayer_2 : Int → Int) (r_2 : Int) (items_2 : Int) (lines_3 : Int) (all_3 : Int → Int) (itemLayer_3 : Int → Int) (lineA_3 : Int → Int) (lineB_3 : Int → Int) (r_3 : Int) (items_3 : Int) (lines_0 : Int) (lineA_0 : Int → Int) (lineA_1 : Int → Int) (lineA_2 : Int → Int) (lineB_0 : Int → Int) (lineB_1 : Int → Int) (lineB_2 : Int → Int) (k1 : 0 ≤ x1 ∧ x1 ≤ 75) (k2 : 0 ≤ x2 ∧ x2 ≤ 75) (k3 : 0 ≤ x3 ∧ x3 ≤ 129) (k5 : 0 ≤ x5 ∧ x5 ≤ 129) (k7 : 1 ≤ x7 ∧ x7 ≤ 1) (k8 : 1 ≤ x8 ∧ x8 ≤ 130) (d0 : x5 + 1 ≤ x8 ∧ x8 ≤ x5 + 1) (f0 : LNK (r_0) (items_0) (all_0) (itemLayer_0) (x1) (x2)) (f2 : x8 = x5 + x7) (g3 : x5 = lines_1) (f4 : lines_1 = x3) (f5 : LNK (r_1) (items_1) (all_1) (itemLayer_1) (x1) (x2)) (f8 : lines_2 = x3) (f9 : LNK (r_2) (items_2) (all_2) (itemLayer_2) (x1) (x2)) (f12 : lines_3 = x3) (f13 : LNP (r_3) (lines_3) (items_3) (all_3) (itemLayer_3) (lineA_3) (lineB_3)) (f14 : LNK (r_3) (items_3) (all_3) (itemLayer_3) (x1) (x2)) (fe_0_5_1 : r_0 = r_1) (fe_0_100_1 : items_0 = items_1) (fe_0_107_1 : lines_0 = x8) (fe_0_5_2 : r_1 = r_2) (fe_0_100_2 : items_1 = items_2) (fe_0_107_2 : lines_1 = lines_2) (fe_0_5_3 : r_2 = r_3) (fe_0_100_3 : items_2 = items_3) (fe_0_107_3 : lines_2 = lines_3) (hE_0_2_1 : ∀ j : Int, all_0 j = all_1 j) (hE_0_2_2 : ∀ j : Int, all_1 j = all_2 j) (hE_0_2_3 : ∀ j : Int, all_2 j = all_3 j) (hE_0_102_1 : ∀ j : Int, itemLayer_0 j = itemLayer_1 j) (hE_0_102_2 : ∀ j : Int, itemLayer_1 j = itemLayer_2 j) (hE_0_102_3 : ∀ j : Int, itemLayer_2 j = itemLayer_3 j) (hK_0_102 : ∀ j : Int, 0 ≤ j → j < 76 → 0 ≤ itemLayer_0 j ∧ itemLayer_0 j ≤ 75) (hE_0_108_1 : ∀ j : Int, lineA_0 j = lineA_1 j) (hE_0_108_2 : ∀ j : Int, lineA_1 j = lineA_2 j) (hE_0_108_3 : ∀ j : Int, 0 ≤ j → (j = x5 → lineA_2 j = x1) ∧ (j ≠ x5 → lineA_2 j = lineA_3 j)) (hK_0_108 : ∀ j : Int, 0 ≤ j → j < 130 → 0 ≤ lineA_0 j ∧ lineA_0 j ≤ 75) (hE_0_109_1 : ∀ j : Int, lineB_0 j = lineB_1 j) (hE_0_109_2 : ∀ j : Int, 0 ≤ j → (j = x5 → lineB_1 j = x2) ∧ (j ≠ x5 → lineB_1 j = lineB_2 j)) (hE_0_109_3 : ∀ j : Int, lineB_2 j = lineB_3 j) (hK_0_109 : ∀ j : Int, 0 ≤ j → j < 130 → 0 ≤ lineB_0 j ∧ lineB_0 j ≤ 75) (kz_0_100 : 0 ≤ items_0 ∧ items_0 ≤ 76) (kz_0_107 : 0 ≤ lines_0 ∧ lines_0 ≤ 130) : LNP (r_0) (lines_0) (items_0) (all_0) (itemLayer_0) (lineA_0) (lineB_0) := by
  subst fe_0_5_1
  subst fe_0_100_1
  subst fe_0_5_2
  subst fe_0_100_2
  subst fe_0_107_2
  subst fe_0_5_3
  subst fe_0_100_3
  subst fe_0_107_3
  have e_hE_0_2_1 := funext hE_0_2_1; subst e_hE_0_2_1
  have e_hE_0_2_2 := funext hE_0_2_2; subst e_hE_0_2_2
  have e_hE_0_2_3 := funext hE_0_2_3; subst e_hE_0_2_3
  have e_hE_0_102_1 := funext hE_0_102_1; subst e_hE_0_102_1
  have e_hE_0_102_2 := funext hE_0_102_2; subst e_hE_0_102_2
  have e_hE_0_102_3 := funext hE_0_102_3; subst e_hE_0_102_3
  have e_hE_0_108_1 := funext hE_0_108_1; subst e_hE_0_108_1
  have e_hE_0_108_2 := funext hE_0_108_2; subst e_hE_0_108_2
  have e_hE_0_109_1 := funext hE_0_109_1; subst e_hE_0_109_1
  have e_hE_0_109_3 := funext hE_0_109_3; subst e_hE_0_109_3
  exact lnp_more ‹LNP _ _ _ _ _ _ _› (by omega) (Int.le_refl _) (by omega) ‹LNK _ _ _ _ _ _› (by assumption) (by assumption) (by omega) (by omega)
def o_Mo_line_at_g2_1 : or_T := (30, 9, [(0, (2, 0, 0, [165])), (1, (0, 0, 75, [])), (2, (0, 0, 75, [])), (3, (0, 0, 129, [])), (4, (2, 0, 0, [240])), (5, (0, 0, 129, [])), (6, (2, 0, 0, [241])), (7, (0, 1, 1, [])), (8, (0, 1, 130, []))], [(20, [0, 1, 2], [60, 2, 2, 464, 5, 100, 2, 102]), (101, [0, 8], [107]), (1, [8, 5, 7], []), (9, [5, 0], [107]), (20, [0, 3], [50, 1, 0, 107, 1, 3, 2, 0, 107, 1, 1]), (20, [0, 1, 2], [60, 2, 2, 464, 5, 100, 2, 102]), (100, [6, 5, 2], []), (9, [6, 0], [109]), (20, [0, 3], [50, 1, 0, 107, 1, 3, 2, 0, 107, 1, 1]), (20, [0, 1, 2], [60, 2, 2, 464, 5, 100, 2, 102]), (100, [4, 5, 1], []), (9, [4, 0], [108]), (20, [0, 3], [50, 1, 0, 107, 1, 3, 2, 0, 107, 1, 1]), (20, [0], [60, 3, 4, 439, 5, 107, 100, 2, 102, 108, 109]), (20, [0, 1, 2], [60, 2, 2, 464, 5, 100, 2, 102])], [], [], [(20, [0, 3], [50, 1, 0, 107, 1, 3, 2, 0, 107, 4, 2, 1, 1, 0, 1]), (20, [0], [60, 3, 4, 439, 5, 107, 100, 2, 102, 108, 109])], [], [(8, 5, 1, 1)])
theorem oo_Mo_line_at_g2_1 {kA : Nat → ClassId} : or_ok PRD kA GG o_Mo_line_at_g2_1 := by
  refine or_mk fun A ta ws vs hD hth hl => ?_
  intro t0 r0 t1 k1 t2 k2 t3 k3 t4 r4 t5 k5 t6 r6 t7 k7 t8 k8 d0 f0 ta1 w1 le1 s1 f2 f3 f4 f5 ta2 w2 le2 s2 f7 f8 f9 ta3 w3 le3 s3 f11 f12 f13 f14
  have s1 : (∀ b j, w_el ws b j = w_el w1 b j) ∧ ∀ b j, w_fd ws b j = if b = v_ad (n_v vs 0) ∧ j = 107 then n_v vs 8 else w_fd w1 b j := s1.2
  replace f3 := shm_627 f3
  replace f5 := shm_635 f5
  have s2 : (∀ b j, w_el w1 b j = if b = v_ad (n_v vs 6) ∧ j = (v_iv (n_v vs 5)).toNat then v_iv (n_v vs 2) else w_el w2 b j) ∧ ∀ b k, w_fd w1 b k = w_fd w2 b k := s2.2
  replace f7 := shm_632 f7
  replace f9 := shm_635 f9
  have s3 : (∀ b j, w_el w2 b j = if b = v_ad (n_v vs 4) ∧ j = (v_iv (n_v vs 5)).toNat then v_iv (n_v vs 1) else w_el w3 b j) ∧ ∀ b k, w_fd w2 b k = w_fd w3 b k := s3.2
  replace f11 := shm_628 f11
  replace f13 := shm_630 f13
  replace f14 := shm_635 f14
  have ar_0_2_1 : w_ar w1 (n_v vs 0) 2 = w_ar ws (n_v vs 0) 2 := by show v_ad (w_fd w1 _ _) = v_ad (w_fd ws _ _); rw [s1.2, if_neg (fun e => absurd e.2 (by decide))]
  have ar_0_2_2 : w_ar w2 (n_v vs 0) 2 = w_ar ws (n_v vs 0) 2 := by rw [← ar_0_2_1]; show v_ad (w_fd w2 _ _) = v_ad (w_fd w1 _ _); rw [s2.2]
  have ar_0_2_3 : w_ar w3 (n_v vs 0) 2 = w_ar ws (n_v vs 0) 2 := by rw [← ar_0_2_2]; show v_ad (w_fd w3 _ _) = v_ad (w_fd w2 _ _); rw [s3.2]
  have cr_0_2 := fdq_10 hD hth r0
  have ar_0_102_1 : w_ar w1 (n_v vs 0) 102 = w_ar ws (n_v vs 0) 102 := by show v_ad (w_fd w1 _ _) = v_ad (w_fd ws _ _); rw [s1.2, if_neg (fun e => absurd e.2 (by decide))]
  have ar_0_102_2 : w_ar w2 (n_v vs 0) 102 = w_ar ws (n_v vs 0) 102 := by rw [← ar_0_102_1]; show v_ad (w_fd w2 _ _) = v_ad (w_fd w1 _ _); rw [s2.2]
  have ar_0_102_3 : w_ar w3 (n_v vs 0) 102 = w_ar ws (n_v vs 0) 102 := by rw [← ar_0_102_2]; show v_ad (w_fd w3 _ _) = v_ad (w_fd w2 _ _); rw [s3.2]
  have cr_0_102 := fdq_159 hD hth r0
  have ar_0_108_1 : w_ar w1 (n_v vs 0) 108 = w_ar ws (n_v vs 0) 108 := by show v_ad (w_fd w1 _ _) = v_ad (w_fd ws _ _); rw [s1.2, if_neg (fun e => absurd e.2 (by decide))]
  have ar_0_108_2 : w_ar w2 (n_v vs 0) 108 = w_ar ws (n_v vs 0) 108 := by rw [← ar_0_108_1]; show v_ad (w_fd w2 _ _) = v_ad (w_fd w1 _ _); rw [s2.2]
  have ar_0_108_3 : w_ar w3 (n_v vs 0) 108 = w_ar ws (n_v vs 0) 108 := by rw [← ar_0_108_2]; show v_ad (w_fd w3 _ _) = v_ad (w_fd w2 _ _); rw [s3.2]
  have cr_0_108 := fdq_160 hD hth r0
  have ar_0_109_1 : w_ar w1 (n_v vs 0) 109 = w_ar ws (n_v vs 0) 109 := by show v_ad (w_fd w1 _ _) = v_ad (w_fd ws _ _); rw [s1.2, if_neg (fun e => absurd e.2 (by decide))]
  have ar_0_109_2 : w_ar w2 (n_v vs 0) 109 = w_ar ws (n_v vs 0) 109 := by rw [← ar_0_109_1]; show v_ad (w_fd w2 _ _) = v_ad (w_fd w1 _ _); rw [s2.2]
  have ar_0_109_3 : w_ar w3 (n_v vs 0) 109 = w_ar ws (n_v vs 0) 109 := by rw [← ar_0_109_2]; show v_ad (w_fd w3 _ _) = v_ad (w_fd w2 _ _); rw [s3.2]
  have cr_0_109 := fdq_161 hD hth r0
  have ad_6 : v_ad (n_v vs 6) = w_ar ws (n_v vs 0) 109 := (congrArg v_ad f7).trans ar_0_109_2
  have ad_4 : v_ad (n_v vs 4) = w_ar ws (n_v vs 0) 108 := (congrArg v_ad f11).trans ar_0_108_3
  have g3 : v_iv (n_v vs 5) = w_fi w1 (n_v vs 0) 107 := congrArg v_iv f3
  simp only [ar_0_2_1, ar_0_102_1, ar_0_2_2, ar_0_102_2, ar_0_2_3, ar_0_102_3, ar_0_108_3, ar_0_109_3] at f5 f9 f13 f14
  have fe_0_5_1 : w_fi ws (n_v vs 0) 5 = w_fi w1 (n_v vs 0) 5 := by show v_iv (w_fd _ _ _) = v_iv (w_fd _ _ _); rw [s1.2, if_neg (fun e => absurd e.2 (by decide))]
  have fe_0_100_1 : w_fi ws (n_v vs 0) 100 = w_fi w1 (n_v vs 0) 100 := by show v_iv (w_fd _ _ _) = v_iv (w_fd _ _ _); rw [s1.2, if_neg (fun e => absurd e.2 (by decide))]
  have fe_0_107_1 : w_fi ws (n_v vs 0) 107 = v_iv (n_v vs 8) := by show v_iv (w_fd _ _ _) = _; rw [s1.2, if_pos ⟨rfl, rfl⟩]
  have fe_0_5_2 : w_fi w1 (n_v vs 0) 5 = w_fi w2 (n_v vs 0) 5 := congrArg v_iv (s2.2 _ _)
  have fe_0_100_2 : w_fi w1 (n_v vs 0) 100 = w_fi w2 (n_v vs 0) 100 := congrArg v_iv (s2.2 _ _)
  have fe_0_107_2 : w_fi w1 (n_v vs 0) 107 = w_fi w2 (n_v vs 0) 107 := congrArg v_iv (s2.2 _ _)
  have fe_0_5_3 : w_fi w2 (n_v vs 0) 5 = w_fi w3 (n_v vs 0) 5 := congrArg v_iv (s3.2 _ _)
  have fe_0_100_3 : w_fi w2 (n_v vs 0) 100 = w_fi w3 (n_v vs 0) 100 := congrArg v_iv (s3.2 _ _)
  have fe_0_107_3 : w_fi w2 (n_v vs 0) 107 = w_fi w3 (n_v vs 0) 107 := congrArg v_iv (s3.2 _ _)
  have hE_0_2_1 : ∀ j : Int, w_ei ws (w_ar ws (n_v vs 0) 2) j = w_ei w1 (w_ar ws (n_v vs 0) 2) j := fun j => s1.1 _ _
  have hE_0_2_2 : ∀ j : Int, w_ei w1 (w_ar ws (n_v vs 0) 2) j = w_ei w2 (w_ar ws (n_v vs 0) 2) j := el_kp s2.1 r6 cr_0_2 (by decide)
  have hE_0_2_3 : ∀ j : Int, w_ei w2 (w_ar ws (n_v vs 0) 2) j = w_ei w3 (w_ar ws (n_v vs 0) 2) j := el_kp s3.1 r4 cr_0_2 (by decide)
  have hE_0_102_1 : ∀ j : Int, w_ei ws (w_ar ws (n_v vs 0) 102) j = w_ei w1 (w_ar ws (n_v vs 0) 102) j := fun j => s1.1 _ _
  have hE_0_102_2 : ∀ j : Int, w_ei w1 (w_ar ws (n_v vs 0) 102) j = w_ei w2 (w_ar ws (n_v vs 0) 102) j := el_kp s2.1 r6 cr_0_102 (by decide)
  have hE_0_102_3 : ∀ j : Int, w_ei w2 (w_ar ws (n_v vs 0) 102) j = w_ei w3 (w_ar ws (n_v vs 0) 102) j := el_kp s3.1 r4 cr_0_102 (by decide)
  have hK_0_102 := elq_91 hD hth cr_0_102
  have hE_0_108_1 : ∀ j : Int, w_ei ws (w_ar ws (n_v vs 0) 108) j = w_ei w1 (w_ar ws (n_v vs 0) 108) j := fun j => s1.1 _ _
  have hE_0_108_2 : ∀ j : Int, w_ei w1 (w_ar ws (n_v vs 0) 108) j = w_ei w2 (w_ar ws (n_v vs 0) 108) j := el_kp s2.1 r6 cr_0_108 (by decide)
  have hE_0_108_3 : ∀ j : Int, 0 ≤ j → (j = v_iv (n_v vs 5) → w_ei w2 (w_ar ws (n_v vs 0) 108) j = v_iv (n_v vs 1)) ∧ (j ≠ v_iv (n_v vs 5) → w_ei w2 (w_ar ws (n_v vs 0) 108) j = w_ei w3 (w_ar ws (n_v vs 0) 108) j) := fun j hj => ⟨fun h => by unfold w_ei; rw [s3.1, if_pos ⟨ad_4.symm, by rw [h]⟩], fun h => by unfold w_ei; rw [s3.1, if_neg (fun e => h (by have := e.2; omega))]⟩
  have hK_0_108 := elq_92 hD hth cr_0_108
  have hE_0_109_1 : ∀ j : Int, w_ei ws (w_ar ws (n_v vs 0) 109) j = w_ei w1 (w_ar ws (n_v vs 0) 109) j := fun j => s1.1 _ _
  have hE_0_109_2 : ∀ j : Int, 0 ≤ j → (j = v_iv (n_v vs 5) → w_ei w1 (w_ar ws (n_v vs 0) 109) j = v_iv (n_v vs 2)) ∧ (j ≠ v_iv (n_v vs 5) → w_ei w1 (w_ar ws (n_v vs 0) 109) j = w_ei w2 (w_ar ws (n_v vs 0) 109) j) := fun j hj => ⟨fun h => by unfold w_ei; rw [s2.1, if_pos ⟨ad_6.symm, by rw [h]⟩], fun h => by unfold w_ei; rw [s2.1, if_neg (fun e => h (by have := e.2; omega))]⟩
  have hE_0_109_3 : ∀ j : Int, w_ei w2 (w_ar ws (n_v vs 0) 109) j = w_ei w3 (w_ar ws (n_v vs 0) 109) j := el_kp s3.1 r4 cr_0_109 (by decide)
  have hK_0_109 := elq_93 hD hth cr_0_109
  have kz_0_100 := fdq_162 hD hth r0
  have kz_0_107 := fdq_163 hD hth r0
  have nf0 : fc_1 PRD (20, [0, 3], [50, 1, 0, 107, 1, 3, 2, 0, 107, 4, 2, 1, 1, 0, 1]) ws (vs) := ⟨nf_in hl rfl, sgq_633 (vc_Mo_line_at_g2_1_0 (v_iv (n_v vs 1)) (v_iv (n_v vs 2)) (v_iv (n_v vs 3)) (v_iv (n_v vs 5)) (v_iv (n_v vs 7)) (v_iv (n_v vs 8)) (w_ei ws (w_ar ws (n_v vs 0) 2)) (w_ei ws (w_ar ws (n_v vs 0) 102)) (w_fi ws (n_v vs 0) 5) (w_fi ws (n_v vs 0) 100) (w_fi w1 (n_v vs 0) 107) (w_ei w1 (w_ar ws (n_v vs 0) 2)) (w_ei w1 (w_ar ws (n_v vs 0) 102)) (w_fi w1 (n_v vs 0) 5) (w_fi w1 (n_v vs 0) 100) (w_fi w2 (n_v vs 0) 107) (w_ei w2 (w_ar ws (n_v vs 0) 2)) (w_ei w2 (w_ar ws (n_v vs 0) 102)) (w_fi w2 (n_v vs 0) 5) (w_fi w2 (n_v vs 0) 100) (w_fi w3 (n_v vs 0) 107) (w_ei w3 (w_ar ws (n_v vs 0) 2)) (w_ei w3 (w_ar ws (n_v vs 0) 102)) (w_ei w3 (w_ar ws (n_v vs 0) 108)) (w_ei w3 (w_ar ws (n_v vs 0) 109)) (w_fi w3 (n_v vs 0) 5) (w_fi w3 (n_v vs 0) 100) (w_fi ws (n_v vs 0) 107) (w_ei ws (w_ar ws (n_v vs 0) 108)) (w_ei w1 (w_ar ws (n_v vs 0) 108)) (w_ei w2 (w_ar ws (n_v vs 0) 108)) (w_ei ws (w_ar ws (n_v vs 0) 109)) (w_ei w1 (w_ar ws (n_v vs 0) 109)) (w_ei w2 (w_ar ws (n_v vs 0) 109)) k1 k2 k3 k5 k7 k8 d0 (shm_635 f0) (shm_12 f2) g3 (shm_629 f4) f5 (shm_629 f8) f9 (shm_629 f12) f13 f14 fe_0_5_1 fe_0_100_1 fe_0_107_1 fe_0_5_2 fe_0_100_2 fe_0_107_2 fe_0_5_3 fe_0_100_3 fe_0_107_3 hE_0_2_1 hE_0_2_2 hE_0_2_3 hE_0_102_1 hE_0_102_2 hE_0_102_3 hK_0_102 hE_0_108_1 hE_0_108_2 hE_0_108_3 hK_0_108 hE_0_109_1 hE_0_109_2 hE_0_109_3 hK_0_109 kz_0_100 kz_0_107)⟩
  have nf1 : fc_1 PRD (20, [0], [60, 3, 4, 439, 5, 107, 100, 2, 102, 108, 109]) ws (vs) := ⟨nf_in hl rfl, sgq_630 (vc_Mo_line_at_g2_1_1 (v_iv (n_v vs 1)) (v_iv (n_v vs 2)) (v_iv (n_v vs 3)) (v_iv (n_v vs 5)) (v_iv (n_v vs 7)) (v_iv (n_v vs 8)) (w_ei ws (w_ar ws (n_v vs 0) 2)) (w_ei ws (w_ar ws (n_v vs 0) 102)) (w_fi ws (n_v vs 0) 5) (w_fi ws (n_v vs 0) 100) (w_fi w1 (n_v vs 0) 107) (w_ei w1 (w_ar ws (n_v vs 0) 2)) (w_ei w1 (w_ar ws (n_v vs 0) 102)) (w_fi w1 (n_v vs 0) 5) (w_fi w1 (n_v vs 0) 100) (w_fi w2 (n_v vs 0) 107) (w_ei w2 (w_ar ws (n_v vs 0) 2)) (w_ei w2 (w_ar ws (n_v vs 0) 102)) (w_fi w2 (n_v vs 0) 5) (w_fi w2 (n_v vs 0) 100) (w_fi w3 (n_v vs 0) 107) (w_ei w3 (w_ar ws (n_v vs 0) 2)) (w_ei w3 (w_ar ws (n_v vs 0) 102)) (w_ei w3 (w_ar ws (n_v vs 0) 108)) (w_ei w3 (w_ar ws (n_v vs 0) 109)) (w_fi w3 (n_v vs 0) 5) (w_fi w3 (n_v vs 0) 100) (w_fi ws (n_v vs 0) 107) (w_ei ws (w_ar ws (n_v vs 0) 108)) (w_ei w1 (w_ar ws (n_v vs 0) 108)) (w_ei w2 (w_ar ws (n_v vs 0) 108)) (w_ei ws (w_ar ws (n_v vs 0) 109)) (w_ei w1 (w_ar ws (n_v vs 0) 109)) (w_ei w2 (w_ar ws (n_v vs 0) 109)) k1 k2 k3 k5 k7 k8 d0 (shm_635 f0) (shm_12 f2) g3 (shm_629 f4) f5 (shm_629 f8) f9 (shm_629 f12) f13 f14 fe_0_5_1 fe_0_100_1 fe_0_107_1 fe_0_5_2 fe_0_100_2 fe_0_107_2 fe_0_5_3 fe_0_100_3 fe_0_107_3 hE_0_2_1 hE_0_2_2 hE_0_2_3 hE_0_102_1 hE_0_102_2 hE_0_102_3 hK_0_102 hE_0_108_1 hE_0_108_2 hE_0_108_3 hK_0_108 hE_0_109_1 hE_0_109_2 hE_0_109_3 hK_0_109 kz_0_100 kz_0_107)⟩
  refine ⟨(fun _ h => (by cases h)), [], trivial, ?_, (fun _ h => (by cases h))⟩
  rw [List.append_nil]
  exact List.forall_mem_cons.mpr ⟨⟨show (20 : Nat) < 100 from by decide, nf0⟩, List.forall_mem_cons.mpr ⟨⟨show (20 : Nat) < 100 from by decide, nf1⟩, (fun _ h => (by cases h))⟩⟩
def n_Mo_line_at_g2_an : List an_T := []
def t_Mo_line_at_g2_ct : ct_L := []
set_option maxRecDepth 100000 in
theorem c_Mo_line_at_g2 {l : Launch} {D : va_G} {kA : Nat → ClassId} : ct_ok PRD l D kA GG y_Mo_line_at_g2 z_Mo_line_at_g2 e_Mo_line_at_g2 := chk_all_ok (FT := [(237, 13, 108), (240, 13, 109), (847, 13, 107)]) (PT := [(847, 13, 107, .int)]) (CT := t_Mo_line_at_g2_ct) (KT := []) (NT := []) (AN := n_Mo_line_at_g2_an) (OT := [o_Mo_line_at_g2_0, o_Mo_line_at_g2_1]) 0 200 (List.forall_mem_cons.mpr ⟨oo_Mo_line_at_g2_0, List.forall_mem_cons.mpr ⟨oo_Mo_line_at_g2_1, List.forall_mem_nil _⟩⟩) (by decide +kernel) ⟨List.forall_mem_cons.mpr ⟨gf_Mo_237, List.forall_mem_cons.mpr ⟨gf_Mo_240, List.forall_mem_cons.mpr ⟨gf_Mo_847, List.forall_mem_nil _⟩⟩⟩, List.forall_mem_cons.mpr ⟨pf_Mo_847, List.forall_mem_nil _⟩, List.forall_mem_nil _, List.forall_mem_nil _, List.forall_mem_nil _, GG_pl⟩ (by decide +kernel)
set_option maxHeartbeats 4000000 in
theorem vc_Mo_longOf_0_0 (x1 : Int) (x3 : Int) (x5 : Int) (x6 : Int) (x7 : Int) (all_0 : Int → Int) (r_0 : Int) (k1 : 0 ≤ x1 ∧ x1 ≤ 23) (k3 : 0 ≤ x3 ∧ x3 ≤ 66297) (k5 : 195 ≤ x5 ∧ x5 ≤ 66492) (k6 : 195 ≤ x6 ∧ x6 ≤ 66515) (k7 : 0 ≤ x7 ∧ x7 ≤ 8) (d3 : x3 + 195 ≤ x5 ∧ x5 ≤ x3 + 195) (h0 : x7 = all_0 (x6)) (f1 : x6 = x5 + x1) (g3 : x3 = r_0) : x7 = all_0 ((r_0 + (195 + x1))) := by
  first | assumption | omega | grind
def o_Mo_longOf_0 : or_T := (15, 8, [(1, (0, 0, 23, [])), (3, (0, 0, 66297, [])), (5, (0, 195, 66492, [])), (6, (0, 195, 66515, [])), (7, (0, 0, 8, []))], [(10, [7, 2, 6], []), (1, [6, 5, 1], []), (9, [3, 0], [5]), (9, [2, 0], [2])], [], [], [(20, [7, 0, 1], [50, 1, 1, 1005, 1002, 1, 2, 1, 0, 3, 1, 2, 4, 3, 2, 1, 5, 4, 2, 0, 195, 1, 2])], [], [(5, 3, 195, 195)])
theorem oo_Mo_longOf_0 {kA : Nat → ClassId} : or_ok PRD kA GG o_Mo_longOf_0 := by
  refine or_mk fun A ta ws vs hD hth hl => ?_
  intro t1 k1 t3 k3 t5 k5 t6 k6 t7 k7 d3 f0 f1 f3 f4
  replace f0 := shm_107 f0
  replace f3 := shm_110 f3
  replace f4 := shm_120 f4
  have ad_2 : v_ad (n_v vs 2) = w_ar ws (n_v vs 0) 2 := congrArg v_ad f4
  simp only [ad_2] at f0
  have h0 : v_iv (n_v vs 7) = w_ei ws (w_ar ws (n_v vs 0) 2) (v_iv (n_v vs 6)) := f0
  have g3 : v_iv (n_v vs 3) = w_fi ws (n_v vs 0) 5 := congrArg v_iv f3
  have nf0 : fc_1 PRD (20, [7, 0, 1], [50, 1, 1, 1005, 1002, 1, 2, 1, 0, 3, 1, 2, 4, 3, 2, 1, 5, 4, 2, 0, 195, 1, 2]) ws (vs) := ⟨nf_in hl rfl, sgq_636 (vc_Mo_longOf_0_0 (v_iv (n_v vs 1)) (v_iv (n_v vs 3)) (v_iv (n_v vs 5)) (v_iv (n_v vs 6)) (v_iv (n_v vs 7)) (w_ei ws (w_ar ws (n_v vs 0) 2)) (w_fi ws (n_v vs 0) 5) k1 k3 k5 k6 k7 d3 h0 (shm_12 f1) g3)⟩
  refine ⟨(fun _ h => (by cases h)), [], trivial, ?_, (fun _ h => (by cases h))⟩
  rw [List.append_nil]
  exact List.forall_mem_cons.mpr ⟨⟨show (20 : Nat) < 100 from by decide, nf0⟩, (fun _ h => (by cases h))⟩
def n_Mo_longOf_an : List an_T := []
def t_Mo_longOf_ct : ct_L := []
set_option maxRecDepth 100000 in
theorem c_Mo_longOf {l : Launch} {D : va_G} {kA : Nat → ClassId} : ct_ok PRD l D kA GG y_Mo_longOf z_Mo_longOf e_Mo_longOf := chk_all_ok (FT := [(16, 13, 2), (391, 13, 5)]) (PT := []) (CT := t_Mo_longOf_ct) (KT := []) (NT := []) (AN := n_Mo_longOf_an) (OT := [o_Mo_longOf_0]) 0 200 (List.forall_mem_cons.mpr ⟨oo_Mo_longOf_0, List.forall_mem_nil _⟩) (by decide +kernel) ⟨List.forall_mem_cons.mpr ⟨gf_Mo_16, List.forall_mem_cons.mpr ⟨gf_Mo_391, List.forall_mem_nil _⟩⟩, List.forall_mem_nil _, List.forall_mem_nil _, List.forall_mem_nil _, List.forall_mem_nil _, GG_pl⟩ (by decide +kernel)

set_option maxHeartbeats 4000000 in
theorem vc_Mo_low_0_0 (x1 : Int) (x4 : Int) (x7 : Int) (x9 : Int) (ph_0 : Int → Int) (pt_0 : Int → Int) (k1 : 0 ≤ x1 ∧ x1 ≤ 79) (k4 : 0 ≤ x4 ∧ x4 ≤ 24) (k7 : 0 ≤ x7 ∧ x7 ≤ 24) (k9 : 0 ≤ x9 ∧ x9 ≤ 24) (h0 : x9 = ph_0 (x1)) (h2 : x7 = ph_0 (x1)) (h3 : x4 = pt_0 (x1)) (hK_0_33 : ∀ j : Int, 0 ≤ j → j < 80 → 0 ≤ pt_0 j ∧ pt_0 j ≤ 24) (hK_0_34 : ∀ j : Int, 0 ≤ j → j < 80 → 0 ≤ ph_0 j ∧ ph_0 j ≤ 24) : LWE (pt_0) (ph_0) (x1) (x9) := by
  first
    | exact Or.inl (by omega)
    | exact Or.inr (by omega)
    | exact Or.inl (by assumption)
    | exact Or.inr (by assumption)
  
def o_Mo_low_0 : or_T := (40, 10, [(0, (2, 0, 0, [165])), (1, (0, 0, 79, [])), (3, (2, 0, 0, [180])), (4, (0, 0, 24, [])), (6, (2, 0, 0, [181])), (7, (0, 0, 24, [])), (9, (0, 0, 24, []))], [(10, [9, 6, 1], []), (9, [6, 0], [34]), (10, [7, 6, 1], []), (10, [4, 3, 1], []), (9, [3, 0], [33])], [], [], [(20, [0, 1, 9], [60, 0, 2, 788, 33, 34])], [], [])
theorem oo_Mo_low_0 {kA : Nat → ClassId} : or_ok PRD kA GG o_Mo_low_0 := by
  refine or_mk fun A ta ws vs hD hth hl => ?_
  intro t0 r0 t1 k1 t3 r3 t4 k4 t6 r6 t7 k7 t9 k9 f0 f1 f2 f3 f4
  replace f0 := shm_107 f0
  replace f1 := shm_496 f1
  replace f2 := shm_107 f2
  replace f3 := shm_107 f3
  replace f4 := shm_494 f4
  have cr_0_33 := fdq_117 hD hth r0
  have cr_0_34 := fdq_118 hD hth r0
  have ad_6 : v_ad (n_v vs 6) = w_ar ws (n_v vs 0) 34 := congrArg v_ad f1
  have ad_3 : v_ad (n_v vs 3) = w_ar ws (n_v vs 0) 33 := congrArg v_ad f4
  simp only [ad_6] at f0
  have h0 : v_iv (n_v vs 9) = w_ei ws (w_ar ws (n_v vs 0) 34) (v_iv (n_v vs 1)) := f0
  simp only [ad_6] at f2
  have h2 : v_iv (n_v vs 7) = w_ei ws (w_ar ws (n_v vs 0) 34) (v_iv (n_v vs 1)) := f2
  simp only [ad_3] at f3
  have h3 : v_iv (n_v vs 4) = w_ei ws (w_ar ws (n_v vs 0) 33) (v_iv (n_v vs 1)) := f3
  have hK_0_33 := elq_60 hD hth cr_0_33
  have hK_0_34 := elq_61 hD hth cr_0_34
  have nf0 : fc_1 PRD (20, [0, 1, 9], [60, 0, 2, 788, 33, 34]) ws (vs) := ⟨nf_in hl rfl, sgq_637 (vc_Mo_low_0_0 (v_iv (n_v vs 1)) (v_iv (n_v vs 4)) (v_iv (n_v vs 7)) (v_iv (n_v vs 9)) (w_ei ws (w_ar ws (n_v vs 0) 34)) (w_ei ws (w_ar ws (n_v vs 0) 33)) k1 k4 k7 k9 h0 h2 h3 hK_0_33 hK_0_34)⟩
  refine ⟨(fun _ h => (by cases h)), [], trivial, ?_, (fun _ h => (by cases h))⟩
  rw [List.append_nil]
  exact List.forall_mem_cons.mpr ⟨⟨show (20 : Nat) < 100 from by decide, nf0⟩, (fun _ h => (by cases h))⟩
set_option maxHeartbeats 4000000 in
theorem vc_Mo_low_1_0 (x1 : Int) (x4 : Int) (x7 : Int) (x9 : Int) (pt_0 : Int → Int) (ph_0 : Int → Int) (k1 : 0 ≤ x1 ∧ x1 ≤ 79) (k4 : 0 ≤ x4 ∧ x4 ≤ 24) (k7 : 0 ≤ x7 ∧ x7 ≤ 24) (k9 : 0 ≤ x9 ∧ x9 ≤ 24) (h0 : x9 = pt_0 (x1)) (h2 : x7 = ph_0 (x1)) (h4 : x4 = pt_0 (x1)) (hK_0_33 : ∀ j : Int, 0 ≤ j → j < 80 → 0 ≤ pt_0 j ∧ pt_0 j ≤ 24) (hK_0_34 : ∀ j : Int, 0 ≤ j → j < 80 → 0 ≤ ph_0 j ∧ ph_0 j ≤ 24) : LWE (pt_0) (ph_0) (x1) (x9) := by
  first
    | exact Or.inl (by omega)
    | exact Or.inr (by omega)
    | exact Or.inl (by assumption)
    | exact Or.inr (by assumption)
  
def o_Mo_low_1 : or_T := (40, 10, [(0, (2, 0, 0, [165])), (1, (0, 0, 79, [])), (3, (2, 0, 0, [180])), (4, (0, 0, 24, [])), (6, (2, 0, 0, [181])), (7, (0, 0, 24, [])), (9, (0, 0, 24, []))], [(10, [9, 3, 1], []), (9, [3, 0], [33]), (10, [7, 6, 1], []), (9, [6, 0], [34]), (10, [4, 3, 1], [])], [], [], [(20, [0, 1, 9], [60, 0, 2, 788, 33, 34])], [], [])
theorem oo_Mo_low_1 {kA : Nat → ClassId} : or_ok PRD kA GG o_Mo_low_1 := by
  refine or_mk fun A ta ws vs hD hth hl => ?_
  intro t0 r0 t1 k1 t3 r3 t4 k4 t6 r6 t7 k7 t9 k9 f0 f1 f2 f3 f4
  replace f0 := shm_107 f0
  replace f1 := shm_494 f1
  replace f2 := shm_107 f2
  replace f3 := shm_496 f3
  replace f4 := shm_107 f4
  have cr_0_33 := fdq_117 hD hth r0
  have cr_0_34 := fdq_118 hD hth r0
  have ad_3 : v_ad (n_v vs 3) = w_ar ws (n_v vs 0) 33 := congrArg v_ad f1
  have ad_6 : v_ad (n_v vs 6) = w_ar ws (n_v vs 0) 34 := congrArg v_ad f3
  simp only [ad_3] at f0
  have h0 : v_iv (n_v vs 9) = w_ei ws (w_ar ws (n_v vs 0) 33) (v_iv (n_v vs 1)) := f0
  simp only [ad_6] at f2
  have h2 : v_iv (n_v vs 7) = w_ei ws (w_ar ws (n_v vs 0) 34) (v_iv (n_v vs 1)) := f2
  simp only [ad_3] at f4
  have h4 : v_iv (n_v vs 4) = w_ei ws (w_ar ws (n_v vs 0) 33) (v_iv (n_v vs 1)) := f4
  have hK_0_33 := elq_60 hD hth cr_0_33
  have hK_0_34 := elq_61 hD hth cr_0_34
  have nf0 : fc_1 PRD (20, [0, 1, 9], [60, 0, 2, 788, 33, 34]) ws (vs) := ⟨nf_in hl rfl, sgq_637 (vc_Mo_low_1_0 (v_iv (n_v vs 1)) (v_iv (n_v vs 4)) (v_iv (n_v vs 7)) (v_iv (n_v vs 9)) (w_ei ws (w_ar ws (n_v vs 0) 33)) (w_ei ws (w_ar ws (n_v vs 0) 34)) k1 k4 k7 k9 h0 h2 h4 hK_0_33 hK_0_34)⟩
  refine ⟨(fun _ h => (by cases h)), [], trivial, ?_, (fun _ h => (by cases h))⟩
  rw [List.append_nil]
  exact List.forall_mem_cons.mpr ⟨⟨show (20 : Nat) < 100 from by decide, nf0⟩, (fun _ h => (by cases h))⟩
def n_Mo_low_an : List an_T := []
def t_Mo_low_ct : ct_L := []
set_option maxRecDepth 100000 in
theorem c_Mo_low {l : Launch} {D : va_G} {kA : Nat → ClassId} : ct_ok PRD l D kA GG y_Mo_low z_Mo_low e_Mo_low := chk_all_ok (FT := [(57, 13, 33), (60, 13, 34), (284, 13, 124)]) (PT := []) (CT := t_Mo_low_ct) (KT := []) (NT := []) (AN := n_Mo_low_an) (OT := [o_Mo_low_0, o_Mo_low_1]) 0 200 (List.forall_mem_cons.mpr ⟨oo_Mo_low_0, List.forall_mem_cons.mpr ⟨oo_Mo_low_1, List.forall_mem_nil _⟩⟩) (by decide +kernel) ⟨List.forall_mem_cons.mpr ⟨gf_Mo_57, List.forall_mem_cons.mpr ⟨gf_Mo_60, List.forall_mem_cons.mpr ⟨gf_Mo_284, List.forall_mem_nil _⟩⟩⟩, List.forall_mem_nil _, List.forall_mem_nil _, List.forall_mem_nil _, List.forall_mem_nil _, GG_pl⟩ (by decide +kernel)
set_option maxHeartbeats 4000000 in
theorem vc_Mo_mayGo_0_0 (x1 : Int) (x3 : Int) (x4 : Int) (drawnEdge_0 : Int → Int) (pieceOf_0 : Int → Int) (onlyPiece_0 : Int) (k1 : 0 ≤ x1 ∧ x1 ≤ 79) (k3 : 1 ≤ x3 ∧ x3 ≤ 1) (k4 : 0 ≤ x4 ∧ x4 ≤ 0) (f0 : x3 ≠ 0) (h1 : x3 = drawnEdge_0 (x1)) (hK_0_43 : ∀ j : Int, 0 ≤ j → j < 80 → 0 ≤ drawnEdge_0 j ∧ drawnEdge_0 j ≤ 1) (hK_0_44 : ∀ j : Int, 0 ≤ j → j < 80 → (-1) ≤ pieceOf_0 j ∧ pieceOf_0 j ≤ 79) (kz_0_49 : (-1) ≤ onlyPiece_0 ∧ onlyPiece_0 ≤ 79) : MGP (onlyPiece_0) (drawnEdge_0) (pieceOf_0) (x1) (x4) := by
  unfold MGP mgE
  constructor
  · intro h
    first
      | (exfalso; omega)
      | exact ⟨by omega, Or.inl (by omega)⟩
      | exact ⟨by omega, Or.inr (by omega)⟩
  · intro h
    first
      | omega
      | (exfalso; have := h.1; omega)
      | (exfalso; have := h.2; omega)
def o_Mo_mayGo_0 : or_T := (34, 5, [(0, (2, 0, 0, [165])), (1, (0, 0, 79, [])), (3, (0, 1, 1, [])), (4, (0, 0, 0, []))], [(8, [3], [1]), (10, [3, 2, 1], []), (9, [2, 0], [43])], [], [], [(20, [0, 1, 4], [60, 1, 2, 120, 49, 43, 44])], [], [])
theorem oo_Mo_mayGo_0 {kA : Nat → ClassId} : or_ok PRD kA GG o_Mo_mayGo_0 := by
  refine or_mk fun A ta ws vs hD hth hl => ?_
  intro t0 r0 t1 k1 t3 k3 t4 k4 f0 f1 f2
  replace f1 := shm_107 f1
  replace f2 := shm_532 f2
  have cr_0_43 := fdq_137 hD hth r0
  have cr_0_44 := fdq_138 hD hth r0
  have ad_2 : v_ad (n_v vs 2) = w_ar ws (n_v vs 0) 43 := congrArg v_ad f2
  simp only [ad_2] at f1
  have h1 : v_iv (n_v vs 3) = w_ei ws (w_ar ws (n_v vs 0) 43) (v_iv (n_v vs 1)) := f1
  have hK_0_43 := elq_76 hD hth cr_0_43
  have hK_0_44 := elq_77 hD hth cr_0_44
  have kz_0_49 := fdq_146 hD hth r0
  have nf0 : fc_1 PRD (20, [0, 1, 4], [60, 1, 2, 120, 49, 43, 44]) ws (vs) := ⟨nf_in hl rfl, sgq_638 (vc_Mo_mayGo_0_0 (v_iv (n_v vs 1)) (v_iv (n_v vs 3)) (v_iv (n_v vs 4)) (w_ei ws (w_ar ws (n_v vs 0) 43)) (w_ei ws (w_ar ws (n_v vs 0) 44)) (w_fi ws (n_v vs 0) 49) k1 k3 k4 (shm_142 f0) h1 hK_0_43 hK_0_44 kz_0_49)⟩
  refine ⟨(fun _ h => (by cases h)), [], trivial, ?_, (fun _ h => (by cases h))⟩
  rw [List.append_nil]
  exact List.forall_mem_cons.mpr ⟨⟨show (20 : Nat) < 100 from by decide, nf0⟩, (fun _ h => (by cases h))⟩
set_option maxHeartbeats 4000000 in
theorem vc_Mo_mayGo_1_0 (x1 : Int) (x3 : Int) (x4 : Int) (x5 : Int) (onlyPiece_0 : Int) (drawnEdge_0 : Int → Int) (pieceOf_0 : Int → Int) (k1 : 0 ≤ x1 ∧ x1 ≤ 79) (k3 : 0 ≤ x3 ∧ x3 ≤ 0) (k4 : (-1) ≤ x4 ∧ x4 ≤ (-1)) (k5 : 1 ≤ x5 ∧ x5 ≤ 1) (f0 : x4 < 0) (g1 : x4 = onlyPiece_0) (f2 : x3 = 0) (h3 : x3 = drawnEdge_0 (x1)) (hK_0_43 : ∀ j : Int, 0 ≤ j → j < 80 → 0 ≤ drawnEdge_0 j ∧ drawnEdge_0 j ≤ 1) (hK_0_44 : ∀ j : Int, 0 ≤ j → j < 80 → (-1) ≤ pieceOf_0 j ∧ pieceOf_0 j ≤ 79) (kz_0_49 : (-1) ≤ onlyPiece_0 ∧ onlyPiece_0 ≤ 79) : MGP (onlyPiece_0) (drawnEdge_0) (pieceOf_0) (x1) (x5) := by
  unfold MGP mgE
  constructor
  · intro h
    first
      | (exfalso; omega)
      | exact ⟨by omega, Or.inl (by omega)⟩
      | exact ⟨by omega, Or.inr (by omega)⟩
  · intro h
    first
      | omega
      | (exfalso; have := h.1; omega)
      | (exfalso; have := h.2; omega)
def o_Mo_mayGo_1 : or_T := (34, 6, [(0, (2, 0, 0, [165])), (1, (0, 0, 79, [])), (3, (0, 0, 0, [])), (4, (0, -1, -1, [])), (5, (0, 1, 1, []))], [(8, [4], [2]), (9, [4, 0], [49]), (8, [3], [0]), (10, [3, 2, 1], []), (9, [2, 0], [43])], [], [], [(20, [0, 1, 5], [60, 1, 2, 120, 49, 43, 44])], [], [])
theorem oo_Mo_mayGo_1 {kA : Nat → ClassId} : or_ok PRD kA GG o_Mo_mayGo_1 := by
  refine or_mk fun A ta ws vs hD hth hl => ?_
  intro t0 r0 t1 k1 t3 k3 t4 k4 t5 k5 f0 f1 f2 f3 f4
  replace f1 := shm_639 f1
  replace f3 := shm_107 f3
  replace f4 := shm_532 f4
  have cr_0_43 := fdq_137 hD hth r0
  have cr_0_44 := fdq_138 hD hth r0
  have ad_2 : v_ad (n_v vs 2) = w_ar ws (n_v vs 0) 43 := congrArg v_ad f4
  have g1 : v_iv (n_v vs 4) = w_fi ws (n_v vs 0) 49 := congrArg v_iv f1
  simp only [ad_2] at f3
  have h3 : v_iv (n_v vs 3) = w_ei ws (w_ar ws (n_v vs 0) 43) (v_iv (n_v vs 1)) := f3
  have hK_0_43 := elq_76 hD hth cr_0_43
  have hK_0_44 := elq_77 hD hth cr_0_44
  have kz_0_49 := fdq_146 hD hth r0
  have nf0 : fc_1 PRD (20, [0, 1, 5], [60, 1, 2, 120, 49, 43, 44]) ws (vs) := ⟨nf_in hl rfl, sgq_638 (vc_Mo_mayGo_1_0 (v_iv (n_v vs 1)) (v_iv (n_v vs 3)) (v_iv (n_v vs 4)) (v_iv (n_v vs 5)) (w_fi ws (n_v vs 0) 49) (w_ei ws (w_ar ws (n_v vs 0) 43)) (w_ei ws (w_ar ws (n_v vs 0) 44)) k1 k3 k4 k5 (shm_39 f0) g1 (shm_192 f2) h3 hK_0_43 hK_0_44 kz_0_49)⟩
  refine ⟨(fun _ h => (by cases h)), [], trivial, ?_, (fun _ h => (by cases h))⟩
  rw [List.append_nil]
  exact List.forall_mem_cons.mpr ⟨⟨show (20 : Nat) < 100 from by decide, nf0⟩, (fun _ h => (by cases h))⟩
set_option maxHeartbeats 4000000 in
theorem vc_Mo_mayGo_2_0 (x1 : Int) (x3 : Int) (x4 : Int) (x6 : Int) (x7 : Int) (onlyPiece_0 : Int) (pieceOf_0 : Int → Int) (drawnEdge_0 : Int → Int) (k1 : 0 ≤ x1 ∧ x1 ≤ 79) (k3 : 0 ≤ x3 ∧ x3 ≤ 0) (k4 : 0 ≤ x4 ∧ x4 ≤ 79) (k6 : (-1) ≤ x6 ∧ x6 ≤ 79) (k7 : 0 ≤ x7 ∧ x7 ≤ 0) (f0 : x6 ≠ x4) (g1 : x4 = onlyPiece_0) (h2 : x6 = pieceOf_0 (x1)) (f4 : 0 ≤ x4) (f5 : x3 = 0) (h6 : x3 = drawnEdge_0 (x1)) (hK_0_43 : ∀ j : Int, 0 ≤ j → j < 80 → 0 ≤ drawnEdge_0 j ∧ drawnEdge_0 j ≤ 1) (hK_0_44 : ∀ j : Int, 0 ≤ j → j < 80 → (-1) ≤ pieceOf_0 j ∧ pieceOf_0 j ≤ 79) (kz_0_49 : (-1) ≤ onlyPiece_0 ∧ onlyPiece_0 ≤ 79) : MGP (onlyPiece_0) (drawnEdge_0) (pieceOf_0) (x1) (x7) := by
  unfold MGP mgE
  constructor
  · intro h
    first
      | (exfalso; omega)
      | exact ⟨by omega, Or.inl (by omega)⟩
      | exact ⟨by omega, Or.inr (by omega)⟩
  · intro h
    first
      | omega
      | (exfalso; have := h.1; omega)
      | (exfalso; have := h.2; omega)
def o_Mo_mayGo_2 : or_T := (34, 8, [(0, (2, 0, 0, [165])), (1, (0, 0, 79, [])), (2, (2, 0, 0, [189])), (3, (0, 0, 0, [])), (4, (0, 0, 79, [])), (5, (2, 0, 0, [190])), (6, (0, -1, 79, [])), (7, (0, 0, 0, []))], [(7, [6, 4], [1]), (9, [4, 0], [49]), (10, [6, 5, 1], []), (9, [5, 0], [44]), (8, [4], [3]), (8, [3], [0]), (10, [3, 2, 1], []), (9, [2, 0], [43])], [], [], [(20, [0, 1, 7], [60, 1, 2, 120, 49, 43, 44])], [], [])
theorem oo_Mo_mayGo_2 {kA : Nat → ClassId} : or_ok PRD kA GG o_Mo_mayGo_2 := by
  refine or_mk fun A ta ws vs hD hth hl => ?_
  intro t0 r0 t1 k1 t2 r2 t3 k3 t4 k4 t5 r5 t6 k6 t7 k7 f0 f1 f2 f3 f4 f5 f6 f7
  replace f1 := shm_639 f1
  replace f2 := shm_107 f2
  replace f3 := shm_533 f3
  replace f6 := shm_107 f6
  replace f7 := shm_532 f7
  have cr_0_43 := fdq_137 hD hth r0
  have cr_0_44 := fdq_138 hD hth r0
  have ad_5 : v_ad (n_v vs 5) = w_ar ws (n_v vs 0) 44 := congrArg v_ad f3
  have ad_2 : v_ad (n_v vs 2) = w_ar ws (n_v vs 0) 43 := congrArg v_ad f7
  have g1 : v_iv (n_v vs 4) = w_fi ws (n_v vs 0) 49 := congrArg v_iv f1
  simp only [ad_5] at f2
  have h2 : v_iv (n_v vs 6) = w_ei ws (w_ar ws (n_v vs 0) 44) (v_iv (n_v vs 1)) := f2
  simp only [ad_2] at f6
  have h6 : v_iv (n_v vs 3) = w_ei ws (w_ar ws (n_v vs 0) 43) (v_iv (n_v vs 1)) := f6
  have hK_0_43 := elq_76 hD hth cr_0_43
  have hK_0_44 := elq_77 hD hth cr_0_44
  have kz_0_49 := fdq_146 hD hth r0
  have nf0 : fc_1 PRD (20, [0, 1, 7], [60, 1, 2, 120, 49, 43, 44]) ws (vs) := ⟨nf_in hl rfl, sgq_638 (vc_Mo_mayGo_2_0 (v_iv (n_v vs 1)) (v_iv (n_v vs 3)) (v_iv (n_v vs 4)) (v_iv (n_v vs 6)) (v_iv (n_v vs 7)) (w_fi ws (n_v vs 0) 49) (w_ei ws (w_ar ws (n_v vs 0) 44)) (w_ei ws (w_ar ws (n_v vs 0) 43)) k1 k3 k4 k6 k7 (shm_40 f0) g1 h2 (shm_32 f4) (shm_192 f5) h6 hK_0_43 hK_0_44 kz_0_49)⟩
  refine ⟨(fun _ h => (by cases h)), [], trivial, ?_, (fun _ h => (by cases h))⟩
  rw [List.append_nil]
  exact List.forall_mem_cons.mpr ⟨⟨show (20 : Nat) < 100 from by decide, nf0⟩, (fun _ h => (by cases h))⟩
set_option maxHeartbeats 4000000 in
theorem vc_Mo_mayGo_3_0 (x1 : Int) (x3 : Int) (x4 : Int) (x6 : Int) (x7 : Int) (onlyPiece_0 : Int) (pieceOf_0 : Int → Int) (drawnEdge_0 : Int → Int) (k1 : 0 ≤ x1 ∧ x1 ≤ 79) (k3 : 0 ≤ x3 ∧ x3 ≤ 0) (k4 : 0 ≤ x4 ∧ x4 ≤ 79) (k6 : 0 ≤ x6 ∧ x6 ≤ 79) (k7 : 1 ≤ x7 ∧ x7 ≤ 1) (d0 : x4 + 0 ≤ x6 ∧ x6 ≤ x4 + 0) (f0 : x6 = x4) (g1 : x4 = onlyPiece_0) (h2 : x6 = pieceOf_0 (x1)) (f4 : 0 ≤ x4) (f5 : x3 = 0) (h6 : x3 = drawnEdge_0 (x1)) (hK_0_43 : ∀ j : Int, 0 ≤ j → j < 80 → 0 ≤ drawnEdge_0 j ∧ drawnEdge_0 j ≤ 1) (hK_0_44 : ∀ j : Int, 0 ≤ j → j < 80 → (-1) ≤ pieceOf_0 j ∧ pieceOf_0 j ≤ 79) (kz_0_49 : (-1) ≤ onlyPiece_0 ∧ onlyPiece_0 ≤ 79) : MGP (onlyPiece_0) (drawnEdge_0) (pieceOf_0) (x1) (x7) := by
  unfold MGP mgE
  constructor
  · intro h
    first
      | (exfalso; omega)
      | exact ⟨by omega, Or.inl (by omega)⟩
      | exact ⟨by omega, Or.inr (by omega)⟩
  · intro h
    first
      | omega
      | (exfalso; have := h.1; omega)
      | (exfalso; have := h.2; omega)
def o_Mo_mayGo_3 : or_T := (34, 8, [(0, (2, 0, 0, [165])), (1, (0, 0, 79, [])), (2, (2, 0, 0, [189])), (3, (0, 0, 0, [])), (4, (0, 0, 79, [])), (5, (2, 0, 0, [190])), (6, (0, 0, 79, [])), (7, (0, 1, 1, []))], [(7, [6, 4], [0]), (9, [4, 0], [49]), (10, [6, 5, 1], []), (9, [5, 0], [44]), (8, [4], [3]), (8, [3], [0]), (10, [3, 2, 1], []), (9, [2, 0], [43])], [], [], [(20, [0, 1, 7], [60, 1, 2, 120, 49, 43, 44])], [], [(6, 4, 0, 0)])
theorem oo_Mo_mayGo_3 {kA : Nat → ClassId} : or_ok PRD kA GG o_Mo_mayGo_3 := by
  refine or_mk fun A ta ws vs hD hth hl => ?_
  intro t0 r0 t1 k1 t2 r2 t3 k3 t4 k4 t5 r5 t6 k6 t7 k7 d0 f0 f1 f2 f3 f4 f5 f6 f7
  replace f1 := shm_639 f1
  replace f2 := shm_107 f2
  replace f3 := shm_533 f3
  replace f6 := shm_107 f6
  replace f7 := shm_532 f7
  have cr_0_43 := fdq_137 hD hth r0
  have cr_0_44 := fdq_138 hD hth r0
  have ad_5 : v_ad (n_v vs 5) = w_ar ws (n_v vs 0) 44 := congrArg v_ad f3
  have ad_2 : v_ad (n_v vs 2) = w_ar ws (n_v vs 0) 43 := congrArg v_ad f7
  have g1 : v_iv (n_v vs 4) = w_fi ws (n_v vs 0) 49 := congrArg v_iv f1
  simp only [ad_5] at f2
  have h2 : v_iv (n_v vs 6) = w_ei ws (w_ar ws (n_v vs 0) 44) (v_iv (n_v vs 1)) := f2
  simp only [ad_2] at f6
  have h6 : v_iv (n_v vs 3) = w_ei ws (w_ar ws (n_v vs 0) 43) (v_iv (n_v vs 1)) := f6
  have hK_0_43 := elq_76 hD hth cr_0_43
  have hK_0_44 := elq_77 hD hth cr_0_44
  have kz_0_49 := fdq_146 hD hth r0
  have nf0 : fc_1 PRD (20, [0, 1, 7], [60, 1, 2, 120, 49, 43, 44]) ws (vs) := ⟨nf_in hl rfl, sgq_638 (vc_Mo_mayGo_3_0 (v_iv (n_v vs 1)) (v_iv (n_v vs 3)) (v_iv (n_v vs 4)) (v_iv (n_v vs 6)) (v_iv (n_v vs 7)) (w_fi ws (n_v vs 0) 49) (w_ei ws (w_ar ws (n_v vs 0) 44)) (w_ei ws (w_ar ws (n_v vs 0) 43)) k1 k3 k4 k6 k7 d0 (shm_37 f0) g1 h2 (shm_32 f4) (shm_192 f5) h6 hK_0_43 hK_0_44 kz_0_49)⟩
  refine ⟨(fun _ h => (by cases h)), [], trivial, ?_, (fun _ h => (by cases h))⟩
  rw [List.append_nil]
  exact List.forall_mem_cons.mpr ⟨⟨show (20 : Nat) < 100 from by decide, nf0⟩, (fun _ h => (by cases h))⟩
def n_Mo_mayGo_an : List an_T := []
def t_Mo_mayGo_ct : ct_L := []
set_option maxRecDepth 100000 in
theorem c_Mo_mayGo {l : Launch} {D : va_G} {kA : Nat → ClassId} : ct_ok PRD l D kA GG y_Mo_mayGo z_Mo_mayGo e_Mo_mayGo := chk_all_ok (FT := [(84, 13, 43), (87, 13, 44), (649, 13, 49)]) (PT := []) (CT := t_Mo_mayGo_ct) (KT := []) (NT := []) (AN := n_Mo_mayGo_an) (OT := [o_Mo_mayGo_0, o_Mo_mayGo_1, o_Mo_mayGo_2, o_Mo_mayGo_3]) 0 200 (List.forall_mem_cons.mpr ⟨oo_Mo_mayGo_0, List.forall_mem_cons.mpr ⟨oo_Mo_mayGo_1, List.forall_mem_cons.mpr ⟨oo_Mo_mayGo_2, List.forall_mem_cons.mpr ⟨oo_Mo_mayGo_3, List.forall_mem_nil _⟩⟩⟩⟩) (by decide +kernel) ⟨List.forall_mem_cons.mpr ⟨gf_Mo_84, List.forall_mem_cons.mpr ⟨gf_Mo_87, List.forall_mem_cons.mpr ⟨gf_Mo_649, List.forall_mem_nil _⟩⟩⟩, List.forall_mem_nil _, List.forall_mem_nil _, List.forall_mem_nil _, List.forall_mem_nil _, GG_pl⟩ (by decide +kernel)
set_option maxHeartbeats 4000000 in
theorem vc_Mo_missing_0_0 (x1 : Int) (drawnEdge_0 : Int → Int) (k1 : 0 ≤ x1 ∧ x1 ≤ 0) (hK_0_43 : ∀ j : Int, 0 ≤ j → j < 80 → 0 ≤ drawnEdge_0 j ∧ drawnEdge_0 j ≤ 1) : MIL (drawnEdge_0) (x1) := by
  first
    | (intro e a b; exfalso; omega)
    | (have h := ‹MIL _ _›
       intro e a b
       by_cases q : e = x2
       · rw [q]; omega
       · exact h e a (by omega))
def o_Mo_missing_0 : or_T := (2, 2, [(0, (2, 0, 0, [165])), (1, (0, 0, 0, []))], [], [], [], [(20, [0, 1], [60, 0, 1, 156, 43]), (24, [0, 0], [])], [], [])
theorem oo_Mo_missing_0 {kA : Nat → ClassId} : or_ok PRD kA GG o_Mo_missing_0 := by
  refine or_mk fun A ta ws vs hD hth hl => ?_
  intro t0 r0 t1 k1
  have cr_0_43 := fdq_137 hD hth r0
  have hK_0_43 := elq_76 hD hth cr_0_43
  have nf0 : fc_1 PRD (20, [0, 1], [60, 0, 1, 156, 43]) ws (vs) := ⟨nf_in hl rfl, sgq_640 (vc_Mo_missing_0_0 (v_iv (n_v vs 1)) (w_ei ws (w_ar ws (n_v vs 0) 43)) k1 hK_0_43)⟩
  have nf1 : fc_1 PRD (24, [0, 0], []) ws (vs) := by
    refine ⟨nf_in hl rfl, sgq_1 ?_⟩
    · show n_v vs 0 = n_v vs 0
      first | rfl | simp only [true_and]
  refine ⟨(fun _ h => (by cases h)), [], trivial, ?_, (fun _ h => (by cases h))⟩
  rw [List.append_nil]
  exact List.forall_mem_cons.mpr ⟨⟨show (20 : Nat) < 100 from by decide, nf0⟩, List.forall_mem_cons.mpr ⟨⟨show (24 : Nat) < 100 from by decide, nf1⟩, (fun _ h => (by cases h))⟩⟩
set_option maxHeartbeats 4000000 in
theorem vc_Mo_missing_1_0 (x2 : Int) (x3 : Int) (x4 : Int) (pm_0 : Int) (drawnEdge_0 : Int → Int) (k2 : 0 ≤ x2 ∧ x2 ≤ 80) (k3 : 0 ≤ x3 ∧ x3 ≤ 80) (k4 : 0 ≤ x4 ∧ x4 ≤ 0) (d0 : x3 + 0 ≤ x2 ∧ x2 ≤ x3 + 4294967296) (f0 : x3 ≤ x2) (g1 : x3 = pm_0) (f2 : MIL (drawnEdge_0) (x2)) (hK_0_43 : ∀ j : Int, 0 ≤ j → j < 80 → 0 ≤ drawnEdge_0 j ∧ drawnEdge_0 j ≤ 1) (kz_0_32 : 0 ≤ pm_0 ∧ pm_0 ≤ 80) : MIS (pm_0) (drawnEdge_0) (x4) := by
  exact ⟨fun _ e a b => ‹MIL _ _› e a (by omega), fun z => by exfalso; omega⟩
def o_Mo_missing_1 : or_T := (28, 5, [(0, (2, 0, 0, [165])), (2, (0, 0, 80, [])), (3, (0, 0, 80, [])), (4, (0, 0, 0, []))], [(7, [2, 3], [3]), (9, [3, 1], [32]), (20, [1, 2], [60, 0, 1, 156, 43]), (24, [0, 1], [])], [], [], [(20, [0, 4], [60, 1, 1, 155, 32, 43])], [], [(2, 3, 0, 4294967296)])
theorem oo_Mo_missing_1 {kA : Nat → ClassId} : or_ok PRD kA GG o_Mo_missing_1 := by
  refine or_mk fun A ta ws vs hD hth hl => ?_
  intro t0 r0 t2 k2 t3 k3 t4 k4 d0 f0 f1 f2 f3
  replace f1 := shm_525 f1
  replace f2 := shm_640 f2
  replace f3 := shm_5 f3
  have q1 : n_v vs 1 = n_v vs 0 := f3.symm
  simp only [q1] at f1 f2
  have cr_0_43 := fdq_137 hD hth r0
  have g1 : v_iv (n_v vs 3) = w_fi ws (n_v vs 0) 32 := congrArg v_iv f1
  have hK_0_43 := elq_76 hD hth cr_0_43
  have kz_0_32 := fdq_140 hD hth r0
  have nf0 : fc_1 PRD (20, [0, 4], [60, 1, 1, 155, 32, 43]) ws (vs) := ⟨nf_in hl rfl, sgq_641 (vc_Mo_missing_1_0 (v_iv (n_v vs 2)) (v_iv (n_v vs 3)) (v_iv (n_v vs 4)) (w_fi ws (n_v vs 0) 32) (w_ei ws (w_ar ws (n_v vs 0) 43)) k2 k3 k4 d0 (shm_2 f0) g1 f2 hK_0_43 kz_0_32)⟩
  refine ⟨(fun _ h => (by cases h)), [], trivial, ?_, (fun _ h => (by cases h))⟩
  rw [List.append_nil]
  exact List.forall_mem_cons.mpr ⟨⟨show (20 : Nat) < 100 from by decide, nf0⟩, (fun _ h => (by cases h))⟩
set_option maxHeartbeats 4000000 in
theorem vc_Mo_missing_2_0 (x2 : Int) (x3 : Int) (x5 : Int) (x6 : Int) (drawnEdge_0 : Int → Int) (pm_0 : Int) (k2 : 0 ≤ x2 ∧ x2 ≤ 79) (k3 : 1 ≤ x3 ∧ x3 ≤ 80) (k5 : 1 ≤ x5 ∧ x5 ≤ 1) (k6 : 1 ≤ x6 ∧ x6 ≤ 80) (d0 : x2 + 1 ≤ x6 ∧ x6 ≤ x2 + 1) (d1 : x3 + (-4294967296) ≤ x6 ∧ x6 ≤ x3 + 0) (d2 : x3 + (-4294967296) ≤ x2 ∧ x2 ≤ x3 + (-1)) (f0 : x6 = x2 + 1) (f1 : x5 ≠ 0) (h2 : x5 = drawnEdge_0 (x2)) (f4 : x2 < x3) (g5 : x3 = pm_0) (f6 : MIL (drawnEdge_0) (x2)) (hK_0_43 : ∀ j : Int, 0 ≤ j → j < 80 → 0 ≤ drawnEdge_0 j ∧ drawnEdge_0 j ≤ 1) (kz_0_32 : 0 ≤ pm_0 ∧ pm_0 ≤ 80) : MIL (drawnEdge_0) (x6) := by
  first
    | (intro e a b; exfalso; omega)
    | (have h := ‹MIL _ _›
       intro e a b
       by_cases q : e = x2
       · rw [q]; omega
       · exact h e a (by omega))
def o_Mo_missing_2 : or_T := (2, 7, [(0, (2, 0, 0, [165])), (2, (0, 0, 79, [])), (3, (0, 1, 80, [])), (5, (0, 1, 1, [])), (6, (0, 1, 80, []))], [(6, [6, 2], [1]), (8, [5], [1]), (10, [5, 4, 2], []), (9, [4, 1], [43]), (7, [2, 3], [2]), (9, [3, 1], [32]), (20, [1, 2], [60, 0, 1, 156, 43]), (24, [0, 1], [])], [], [], [(20, [1, 6], [60, 0, 1, 156, 43])], [], [(6, 2, 1, 1), (6, 3, -4294967296, 0), (2, 3, -4294967296, -1)])
theorem oo_Mo_missing_2 {kA : Nat → ClassId} : or_ok PRD kA GG o_Mo_missing_2 := by
  refine or_mk fun A ta ws vs hD hth hl => ?_
  intro t0 r0 t2 k2 t3 k3 t5 k5 t6 k6 d0 d1 d2 f0 f1 f2 f3 f4 f5 f6 f7
  replace f0 := shm_4 f0
  replace f1 := shm_142 f1
  replace f2 := shm_107 f2
  replace f3 := shm_532 f3
  replace f4 := shm_6 f4
  replace f5 := shm_525 f5
  replace f6 := shm_640 f6
  replace f7 := shm_5 f7
  have q1 : n_v vs 1 = n_v vs 0 := f7.symm
  simp only [q1] at f3 f5 f6
  have cr_0_43 := fdq_137 hD hth r0
  have ad_4 : v_ad (n_v vs 4) = w_ar ws (n_v vs 0) 43 := congrArg v_ad f3
  simp only [ad_4] at f2
  have h2 : v_iv (n_v vs 5) = w_ei ws (w_ar ws (n_v vs 0) 43) (v_iv (n_v vs 2)) := f2
  have g5 : v_iv (n_v vs 3) = w_fi ws (n_v vs 0) 32 := congrArg v_iv f5
  have hK_0_43 := elq_76 hD hth cr_0_43
  have kz_0_32 := fdq_140 hD hth r0
  have nf0 : fc_1 PRD (20, [1, 6], [60, 0, 1, 156, 43]) ws (vs) := by
    refine ⟨nf_in hl rfl, sgq_640 ?_⟩
    · show MIL (w_ei ws (w_ar ws (n_v vs 1) 43)) (v_iv (n_v vs 6))
      rw [q1]
      exact vc_Mo_missing_2_0 (v_iv (n_v vs 2)) (v_iv (n_v vs 3)) (v_iv (n_v vs 5)) (v_iv (n_v vs 6)) (w_ei ws (w_ar ws (n_v vs 0) 43)) (w_fi ws (n_v vs 0) 32) k2 k3 k5 k6 d0 d1 d2 f0 f1 h2 f4 g5 f6 hK_0_43 kz_0_32
  refine ⟨(fun _ h => (by cases h)), [], trivial, ?_, (fun _ h => (by cases h))⟩
  rw [List.append_nil]
  exact List.forall_mem_cons.mpr ⟨⟨show (20 : Nat) < 100 from by decide, nf0⟩, (fun _ h => (by cases h))⟩
set_option maxHeartbeats 4000000 in
theorem vc_Mo_missing_3_0 (x2 : Int) (x3 : Int) (x5 : Int) (x6 : Int) (drawnEdge_0 : Int → Int) (pm_0 : Int) (k2 : 0 ≤ x2 ∧ x2 ≤ 79) (k3 : 1 ≤ x3 ∧ x3 ≤ 80) (k5 : 0 ≤ x5 ∧ x5 ≤ 0) (k6 : 1 ≤ x6 ∧ x6 ≤ 1) (d0 : x3 + (-4294967296) ≤ x2 ∧ x2 ≤ x3 + (-1)) (f0 : x5 = 0) (h1 : x5 = drawnEdge_0 (x2)) (f3 : x2 < x3) (g4 : x3 = pm_0) (f5 : MIL (drawnEdge_0) (x2)) (hK_0_43 : ∀ j : Int, 0 ≤ j → j < 80 → 0 ≤ drawnEdge_0 j ∧ drawnEdge_0 j ≤ 1) (kz_0_32 : 0 ≤ pm_0 ∧ pm_0 ≤ 80) : MIS (pm_0) (drawnEdge_0) (x6) := by
  exact ⟨fun z => by exfalso; omega, fun _ => ⟨x2, by omega, by omega, by omega⟩⟩
def o_Mo_missing_3 : or_T := (20, 7, [(0, (2, 0, 0, [165])), (2, (0, 0, 79, [])), (3, (0, 1, 80, [])), (5, (0, 0, 0, [])), (6, (0, 1, 1, []))], [(8, [5], [0]), (10, [5, 4, 2], []), (9, [4, 1], [43]), (7, [2, 3], [2]), (9, [3, 1], [32]), (20, [1, 2], [60, 0, 1, 156, 43]), (24, [0, 1], [])], [], [], [(20, [0, 6], [60, 1, 1, 155, 32, 43])], [], [(2, 3, -4294967296, -1)])
theorem oo_Mo_missing_3 {kA : Nat → ClassId} : or_ok PRD kA GG o_Mo_missing_3 := by
  refine or_mk fun A ta ws vs hD hth hl => ?_
  intro t0 r0 t2 k2 t3 k3 t5 k5 t6 k6 d0 f0 f1 f2 f3 f4 f5 f6
  replace f1 := shm_107 f1
  replace f2 := shm_532 f2
  replace f4 := shm_525 f4
  replace f5 := shm_640 f5
  replace f6 := shm_5 f6
  have q1 : n_v vs 1 = n_v vs 0 := f6.symm
  simp only [q1] at f2 f4 f5
  have cr_0_43 := fdq_137 hD hth r0
  have ad_4 : v_ad (n_v vs 4) = w_ar ws (n_v vs 0) 43 := congrArg v_ad f2
  simp only [ad_4] at f1
  have h1 : v_iv (n_v vs 5) = w_ei ws (w_ar ws (n_v vs 0) 43) (v_iv (n_v vs 2)) := f1
  have g4 : v_iv (n_v vs 3) = w_fi ws (n_v vs 0) 32 := congrArg v_iv f4
  have hK_0_43 := elq_76 hD hth cr_0_43
  have kz_0_32 := fdq_140 hD hth r0
  have nf0 : fc_1 PRD (20, [0, 6], [60, 1, 1, 155, 32, 43]) ws (vs) := ⟨nf_in hl rfl, sgq_641 (vc_Mo_missing_3_0 (v_iv (n_v vs 2)) (v_iv (n_v vs 3)) (v_iv (n_v vs 5)) (v_iv (n_v vs 6)) (w_ei ws (w_ar ws (n_v vs 0) 43)) (w_fi ws (n_v vs 0) 32) k2 k3 k5 k6 d0 (shm_192 f0) h1 (shm_6 f3) g4 f5 hK_0_43 kz_0_32)⟩
  refine ⟨(fun _ h => (by cases h)), [], trivial, ?_, (fun _ h => (by cases h))⟩
  rw [List.append_nil]
  exact List.forall_mem_cons.mpr ⟨⟨show (20 : Nat) < 100 from by decide, nf0⟩, (fun _ h => (by cases h))⟩
def n_Mo_missing_an : List an_T := [(2, [(0, (2, 0, 0, [165])), (1, (0, 0, 80, []))], [], (0, 0), [(0, 0, 99998), (1, 2, 80), (0, 0, 100000)], [], [], [(2, 0, 0, [165])], 0, [], [(20, [1, 2], [60, 0, 1, 156, 43]), (24, [0, 1], [])])]
def t_Mo_missing_ct : ct_L := []
set_option maxRecDepth 100000 in
theorem c_Mo_missing {l : Launch} {D : va_G} {kA : Nat → ClassId} : ct_ok PRD l D kA GG y_Mo_missing z_Mo_missing e_Mo_missing := chk_all_ok (FT := [(84, 13, 43), (597, 13, 32)]) (PT := []) (CT := t_Mo_missing_ct) (KT := []) (NT := []) (AN := n_Mo_missing_an) (OT := [o_Mo_missing_0, o_Mo_missing_1, o_Mo_missing_2, o_Mo_missing_3]) 3 200 (List.forall_mem_cons.mpr ⟨oo_Mo_missing_0, List.forall_mem_cons.mpr ⟨oo_Mo_missing_1, List.forall_mem_cons.mpr ⟨oo_Mo_missing_2, List.forall_mem_cons.mpr ⟨oo_Mo_missing_3, List.forall_mem_nil _⟩⟩⟩⟩) (by decide +kernel) ⟨List.forall_mem_cons.mpr ⟨gf_Mo_84, List.forall_mem_cons.mpr ⟨gf_Mo_597, List.forall_mem_nil _⟩⟩, List.forall_mem_nil _, List.forall_mem_nil _, List.forall_mem_nil _, List.forall_mem_nil _, GG_pl⟩ (by decide +kernel)
set_option maxHeartbeats 4000000 in
theorem vc_Mo_move_0_0 (x1 : Int) (x2 : Int) (x3 : Int) (x4 : Int) (x5 : Int) (nx_0 : Int → Int) (ny_0 : Int → Int) (order_0 : Int → Int) (pn_0 : Int) (k1 : 0 ≤ x1 ∧ x1 ≤ 33554431) (k2 : 1 ≤ x2 ∧ x2 ≤ 2) (k3 : 3 ≤ x3 ∧ x3 ≤ 24) (k4 : 0 ≤ x4 ∧ x4 ≤ 30) (k5 : 0 ≤ x5 ∧ x5 ≤ 0) (f0 : MVA (pn_0) (nx_0) (ny_0) (order_0) (x1) (x3) (x4)) (f1 : ORN4 (pn_0) (order_0)) (f2 : x3 ≤ pn_0) (f3 : (1 ≤ x2) ∧ (x2 ≤ 2)) (hK_0_74 : ∀ j : Int, 0 ≤ j → j < 100 → (-300000000) ≤ nx_0 j ∧ nx_0 j ≤ 300000000) (hK_0_75 : ∀ j : Int, 0 ≤ j → j < 100 → (-300000000) ≤ ny_0 j ∧ ny_0 j ≤ 300000000) (hK_0_96 : ∀ j : Int, 0 ≤ j → j < 26 → 0 ≤ order_0 j ∧ order_0 j ≤ 25) (kz_0_31 : 0 ≤ pn_0 ∧ pn_0 ≤ 25) : MVI (pn_0) (nx_0) (ny_0) (order_0) (x1) (x3) (x4) (x5) := by
  first
    | exact mvi_start ‹MVA _ _ _ _ _ _ _› (by omega)
    | exact mvi_step (b := x14) (u := x11) (v := x15) (w := x16) (d := x7) ‹MVI _ _ _ _ _ _ _ _› (by omega) (by omega) (by omega) (by omega) (by omega) (fun e => (bit_shr (by assumption) (by omega)).1 ((bit_and (by assumption) 0).1 ((bit_01 (by omega) (by omega)).2 e)).1) (by assumption) (by omega) (by omega) (by assumption) (by omega) (by assumption) (by omega) (fun j a b => (‹ORN4 _ _› j a (by omega)).1)
  
def o_Mo_move_0 : or_T := (2, 6, [(0, (2, 0, 0, [165])), (1, (0, 0, 33554431, [])), (2, (0, 1, 2, [])), (3, (0, 3, 24, [])), (4, (0, 0, 30, [])), (5, (0, 0, 0, []))], [(20, [0, 1, 3, 4], [60, 1, 3, 832, 31, 74, 75, 96]), (20, [0], [60, 1, 1, 835, 31, 96]), (20, [3, 0], [50, 1, 0, 1031, 0, 2, 1, 0, 2, 1, 31]), (20, [2], [50, 0, 0, 2, 6, 0, 2, 0, 1, 1, 0, 0, 2, 1, 0, 0, 2])], [], [], [(20, [0, 1, 3, 4, 5], [60, 1, 3, 834, 31, 74, 75, 96]), (24, [0, 0], [])], [], [])
theorem oo_Mo_move_0 {kA : Nat → ClassId} : or_ok PRD kA GG o_Mo_move_0 := by
  refine or_mk fun A ta ws vs hD hth hl => ?_
  intro t0 r0 t1 k1 t2 k2 t3 k3 t4 k4 t5 k5 f0 f1 f2 f3
  have cr_0_74 := fdq_164 hD hth r0
  have cr_0_75 := fdq_165 hD hth r0
  have cr_0_96 := fdq_166 hD hth r0
  have hK_0_74 := elq_94 hD hth cr_0_74
  have hK_0_75 := elq_95 hD hth cr_0_75
  have hK_0_96 := elq_96 hD hth cr_0_96
  have kz_0_31 := fdq_145 hD hth r0
  have nf0 : fc_1 PRD (20, [0, 1, 3, 4, 5], [60, 1, 3, 834, 31, 74, 75, 96]) ws (vs) := ⟨nf_in hl rfl, sgq_645 (vc_Mo_move_0_0 (v_iv (n_v vs 1)) (v_iv (n_v vs 2)) (v_iv (n_v vs 3)) (v_iv (n_v vs 4)) (v_iv (n_v vs 5)) (w_ei ws (w_ar ws (n_v vs 0) 74)) (w_ei ws (w_ar ws (n_v vs 0) 75)) (w_ei ws (w_ar ws (n_v vs 0) 96)) (w_fi ws (n_v vs 0) 31) k1 k2 k3 k4 k5 (shm_642 f0) (shm_643 f1) (shm_644 f2) (shm_432 f3) hK_0_74 hK_0_75 hK_0_96 kz_0_31)⟩
  have nf1 : fc_1 PRD (24, [0, 0], []) ws (vs) := by
    refine ⟨nf_in hl rfl, sgq_1 ?_⟩
    · show n_v vs 0 = n_v vs 0
      first | rfl | simp only [true_and]
  refine ⟨(fun _ h => (by cases h)), [], trivial, ?_, (fun _ h => (by cases h))⟩
  rw [List.append_nil]
  exact List.forall_mem_cons.mpr ⟨⟨show (20 : Nat) < 100 from by decide, nf0⟩, List.forall_mem_cons.mpr ⟨⟨show (24 : Nat) < 100 from by decide, nf1⟩, (fun _ h => (by cases h))⟩⟩
set_option maxHeartbeats 4000000 in
theorem vc_Mo_move_1_0 (x3 : Int) (x4 : Int) (x6 : Int) (x7 : Int) (x8 : Int) (x9 : Int) (pn_0 : Int) (nx_0 : Int → Int) (ny_0 : Int → Int) (order_0 : Int → Int) (k3 : 3 ≤ x3 ∧ x3 ≤ 24) (k4 : 0 ≤ x4 ∧ x4 ≤ 30) (k6 : 0 ≤ x6 ∧ x6 ≤ 33554431) (k7 : 1 ≤ x7 ∧ x7 ≤ 2) (k8 : 0 ≤ x8 ∧ x8 ≤ 25) (k9 : 0 ≤ x9 ∧ x9 ≤ 25) (d0 : x9 + 0 ≤ x8 ∧ x8 ≤ x9 + 4294967296) (f0 : x9 ≤ x8) (g1 : x9 = pn_0) (f2 : MVI (pn_0) (nx_0) (ny_0) (order_0) (x6) (x3) (x4) (x8)) (f3 : ORN4 (pn_0) (order_0)) (f4 : x3 ≤ pn_0) (f5 : (1 ≤ x7) ∧ (x7 ≤ 2)) (hK_0_74 : ∀ j : Int, 0 ≤ j → j < 100 → (-300000000) ≤ nx_0 j ∧ nx_0 j ≤ 300000000) (hK_0_75 : ∀ j : Int, 0 ≤ j → j < 100 → (-300000000) ≤ ny_0 j ∧ ny_0 j ≤ 300000000) (hK_0_96 : ∀ j : Int, 0 ≤ j → j < 26 → 0 ≤ order_0 j ∧ order_0 j ≤ 25) (kz_0_31 : 0 ≤ pn_0 ∧ pn_0 ≤ 25) : MVB (pn_0) (nx_0) (ny_0) (order_0) (x3) (x4) := by
  exact mvi_end ‹MVI _ _ _ _ _ _ _ _› (by omega)
def o_Mo_move_1 : or_T := (32, 10, [(0, (2, 0, 0, [165])), (3, (0, 3, 24, [])), (4, (0, 0, 30, [])), (6, (0, 0, 33554431, [])), (7, (0, 1, 2, [])), (8, (0, 0, 25, [])), (9, (0, 0, 25, []))], [(7, [8, 9], [3]), (9, [9, 5], [31]), (20, [5, 6, 3, 4, 8], [60, 1, 3, 834, 31, 74, 75, 96]), (20, [5], [60, 1, 1, 835, 31, 96]), (20, [3, 5], [50, 1, 0, 1031, 0, 2, 1, 0, 2, 1, 31]), (20, [7], [50, 0, 0, 2, 6, 0, 2, 0, 1, 1, 0, 0, 2, 1, 0, 0, 2]), (24, [0, 5], [])], [], [], [(20, [0, 3, 4], [60, 1, 3, 833, 31, 74, 75, 96])], [], [(8, 9, 0, 4294967296)])
theorem oo_Mo_move_1 {kA : Nat → ClassId} : or_ok PRD kA GG o_Mo_move_1 := by
  refine or_mk fun A ta ws vs hD hth hl => ?_
  intro t0 r0 t3 k3 t4 k4 t6 k6 t7 k7 t8 k8 t9 k9 d0 f0 f1 f2 f3 f4 f5 f6
  replace f1 := shm_577 f1
  replace f2 := shm_645 f2
  replace f3 := shm_643 f3
  replace f4 := shm_644 f4
  replace f6 := shm_5 f6
  have q5 : n_v vs 5 = n_v vs 0 := f6.symm
  simp only [q5] at f1 f2 f3 f4
  have cr_0_74 := fdq_164 hD hth r0
  have cr_0_75 := fdq_165 hD hth r0
  have cr_0_96 := fdq_166 hD hth r0
  have g1 : v_iv (n_v vs 9) = w_fi ws (n_v vs 0) 31 := congrArg v_iv f1
  have hK_0_74 := elq_94 hD hth cr_0_74
  have hK_0_75 := elq_95 hD hth cr_0_75
  have hK_0_96 := elq_96 hD hth cr_0_96
  have kz_0_31 := fdq_145 hD hth r0
  have nf0 : fc_1 PRD (20, [0, 3, 4], [60, 1, 3, 833, 31, 74, 75, 96]) ws (vs) := ⟨nf_in hl rfl, sgq_646 (vc_Mo_move_1_0 (v_iv (n_v vs 3)) (v_iv (n_v vs 4)) (v_iv (n_v vs 6)) (v_iv (n_v vs 7)) (v_iv (n_v vs 8)) (v_iv (n_v vs 9)) (w_fi ws (n_v vs 0) 31) (w_ei ws (w_ar ws (n_v vs 0) 74)) (w_ei ws (w_ar ws (n_v vs 0) 75)) (w_ei ws (w_ar ws (n_v vs 0) 96)) k3 k4 k6 k7 k8 k9 d0 (shm_2 f0) g1 f2 f3 f4 (shm_432 f5) hK_0_74 hK_0_75 hK_0_96 kz_0_31)⟩
  refine ⟨(fun _ h => (by cases h)), [], trivial, ?_, (fun _ h => (by cases h))⟩
  rw [List.append_nil]
  exact List.forall_mem_cons.mpr ⟨⟨show (20 : Nat) < 100 from by decide, nf0⟩, (fun _ h => (by cases h))⟩
set_option maxHeartbeats 4000000 in
theorem vc_Mo_move_2_r0 (x3 : Int) (x4 : Int) (x6 : Int) (x7 : Int) (x8 : Int) (x9 : Int) (x11 : Int) (x12 : Int) (x13 : Int) (x14 : Int) (x15 : Int) (x16 : Int) (nx_0 : Int → Int) (pn_0 : Int) (ny_0 : Int → Int) (order_0 : Int → Int) (k3 : 3 ≤ x3 ∧ x3 ≤ 24) (k4 : 0 ≤ x4 ∧ x4 ≤ 30) (k6 : 0 ≤ x6 ∧ x6 ≤ 33554431) (k7 : 1 ≤ x7 ∧ x7 ≤ 2) (k8 : 0 ≤ x8 ∧ x8 ≤ 24) (k9 : 1 ≤ x9 ∧ x9 ≤ 25) (k11 : (-300000000) ≤ x11 ∧ x11 ≤ 300000000) (k12 : 0 ≤ x12 ∧ x12 ≤ 33554431) (k13 : 1 ≤ x13 ∧ x13 ≤ 1) (k14 : 0 ≤ x14 ∧ x14 ≤ 1) (k15 : 0 ≤ x15 ∧ x15 ≤ 2) (k16 : (-300000000) ≤ x16 ∧ x16 ≤ 300000002) (d0 : x15 + (-300000000) ≤ x16 ∧ x16 ≤ x15 + 300000000) (d1 : x11 + 0 ≤ x16 ∧ x16 ≤ x11 + 2) (d2 : x9 + (-4294967296) ≤ x8 ∧ x8 ≤ x9 + (-1)) (f0 : x16 = x11 + x15) (f1 : x15 = x14 * x7) (f2 : x14 = x12 % 2) (f3 : bvp (x14) = bvp (x12) &&& bvp (x13)) (f4 : bvp (x12) = bvp (x6) >>> (x8).toNat) (h5 : x11 = nx_0 (x8)) (f7 : x8 < x9) (g8 : x9 = pn_0) (f9 : MVI (pn_0) (nx_0) (ny_0) (order_0) (x6) (x3) (x4) (x8)) (f10 : ORN4 (pn_0) (order_0)) (f11 : x3 ≤ pn_0) (f12 : (1 ≤ x7) ∧ (x7 ≤ 2)) (hK_0_74 : ∀ j : Int, 0 ≤ j → j < 100 → (-300000000) ≤ nx_0 j ∧ nx_0 j ≤ 300000000) (hK_0_75 : ∀ j : Int, 0 ≤ j → j < 100 → (-300000000) ≤ ny_0 j ∧ ny_0 j ≤ 300000000) (hK_0_96 : ∀ j : Int, 0 ≤ j → j < 26 → 0 ≤ order_0 j ∧ order_0 j ≤ 25) (kz_0_31 : 0 ≤ pn_0 ∧ pn_0 ≤ 25) : (-300000000) ≤ x16 ∧ x16 ≤ 300000000 := by
  have v := mvi_val (b := x14) (u := x11) (v := x15) (d := x7) ‹MVI _ _ _ _ _ _ _ _› (by omega) (by omega) (by omega) (by omega) (fun e => (bit_shr (by assumption) (by omega)).1 ((bit_and (by assumption) 0).1 ((bit_01 (by omega) (by omega)).2 e)).1) (by assumption) (by assumption)
  rcases v with v | ⟨v, w⟩
  · omega
  · unfold sml at w
    rw [← ‹x11 = nx_0 x8›] at w
    omega
def o_Mo_move_2 : or_T := (25, 17, [(0, (2, 0, 0, [165])), (3, (0, 3, 24, [])), (4, (0, 0, 30, [])), (5, (2, 0, 0, [165])), (6, (0, 0, 33554431, [])), (7, (0, 1, 2, [])), (8, (0, 0, 24, [])), (9, (0, 1, 25, [])), (10, (2, 0, 0, [214])), (11, (0, -300000000, 300000000, [])), (12, (0, 0, 33554431, [])), (13, (0, 1, 1, [])), (14, (0, 0, 1, [])), (15, (0, 0, 2, [])), (16, (0, -300000000, 300000002, []))], [(1, [16, 11, 15], []), (3, [15, 14, 7], []), (12, [14, 12], [2]), (16, [14, 12, 13], [0]), (16, [12, 6, 8], [4]), (10, [11, 10, 8], []), (9, [10, 5], [74]), (7, [8, 9], [2]), (9, [9, 5], [31]), (20, [5, 6, 3, 4, 8], [60, 1, 3, 834, 31, 74, 75, 96]), (20, [5], [60, 1, 1, 835, 31, 96]), (20, [3, 5], [50, 1, 0, 1031, 0, 2, 1, 0, 2, 1, 31]), (20, [7], [50, 0, 0, 2, 6, 0, 2, 0, 1, 1, 0, 0, 2, 1, 0, 0, 2]), (24, [0, 5], [])], [(16, (0, -300000000, 300000000, []))], [], [], [], [(16, 15, -300000000, 300000000), (16, 11, 0, 2), (8, 9, -4294967296, -1)])
theorem oo_Mo_move_2 {kA : Nat → ClassId} : or_ok PRD kA GG o_Mo_move_2 := by
  refine or_mk fun A ta ws vs hD hth hl => ?_
  intro t0 r0 t3 k3 t4 k4 t5 r5 t6 k6 t7 k7 t8 k8 t9 k9 t10 r10 t11 k11 t12 k12 t13 k13 t14 k14 t15 k15 t16 k16 d0 d1 d2 f0 f1 f2 f3 f4 f5 f6 f7 f8 f9 f10 f11 f12 f13
  replace f5 := shm_107 f5
  replace f6 := shm_647 f6
  replace f8 := shm_577 f8
  replace f9 := shm_645 f9
  replace f10 := shm_643 f10
  replace f11 := shm_644 f11
  replace f13 := shm_5 f13
  have q5 : n_v vs 5 = n_v vs 0 := f13.symm
  simp only [q5] at f6 f8 f9 f10 f11
  have cr_0_74 := fdq_164 hD hth r0
  have cr_0_75 := fdq_165 hD hth r0
  have cr_0_96 := fdq_166 hD hth r0
  have ad_10 : v_ad (n_v vs 10) = w_ar ws (n_v vs 0) 74 := congrArg v_ad f6
  simp only [ad_10] at f5
  have h5 : v_iv (n_v vs 11) = w_ei ws (w_ar ws (n_v vs 0) 74) (v_iv (n_v vs 8)) := f5
  have g8 : v_iv (n_v vs 9) = w_fi ws (n_v vs 0) 31 := congrArg v_iv f8
  have hK_0_74 := elq_94 hD hth cr_0_74
  have hK_0_75 := elq_95 hD hth cr_0_75
  have hK_0_96 := elq_96 hD hth cr_0_96
  have kz_0_31 := fdq_145 hD hth r0
  have hrf0 : (-300000000) ≤ v_iv (n_v vs 16) ∧ v_iv (n_v vs 16) ≤ 300000000 := vc_Mo_move_2_r0 (v_iv (n_v vs 3)) (v_iv (n_v vs 4)) (v_iv (n_v vs 6)) (v_iv (n_v vs 7)) (v_iv (n_v vs 8)) (v_iv (n_v vs 9)) (v_iv (n_v vs 11)) (v_iv (n_v vs 12)) (v_iv (n_v vs 13)) (v_iv (n_v vs 14)) (v_iv (n_v vs 15)) (v_iv (n_v vs 16)) (w_ei ws (w_ar ws (n_v vs 0) 74)) (w_fi ws (n_v vs 0) 31) (w_ei ws (w_ar ws (n_v vs 0) 75)) (w_ei ws (w_ar ws (n_v vs 0) 96)) k3 k4 k6 k7 k8 k9 k11 k12 k13 k14 k15 k16 d0 d1 d2 (shm_12 f0) (shm_38 f1) (shm_364 f2) (shm_11 f3) (shm_13 f4) h5 (shm_6 f7) g8 f9 f10 f11 (shm_432 f12) hK_0_74 hK_0_75 hK_0_96 kz_0_31
  have rf16 : tv_ok ta (0, -300000000, 300000000, []) (n_v vs 16) := tv_in t16 (by first | omega | grind) (by first | omega | grind)
  refine ⟨List.forall_mem_cons.mpr ⟨rf16, (fun _ h => (by cases h))⟩, [], trivial, ?_, (fun _ h => (by cases h))⟩
  rw [List.append_nil]
  exact (fun _ h => (by cases h))
set_option maxHeartbeats 4000000 in
theorem vc_Mo_move_3_0 (x3 : Int) (x4 : Int) (x6 : Int) (x7 : Int) (x8 : Int) (x9 : Int) (x11 : Int) (x12 : Int) (x13 : Int) (x14 : Int) (x15 : Int) (x16 : Int) (x17 : Int) (order_0 : Int → Int) (pn_0 : Int) (nx_1 : Int → Int) (pn_1 : Int) (ny_1 : Int → Int) (order_1 : Int → Int) (nx_0 : Int → Int) (ny_0 : Int → Int) (k3 : 3 ≤ x3 ∧ x3 ≤ 24) (k4 : 0 ≤ x4 ∧ x4 ≤ 30) (k6 : 0 ≤ x6 ∧ x6 ≤ 33554431) (k7 : 1 ≤ x7 ∧ x7 ≤ 2) (k8 : 0 ≤ x8 ∧ x8 ≤ 24) (k9 : 1 ≤ x9 ∧ x9 ≤ 25) (k11 : (-300000000) ≤ x11 ∧ x11 ≤ 300000000) (k12 : 0 ≤ x12 ∧ x12 ≤ 33554431) (k13 : 1 ≤ x13 ∧ x13 ≤ 1) (k14 : 0 ≤ x14 ∧ x14 ≤ 1) (k15 : 0 ≤ x15 ∧ x15 ≤ 2) (k16 : (-300000000) ≤ x16 ∧ x16 ≤ 300000000) (k17 : 1 ≤ x17 ∧ x17 ≤ 25) (d0 : x8 + 1 ≤ x17 ∧ x17 ≤ x8 + 1) (d1 : x9 + (-4294967296) ≤ x17 ∧ x17 ≤ x9 + 0) (d2 : x15 + (-300000000) ≤ x16 ∧ x16 ≤ x15 + 300000000) (d3 : x11 + 0 ≤ x16 ∧ x16 ≤ x11 + 2) (d4 : x9 + (-4294967296) ≤ x8 ∧ x8 ≤ x9 + (-1)) (f0 : x17 = x8 + 1) (f1 : ORN4 (pn_0) (order_0)) (f2 : x3 ≤ pn_0) (f3 : (1 ≤ x7) ∧ (x7 ≤ 2)) (f6 : x16 = x11 + x15) (f7 : x15 = x14 * x7) (f8 : x14 = x12 % 2) (f9 : bvp (x14) = bvp (x12) &&& bvp (x13)) (f10 : bvp (x12) = bvp (x6) >>> (x8).toNat) (h11 : x11 = nx_1 (x8)) (f13 : x8 < x9) (g14 : x9 = pn_1) (f15 : MVI (pn_1) (nx_1) (ny_1) (order_1) (x6) (x3) (x4) (x8)) (f16 : ORN4 (pn_1) (order_1)) (f17 : x3 ≤ pn_1) (f18 : (1 ≤ x7) ∧ (x7 ≤ 2)) (fe_0_31_1 : pn_0 = pn_1) (hE_0_74_1 : ∀ j : Int, 0 ≤ j → (j = x8 → nx_0 j = x16) ∧ (j ≠ x8 → nx_0 j = nx_1 j)) (hK_0_74 : ∀ j : Int, 0 ≤ j → j < 100 → (-300000000) ≤ nx_0 j ∧ nx_0 j ≤ 300000000) (hE_0_75_1 : ∀ j : Int, ny_0 j = ny_1 j) (hK_0_75 : ∀ j : Int, 0 ≤ j → j < 100 → (-300000000) ≤ ny_0 j ∧ ny_0 j ≤ 300000000) (hE_0_96_1 : ∀ j : Int, order_0 j = order_1 j) (hK_0_96 : ∀ j : Int, 0 ≤ j → j < 26 → 0 ≤ order_0 j ∧ order_0 j ≤ 25) (kz_0_31 : 0 ≤ pn_0 ∧ pn_0 ≤ 25) : MVI (pn_0) (nx_0) (ny_0) (order_0) (x6) (x3) (x4) (x17) := by
  subst fe_0_31_1
  have e_hE_0_75_1 := funext hE_0_75_1; subst e_hE_0_75_1
  have e_hE_0_96_1 := funext hE_0_96_1; subst e_hE_0_96_1
  first
    | exact mvi_start ‹MVA _ _ _ _ _ _ _› (by omega)
    | exact mvi_step (b := x14) (u := x11) (v := x15) (w := x16) (d := x7) ‹MVI _ _ _ _ _ _ _ _› (by omega) (by omega) (by omega) (by omega) (by omega) (fun e => (bit_shr (by assumption) (by omega)).1 ((bit_and (by assumption) 0).1 ((bit_01 (by omega) (by omega)).2 e)).1) (by assumption) (by omega) (by omega) (by assumption) (by omega) (by assumption) (by omega) (fun j a b => (‹ORN4 _ _› j a (by omega)).1)
  
def o_Mo_move_3 : or_T := (2, 18, [(0, (2, 0, 0, [165])), (3, (0, 3, 24, [])), (4, (0, 0, 30, [])), (6, (0, 0, 33554431, [])), (7, (0, 1, 2, [])), (8, (0, 0, 24, [])), (9, (0, 1, 25, [])), (10, (2, 0, 0, [214])), (11, (0, -300000000, 300000000, [])), (12, (0, 0, 33554431, [])), (13, (0, 1, 1, [])), (14, (0, 0, 1, [])), (15, (0, 0, 2, [])), (16, (0, -300000000, 300000000, [])), (17, (0, 1, 25, []))], [(6, [17, 8], [1]), (20, [5], [60, 1, 1, 835, 31, 96]), (20, [3, 5], [50, 1, 0, 1031, 0, 2, 1, 0, 2, 1, 31]), (20, [7], [50, 0, 0, 2, 6, 0, 2, 0, 1, 1, 0, 0, 2, 1, 0, 0, 2]), (24, [0, 5], []), (100, [10, 8, 16], []), (1, [16, 11, 15], []), (3, [15, 14, 7], []), (12, [14, 12], [2]), (16, [14, 12, 13], [0]), (16, [12, 6, 8], [4]), (10, [11, 10, 8], []), (9, [10, 5], [74]), (7, [8, 9], [2]), (9, [9, 5], [31]), (20, [5, 6, 3, 4, 8], [60, 1, 3, 834, 31, 74, 75, 96]), (20, [5], [60, 1, 1, 835, 31, 96]), (20, [3, 5], [50, 1, 0, 1031, 0, 2, 1, 0, 2, 1, 31]), (20, [7], [50, 0, 0, 2, 6, 0, 2, 0, 1, 1, 0, 0, 2, 1, 0, 0, 2])], [], [], [(20, [5, 6, 3, 4, 17], [60, 1, 3, 834, 31, 74, 75, 96])], [], [(17, 8, 1, 1), (17, 9, -4294967296, 0), (16, 15, -300000000, 300000000), (16, 11, 0, 2), (8, 9, -4294967296, -1)])
theorem oo_Mo_move_3 {kA : Nat → ClassId} : or_ok PRD kA GG o_Mo_move_3 := by
  refine or_mk fun A ta ws vs hD hth hl => ?_
  intro t0 r0 t3 k3 t4 k4 t6 k6 t7 k7 t8 k8 t9 k9 t10 r10 t11 k11 t12 k12 t13 k13 t14 k14 t15 k15 t16 k16 t17 k17 d0 d1 d2 d3 d4 f0 f1 f2 f3 f4 ta1 w1 le1 s1 f6 f7 f8 f9 f10 f11 f12 f13 f14 f15 f16 f17 f18
  replace f0 := shm_4 f0
  replace f1 := shm_643 f1
  replace f2 := shm_644 f2
  replace f3 := shm_432 f3
  replace f4 := shm_5 f4
  have s1 : (∀ b j, w_el ws b j = if b = v_ad (n_v vs 10) ∧ j = (v_iv (n_v vs 8)).toNat then v_iv (n_v vs 16) else w_el w1 b j) ∧ ∀ b k, w_fd ws b k = w_fd w1 b k := s1.2
  replace f6 := shm_12 f6
  replace f7 := shm_38 f7
  replace f8 := shm_364 f8
  replace f9 := shm_11 f9
  replace f10 := shm_13 f10
  replace f11 := shm_107 f11
  replace f12 := shm_647 f12
  replace f13 := shm_6 f13
  replace f14 := shm_577 f14
  replace f15 := shm_645 f15
  replace f16 := shm_643 f16
  replace f17 := shm_644 f17
  replace f18 := shm_432 f18
  have q5 : n_v vs 5 = n_v vs 0 := f4.symm
  simp only [q5] at f1 f2 f12 f14 f15 f16 f17
  have ar_0_74_1 : w_ar w1 (n_v vs 0) 74 = w_ar ws (n_v vs 0) 74 := congrArg v_ad (s1.2 _ _).symm
  have cr_0_74 := fdq_164 hD hth r0
  have ar_0_75_1 : w_ar w1 (n_v vs 0) 75 = w_ar ws (n_v vs 0) 75 := congrArg v_ad (s1.2 _ _).symm
  have cr_0_75 := fdq_165 hD hth r0
  have ar_0_96_1 : w_ar w1 (n_v vs 0) 96 = w_ar ws (n_v vs 0) 96 := congrArg v_ad (s1.2 _ _).symm
  have cr_0_96 := fdq_166 hD hth r0
  have ad_10 : v_ad (n_v vs 10) = w_ar ws (n_v vs 0) 74 := (congrArg v_ad f12).trans ar_0_74_1
  simp only [ad_10] at f11
  have h11 : v_iv (n_v vs 11) = w_ei w1 (w_ar ws (n_v vs 0) 74) (v_iv (n_v vs 8)) := f11
  have g14 : v_iv (n_v vs 9) = w_fi w1 (n_v vs 0) 31 := congrArg v_iv f14
  simp only [ar_0_74_1, ar_0_75_1, ar_0_96_1] at f15 f16
  have fe_0_31_1 : w_fi ws (n_v vs 0) 31 = w_fi w1 (n_v vs 0) 31 := congrArg v_iv (s1.2 _ _)
  have hE_0_74_1 : ∀ j : Int, 0 ≤ j → (j = v_iv (n_v vs 8) → w_ei ws (w_ar ws (n_v vs 0) 74) j = v_iv (n_v vs 16)) ∧ (j ≠ v_iv (n_v vs 8) → w_ei ws (w_ar ws (n_v vs 0) 74) j = w_ei w1 (w_ar ws (n_v vs 0) 74) j) := fun j hj => ⟨fun h => by unfold w_ei; rw [s1.1, if_pos ⟨ad_10.symm, by rw [h]⟩], fun h => by unfold w_ei; rw [s1.1, if_neg (fun e => h (by have := e.2; omega))]⟩
  have hK_0_74 := elq_94 hD hth cr_0_74
  have hE_0_75_1 : ∀ j : Int, w_ei ws (w_ar ws (n_v vs 0) 75) j = w_ei w1 (w_ar ws (n_v vs 0) 75) j := el_kp s1.1 r10 cr_0_75 (by decide)
  have hK_0_75 := elq_95 hD hth cr_0_75
  have hE_0_96_1 : ∀ j : Int, w_ei ws (w_ar ws (n_v vs 0) 96) j = w_ei w1 (w_ar ws (n_v vs 0) 96) j := el_kp s1.1 r10 cr_0_96 (by decide)
  have hK_0_96 := elq_96 hD hth cr_0_96
  have kz_0_31 := fdq_145 hD hth r0
  have nf0 : fc_1 PRD (20, [5, 6, 3, 4, 17], [60, 1, 3, 834, 31, 74, 75, 96]) ws (vs) := by
    refine ⟨nf_in hl rfl, sgq_645 ?_⟩
    · show MVI (w_fi ws (n_v vs 5) 31) (w_ei ws (w_ar ws (n_v vs 5) 74)) (w_ei ws (w_ar ws (n_v vs 5) 75)) (w_ei ws (w_ar ws (n_v vs 5) 96)) (v_iv (n_v vs 6)) (v_iv (n_v vs 3)) (v_iv (n_v vs 4)) (v_iv (n_v vs 17))
      rw [q5]
      exact vc_Mo_move_3_0 (v_iv (n_v vs 3)) (v_iv (n_v vs 4)) (v_iv (n_v vs 6)) (v_iv (n_v vs 7)) (v_iv (n_v vs 8)) (v_iv (n_v vs 9)) (v_iv (n_v vs 11)) (v_iv (n_v vs 12)) (v_iv (n_v vs 13)) (v_iv (n_v vs 14)) (v_iv (n_v vs 15)) (v_iv (n_v vs 16)) (v_iv (n_v vs 17)) (w_ei ws (w_ar ws (n_v vs 0) 96)) (w_fi ws (n_v vs 0) 31) (w_ei w1 (w_ar ws (n_v vs 0) 74)) (w_fi w1 (n_v vs 0) 31) (w_ei w1 (w_ar ws (n_v vs 0) 75)) (w_ei w1 (w_ar ws (n_v vs 0) 96)) (w_ei ws (w_ar ws (n_v vs 0) 74)) (w_ei ws (w_ar ws (n_v vs 0) 75)) k3 k4 k6 k7 k8 k9 k11 k12 k13 k14 k15 k16 k17 d0 d1 d2 d3 d4 f0 f1 f2 f3 f6 f7 f8 f9 f10 h11 f13 g14 f15 f16 f17 f18 fe_0_31_1 hE_0_74_1 hK_0_74 hE_0_75_1 hK_0_75 hE_0_96_1 hK_0_96 kz_0_31
  refine ⟨(fun _ h => (by cases h)), [], trivial, ?_, (fun _ h => (by cases h))⟩
  rw [List.append_nil]
  exact List.forall_mem_cons.mpr ⟨⟨show (20 : Nat) < 100 from by decide, nf0⟩, (fun _ h => (by cases h))⟩
def n_Mo_move_an : List an_T := [(2, [(0, (2, 0, 0, [165])), (1, (0, 0, 33554431, [])), (2, (0, 1, 2, [])), (3, (0, 0, 25, []))], [], (0, 0), [(0, 0, 99998), (1, 8, 25), (0, 0, 100000)], [(1, 6, (Int.negSucc 999999999999), 0), (2, 7, (Int.negSucc 999999999999), 0), (6, 1, (Int.negSucc 999999999999), 0), (7, 2, (Int.negSucc 999999999999), 0)], [], [(2, 0, 0, [165]), (0, 0, 33554431, []), (0, 1, 2, []), (0, 3, 24, []), (0, 0, 30, [])], 0, [], [(20, [5, 6, 3, 4, 8], [60, 1, 3, 834, 31, 74, 75, 96]), (20, [5], [60, 1, 1, 835, 31, 96]), (20, [3, 5], [50, 1, 0, 1031, 0, 2, 1, 0, 2, 1, 31]), (20, [7], [50, 0, 0, 2, 6, 0, 2, 0, 1, 1, 0, 0, 2, 1, 0, 0, 2]), (24, [0, 5], [])])]
def t_Mo_move_ct : ct_L := []
set_option maxRecDepth 100000 in
theorem c_Mo_move {l : Launch} {D : va_G} {kA : Nat → ClassId} : ct_ok PRD l D kA GG y_Mo_move z_Mo_move e_Mo_move := chk_all_ok (FT := [(159, 13, 74), (594, 13, 31)]) (PT := []) (CT := t_Mo_move_ct) (KT := []) (NT := []) (AN := n_Mo_move_an) (OT := [o_Mo_move_0, o_Mo_move_1, o_Mo_move_2, o_Mo_move_3]) 3 200 (List.forall_mem_cons.mpr ⟨oo_Mo_move_0, List.forall_mem_cons.mpr ⟨oo_Mo_move_1, List.forall_mem_cons.mpr ⟨oo_Mo_move_2, List.forall_mem_cons.mpr ⟨oo_Mo_move_3, List.forall_mem_nil _⟩⟩⟩⟩) (by decide +kernel) ⟨List.forall_mem_cons.mpr ⟨gf_Mo_159, List.forall_mem_cons.mpr ⟨gf_Mo_594, List.forall_mem_nil _⟩⟩, List.forall_mem_nil _, List.forall_mem_nil _, List.forall_mem_nil _, List.forall_mem_nil _, GG_pl⟩ (by decide +kernel)
set_option maxHeartbeats 4000000 in
theorem vc_Mo_newLine_at_g1_0_r0 (x1 : Int) (x2 : Int) (x3 : Int) (x4 : Int) (pm_0 : Int) (pt_0 : Int → Int) (ph_0 : Int → Int) (alive_0 : Int → Int) (rotMany_0 : Int → Int) (rot_0 : Int → Int) (pn_0 : Int) (k1 : 0 ≤ x1 ∧ x1 ≤ 0) (k2 : 0 ≤ x2 ∧ x2 ≤ 24) (k3 : 0 ≤ x3 ∧ x3 ≤ 80) (k4 : (-2) ≤ x4 ∧ x4 ≤ 25) (g0 : x3 = pm_0) (f2 : pm_0 ≤ 79) (f3 : x1 = 0) (f4 : PN1 (pn_0) (pm_0) (pt_0) (ph_0) (alive_0) (rotMany_0) (rot_0) (x2)) (f5 : UNA (pn_0) (pm_0) (pt_0) (ph_0) (alive_0) (x4)) (hK_0_33 : ∀ j : Int, 0 ≤ j → j < 80 → 0 ≤ pt_0 j ∧ pt_0 j ≤ 24) (hK_0_34 : ∀ j : Int, 0 ≤ j → j < 80 → 0 ≤ ph_0 j ∧ ph_0 j ≤ 24) (hK_0_35 : ∀ j : Int, 0 ≤ j → j < 80 → 0 ≤ alive_0 j ∧ alive_0 j ≤ 1) (hK_0_36 : ∀ j : Int, 0 ≤ j → j < 26 → 0 ≤ rotMany_0 j ∧ rotMany_0 j ≤ 80) (hK_0_37 : ∀ j : Int, 0 ≤ j → j < 2080 → 0 ≤ rot_0 j ∧ rot_0 j ≤ 79) (kz_0_31 : 0 ≤ pn_0 ∧ pn_0 ≤ 25) (kz_0_32 : 0 ≤ pm_0 ∧ pm_0 ≤ 80) : 0 ≤ x3 ∧ x3 ≤ 79 := by
  first
    | omega
    | (have h := ‹PN1 _ _ _ _ _ _ _ _›.2.1
       have := h.2.2.1
       have := h.2.2.2.1
       omega)
    | (have h := ‹PN3 _ _ _ _ _ _ _ _ _ _ _›.2.1
       have := h.1
       have := h.2.1
       omega)
def o_Mo_newLine_at_g1_0 : or_T := (9, 6, [(0, (2, 0, 0, [165])), (1, (0, 0, 0, [])), (2, (0, 0, 24, [])), (3, (0, 0, 80, [])), (4, (0, -2, 25, [])), (5, (2, 0, 0, [180]))], [(9, [3, 0], [32]), (9, [5, 0], [33]), (20, [0], [50, 1, 0, 32, 0, 3, 2, 0, 32, 0, 79]), (20, [1], [50, 0, 0, 1, 2, 1, 0, 0, 0]), (20, [0, 2], [60, 2, 5, 245, 31, 32, 33, 34, 35, 36, 37]), (20, [0, 4], [60, 2, 3, 266, 31, 32, 33, 34, 35])], [(3, (0, 0, 79, []))], [], [], [], [])
theorem oo_Mo_newLine_at_g1_0 {kA : Nat → ClassId} : or_ok PRD kA GG o_Mo_newLine_at_g1_0 := by
  refine or_mk fun A ta ws vs hD hth hl => ?_
  intro t0 r0 t1 k1 t2 k2 t3 k3 t4 k4 t5 r5 f0 f1 f2 f3 f4 f5
  replace f0 := shm_525 f0
  have cr_0_33 := fdq_117 hD hth r0
  have cr_0_34 := fdq_118 hD hth r0
  have cr_0_35 := fdq_132 hD hth r0
  have cr_0_36 := fdq_167 hD hth r0
  have cr_0_37 := fdq_168 hD hth r0
  have g0 : v_iv (n_v vs 3) = w_fi ws (n_v vs 0) 32 := congrArg v_iv f0
  have hK_0_33 := elq_60 hD hth cr_0_33
  have hK_0_34 := elq_61 hD hth cr_0_34
  have hK_0_35 := elq_72 hD hth cr_0_35
  have hK_0_36 := elq_97 hD hth cr_0_36
  have hK_0_37 := elq_98 hD hth cr_0_37
  have kz_0_31 := fdq_145 hD hth r0
  have kz_0_32 := fdq_140 hD hth r0
  have hrf0 : 0 ≤ v_iv (n_v vs 3) ∧ v_iv (n_v vs 3) ≤ 79 := vc_Mo_newLine_at_g1_0_r0 (v_iv (n_v vs 1)) (v_iv (n_v vs 2)) (v_iv (n_v vs 3)) (v_iv (n_v vs 4)) (w_fi ws (n_v vs 0) 32) (w_ei ws (w_ar ws (n_v vs 0) 33)) (w_ei ws (w_ar ws (n_v vs 0) 34)) (w_ei ws (w_ar ws (n_v vs 0) 35)) (w_ei ws (w_ar ws (n_v vs 0) 36)) (w_ei ws (w_ar ws (n_v vs 0) 37)) (w_fi ws (n_v vs 0) 31) k1 k2 k3 k4 g0 (shm_648 f2) (shm_649 f3) (shm_650 f4) (shm_651 f5) hK_0_33 hK_0_34 hK_0_35 hK_0_36 hK_0_37 kz_0_31 kz_0_32
  have rf3 : tv_ok ta (0, 0, 79, []) (n_v vs 3) := tv_in t3 (by first | omega | grind) (by first | omega | grind)
  refine ⟨List.forall_mem_cons.mpr ⟨rf3, (fun _ h => (by cases h))⟩, [], trivial, ?_, (fun _ h => (by cases h))⟩
  rw [List.append_nil]
  exact (fun _ h => (by cases h))
set_option maxHeartbeats 4000000 in
theorem vc_Mo_newLine_at_g1_1_0 (x1 : Int) (x2 : Int) (x3 : Int) (x4 : Int) (x8 : Int) (x9 : Int) (x10 : Int) (x11 : Int) (x12 : Int) (pm_0 : Int) (pm_1 : Int) (pm_2 : Int) (pm_3 : Int) (pm_4 : Int) (pt_4 : Int → Int) (ph_4 : Int → Int) (alive_4 : Int → Int) (rotMany_4 : Int → Int) (rot_4 : Int → Int) (pn_4 : Int) (pn_0 : Int) (pn_1 : Int) (pn_2 : Int) (pn_3 : Int) (pt_0 : Int → Int) (pt_1 : Int → Int) (pt_2 : Int → Int) (pt_3 : Int → Int) (ph_0 : Int → Int) (ph_1 : Int → Int) (ph_2 : Int → Int) (ph_3 : Int → Int) (alive_0 : Int → Int) (alive_1 : Int → Int) (alive_2 : Int → Int) (alive_3 : Int → Int) (rotMany_0 : Int → Int) (rotMany_1 : Int → Int) (rotMany_2 : Int → Int) (rotMany_3 : Int → Int) (rot_0 : Int → Int) (rot_1 : Int → Int) (rot_2 : Int → Int) (rot_3 : Int → Int) (k1 : 0 ≤ x1 ∧ x1 ≤ 0) (k2 : 0 ≤ x2 ∧ x2 ≤ 24) (k3 : 0 ≤ x3 ∧ x3 ≤ 79) (k4 : (-2) ≤ x4 ∧ x4 ≤ 25) (k8 : 1 ≤ x8 ∧ x8 ≤ 1) (k9 : 1 ≤ x9 ∧ x9 ≤ 1) (k10 : 1 ≤ x10 ∧ x10 ≤ 80) (k11 : 1 ≤ x11 ∧ x11 ≤ 1) (k12 : 0 ≤ x12 ∧ x12 ≤ 79) (d0 : x10 + (-1) ≤ x12 ∧ x12 ≤ x10 + (-1)) (d1 : x3 + 0 ≤ x12 ∧ x12 ≤ x3 + 0) (d2 : x3 + 1 ≤ x10 ∧ x10 ≤ x3 + 1) (f0 : x12 = x10 - x11) (g1 : x10 = pm_0) (f2 : x1 = 0) (f4 : x10 = x3 + x9) (g5 : x3 = pm_1) (f6 : pm_1 ≤ 79) (f7 : x1 = 0) (f10 : pm_2 ≤ 79) (f11 : x1 = 0) (f14 : pm_3 ≤ 79) (f15 : x1 = 0) (f18 : pm_4 ≤ 79) (f19 : x1 = 0) (f20 : PN1 (pn_4) (pm_4) (pt_4) (ph_4) (alive_4) (rotMany_4) (rot_4) (x2)) (f21 : UNA (pn_4) (pm_4) (pt_4) (ph_4) (alive_4) (x4)) (fe_0_31_1 : pn_0 = pn_1) (fe_0_32_1 : pm_0 = x10) (fe_0_31_2 : pn_1 = pn_2) (fe_0_32_2 : pm_1 = pm_2) (fe_0_31_3 : pn_2 = pn_3) (fe_0_32_3 : pm_2 = pm_3) (fe_0_31_4 : pn_3 = pn_4) (fe_0_32_4 : pm_3 = pm_4) (hE_0_33_1 : ∀ j : Int, pt_0 j = pt_1 j) (hE_0_33_2 : ∀ j : Int, pt_1 j = pt_2 j) (hE_0_33_3 : ∀ j : Int, pt_2 j = pt_3 j) (hE_0_33_4 : ∀ j : Int, 0 ≤ j → (j = x3 → pt_3 j = x1) ∧ (j ≠ x3 → pt_3 j = pt_4 j)) (hK_0_33 : ∀ j : Int, 0 ≤ j → j < 80 → 0 ≤ pt_0 j ∧ pt_0 j ≤ 24) (hE_0_34_1 : ∀ j : Int, ph_0 j = ph_1 j) (hE_0_34_2 : ∀ j : Int, ph_1 j = ph_2 j) (hE_0_34_3 : ∀ j : Int, 0 ≤ j → (j = x3 → ph_2 j = x2) ∧ (j ≠ x3 → ph_2 j = ph_3 j)) (hE_0_34_4 : ∀ j : Int, ph_3 j = ph_4 j) (hK_0_34 : ∀ j : Int, 0 ≤ j → j < 80 → 0 ≤ ph_0 j ∧ ph_0 j ≤ 24) (hE_0_35_1 : ∀ j : Int, alive_0 j = alive_1 j) (hE_0_35_2 : ∀ j : Int, 0 ≤ j → (j = x3 → alive_1 j = x8) ∧ (j ≠ x3 → alive_1 j = alive_2 j)) (hE_0_35_3 : ∀ j : Int, alive_2 j = alive_3 j) (hE_0_35_4 : ∀ j : Int, alive_3 j = alive_4 j) (hK_0_35 : ∀ j : Int, 0 ≤ j → j < 80 → 0 ≤ alive_0 j ∧ alive_0 j ≤ 1) (hE_0_36_1 : ∀ j : Int, rotMany_0 j = rotMany_1 j) (hE_0_36_2 : ∀ j : Int, rotMany_1 j = rotMany_2 j) (hE_0_36_3 : ∀ j : Int, rotMany_2 j = rotMany_3 j) (hE_0_36_4 : ∀ j : Int, rotMany_3 j = rotMany_4 j) (hK_0_36 : ∀ j : Int, 0 ≤ j → j < 26 → 0 ≤ rotMany_0 j ∧ rotMany_0 j ≤ 80) (hE_0_37_1 : ∀ j : Int, rot_0 j = rot_1 j) (hE_0_37_2 : ∀ j : Int, rot_1 j = rot_2 j) (hE_0_37_3 : ∀ j : Int, rot_2 j = rot_3 j) (hE_0_37_4 : ∀ j : Int, rot_3 j = rot_4 j) (hK_0_37 : ∀ j : Int, 0 ≤ j → j < 2080 → 0 ≤ rot_0 j ∧ rot_0 j ≤ 79) (kz_0_31 : 0 ≤ pn_0 ∧ pn_0 ≤ 25) (kz_0_32 : 0 ≤ pm_0 ∧ pm_0 ≤ 80) : PUa (pn_0) (pm_0) (pt_0) (ph_0) (alive_0) (rotMany_0) (rot_0) (x2) (x12) := by
  subst fe_0_31_1
  subst fe_0_31_2
  subst fe_0_32_2
  subst fe_0_31_3
  subst fe_0_32_3
  subst fe_0_31_4
  subst fe_0_32_4
  have e_hE_0_33_1 := funext hE_0_33_1; subst e_hE_0_33_1
  have e_hE_0_33_2 := funext hE_0_33_2; subst e_hE_0_33_2
  have e_hE_0_33_3 := funext hE_0_33_3; subst e_hE_0_33_3
  have e_hE_0_34_1 := funext hE_0_34_1; subst e_hE_0_34_1
  have e_hE_0_34_2 := funext hE_0_34_2; subst e_hE_0_34_2
  have e_hE_0_34_4 := funext hE_0_34_4; subst e_hE_0_34_4
  have e_hE_0_35_1 := funext hE_0_35_1; subst e_hE_0_35_1
  have e_hE_0_35_3 := funext hE_0_35_3; subst e_hE_0_35_3
  have e_hE_0_35_4 := funext hE_0_35_4; subst e_hE_0_35_4
  have e_hE_0_36_1 := funext hE_0_36_1; subst e_hE_0_36_1
  have e_hE_0_36_2 := funext hE_0_36_2; subst e_hE_0_36_2
  have e_hE_0_36_3 := funext hE_0_36_3; subst e_hE_0_36_3
  have e_hE_0_36_4 := funext hE_0_36_4; subst e_hE_0_36_4
  have e_hE_0_37_1 := funext hE_0_37_1; subst e_hE_0_37_1
  have e_hE_0_37_2 := funext hE_0_37_2; subst e_hE_0_37_2
  have e_hE_0_37_3 := funext hE_0_37_3; subst e_hE_0_37_3
  have e_hE_0_37_4 := funext hE_0_37_4; subst e_hE_0_37_4
  have ea : x1 = 0 := by omega
  exact pux_new ‹PN1 _ _ _ _ _ _ _ _› (by omega) (by assumption) (by omega) (by omega) (by assumption) (by omega) (by omega) (by assumption) (by omega) (by omega) (by omega) (by omega) (Or.inl rfl)
set_option maxHeartbeats 4000000 in
theorem vc_Mo_newLine_at_g1_1_1 (x1 : Int) (x2 : Int) (x3 : Int) (x4 : Int) (x8 : Int) (x9 : Int) (x10 : Int) (x11 : Int) (x12 : Int) (pm_0 : Int) (pm_1 : Int) (pm_2 : Int) (pm_3 : Int) (pm_4 : Int) (pt_4 : Int → Int) (ph_4 : Int → Int) (alive_4 : Int → Int) (rotMany_4 : Int → Int) (rot_4 : Int → Int) (pn_4 : Int) (pn_0 : Int) (pn_1 : Int) (pn_2 : Int) (pn_3 : Int) (pt_0 : Int → Int) (pt_1 : Int → Int) (pt_2 : Int → Int) (pt_3 : Int → Int) (ph_0 : Int → Int) (ph_1 : Int → Int) (ph_2 : Int → Int) (ph_3 : Int → Int) (alive_0 : Int → Int) (alive_1 : Int → Int) (alive_2 : Int → Int) (alive_3 : Int → Int) (rotMany_0 : Int → Int) (rotMany_1 : Int → Int) (rotMany_2 : Int → Int) (rotMany_3 : Int → Int) (rot_0 : Int → Int) (rot_1 : Int → Int) (rot_2 : Int → Int) (rot_3 : Int → Int) (k1 : 0 ≤ x1 ∧ x1 ≤ 0) (k2 : 0 ≤ x2 ∧ x2 ≤ 24) (k3 : 0 ≤ x3 ∧ x3 ≤ 79) (k4 : (-2) ≤ x4 ∧ x4 ≤ 25) (k8 : 1 ≤ x8 ∧ x8 ≤ 1) (k9 : 1 ≤ x9 ∧ x9 ≤ 1) (k10 : 1 ≤ x10 ∧ x10 ≤ 80) (k11 : 1 ≤ x11 ∧ x11 ≤ 1) (k12 : 0 ≤ x12 ∧ x12 ≤ 79) (d0 : x10 + (-1) ≤ x12 ∧ x12 ≤ x10 + (-1)) (d1 : x3 + 0 ≤ x12 ∧ x12 ≤ x3 + 0) (d2 : x3 + 1 ≤ x10 ∧ x10 ≤ x3 + 1) (f0 : x12 = x10 - x11) (g1 : x10 = pm_0) (f2 : x1 = 0) (f4 : x10 = x3 + x9) (g5 : x3 = pm_1) (f6 : pm_1 ≤ 79) (f7 : x1 = 0) (f10 : pm_2 ≤ 79) (f11 : x1 = 0) (f14 : pm_3 ≤ 79) (f15 : x1 = 0) (f18 : pm_4 ≤ 79) (f19 : x1 = 0) (f20 : PN1 (pn_4) (pm_4) (pt_4) (ph_4) (alive_4) (rotMany_4) (rot_4) (x2)) (f21 : UNA (pn_4) (pm_4) (pt_4) (ph_4) (alive_4) (x4)) (fe_0_31_1 : pn_0 = pn_1) (fe_0_32_1 : pm_0 = x10) (fe_0_31_2 : pn_1 = pn_2) (fe_0_32_2 : pm_1 = pm_2) (fe_0_31_3 : pn_2 = pn_3) (fe_0_32_3 : pm_2 = pm_3) (fe_0_31_4 : pn_3 = pn_4) (fe_0_32_4 : pm_3 = pm_4) (hE_0_33_1 : ∀ j : Int, pt_0 j = pt_1 j) (hE_0_33_2 : ∀ j : Int, pt_1 j = pt_2 j) (hE_0_33_3 : ∀ j : Int, pt_2 j = pt_3 j) (hE_0_33_4 : ∀ j : Int, 0 ≤ j → (j = x3 → pt_3 j = x1) ∧ (j ≠ x3 → pt_3 j = pt_4 j)) (hK_0_33 : ∀ j : Int, 0 ≤ j → j < 80 → 0 ≤ pt_0 j ∧ pt_0 j ≤ 24) (hE_0_34_1 : ∀ j : Int, ph_0 j = ph_1 j) (hE_0_34_2 : ∀ j : Int, ph_1 j = ph_2 j) (hE_0_34_3 : ∀ j : Int, 0 ≤ j → (j = x3 → ph_2 j = x2) ∧ (j ≠ x3 → ph_2 j = ph_3 j)) (hE_0_34_4 : ∀ j : Int, ph_3 j = ph_4 j) (hK_0_34 : ∀ j : Int, 0 ≤ j → j < 80 → 0 ≤ ph_0 j ∧ ph_0 j ≤ 24) (hE_0_35_1 : ∀ j : Int, alive_0 j = alive_1 j) (hE_0_35_2 : ∀ j : Int, 0 ≤ j → (j = x3 → alive_1 j = x8) ∧ (j ≠ x3 → alive_1 j = alive_2 j)) (hE_0_35_3 : ∀ j : Int, alive_2 j = alive_3 j) (hE_0_35_4 : ∀ j : Int, alive_3 j = alive_4 j) (hK_0_35 : ∀ j : Int, 0 ≤ j → j < 80 → 0 ≤ alive_0 j ∧ alive_0 j ≤ 1) (hE_0_36_1 : ∀ j : Int, rotMany_0 j = rotMany_1 j) (hE_0_36_2 : ∀ j : Int, rotMany_1 j = rotMany_2 j) (hE_0_36_3 : ∀ j : Int, rotMany_2 j = rotMany_3 j) (hE_0_36_4 : ∀ j : Int, rotMany_3 j = rotMany_4 j) (hK_0_36 : ∀ j : Int, 0 ≤ j → j < 26 → 0 ≤ rotMany_0 j ∧ rotMany_0 j ≤ 80) (hE_0_37_1 : ∀ j : Int, rot_0 j = rot_1 j) (hE_0_37_2 : ∀ j : Int, rot_1 j = rot_2 j) (hE_0_37_3 : ∀ j : Int, rot_2 j = rot_3 j) (hE_0_37_4 : ∀ j : Int, rot_3 j = rot_4 j) (hK_0_37 : ∀ j : Int, 0 ≤ j → j < 2080 → 0 ≤ rot_0 j ∧ rot_0 j ≤ 79) (kz_0_31 : 0 ≤ pn_0 ∧ pn_0 ≤ 25) (kz_0_32 : 0 ≤ pm_0 ∧ pm_0 ≤ 80) : GLU (pn_0) (pm_0) (pt_0) (ph_0) (alive_0) (x2) := by
  subst fe_0_31_1
  subst fe_0_31_2
  subst fe_0_32_2
  subst fe_0_31_3
  subst fe_0_32_3
  subst fe_0_31_4
  subst fe_0_32_4
  have e_hE_0_33_1 := funext hE_0_33_1; subst e_hE_0_33_1
  have e_hE_0_33_2 := funext hE_0_33_2; subst e_hE_0_33_2
  have e_hE_0_33_3 := funext hE_0_33_3; subst e_hE_0_33_3
  have e_hE_0_34_1 := funext hE_0_34_1; subst e_hE_0_34_1
  have e_hE_0_34_2 := funext hE_0_34_2; subst e_hE_0_34_2
  have e_hE_0_34_4 := funext hE_0_34_4; subst e_hE_0_34_4
  have e_hE_0_35_1 := funext hE_0_35_1; subst e_hE_0_35_1
  have e_hE_0_35_3 := funext hE_0_35_3; subst e_hE_0_35_3
  have e_hE_0_35_4 := funext hE_0_35_4; subst e_hE_0_35_4
  have e_hE_0_36_1 := funext hE_0_36_1; subst e_hE_0_36_1
  have e_hE_0_36_2 := funext hE_0_36_2; subst e_hE_0_36_2
  have e_hE_0_36_3 := funext hE_0_36_3; subst e_hE_0_36_3
  have e_hE_0_36_4 := funext hE_0_36_4; subst e_hE_0_36_4
  have e_hE_0_37_1 := funext hE_0_37_1; subst e_hE_0_37_1
  have e_hE_0_37_2 := funext hE_0_37_2; subst e_hE_0_37_2
  have e_hE_0_37_3 := funext hE_0_37_3; subst e_hE_0_37_3
  have e_hE_0_37_4 := funext hE_0_37_4; subst e_hE_0_37_4
  exact glu_new (pux_new (z := pm_0 - 1) ‹PN1 _ _ _ _ _ _ _ _› (by omega) (by assumption) (by omega) (by omega) (by assumption) (by omega) (by omega) (by assumption) (by omega) (by omega) (by omega) (by omega) (Or.inl rfl))
set_option maxHeartbeats 4000000 in
theorem vc_Mo_newLine_at_g1_1_2 (x1 : Int) (x2 : Int) (x3 : Int) (x4 : Int) (x8 : Int) (x9 : Int) (x10 : Int) (x11 : Int) (x12 : Int) (pm_0 : Int) (pm_1 : Int) (pm_2 : Int) (pm_3 : Int) (pm_4 : Int) (pt_4 : Int → Int) (ph_4 : Int → Int) (alive_4 : Int → Int) (rotMany_4 : Int → Int) (rot_4 : Int → Int) (pn_4 : Int) (pn_0 : Int) (pn_1 : Int) (pn_2 : Int) (pn_3 : Int) (pt_0 : Int → Int) (pt_1 : Int → Int) (pt_2 : Int → Int) (pt_3 : Int → Int) (ph_0 : Int → Int) (ph_1 : Int → Int) (ph_2 : Int → Int) (ph_3 : Int → Int) (alive_0 : Int → Int) (alive_1 : Int → Int) (alive_2 : Int → Int) (alive_3 : Int → Int) (rotMany_0 : Int → Int) (rotMany_1 : Int → Int) (rotMany_2 : Int → Int) (rotMany_3 : Int → Int) (rot_0 : Int → Int) (rot_1 : Int → Int) (rot_2 : Int → Int) (rot_3 : Int → Int) (k1 : 0 ≤ x1 ∧ x1 ≤ 0) (k2 : 0 ≤ x2 ∧ x2 ≤ 24) (k3 : 0 ≤ x3 ∧ x3 ≤ 79) (k4 : (-2) ≤ x4 ∧ x4 ≤ 25) (k8 : 1 ≤ x8 ∧ x8 ≤ 1) (k9 : 1 ≤ x9 ∧ x9 ≤ 1) (k10 : 1 ≤ x10 ∧ x10 ≤ 80) (k11 : 1 ≤ x11 ∧ x11 ≤ 1) (k12 : 0 ≤ x12 ∧ x12 ≤ 79) (d0 : x10 + (-1) ≤ x12 ∧ x12 ≤ x10 + (-1)) (d1 : x3 + 0 ≤ x12 ∧ x12 ≤ x3 + 0) (d2 : x3 + 1 ≤ x10 ∧ x10 ≤ x3 + 1) (f0 : x12 = x10 - x11) (g1 : x10 = pm_0) (f2 : x1 = 0) (f4 : x10 = x3 + x9) (g5 : x3 = pm_1) (f6 : pm_1 ≤ 79) (f7 : x1 = 0) (f10 : pm_2 ≤ 79) (f11 : x1 = 0) (f14 : pm_3 ≤ 79) (f15 : x1 = 0) (f18 : pm_4 ≤ 79) (f19 : x1 = 0) (f20 : PN1 (pn_4) (pm_4) (pt_4) (ph_4) (alive_4) (rotMany_4) (rot_4) (x2)) (f21 : UNA (pn_4) (pm_4) (pt_4) (ph_4) (alive_4) (x4)) (fe_0_31_1 : pn_0 = pn_1) (fe_0_32_1 : pm_0 = x10) (fe_0_31_2 : pn_1 = pn_2) (fe_0_32_2 : pm_1 = pm_2) (fe_0_31_3 : pn_2 = pn_3) (fe_0_32_3 : pm_2 = pm_3) (fe_0_31_4 : pn_3 = pn_4) (fe_0_32_4 : pm_3 = pm_4) (hE_0_33_1 : ∀ j : Int, pt_0 j = pt_1 j) (hE_0_33_2 : ∀ j : Int, pt_1 j = pt_2 j) (hE_0_33_3 : ∀ j : Int, pt_2 j = pt_3 j) (hE_0_33_4 : ∀ j : Int, 0 ≤ j → (j = x3 → pt_3 j = x1) ∧ (j ≠ x3 → pt_3 j = pt_4 j)) (hK_0_33 : ∀ j : Int, 0 ≤ j → j < 80 → 0 ≤ pt_0 j ∧ pt_0 j ≤ 24) (hE_0_34_1 : ∀ j : Int, ph_0 j = ph_1 j) (hE_0_34_2 : ∀ j : Int, ph_1 j = ph_2 j) (hE_0_34_3 : ∀ j : Int, 0 ≤ j → (j = x3 → ph_2 j = x2) ∧ (j ≠ x3 → ph_2 j = ph_3 j)) (hE_0_34_4 : ∀ j : Int, ph_3 j = ph_4 j) (hK_0_34 : ∀ j : Int, 0 ≤ j → j < 80 → 0 ≤ ph_0 j ∧ ph_0 j ≤ 24) (hE_0_35_1 : ∀ j : Int, alive_0 j = alive_1 j) (hE_0_35_2 : ∀ j : Int, 0 ≤ j → (j = x3 → alive_1 j = x8) ∧ (j ≠ x3 → alive_1 j = alive_2 j)) (hE_0_35_3 : ∀ j : Int, alive_2 j = alive_3 j) (hE_0_35_4 : ∀ j : Int, alive_3 j = alive_4 j) (hK_0_35 : ∀ j : Int, 0 ≤ j → j < 80 → 0 ≤ alive_0 j ∧ alive_0 j ≤ 1) (hE_0_36_1 : ∀ j : Int, rotMany_0 j = rotMany_1 j) (hE_0_36_2 : ∀ j : Int, rotMany_1 j = rotMany_2 j) (hE_0_36_3 : ∀ j : Int, rotMany_2 j = rotMany_3 j) (hE_0_36_4 : ∀ j : Int, rotMany_3 j = rotMany_4 j) (hK_0_36 : ∀ j : Int, 0 ≤ j → j < 26 → 0 ≤ rotMany_0 j ∧ rotMany_0 j ≤ 80) (hE_0_37_1 : ∀ j : Int, rot_0 j = rot_1 j) (hE_0_37_2 : ∀ j : Int, rot_1 j = rot_2 j) (hE_0_37_3 : ∀ j : Int, rot_2 j = rot_3 j) (hE_0_37_4 : ∀ j : Int, rot_3 j = rot_4 j) (hK_0_37 : ∀ j : Int, 0 ≤ j → j < 2080 → 0 ≤ rot_0 j ∧ rot_0 j ≤ 79) (kz_0_31 : 0 ≤ pn_0 ∧ pn_0 ≤ 25) (kz_0_32 : 0 ≤ pm_0 ∧ pm_0 ≤ 80) : UNP (pn_0) (pm_0) (pt_0) (ph_0) (alive_0) (x4) := by
  subst fe_0_31_1
  subst fe_0_31_2
  subst fe_0_32_2
  subst fe_0_31_3
  subst fe_0_32_3
  subst fe_0_31_4
  subst fe_0_32_4
  have e_hE_0_33_1 := funext hE_0_33_1; subst e_hE_0_33_1
  have e_hE_0_33_2 := funext hE_0_33_2; subst e_hE_0_33_2
  have e_hE_0_33_3 := funext hE_0_33_3; subst e_hE_0_33_3
  have e_hE_0_34_1 := funext hE_0_34_1; subst e_hE_0_34_1
  have e_hE_0_34_2 := funext hE_0_34_2; subst e_hE_0_34_2
  have e_hE_0_34_4 := funext hE_0_34_4; subst e_hE_0_34_4
  have e_hE_0_35_1 := funext hE_0_35_1; subst e_hE_0_35_1
  have e_hE_0_35_3 := funext hE_0_35_3; subst e_hE_0_35_3
  have e_hE_0_35_4 := funext hE_0_35_4; subst e_hE_0_35_4
  have e_hE_0_36_1 := funext hE_0_36_1; subst e_hE_0_36_1
  have e_hE_0_36_2 := funext hE_0_36_2; subst e_hE_0_36_2
  have e_hE_0_36_3 := funext hE_0_36_3; subst e_hE_0_36_3
  have e_hE_0_36_4 := funext hE_0_36_4; subst e_hE_0_36_4
  have e_hE_0_37_1 := funext hE_0_37_1; subst e_hE_0_37_1
  have e_hE_0_37_2 := funext hE_0_37_2; subst e_hE_0_37_2
  have e_hE_0_37_3 := funext hE_0_37_3; subst e_hE_0_37_3
  have e_hE_0_37_4 := funext hE_0_37_4; subst e_hE_0_37_4
  exact una_new ‹UNA _ _ _ _ _ _› (by assumption) (by omega) (by assumption) (by omega) (by assumption) (by omega) (by omega)
def o_Mo_newLine_at_g1_1 : or_T := (46, 13, [(0, (2, 0, 0, [165])), (1, (0, 0, 0, [])), (2, (0, 0, 24, [])), (3, (0, 0, 79, [])), (4, (0, -2, 25, [])), (5, (2, 0, 0, [180])), (6, (2, 0, 0, [181])), (7, (2, 0, 0, [182])), (8, (0, 1, 1, [])), (9, (0, 1, 1, [])), (10, (0, 1, 80, [])), (11, (0, 1, 1, [])), (12, (0, 0, 79, []))], [(2, [12, 10, 11], []), (9, [10, 0], [32]), (20, [1], [50, 0, 0, 1, 2, 1, 0, 0, 0]), (101, [0, 10], [32]), (1, [10, 3, 9], []), (9, [3, 0], [32]), (20, [0], [50, 1, 0, 32, 0, 3, 2, 0, 32, 0, 79]), (20, [1], [50, 0, 0, 1, 2, 1, 0, 0, 0]), (100, [7, 3, 8], []), (9, [7, 0], [35]), (20, [0], [50, 1, 0, 32, 0, 3, 2, 0, 32, 0, 79]), (20, [1], [50, 0, 0, 1, 2, 1, 0, 0, 0]), (100, [6, 3, 2], []), (9, [6, 0], [34]), (20, [0], [50, 1, 0, 32, 0, 3, 2, 0, 32, 0, 79]), (20, [1], [50, 0, 0, 1, 2, 1, 0, 0, 0]), (100, [5, 3, 1], []), (9, [5, 0], [33]), (20, [0], [50, 1, 0, 32, 0, 3, 2, 0, 32, 0, 79]), (20, [1], [50, 0, 0, 1, 2, 1, 0, 0, 0]), (20, [0, 2], [60, 2, 5, 245, 31, 32, 33, 34, 35, 36, 37]), (20, [0, 4], [60, 2, 3, 266, 31, 32, 33, 34, 35])], [], [], [(20, [0, 2, 12], [60, 2, 5, 247, 31, 32, 33, 34, 35, 36, 37]), (20, [0, 2], [60, 2, 3, 268, 31, 32, 33, 34, 35]), (20, [0, 4], [60, 2, 3, 267, 31, 32, 33, 34, 35])], [], [(12, 10, -1, -1), (12, 3, 0, 0), (10, 3, 1, 1)])
theorem oo_Mo_newLine_at_g1_1 {kA : Nat → ClassId} : or_ok PRD kA GG o_Mo_newLine_at_g1_1 := by
  refine or_mk fun A ta ws vs hD hth hl => ?_
  intro t0 r0 t1 k1 t2 k2 t3 k3 t4 k4 t5 r5 t6 r6 t7 r7 t8 k8 t9 k9 t10 k10 t11 k11 t12 k12 d0 d1 d2 f0 f1 f2 ta1 w1 le1 s1 f4 f5 f6 f7 ta2 w2 le2 s2 f9 f10 f11 ta3 w3 le3 s3 f13 f14 f15 ta4 w4 le4 s4 f17 f18 f19 f20 f21
  replace f1 := shm_525 f1
  have s1 : (∀ b j, w_el ws b j = w_el w1 b j) ∧ ∀ b j, w_fd ws b j = if b = v_ad (n_v vs 0) ∧ j = 32 then n_v vs 10 else w_fd w1 b j := s1.2
  replace f5 := shm_525 f5
  have s2 : (∀ b j, w_el w1 b j = if b = v_ad (n_v vs 7) ∧ j = (v_iv (n_v vs 3)).toNat then v_iv (n_v vs 8) else w_el w2 b j) ∧ ∀ b k, w_fd w1 b k = w_fd w2 b k := s2.2
  replace f9 := shm_511 f9
  have s3 : (∀ b j, w_el w2 b j = if b = v_ad (n_v vs 6) ∧ j = (v_iv (n_v vs 3)).toNat then v_iv (n_v vs 2) else w_el w3 b j) ∧ ∀ b k, w_fd w2 b k = w_fd w3 b k := s3.2
  replace f13 := shm_496 f13
  have s4 : (∀ b j, w_el w3 b j = if b = v_ad (n_v vs 5) ∧ j = (v_iv (n_v vs 3)).toNat then v_iv (n_v vs 1) else w_el w4 b j) ∧ ∀ b k, w_fd w3 b k = w_fd w4 b k := s4.2
  replace f17 := shm_494 f17
  replace f20 := shm_650 f20
  replace f21 := shm_651 f21
  have ar_0_33_1 : w_ar w1 (n_v vs 0) 33 = w_ar ws (n_v vs 0) 33 := by show v_ad (w_fd w1 _ _) = v_ad (w_fd ws _ _); rw [s1.2, if_neg (fun e => absurd e.2 (by decide))]
  have ar_0_33_2 : w_ar w2 (n_v vs 0) 33 = w_ar ws (n_v vs 0) 33 := by rw [← ar_0_33_1]; show v_ad (w_fd w2 _ _) = v_ad (w_fd w1 _ _); rw [s2.2]
  have ar_0_33_3 : w_ar w3 (n_v vs 0) 33 = w_ar ws (n_v vs 0) 33 := by rw [← ar_0_33_2]; show v_ad (w_fd w3 _ _) = v_ad (w_fd w2 _ _); rw [s3.2]
  have ar_0_33_4 : w_ar w4 (n_v vs 0) 33 = w_ar ws (n_v vs 0) 33 := by rw [← ar_0_33_3]; show v_ad (w_fd w4 _ _) = v_ad (w_fd w3 _ _); rw [s4.2]
  have cr_0_33 := fdq_117 hD hth r0
  have ar_0_34_1 : w_ar w1 (n_v vs 0) 34 = w_ar ws (n_v vs 0) 34 := by show v_ad (w_fd w1 _ _) = v_ad (w_fd ws _ _); rw [s1.2, if_neg (fun e => absurd e.2 (by decide))]
  have ar_0_34_2 : w_ar w2 (n_v vs 0) 34 = w_ar ws (n_v vs 0) 34 := by rw [← ar_0_34_1]; show v_ad (w_fd w2 _ _) = v_ad (w_fd w1 _ _); rw [s2.2]
  have ar_0_34_3 : w_ar w3 (n_v vs 0) 34 = w_ar ws (n_v vs 0) 34 := by rw [← ar_0_34_2]; show v_ad (w_fd w3 _ _) = v_ad (w_fd w2 _ _); rw [s3.2]
  have ar_0_34_4 : w_ar w4 (n_v vs 0) 34 = w_ar ws (n_v vs 0) 34 := by rw [← ar_0_34_3]; show v_ad (w_fd w4 _ _) = v_ad (w_fd w3 _ _); rw [s4.2]
  have cr_0_34 := fdq_118 hD hth r0
  have ar_0_35_1 : w_ar w1 (n_v vs 0) 35 = w_ar ws (n_v vs 0) 35 := by show v_ad (w_fd w1 _ _) = v_ad (w_fd ws _ _); rw [s1.2, if_neg (fun e => absurd e.2 (by decide))]
  have ar_0_35_2 : w_ar w2 (n_v vs 0) 35 = w_ar ws (n_v vs 0) 35 := by rw [← ar_0_35_1]; show v_ad (w_fd w2 _ _) = v_ad (w_fd w1 _ _); rw [s2.2]
  have ar_0_35_3 : w_ar w3 (n_v vs 0) 35 = w_ar ws (n_v vs 0) 35 := by rw [← ar_0_35_2]; show v_ad (w_fd w3 _ _) = v_ad (w_fd w2 _ _); rw [s3.2]
  have ar_0_35_4 : w_ar w4 (n_v vs 0) 35 = w_ar ws (n_v vs 0) 35 := by rw [← ar_0_35_3]; show v_ad (w_fd w4 _ _) = v_ad (w_fd w3 _ _); rw [s4.2]
  have cr_0_35 := fdq_132 hD hth r0
  have ar_0_36_1 : w_ar w1 (n_v vs 0) 36 = w_ar ws (n_v vs 0) 36 := by show v_ad (w_fd w1 _ _) = v_ad (w_fd ws _ _); rw [s1.2, if_neg (fun e => absurd e.2 (by decide))]
  have ar_0_36_2 : w_ar w2 (n_v vs 0) 36 = w_ar ws (n_v vs 0) 36 := by rw [← ar_0_36_1]; show v_ad (w_fd w2 _ _) = v_ad (w_fd w1 _ _); rw [s2.2]
  have ar_0_36_3 : w_ar w3 (n_v vs 0) 36 = w_ar ws (n_v vs 0) 36 := by rw [← ar_0_36_2]; show v_ad (w_fd w3 _ _) = v_ad (w_fd w2 _ _); rw [s3.2]
  have ar_0_36_4 : w_ar w4 (n_v vs 0) 36 = w_ar ws (n_v vs 0) 36 := by rw [← ar_0_36_3]; show v_ad (w_fd w4 _ _) = v_ad (w_fd w3 _ _); rw [s4.2]
  have cr_0_36 := fdq_167 hD hth r0
  have ar_0_37_1 : w_ar w1 (n_v vs 0) 37 = w_ar ws (n_v vs 0) 37 := by show v_ad (w_fd w1 _ _) = v_ad (w_fd ws _ _); rw [s1.2, if_neg (fun e => absurd e.2 (by decide))]
  have ar_0_37_2 : w_ar w2 (n_v vs 0) 37 = w_ar ws (n_v vs 0) 37 := by rw [← ar_0_37_1]; show v_ad (w_fd w2 _ _) = v_ad (w_fd w1 _ _); rw [s2.2]
  have ar_0_37_3 : w_ar w3 (n_v vs 0) 37 = w_ar ws (n_v vs 0) 37 := by rw [← ar_0_37_2]; show v_ad (w_fd w3 _ _) = v_ad (w_fd w2 _ _); rw [s3.2]
  have ar_0_37_4 : w_ar w4 (n_v vs 0) 37 = w_ar ws (n_v vs 0) 37 := by rw [← ar_0_37_3]; show v_ad (w_fd w4 _ _) = v_ad (w_fd w3 _ _); rw [s4.2]
  have cr_0_37 := fdq_168 hD hth r0
  have ad_7 : v_ad (n_v vs 7) = w_ar ws (n_v vs 0) 35 := (congrArg v_ad f9).trans ar_0_35_2
  have ad_6 : v_ad (n_v vs 6) = w_ar ws (n_v vs 0) 34 := (congrArg v_ad f13).trans ar_0_34_3
  have ad_5 : v_ad (n_v vs 5) = w_ar ws (n_v vs 0) 33 := (congrArg v_ad f17).trans ar_0_33_4
  have g1 : v_iv (n_v vs 10) = w_fi ws (n_v vs 0) 32 := congrArg v_iv f1
  have g5 : v_iv (n_v vs 3) = w_fi w1 (n_v vs 0) 32 := congrArg v_iv f5
  simp only [ar_0_33_4, ar_0_34_4, ar_0_35_4, ar_0_36_4, ar_0_37_4] at f20 f21
  have fe_0_31_1 : w_fi ws (n_v vs 0) 31 = w_fi w1 (n_v vs 0) 31 := by show v_iv (w_fd _ _ _) = v_iv (w_fd _ _ _); rw [s1.2, if_neg (fun e => absurd e.2 (by decide))]
  have fe_0_32_1 : w_fi ws (n_v vs 0) 32 = v_iv (n_v vs 10) := by show v_iv (w_fd _ _ _) = _; rw [s1.2, if_pos ⟨rfl, rfl⟩]
  have fe_0_31_2 : w_fi w1 (n_v vs 0) 31 = w_fi w2 (n_v vs 0) 31 := congrArg v_iv (s2.2 _ _)
  have fe_0_32_2 : w_fi w1 (n_v vs 0) 32 = w_fi w2 (n_v vs 0) 32 := congrArg v_iv (s2.2 _ _)
  have fe_0_31_3 : w_fi w2 (n_v vs 0) 31 = w_fi w3 (n_v vs 0) 31 := congrArg v_iv (s3.2 _ _)
  have fe_0_32_3 : w_fi w2 (n_v vs 0) 32 = w_fi w3 (n_v vs 0) 32 := congrArg v_iv (s3.2 _ _)
  have fe_0_31_4 : w_fi w3 (n_v vs 0) 31 = w_fi w4 (n_v vs 0) 31 := congrArg v_iv (s4.2 _ _)
  have fe_0_32_4 : w_fi w3 (n_v vs 0) 32 = w_fi w4 (n_v vs 0) 32 := congrArg v_iv (s4.2 _ _)
  have hE_0_33_1 : ∀ j : Int, w_ei ws (w_ar ws (n_v vs 0) 33) j = w_ei w1 (w_ar ws (n_v vs 0) 33) j := fun j => s1.1 _ _
  have hE_0_33_2 : ∀ j : Int, w_ei w1 (w_ar ws (n_v vs 0) 33) j = w_ei w2 (w_ar ws (n_v vs 0) 33) j := el_kp s2.1 r7 cr_0_33 (by decide)
  have hE_0_33_3 : ∀ j : Int, w_ei w2 (w_ar ws (n_v vs 0) 33) j = w_ei w3 (w_ar ws (n_v vs 0) 33) j := el_kp s3.1 r6 cr_0_33 (by decide)
  have hE_0_33_4 : ∀ j : Int, 0 ≤ j → (j = v_iv (n_v vs 3) → w_ei w3 (w_ar ws (n_v vs 0) 33) j = v_iv (n_v vs 1)) ∧ (j ≠ v_iv (n_v vs 3) → w_ei w3 (w_ar ws (n_v vs 0) 33) j = w_ei w4 (w_ar ws (n_v vs 0) 33) j) := fun j hj => ⟨fun h => by unfold w_ei; rw [s4.1, if_pos ⟨ad_5.symm, by rw [h]⟩], fun h => by unfold w_ei; rw [s4.1, if_neg (fun e => h (by have := e.2; omega))]⟩
  have hK_0_33 := elq_60 hD hth cr_0_33
  have hE_0_34_1 : ∀ j : Int, w_ei ws (w_ar ws (n_v vs 0) 34) j = w_ei w1 (w_ar ws (n_v vs 0) 34) j := fun j => s1.1 _ _
  have hE_0_34_2 : ∀ j : Int, w_ei w1 (w_ar ws (n_v vs 0) 34) j = w_ei w2 (w_ar ws (n_v vs 0) 34) j := el_kp s2.1 r7 cr_0_34 (by decide)
  have hE_0_34_3 : ∀ j : Int, 0 ≤ j → (j = v_iv (n_v vs 3) → w_ei w2 (w_ar ws (n_v vs 0) 34) j = v_iv (n_v vs 2)) ∧ (j ≠ v_iv (n_v vs 3) → w_ei w2 (w_ar ws (n_v vs 0) 34) j = w_ei w3 (w_ar ws (n_v vs 0) 34) j) := fun j hj => ⟨fun h => by unfold w_ei; rw [s3.1, if_pos ⟨ad_6.symm, by rw [h]⟩], fun h => by unfold w_ei; rw [s3.1, if_neg (fun e => h (by have := e.2; omega))]⟩
  have hE_0_34_4 : ∀ j : Int, w_ei w3 (w_ar ws (n_v vs 0) 34) j = w_ei w4 (w_ar ws (n_v vs 0) 34) j := el_kp s4.1 r5 cr_0_34 (by decide)
  have hK_0_34 := elq_61 hD hth cr_0_34
  have hE_0_35_1 : ∀ j : Int, w_ei ws (w_ar ws (n_v vs 0) 35) j = w_ei w1 (w_ar ws (n_v vs 0) 35) j := fun j => s1.1 _ _
  have hE_0_35_2 : ∀ j : Int, 0 ≤ j → (j = v_iv (n_v vs 3) → w_ei w1 (w_ar ws (n_v vs 0) 35) j = v_iv (n_v vs 8)) ∧ (j ≠ v_iv (n_v vs 3) → w_ei w1 (w_ar ws (n_v vs 0) 35) j = w_ei w2 (w_ar ws (n_v vs 0) 35) j) := fun j hj => ⟨fun h => by unfold w_ei; rw [s2.1, if_pos ⟨ad_7.symm, by rw [h]⟩], fun h => by unfold w_ei; rw [s2.1, if_neg (fun e => h (by have := e.2; omega))]⟩
  have hE_0_35_3 : ∀ j : Int, w_ei w2 (w_ar ws (n_v vs 0) 35) j = w_ei w3 (w_ar ws (n_v vs 0) 35) j := el_kp s3.1 r6 cr_0_35 (by decide)
  have hE_0_35_4 : ∀ j : Int, w_ei w3 (w_ar ws (n_v vs 0) 35) j = w_ei w4 (w_ar ws (n_v vs 0) 35) j := el_kp s4.1 r5 cr_0_35 (by decide)
  have hK_0_35 := elq_72 hD hth cr_0_35
  have hE_0_36_1 : ∀ j : Int, w_ei ws (w_ar ws (n_v vs 0) 36) j = w_ei w1 (w_ar ws (n_v vs 0) 36) j := fun j => s1.1 _ _
  have hE_0_36_2 : ∀ j : Int, w_ei w1 (w_ar ws (n_v vs 0) 36) j = w_ei w2 (w_ar ws (n_v vs 0) 36) j := el_kp s2.1 r7 cr_0_36 (by decide)
  have hE_0_36_3 : ∀ j : Int, w_ei w2 (w_ar ws (n_v vs 0) 36) j = w_ei w3 (w_ar ws (n_v vs 0) 36) j := el_kp s3.1 r6 cr_0_36 (by decide)
  have hE_0_36_4 : ∀ j : Int, w_ei w3 (w_ar ws (n_v vs 0) 36) j = w_ei w4 (w_ar ws (n_v vs 0) 36) j := el_kp s4.1 r5 cr_0_36 (by decide)
  have hK_0_36 := elq_97 hD hth cr_0_36
  have hE_0_37_1 : ∀ j : Int, w_ei ws (w_ar ws (n_v vs 0) 37) j = w_ei w1 (w_ar ws (n_v vs 0) 37) j := fun j => s1.1 _ _
  have hE_0_37_2 : ∀ j : Int, w_ei w1 (w_ar ws (n_v vs 0) 37) j = w_ei w2 (w_ar ws (n_v vs 0) 37) j := el_kp s2.1 r7 cr_0_37 (by decide)
  have hE_0_37_3 : ∀ j : Int, w_ei w2 (w_ar ws (n_v vs 0) 37) j = w_ei w3 (w_ar ws (n_v vs 0) 37) j := el_kp s3.1 r6 cr_0_37 (by decide)
  have hE_0_37_4 : ∀ j : Int, w_ei w3 (w_ar ws (n_v vs 0) 37) j = w_ei w4 (w_ar ws (n_v vs 0) 37) j := el_kp s4.1 r5 cr_0_37 (by decide)
  have hK_0_37 := elq_98 hD hth cr_0_37
  have kz_0_31 := fdq_145 hD hth r0
  have kz_0_32 := fdq_140 hD hth r0
  have nf0 : fc_1 PRD (20, [0, 2, 12], [60, 2, 5, 247, 31, 32, 33, 34, 35, 36, 37]) ws (vs) := ⟨nf_in hl rfl, sgq_652 (vc_Mo_newLine_at_g1_1_0 (v_iv (n_v vs 1)) (v_iv (n_v vs 2)) (v_iv (n_v vs 3)) (v_iv (n_v vs 4)) (v_iv (n_v vs 8)) (v_iv (n_v vs 9)) (v_iv (n_v vs 10)) (v_iv (n_v vs 11)) (v_iv (n_v vs 12)) (w_fi ws (n_v vs 0) 32) (w_fi w1 (n_v vs 0) 32) (w_fi w2 (n_v vs 0) 32) (w_fi w3 (n_v vs 0) 32) (w_fi w4 (n_v vs 0) 32) (w_ei w4 (w_ar ws (n_v vs 0) 33)) (w_ei w4 (w_ar ws (n_v vs 0) 34)) (w_ei w4 (w_ar ws (n_v vs 0) 35)) (w_ei w4 (w_ar ws (n_v vs 0) 36)) (w_ei w4 (w_ar ws (n_v vs 0) 37)) (w_fi w4 (n_v vs 0) 31) (w_fi ws (n_v vs 0) 31) (w_fi w1 (n_v vs 0) 31) (w_fi w2 (n_v vs 0) 31) (w_fi w3 (n_v vs 0) 31) (w_ei ws (w_ar ws (n_v vs 0) 33)) (w_ei w1 (w_ar ws (n_v vs 0) 33)) (w_ei w2 (w_ar ws (n_v vs 0) 33)) (w_ei w3 (w_ar ws (n_v vs 0) 33)) (w_ei ws (w_ar ws (n_v vs 0) 34)) (w_ei w1 (w_ar ws (n_v vs 0) 34)) (w_ei w2 (w_ar ws (n_v vs 0) 34)) (w_ei w3 (w_ar ws (n_v vs 0) 34)) (w_ei ws (w_ar ws (n_v vs 0) 35)) (w_ei w1 (w_ar ws (n_v vs 0) 35)) (w_ei w2 (w_ar ws (n_v vs 0) 35)) (w_ei w3 (w_ar ws (n_v vs 0) 35)) (w_ei ws (w_ar ws (n_v vs 0) 36)) (w_ei w1 (w_ar ws (n_v vs 0) 36)) (w_ei w2 (w_ar ws (n_v vs 0) 36)) (w_ei w3 (w_ar ws (n_v vs 0) 36)) (w_ei ws (w_ar ws (n_v vs 0) 37)) (w_ei w1 (w_ar ws (n_v vs 0) 37)) (w_ei w2 (w_ar ws (n_v vs 0) 37)) (w_ei w3 (w_ar ws (n_v vs 0) 37)) k1 k2 k3 k4 k8 k9 k10 k11 k12 d0 d1 d2 (shm_14 f0) g1 (shm_649 f2) (shm_12 f4) g5 (shm_648 f6) (shm_649 f7) (shm_648 f10) (shm_649 f11) (shm_648 f14) (shm_649 f15) (shm_648 f18) (shm_649 f19) f20 f21 fe_0_31_1 fe_0_32_1 fe_0_31_2 fe_0_32_2 fe_0_31_3 fe_0_32_3 fe_0_31_4 fe_0_32_4 hE_0_33_1 hE_0_33_2 hE_0_33_3 hE_0_33_4 hK_0_33 hE_0_34_1 hE_0_34_2 hE_0_34_3 hE_0_34_4 hK_0_34 hE_0_35_1 hE_0_35_2 hE_0_35_3 hE_0_35_4 hK_0_35 hE_0_36_1 hE_0_36_2 hE_0_36_3 hE_0_36_4 hK_0_36 hE_0_37_1 hE_0_37_2 hE_0_37_3 hE_0_37_4 hK_0_37 kz_0_31 kz_0_32)⟩
  have nf1 : fc_1 PRD (20, [0, 2], [60, 2, 3, 268, 31, 32, 33, 34, 35]) ws (vs) := ⟨nf_in hl rfl, sgq_653 (vc_Mo_newLine_at_g1_1_1 (v_iv (n_v vs 1)) (v_iv (n_v vs 2)) (v_iv (n_v vs 3)) (v_iv (n_v vs 4)) (v_iv (n_v vs 8)) (v_iv (n_v vs 9)) (v_iv (n_v vs 10)) (v_iv (n_v vs 11)) (v_iv (n_v vs 12)) (w_fi ws (n_v vs 0) 32) (w_fi w1 (n_v vs 0) 32) (w_fi w2 (n_v vs 0) 32) (w_fi w3 (n_v vs 0) 32) (w_fi w4 (n_v vs 0) 32) (w_ei w4 (w_ar ws (n_v vs 0) 33)) (w_ei w4 (w_ar ws (n_v vs 0) 34)) (w_ei w4 (w_ar ws (n_v vs 0) 35)) (w_ei w4 (w_ar ws (n_v vs 0) 36)) (w_ei w4 (w_ar ws (n_v vs 0) 37)) (w_fi w4 (n_v vs 0) 31) (w_fi ws (n_v vs 0) 31) (w_fi w1 (n_v vs 0) 31) (w_fi w2 (n_v vs 0) 31) (w_fi w3 (n_v vs 0) 31) (w_ei ws (w_ar ws (n_v vs 0) 33)) (w_ei w1 (w_ar ws (n_v vs 0) 33)) (w_ei w2 (w_ar ws (n_v vs 0) 33)) (w_ei w3 (w_ar ws (n_v vs 0) 33)) (w_ei ws (w_ar ws (n_v vs 0) 34)) (w_ei w1 (w_ar ws (n_v vs 0) 34)) (w_ei w2 (w_ar ws (n_v vs 0) 34)) (w_ei w3 (w_ar ws (n_v vs 0) 34)) (w_ei ws (w_ar ws (n_v vs 0) 35)) (w_ei w1 (w_ar ws (n_v vs 0) 35)) (w_ei w2 (w_ar ws (n_v vs 0) 35)) (w_ei w3 (w_ar ws (n_v vs 0) 35)) (w_ei ws (w_ar ws (n_v vs 0) 36)) (w_ei w1 (w_ar ws (n_v vs 0) 36)) (w_ei w2 (w_ar ws (n_v vs 0) 36)) (w_ei w3 (w_ar ws (n_v vs 0) 36)) (w_ei ws (w_ar ws (n_v vs 0) 37)) (w_ei w1 (w_ar ws (n_v vs 0) 37)) (w_ei w2 (w_ar ws (n_v vs 0) 37)) (w_ei w3 (w_ar ws (n_v vs 0) 37)) k1 k2 k3 k4 k8 k9 k10 k11 k12 d0 d1 d2 (shm_14 f0) g1 (shm_649 f2) (shm_12 f4) g5 (shm_648 f6) (shm_649 f7) (shm_648 f10) (shm_649 f11) (shm_648 f14) (shm_649 f15) (shm_648 f18) (shm_649 f19) f20 f21 fe_0_31_1 fe_0_32_1 fe_0_31_2 fe_0_32_2 fe_0_31_3 fe_0_32_3 fe_0_31_4 fe_0_32_4 hE_0_33_1 hE_0_33_2 hE_0_33_3 hE_0_33_4 hK_0_33 hE_0_34_1 hE_0_34_2 hE_0_34_3 hE_0_34_4 hK_0_34 hE_0_35_1 hE_0_35_2 hE_0_35_3 hE_0_35_4 hK_0_35 hE_0_36_1 hE_0_36_2 hE_0_36_3 hE_0_36_4 hK_0_36 hE_0_37_1 hE_0_37_2 hE_0_37_3 hE_0_37_4 hK_0_37 kz_0_31 kz_0_32)⟩
  have nf2 : fc_1 PRD (20, [0, 4], [60, 2, 3, 267, 31, 32, 33, 34, 35]) ws (vs) := ⟨nf_in hl rfl, sgq_654 (vc_Mo_newLine_at_g1_1_2 (v_iv (n_v vs 1)) (v_iv (n_v vs 2)) (v_iv (n_v vs 3)) (v_iv (n_v vs 4)) (v_iv (n_v vs 8)) (v_iv (n_v vs 9)) (v_iv (n_v vs 10)) (v_iv (n_v vs 11)) (v_iv (n_v vs 12)) (w_fi ws (n_v vs 0) 32) (w_fi w1 (n_v vs 0) 32) (w_fi w2 (n_v vs 0) 32) (w_fi w3 (n_v vs 0) 32) (w_fi w4 (n_v vs 0) 32) (w_ei w4 (w_ar ws (n_v vs 0) 33)) (w_ei w4 (w_ar ws (n_v vs 0) 34)) (w_ei w4 (w_ar ws (n_v vs 0) 35)) (w_ei w4 (w_ar ws (n_v vs 0) 36)) (w_ei w4 (w_ar ws (n_v vs 0) 37)) (w_fi w4 (n_v vs 0) 31) (w_fi ws (n_v vs 0) 31) (w_fi w1 (n_v vs 0) 31) (w_fi w2 (n_v vs 0) 31) (w_fi w3 (n_v vs 0) 31) (w_ei ws (w_ar ws (n_v vs 0) 33)) (w_ei w1 (w_ar ws (n_v vs 0) 33)) (w_ei w2 (w_ar ws (n_v vs 0) 33)) (w_ei w3 (w_ar ws (n_v vs 0) 33)) (w_ei ws (w_ar ws (n_v vs 0) 34)) (w_ei w1 (w_ar ws (n_v vs 0) 34)) (w_ei w2 (w_ar ws (n_v vs 0) 34)) (w_ei w3 (w_ar ws (n_v vs 0) 34)) (w_ei ws (w_ar ws (n_v vs 0) 35)) (w_ei w1 (w_ar ws (n_v vs 0) 35)) (w_ei w2 (w_ar ws (n_v vs 0) 35)) (w_ei w3 (w_ar ws (n_v vs 0) 35)) (w_ei ws (w_ar ws (n_v vs 0) 36)) (w_ei w1 (w_ar ws (n_v vs 0) 36)) (w_ei w2 (w_ar ws (n_v vs 0) 36)) (w_ei w3 (w_ar ws (n_v vs 0) 36)) (w_ei ws (w_ar ws (n_v vs 0) 37)) (w_ei w1 (w_ar ws (n_v vs 0) 37)) (w_ei w2 (w_ar ws (n_v vs 0) 37)) (w_ei w3 (w_ar ws (n_v vs 0) 37)) k1 k2 k3 k4 k8 k9 k10 k11 k12 d0 d1 d2 (shm_14 f0) g1 (shm_649 f2) (shm_12 f4) g5 (shm_648 f6) (shm_649 f7) (shm_648 f10) (shm_649 f11) (shm_648 f14) (shm_649 f15) (shm_648 f18) (shm_649 f19) f20 f21 fe_0_31_1 fe_0_32_1 fe_0_31_2 fe_0_32_2 fe_0_31_3 fe_0_32_3 fe_0_31_4 fe_0_32_4 hE_0_33_1 hE_0_33_2 hE_0_33_3 hE_0_33_4 hK_0_33 hE_0_34_1 hE_0_34_2 hE_0_34_3 hE_0_34_4 hK_0_34 hE_0_35_1 hE_0_35_2 hE_0_35_3 hE_0_35_4 hK_0_35 hE_0_36_1 hE_0_36_2 hE_0_36_3 hE_0_36_4 hK_0_36 hE_0_37_1 hE_0_37_2 hE_0_37_3 hE_0_37_4 hK_0_37 kz_0_31 kz_0_32)⟩
  refine ⟨(fun _ h => (by cases h)), [], trivial, ?_, (fun _ h => (by cases h))⟩
  rw [List.append_nil]
  exact List.forall_mem_cons.mpr ⟨⟨show (20 : Nat) < 100 from by decide, nf0⟩, List.forall_mem_cons.mpr ⟨⟨show (20 : Nat) < 100 from by decide, nf1⟩, List.forall_mem_cons.mpr ⟨⟨show (20 : Nat) < 100 from by decide, nf2⟩, (fun _ h => (by cases h))⟩⟩⟩
def n_Mo_newLine_at_g1_an : List an_T := []
def t_Mo_newLine_at_g1_ct : ct_L := []
set_option maxRecDepth 100000 in
theorem c_Mo_newLine_at_g1 {l : Launch} {D : va_G} {kA : Nat → ClassId} : ct_ok PRD l D kA GG y_Mo_newLine_at_g1 z_Mo_newLine_at_g1 e_Mo_newLine_at_g1 := chk_all_ok (FT := [(57, 13, 33), (60, 13, 34), (63, 13, 35), (597, 13, 32)]) (PT := [(597, 13, 32, .int)]) (CT := t_Mo_newLine_at_g1_ct) (KT := []) (NT := []) (AN := n_Mo_newLine_at_g1_an) (OT := [o_Mo_newLine_at_g1_0, o_Mo_newLine_at_g1_1]) 0 200 (List.forall_mem_cons.mpr ⟨oo_Mo_newLine_at_g1_0, List.forall_mem_cons.mpr ⟨oo_Mo_newLine_at_g1_1, List.forall_mem_nil _⟩⟩) (by decide +kernel) ⟨List.forall_mem_cons.mpr ⟨gf_Mo_57, List.forall_mem_cons.mpr ⟨gf_Mo_60, List.forall_mem_cons.mpr ⟨gf_Mo_63, List.forall_mem_cons.mpr ⟨gf_Mo_597, List.forall_mem_nil _⟩⟩⟩⟩, List.forall_mem_cons.mpr ⟨pf_Mo_597, List.forall_mem_nil _⟩, List.forall_mem_nil _, List.forall_mem_nil _, List.forall_mem_nil _, GG_pl⟩ (by decide +kernel)
set_option maxHeartbeats 4000000 in
theorem vc_Mo_newLine_at_g3_0_r0 (x1 : Int) (x2 : Int) (x3 : Int) (x4 : Int) (x5 : Int) (x6 : Int) (pm_0 : Int) (pt_0 : Int → Int) (ph_0 : Int → Int) (alive_0 : Int → Int) (rotMany_0 : Int → Int) (rot_0 : Int → Int) (pn_0 : Int) (k1 : 0 ≤ x1 ∧ x1 ≤ 24) (k2 : 0 ≤ x2 ∧ x2 ≤ 24) (k3 : 0 ≤ x3 ∧ x3 ≤ 80) (k4 : 0 ≤ x4 ∧ x4 ≤ 159) (k5 : 0 ≤ x5 ∧ x5 ≤ 159) (k6 : 0 ≤ x6 ∧ x6 ≤ 80) (g0 : x3 = pm_0) (f2 : pm_0 ≤ 79) (f3 : PN3 (pn_0) (pm_0) (pt_0) (ph_0) (alive_0) (rotMany_0) (rot_0) (x1) (x2) (x4) (x5)) (f4 : CON (pn_0) (pm_0) (pt_0) (ph_0) (alive_0)) (f5 : pm_0 = x6) (hK_0_33 : ∀ j : Int, 0 ≤ j → j < 80 → 0 ≤ pt_0 j ∧ pt_0 j ≤ 24) (hK_0_34 : ∀ j : Int, 0 ≤ j → j < 80 → 0 ≤ ph_0 j ∧ ph_0 j ≤ 24) (hK_0_35 : ∀ j : Int, 0 ≤ j → j < 80 → 0 ≤ alive_0 j ∧ alive_0 j ≤ 1) (hK_0_36 : ∀ j : Int, 0 ≤ j → j < 26 → 0 ≤ rotMany_0 j ∧ rotMany_0 j ≤ 80) (hK_0_37 : ∀ j : Int, 0 ≤ j → j < 2080 → 0 ≤ rot_0 j ∧ rot_0 j ≤ 79) (kz_0_31 : 0 ≤ pn_0 ∧ pn_0 ≤ 25) (kz_0_32 : 0 ≤ pm_0 ∧ pm_0 ≤ 80) : 0 ≤ x3 ∧ x3 ≤ 79 := by
  first
    | omega
    | (have h := ‹PN1 _ _ _ _ _ _ _ _›.2.1
       have := h.2.2.1
       have := h.2.2.2.1
       omega)
    | (have h := ‹PN3 _ _ _ _ _ _ _ _ _ _ _›.2.1
       have := h.1
       have := h.2.1
       omega)
def o_Mo_newLine_at_g3_0 : or_T := (9, 8, [(0, (2, 0, 0, [165])), (1, (0, 0, 24, [])), (2, (0, 0, 24, [])), (3, (0, 0, 80, [])), (4, (0, 0, 159, [])), (5, (0, 0, 159, [])), (6, (0, 0, 80, [])), (7, (2, 0, 0, [180]))], [(9, [3, 0], [32]), (9, [7, 0], [33]), (20, [0], [50, 1, 0, 32, 0, 3, 2, 0, 32, 0, 79]), (20, [0, 1, 2, 4, 5], [60, 2, 5, 246, 31, 32, 33, 34, 35, 36, 37]), (20, [0], [60, 2, 3, 264, 31, 32, 33, 34, 35]), (20, [0, 6], [50, 1, 0, 32, 1, 3, 2, 0, 32, 1, 1])], [(3, (0, 0, 79, []))], [], [], [], [])
theorem oo_Mo_newLine_at_g3_0 {kA : Nat → ClassId} : or_ok PRD kA GG o_Mo_newLine_at_g3_0 := by
  refine or_mk fun A ta ws vs hD hth hl => ?_
  intro t0 r0 t1 k1 t2 k2 t3 k3 t4 k4 t5 k5 t6 k6 t7 r7 f0 f1 f2 f3 f4 f5
  replace f0 := shm_525 f0
  have cr_0_33 := fdq_117 hD hth r0
  have cr_0_34 := fdq_118 hD hth r0
  have cr_0_35 := fdq_132 hD hth r0
  have cr_0_36 := fdq_167 hD hth r0
  have cr_0_37 := fdq_168 hD hth r0
  have g0 : v_iv (n_v vs 3) = w_fi ws (n_v vs 0) 32 := congrArg v_iv f0
  have hK_0_33 := elq_60 hD hth cr_0_33
  have hK_0_34 := elq_61 hD hth cr_0_34
  have hK_0_35 := elq_72 hD hth cr_0_35
  have hK_0_36 := elq_97 hD hth cr_0_36
  have hK_0_37 := elq_98 hD hth cr_0_37
  have kz_0_31 := fdq_145 hD hth r0
  have kz_0_32 := fdq_140 hD hth r0
  have hrf0 : 0 ≤ v_iv (n_v vs 3) ∧ v_iv (n_v vs 3) ≤ 79 := vc_Mo_newLine_at_g3_0_r0 (v_iv (n_v vs 1)) (v_iv (n_v vs 2)) (v_iv (n_v vs 3)) (v_iv (n_v vs 4)) (v_iv (n_v vs 5)) (v_iv (n_v vs 6)) (w_fi ws (n_v vs 0) 32) (w_ei ws (w_ar ws (n_v vs 0) 33)) (w_ei ws (w_ar ws (n_v vs 0) 34)) (w_ei ws (w_ar ws (n_v vs 0) 35)) (w_ei ws (w_ar ws (n_v vs 0) 36)) (w_ei ws (w_ar ws (n_v vs 0) 37)) (w_fi ws (n_v vs 0) 31) k1 k2 k3 k4 k5 k6 g0 (shm_648 f2) (shm_655 f3) (shm_656 f4) (shm_657 f5) hK_0_33 hK_0_34 hK_0_35 hK_0_36 hK_0_37 kz_0_31 kz_0_32
  have rf3 : tv_ok ta (0, 0, 79, []) (n_v vs 3) := tv_in t3 (by first | omega | grind) (by first | omega | grind)
  refine ⟨List.forall_mem_cons.mpr ⟨rf3, (fun _ h => (by cases h))⟩, [], trivial, ?_, (fun _ h => (by cases h))⟩
  rw [List.append_nil]
  exact (fun _ h => (by cases h))
set_option maxHeartbeats 4000000 in
theorem vc_Mo_newLine_at_g3_1_0 (x1 : Int) (x2 : Int) (x3 : Int) (x4 : Int) (x5 : Int) (x6 : Int) (x10 : Int) (x11 : Int) (x12 : Int) (x13 : Int) (x14 : Int) (pm_0 : Int) (pm_1 : Int) (pm_2 : Int) (pm_3 : Int) (pm_4 : Int) (pt_4 : Int → Int) (ph_4 : Int → Int) (alive_4 : Int → Int) (rotMany_4 : Int → Int) (rot_4 : Int → Int) (pn_4 : Int) (pn_0 : Int) (pn_1 : Int) (pn_2 : Int) (pn_3 : Int) (pt_0 : Int → Int) (pt_1 : Int → Int) (pt_2 : Int → Int) (pt_3 : Int → Int) (ph_0 : Int → Int) (ph_1 : Int → Int) (ph_2 : Int → Int) (ph_3 : Int → Int) (alive_0 : Int → Int) (alive_1 : Int → Int) (alive_2 : Int → Int) (alive_3 : Int → Int) (rotMany_0 : Int → Int) (rotMany_1 : Int → Int) (rotMany_2 : Int → Int) (rotMany_3 : Int → Int) (rot_0 : Int → Int) (rot_1 : Int → Int) (rot_2 : Int → Int) (rot_3 : Int → Int) (k1 : 0 ≤ x1 ∧ x1 ≤ 24) (k2 : 0 ≤ x2 ∧ x2 ≤ 24) (k3 : 0 ≤ x3 ∧ x3 ≤ 79) (k4 : 0 ≤ x4 ∧ x4 ≤ 159) (k5 : 0 ≤ x5 ∧ x5 ≤ 159) (k6 : 0 ≤ x6 ∧ x6 ≤ 80) (k10 : 1 ≤ x10 ∧ x10 ≤ 1) (k11 : 1 ≤ x11 ∧ x11 ≤ 1) (k12 : 1 ≤ x12 ∧ x12 ≤ 80) (k13 : 1 ≤ x13 ∧ x13 ≤ 1) (k14 : 0 ≤ x14 ∧ x14 ≤ 79) (d0 : x12 + (-1) ≤ x14 ∧ x14 ≤ x12 + (-1)) (d1 : x3 + 0 ≤ x14 ∧ x14 ≤ x3 + 0) (d2 : x3 + 1 ≤ x12 ∧ x12 ≤ x3 + 1) (f0 : x14 = x12 - x13) (g1 : x12 = pm_0) (f3 : x12 = x3 + x11) (g4 : x3 = pm_1) (f5 : pm_1 ≤ 79) (f6 : pm_1 = x6) (f9 : pm_2 ≤ 79) (f10 : pm_2 = x6) (f13 : pm_3 ≤ 79) (f14 : pm_3 = x6) (f17 : pm_4 ≤ 79) (f18 : PN3 (pn_4) (pm_4) (pt_4) (ph_4) (alive_4) (rotMany_4) (rot_4) (x1) (x2) (x4) (x5)) (f19 : CON (pn_4) (pm_4) (pt_4) (ph_4) (alive_4)) (f20 : pm_4 = x6) (fe_0_31_1 : pn_0 = pn_1) (fe_0_32_1 : pm_0 = x12) (fe_0_31_2 : pn_1 = pn_2) (fe_0_32_2 : pm_1 = pm_2) (fe_0_31_3 : pn_2 = pn_3) (fe_0_32_3 : pm_2 = pm_3) (fe_0_31_4 : pn_3 = pn_4) (fe_0_32_4 : pm_3 = pm_4) (hE_0_33_1 : ∀ j : Int, pt_0 j = pt_1 j) (hE_0_33_2 : ∀ j : Int, pt_1 j = pt_2 j) (hE_0_33_3 : ∀ j : Int, pt_2 j = pt_3 j) (hE_0_33_4 : ∀ j : Int, 0 ≤ j → (j = x3 → pt_3 j = x1) ∧ (j ≠ x3 → pt_3 j = pt_4 j)) (hK_0_33 : ∀ j : Int, 0 ≤ j → j < 80 → 0 ≤ pt_0 j ∧ pt_0 j ≤ 24) (hE_0_34_1 : ∀ j : Int, ph_0 j = ph_1 j) (hE_0_34_2 : ∀ j : Int, ph_1 j = ph_2 j) (hE_0_34_3 : ∀ j : Int, 0 ≤ j → (j = x3 → ph_2 j = x2) ∧ (j ≠ x3 → ph_2 j = ph_3 j)) (hE_0_34_4 : ∀ j : Int, ph_3 j = ph_4 j) (hK_0_34 : ∀ j : Int, 0 ≤ j → j < 80 → 0 ≤ ph_0 j ∧ ph_0 j ≤ 24) (hE_0_35_1 : ∀ j : Int, alive_0 j = alive_1 j) (hE_0_35_2 : ∀ j : Int, 0 ≤ j → (j = x3 → alive_1 j = x10) ∧ (j ≠ x3 → alive_1 j = alive_2 j)) (hE_0_35_3 : ∀ j : Int, alive_2 j = alive_3 j) (hE_0_35_4 : ∀ j : Int, alive_3 j = alive_4 j) (hK_0_35 : ∀ j : Int, 0 ≤ j → j < 80 → 0 ≤ alive_0 j ∧ alive_0 j ≤ 1) (hE_0_36_1 : ∀ j : Int, rotMany_0 j = rotMany_1 j) (hE_0_36_2 : ∀ j : Int, rotMany_1 j = rotMany_2 j) (hE_0_36_3 : ∀ j : Int, rotMany_2 j = rotMany_3 j) (hE_0_36_4 : ∀ j : Int, rotMany_3 j = rotMany_4 j) (hK_0_36 : ∀ j : Int, 0 ≤ j → j < 26 → 0 ≤ rotMany_0 j ∧ rotMany_0 j ≤ 80) (hE_0_37_1 : ∀ j : Int, rot_0 j = rot_1 j) (hE_0_37_2 : ∀ j : Int, rot_1 j = rot_2 j) (hE_0_37_3 : ∀ j : Int, rot_2 j = rot_3 j) (hE_0_37_4 : ∀ j : Int, rot_3 j = rot_4 j) (hK_0_37 : ∀ j : Int, 0 ≤ j → j < 2080 → 0 ≤ rot_0 j ∧ rot_0 j ≤ 79) (kz_0_31 : 0 ≤ pn_0 ∧ pn_0 ≤ 25) (kz_0_32 : 0 ≤ pm_0 ∧ pm_0 ≤ 80) : PUc (pn_0) (pm_0) (pt_0) (ph_0) (alive_0) (rotMany_0) (rot_0) (x1) (x2) (x4) (x5) (x14) := by
  subst fe_0_31_1
  subst fe_0_31_2
  subst fe_0_32_2
  subst fe_0_31_3
  subst fe_0_32_3
  subst fe_0_31_4
  subst fe_0_32_4
  have e_hE_0_33_1 := funext hE_0_33_1; subst e_hE_0_33_1
  have e_hE_0_33_2 := funext hE_0_33_2; subst e_hE_0_33_2
  have e_hE_0_33_3 := funext hE_0_33_3; subst e_hE_0_33_3
  have e_hE_0_34_1 := funext hE_0_34_1; subst e_hE_0_34_1
  have e_hE_0_34_2 := funext hE_0_34_2; subst e_hE_0_34_2
  have e_hE_0_34_4 := funext hE_0_34_4; subst e_hE_0_34_4
  have e_hE_0_35_1 := funext hE_0_35_1; subst e_hE_0_35_1
  have e_hE_0_35_3 := funext hE_0_35_3; subst e_hE_0_35_3
  have e_hE_0_35_4 := funext hE_0_35_4; subst e_hE_0_35_4
  have e_hE_0_36_1 := funext hE_0_36_1; subst e_hE_0_36_1
  have e_hE_0_36_2 := funext hE_0_36_2; subst e_hE_0_36_2
  have e_hE_0_36_3 := funext hE_0_36_3; subst e_hE_0_36_3
  have e_hE_0_36_4 := funext hE_0_36_4; subst e_hE_0_36_4
  have e_hE_0_37_1 := funext hE_0_37_1; subst e_hE_0_37_1
  have e_hE_0_37_2 := funext hE_0_37_2; subst e_hE_0_37_2
  have e_hE_0_37_3 := funext hE_0_37_3; subst e_hE_0_37_3
  have e_hE_0_37_4 := funext hE_0_37_4; subst e_hE_0_37_4
  exact pux_new ‹PN3 _ _ _ _ _ _ _ _ _ _ _› (by omega) (by assumption) (by omega) (by omega) (by assumption) (by omega) (by omega) (by assumption) (by omega) (by omega) (by omega) (by omega) (Or.inr rfl)
set_option maxHeartbeats 4000000 in
theorem vc_Mo_newLine_at_g3_1_1 (x1 : Int) (x2 : Int) (x3 : Int) (x4 : Int) (x5 : Int) (x6 : Int) (x10 : Int) (x11 : Int) (x12 : Int) (x13 : Int) (x14 : Int) (pm_0 : Int) (pm_1 : Int) (pm_2 : Int) (pm_3 : Int) (pm_4 : Int) (pt_4 : Int → Int) (ph_4 : Int → Int) (alive_4 : Int → Int) (rotMany_4 : Int → Int) (rot_4 : Int → Int) (pn_4 : Int) (pn_0 : Int) (pn_1 : Int) (pn_2 : Int) (pn_3 : Int) (pt_0 : Int → Int) (pt_1 : Int → Int) (pt_2 : Int → Int) (pt_3 : Int → Int) (ph_0 : Int → Int) (ph_1 : Int → Int) (ph_2 : Int → Int) (ph_3 : Int → Int) (alive_0 : Int → Int) (alive_1 : Int → Int) (alive_2 : Int → Int) (alive_3 : Int → Int) (rotMany_0 : Int → Int) (rotMany_1 : Int → Int) (rotMany_2 : Int → Int) (rotMany_3 : Int → Int) (rot_0 : Int → Int) (rot_1 : Int → Int) (rot_2 : Int → Int) (rot_3 : Int → Int) (k1 : 0 ≤ x1 ∧ x1 ≤ 24) (k2 : 0 ≤ x2 ∧ x2 ≤ 24) (k3 : 0 ≤ x3 ∧ x3 ≤ 79) (k4 : 0 ≤ x4 ∧ x4 ≤ 159) (k5 : 0 ≤ x5 ∧ x5 ≤ 159) (k6 : 0 ≤ x6 ∧ x6 ≤ 80) (k10 : 1 ≤ x10 ∧ x10 ≤ 1) (k11 : 1 ≤ x11 ∧ x11 ≤ 1) (k12 : 1 ≤ x12 ∧ x12 ≤ 80) (k13 : 1 ≤ x13 ∧ x13 ≤ 1) (k14 : 0 ≤ x14 ∧ x14 ≤ 79) (d0 : x12 + (-1) ≤ x14 ∧ x14 ≤ x12 + (-1)) (d1 : x3 + 0 ≤ x14 ∧ x14 ≤ x3 + 0) (d2 : x3 + 1 ≤ x12 ∧ x12 ≤ x3 + 1) (f0 : x14 = x12 - x13) (g1 : x12 = pm_0) (f3 : x12 = x3 + x11) (g4 : x3 = pm_1) (f5 : pm_1 ≤ 79) (f6 : pm_1 = x6) (f9 : pm_2 ≤ 79) (f10 : pm_2 = x6) (f13 : pm_3 ≤ 79) (f14 : pm_3 = x6) (f17 : pm_4 ≤ 79) (f18 : PN3 (pn_4) (pm_4) (pt_4) (ph_4) (alive_4) (rotMany_4) (rot_4) (x1) (x2) (x4) (x5)) (f19 : CON (pn_4) (pm_4) (pt_4) (ph_4) (alive_4)) (f20 : pm_4 = x6) (fe_0_31_1 : pn_0 = pn_1) (fe_0_32_1 : pm_0 = x12) (fe_0_31_2 : pn_1 = pn_2) (fe_0_32_2 : pm_1 = pm_2) (fe_0_31_3 : pn_2 = pn_3) (fe_0_32_3 : pm_2 = pm_3) (fe_0_31_4 : pn_3 = pn_4) (fe_0_32_4 : pm_3 = pm_4) (hE_0_33_1 : ∀ j : Int, pt_0 j = pt_1 j) (hE_0_33_2 : ∀ j : Int, pt_1 j = pt_2 j) (hE_0_33_3 : ∀ j : Int, pt_2 j = pt_3 j) (hE_0_33_4 : ∀ j : Int, 0 ≤ j → (j = x3 → pt_3 j = x1) ∧ (j ≠ x3 → pt_3 j = pt_4 j)) (hK_0_33 : ∀ j : Int, 0 ≤ j → j < 80 → 0 ≤ pt_0 j ∧ pt_0 j ≤ 24) (hE_0_34_1 : ∀ j : Int, ph_0 j = ph_1 j) (hE_0_34_2 : ∀ j : Int, ph_1 j = ph_2 j) (hE_0_34_3 : ∀ j : Int, 0 ≤ j → (j = x3 → ph_2 j = x2) ∧ (j ≠ x3 → ph_2 j = ph_3 j)) (hE_0_34_4 : ∀ j : Int, ph_3 j = ph_4 j) (hK_0_34 : ∀ j : Int, 0 ≤ j → j < 80 → 0 ≤ ph_0 j ∧ ph_0 j ≤ 24) (hE_0_35_1 : ∀ j : Int, alive_0 j = alive_1 j) (hE_0_35_2 : ∀ j : Int, 0 ≤ j → (j = x3 → alive_1 j = x10) ∧ (j ≠ x3 → alive_1 j = alive_2 j)) (hE_0_35_3 : ∀ j : Int, alive_2 j = alive_3 j) (hE_0_35_4 : ∀ j : Int, alive_3 j = alive_4 j) (hK_0_35 : ∀ j : Int, 0 ≤ j → j < 80 → 0 ≤ alive_0 j ∧ alive_0 j ≤ 1) (hE_0_36_1 : ∀ j : Int, rotMany_0 j = rotMany_1 j) (hE_0_36_2 : ∀ j : Int, rotMany_1 j = rotMany_2 j) (hE_0_36_3 : ∀ j : Int, rotMany_2 j = rotMany_3 j) (hE_0_36_4 : ∀ j : Int, rotMany_3 j = rotMany_4 j) (hK_0_36 : ∀ j : Int, 0 ≤ j → j < 26 → 0 ≤ rotMany_0 j ∧ rotMany_0 j ≤ 80) (hE_0_37_1 : ∀ j : Int, rot_0 j = rot_1 j) (hE_0_37_2 : ∀ j : Int, rot_1 j = rot_2 j) (hE_0_37_3 : ∀ j : Int, rot_2 j = rot_3 j) (hE_0_37_4 : ∀ j : Int, rot_3 j = rot_4 j) (hK_0_37 : ∀ j : Int, 0 ≤ j → j < 2080 → 0 ≤ rot_0 j ∧ rot_0 j ≤ 79) (kz_0_31 : 0 ≤ pn_0 ∧ pn_0 ≤ 25) (kz_0_32 : 0 ≤ pm_0 ∧ pm_0 ≤ 80) : CON (pn_0) (pm_0) (pt_0) (ph_0) (alive_0) := by
  subst fe_0_31_1
  subst fe_0_31_2
  subst fe_0_32_2
  subst fe_0_31_3
  subst fe_0_32_3
  subst fe_0_31_4
  subst fe_0_32_4
  have e_hE_0_33_1 := funext hE_0_33_1; subst e_hE_0_33_1
  have e_hE_0_33_2 := funext hE_0_33_2; subst e_hE_0_33_2
  have e_hE_0_33_3 := funext hE_0_33_3; subst e_hE_0_33_3
  have e_hE_0_34_1 := funext hE_0_34_1; subst e_hE_0_34_1
  have e_hE_0_34_2 := funext hE_0_34_2; subst e_hE_0_34_2
  have e_hE_0_34_4 := funext hE_0_34_4; subst e_hE_0_34_4
  have e_hE_0_35_1 := funext hE_0_35_1; subst e_hE_0_35_1
  have e_hE_0_35_3 := funext hE_0_35_3; subst e_hE_0_35_3
  have e_hE_0_35_4 := funext hE_0_35_4; subst e_hE_0_35_4
  have e_hE_0_36_1 := funext hE_0_36_1; subst e_hE_0_36_1
  have e_hE_0_36_2 := funext hE_0_36_2; subst e_hE_0_36_2
  have e_hE_0_36_3 := funext hE_0_36_3; subst e_hE_0_36_3
  have e_hE_0_36_4 := funext hE_0_36_4; subst e_hE_0_36_4
  have e_hE_0_37_1 := funext hE_0_37_1; subst e_hE_0_37_1
  have e_hE_0_37_2 := funext hE_0_37_2; subst e_hE_0_37_2
  have e_hE_0_37_3 := funext hE_0_37_3; subst e_hE_0_37_3
  have e_hE_0_37_4 := funext hE_0_37_4; subst e_hE_0_37_4
  exact con_new ‹CON _ _ _ _ _› (by assumption) (by omega) (by assumption) (by omega) (by assumption) (by omega) (by omega)
set_option maxHeartbeats 4000000 in
theorem vc_Mo_newLine_at_g3_1_2 (x1 : Int) (x2 : Int) (x3 : Int) (x4 : Int) (x5 : Int) (x6 : Int) (x10 : Int) (x11 : Int) (x12 : Int) (x13 : Int) (x14 : Int) (pm_0 : Int) (pm_1 : Int) (pm_2 : Int) (pm_3 : Int) (pm_4 : Int) (pt_4 : Int → Int) (ph_4 : Int → Int) (alive_4 : Int → Int) (rotMany_4 : Int → Int) (rot_4 : Int → Int) (pn_4 : Int) (pn_0 : Int) (pn_1 : Int) (pn_2 : Int) (pn_3 : Int) (pt_0 : Int → Int) (pt_1 : Int → Int) (pt_2 : Int → Int) (pt_3 : Int → Int) (ph_0 : Int → Int) (ph_1 : Int → Int) (ph_2 : Int → Int) (ph_3 : Int → Int) (alive_0 : Int → Int) (alive_1 : Int → Int) (alive_2 : Int → Int) (alive_3 : Int → Int) (rotMany_0 : Int → Int) (rotMany_1 : Int → Int) (rotMany_2 : Int → Int) (rotMany_3 : Int → Int) (rot_0 : Int → Int) (rot_1 : Int → Int) (rot_2 : Int → Int) (rot_3 : Int → Int) (k1 : 0 ≤ x1 ∧ x1 ≤ 24) (k2 : 0 ≤ x2 ∧ x2 ≤ 24) (k3 : 0 ≤ x3 ∧ x3 ≤ 79) (k4 : 0 ≤ x4 ∧ x4 ≤ 159) (k5 : 0 ≤ x5 ∧ x5 ≤ 159) (k6 : 0 ≤ x6 ∧ x6 ≤ 80) (k10 : 1 ≤ x10 ∧ x10 ≤ 1) (k11 : 1 ≤ x11 ∧ x11 ≤ 1) (k12 : 1 ≤ x12 ∧ x12 ≤ 80) (k13 : 1 ≤ x13 ∧ x13 ≤ 1) (k14 : 0 ≤ x14 ∧ x14 ≤ 79) (d0 : x12 + (-1) ≤ x14 ∧ x14 ≤ x12 + (-1)) (d1 : x3 + 0 ≤ x14 ∧ x14 ≤ x3 + 0) (d2 : x3 + 1 ≤ x12 ∧ x12 ≤ x3 + 1) (f0 : x14 = x12 - x13) (g1 : x12 = pm_0) (f3 : x12 = x3 + x11) (g4 : x3 = pm_1) (f5 : pm_1 ≤ 79) (f6 : pm_1 = x6) (f9 : pm_2 ≤ 79) (f10 : pm_2 = x6) (f13 : pm_3 ≤ 79) (f14 : pm_3 = x6) (f17 : pm_4 ≤ 79) (f18 : PN3 (pn_4) (pm_4) (pt_4) (ph_4) (alive_4) (rotMany_4) (rot_4) (x1) (x2) (x4) (x5)) (f19 : CON (pn_4) (pm_4) (pt_4) (ph_4) (alive_4)) (f20 : pm_4 = x6) (fe_0_31_1 : pn_0 = pn_1) (fe_0_32_1 : pm_0 = x12) (fe_0_31_2 : pn_1 = pn_2) (fe_0_32_2 : pm_1 = pm_2) (fe_0_31_3 : pn_2 = pn_3) (fe_0_32_3 : pm_2 = pm_3) (fe_0_31_4 : pn_3 = pn_4) (fe_0_32_4 : pm_3 = pm_4) (hE_0_33_1 : ∀ j : Int, pt_0 j = pt_1 j) (hE_0_33_2 : ∀ j : Int, pt_1 j = pt_2 j) (hE_0_33_3 : ∀ j : Int, pt_2 j = pt_3 j) (hE_0_33_4 : ∀ j : Int, 0 ≤ j → (j = x3 → pt_3 j = x1) ∧ (j ≠ x3 → pt_3 j = pt_4 j)) (hK_0_33 : ∀ j : Int, 0 ≤ j → j < 80 → 0 ≤ pt_0 j ∧ pt_0 j ≤ 24) (hE_0_34_1 : ∀ j : Int, ph_0 j = ph_1 j) (hE_0_34_2 : ∀ j : Int, ph_1 j = ph_2 j) (hE_0_34_3 : ∀ j : Int, 0 ≤ j → (j = x3 → ph_2 j = x2) ∧ (j ≠ x3 → ph_2 j = ph_3 j)) (hE_0_34_4 : ∀ j : Int, ph_3 j = ph_4 j) (hK_0_34 : ∀ j : Int, 0 ≤ j → j < 80 → 0 ≤ ph_0 j ∧ ph_0 j ≤ 24) (hE_0_35_1 : ∀ j : Int, alive_0 j = alive_1 j) (hE_0_35_2 : ∀ j : Int, 0 ≤ j → (j = x3 → alive_1 j = x10) ∧ (j ≠ x3 → alive_1 j = alive_2 j)) (hE_0_35_3 : ∀ j : Int, alive_2 j = alive_3 j) (hE_0_35_4 : ∀ j : Int, alive_3 j = alive_4 j) (hK_0_35 : ∀ j : Int, 0 ≤ j → j < 80 → 0 ≤ alive_0 j ∧ alive_0 j ≤ 1) (hE_0_36_1 : ∀ j : Int, rotMany_0 j = rotMany_1 j) (hE_0_36_2 : ∀ j : Int, rotMany_1 j = rotMany_2 j) (hE_0_36_3 : ∀ j : Int, rotMany_2 j = rotMany_3 j) (hE_0_36_4 : ∀ j : Int, rotMany_3 j = rotMany_4 j) (hK_0_36 : ∀ j : Int, 0 ≤ j → j < 26 → 0 ≤ rotMany_0 j ∧ rotMany_0 j ≤ 80) (hE_0_37_1 : ∀ j : Int, rot_0 j = rot_1 j) (hE_0_37_2 : ∀ j : Int, rot_1 j = rot_2 j) (hE_0_37_3 : ∀ j : Int, rot_2 j = rot_3 j) (hE_0_37_4 : ∀ j : Int, rot_3 j = rot_4 j) (hK_0_37 : ∀ j : Int, 0 ≤ j → j < 2080 → 0 ≤ rot_0 j ∧ rot_0 j ≤ 79) (kz_0_31 : 0 ≤ pn_0 ∧ pn_0 ≤ 25) (kz_0_32 : 0 ≤ pm_0 ∧ pm_0 ≤ 80) : pm_0 = (x6 + 1) := by
  subst fe_0_31_1
  subst fe_0_31_2
  subst fe_0_32_2
  subst fe_0_31_3
  subst fe_0_32_3
  subst fe_0_31_4
  subst fe_0_32_4
  have e_hE_0_33_1 := funext hE_0_33_1; subst e_hE_0_33_1
  have e_hE_0_33_2 := funext hE_0_33_2; subst e_hE_0_33_2
  have e_hE_0_33_3 := funext hE_0_33_3; subst e_hE_0_33_3
  have e_hE_0_34_1 := funext hE_0_34_1; subst e_hE_0_34_1
  have e_hE_0_34_2 := funext hE_0_34_2; subst e_hE_0_34_2
  have e_hE_0_34_4 := funext hE_0_34_4; subst e_hE_0_34_4
  have e_hE_0_35_1 := funext hE_0_35_1; subst e_hE_0_35_1
  have e_hE_0_35_3 := funext hE_0_35_3; subst e_hE_0_35_3
  have e_hE_0_35_4 := funext hE_0_35_4; subst e_hE_0_35_4
  have e_hE_0_36_1 := funext hE_0_36_1; subst e_hE_0_36_1
  have e_hE_0_36_2 := funext hE_0_36_2; subst e_hE_0_36_2
  have e_hE_0_36_3 := funext hE_0_36_3; subst e_hE_0_36_3
  have e_hE_0_36_4 := funext hE_0_36_4; subst e_hE_0_36_4
  have e_hE_0_37_1 := funext hE_0_37_1; subst e_hE_0_37_1
  have e_hE_0_37_2 := funext hE_0_37_2; subst e_hE_0_37_2
  have e_hE_0_37_3 := funext hE_0_37_3; subst e_hE_0_37_3
  have e_hE_0_37_4 := funext hE_0_37_4; subst e_hE_0_37_4
  omega
def o_Mo_newLine_at_g3_1 : or_T := (46, 15, [(0, (2, 0, 0, [165])), (1, (0, 0, 24, [])), (2, (0, 0, 24, [])), (3, (0, 0, 79, [])), (4, (0, 0, 159, [])), (5, (0, 0, 159, [])), (6, (0, 0, 80, [])), (7, (2, 0, 0, [180])), (8, (2, 0, 0, [181])), (9, (2, 0, 0, [182])), (10, (0, 1, 1, [])), (11, (0, 1, 1, [])), (12, (0, 1, 80, [])), (13, (0, 1, 1, [])), (14, (0, 0, 79, []))], [(2, [14, 12, 13], []), (9, [12, 0], [32]), (101, [0, 12], [32]), (1, [12, 3, 11], []), (9, [3, 0], [32]), (20, [0], [50, 1, 0, 32, 0, 3, 2, 0, 32, 0, 79]), (20, [0, 6], [50, 1, 0, 32, 1, 3, 2, 0, 32, 1, 1]), (100, [9, 3, 10], []), (9, [9, 0], [35]), (20, [0], [50, 1, 0, 32, 0, 3, 2, 0, 32, 0, 79]), (20, [0, 6], [50, 1, 0, 32, 1, 3, 2, 0, 32, 1, 1]), (100, [8, 3, 2], []), (9, [8, 0], [34]), (20, [0], [50, 1, 0, 32, 0, 3, 2, 0, 32, 0, 79]), (20, [0, 6], [50, 1, 0, 32, 1, 3, 2, 0, 32, 1, 1]), (100, [7, 3, 1], []), (9, [7, 0], [33]), (20, [0], [50, 1, 0, 32, 0, 3, 2, 0, 32, 0, 79]), (20, [0, 1, 2, 4, 5], [60, 2, 5, 246, 31, 32, 33, 34, 35, 36, 37]), (20, [0], [60, 2, 3, 264, 31, 32, 33, 34, 35]), (20, [0, 6], [50, 1, 0, 32, 1, 3, 2, 0, 32, 1, 1])], [], [], [(20, [0, 1, 2, 4, 5, 14], [60, 2, 5, 249, 31, 32, 33, 34, 35, 36, 37]), (20, [0], [60, 2, 3, 264, 31, 32, 33, 34, 35]), (20, [0, 6], [50, 1, 0, 32, 1, 3, 2, 0, 32, 4, 2, 1, 1, 0, 1])], [], [(14, 12, -1, -1), (14, 3, 0, 0), (12, 3, 1, 1)])
theorem oo_Mo_newLine_at_g3_1 {kA : Nat → ClassId} : or_ok PRD kA GG o_Mo_newLine_at_g3_1 := by
  refine or_mk fun A ta ws vs hD hth hl => ?_
  intro t0 r0 t1 k1 t2 k2 t3 k3 t4 k4 t5 k5 t6 k6 t7 r7 t8 r8 t9 r9 t10 k10 t11 k11 t12 k12 t13 k13 t14 k14 d0 d1 d2 f0 f1 ta1 w1 le1 s1 f3 f4 f5 f6 ta2 w2 le2 s2 f8 f9 f10 ta3 w3 le3 s3 f12 f13 f14 ta4 w4 le4 s4 f16 f17 f18 f19 f20
  replace f1 := shm_525 f1
  have s1 : (∀ b j, w_el ws b j = w_el w1 b j) ∧ ∀ b j, w_fd ws b j = if b = v_ad (n_v vs 0) ∧ j = 32 then n_v vs 12 else w_fd w1 b j := s1.2
  replace f4 := shm_525 f4
  have s2 : (∀ b j, w_el w1 b j = if b = v_ad (n_v vs 9) ∧ j = (v_iv (n_v vs 3)).toNat then v_iv (n_v vs 10) else w_el w2 b j) ∧ ∀ b k, w_fd w1 b k = w_fd w2 b k := s2.2
  replace f8 := shm_511 f8
  have s3 : (∀ b j, w_el w2 b j = if b = v_ad (n_v vs 8) ∧ j = (v_iv (n_v vs 3)).toNat then v_iv (n_v vs 2) else w_el w3 b j) ∧ ∀ b k, w_fd w2 b k = w_fd w3 b k := s3.2
  replace f12 := shm_496 f12
  have s4 : (∀ b j, w_el w3 b j = if b = v_ad (n_v vs 7) ∧ j = (v_iv (n_v vs 3)).toNat then v_iv (n_v vs 1) else w_el w4 b j) ∧ ∀ b k, w_fd w3 b k = w_fd w4 b k := s4.2
  replace f16 := shm_494 f16
  replace f18 := shm_655 f18
  replace f19 := shm_656 f19
  have ar_0_33_1 : w_ar w1 (n_v vs 0) 33 = w_ar ws (n_v vs 0) 33 := by show v_ad (w_fd w1 _ _) = v_ad (w_fd ws _ _); rw [s1.2, if_neg (fun e => absurd e.2 (by decide))]
  have ar_0_33_2 : w_ar w2 (n_v vs 0) 33 = w_ar ws (n_v vs 0) 33 := by rw [← ar_0_33_1]; show v_ad (w_fd w2 _ _) = v_ad (w_fd w1 _ _); rw [s2.2]
  have ar_0_33_3 : w_ar w3 (n_v vs 0) 33 = w_ar ws (n_v vs 0) 33 := by rw [← ar_0_33_2]; show v_ad (w_fd w3 _ _) = v_ad (w_fd w2 _ _); rw [s3.2]
  have ar_0_33_4 : w_ar w4 (n_v vs 0) 33 = w_ar ws (n_v vs 0) 33 := by rw [← ar_0_33_3]; show v_ad (w_fd w4 _ _) = v_ad (w_fd w3 _ _); rw [s4.2]
  have cr_0_33 := fdq_117 hD hth r0
  have ar_0_34_1 : w_ar w1 (n_v vs 0) 34 = w_ar ws (n_v vs 0) 34 := by show v_ad (w_fd w1 _ _) = v_ad (w_fd ws _ _); rw [s1.2, if_neg (fun e => absurd e.2 (by decide))]
  have ar_0_34_2 : w_ar w2 (n_v vs 0) 34 = w_ar ws (n_v vs 0) 34 := by rw [← ar_0_34_1]; show v_ad (w_fd w2 _ _) = v_ad (w_fd w1 _ _); rw [s2.2]
  have ar_0_34_3 : w_ar w3 (n_v vs 0) 34 = w_ar ws (n_v vs 0) 34 := by rw [← ar_0_34_2]; show v_ad (w_fd w3 _ _) = v_ad (w_fd w2 _ _); rw [s3.2]
  have ar_0_34_4 : w_ar w4 (n_v vs 0) 34 = w_ar ws (n_v vs 0) 34 := by rw [← ar_0_34_3]; show v_ad (w_fd w4 _ _) = v_ad (w_fd w3 _ _); rw [s4.2]
  have cr_0_34 := fdq_118 hD hth r0
  have ar_0_35_1 : w_ar w1 (n_v vs 0) 35 = w_ar ws (n_v vs 0) 35 := by show v_ad (w_fd w1 _ _) = v_ad (w_fd ws _ _); rw [s1.2, if_neg (fun e => absurd e.2 (by decide))]
  have ar_0_35_2 : w_ar w2 (n_v vs 0) 35 = w_ar ws (n_v vs 0) 35 := by rw [← ar_0_35_1]; show v_ad (w_fd w2 _ _) = v_ad (w_fd w1 _ _); rw [s2.2]
  have ar_0_35_3 : w_ar w3 (n_v vs 0) 35 = w_ar ws (n_v vs 0) 35 := by rw [← ar_0_35_2]; show v_ad (w_fd w3 _ _) = v_ad (w_fd w2 _ _); rw [s3.2]
  have ar_0_35_4 : w_ar w4 (n_v vs 0) 35 = w_ar ws (n_v vs 0) 35 := by rw [← ar_0_35_3]; show v_ad (w_fd w4 _ _) = v_ad (w_fd w3 _ _); rw [s4.2]
  have cr_0_35 := fdq_132 hD hth r0
  have ar_0_36_1 : w_ar w1 (n_v vs 0) 36 = w_ar ws (n_v vs 0) 36 := by show v_ad (w_fd w1 _ _) = v_ad (w_fd ws _ _); rw [s1.2, if_neg (fun e => absurd e.2 (by decide))]
  have ar_0_36_2 : w_ar w2 (n_v vs 0) 36 = w_ar ws (n_v vs 0) 36 := by rw [← ar_0_36_1]; show v_ad (w_fd w2 _ _) = v_ad (w_fd w1 _ _); rw [s2.2]
  have ar_0_36_3 : w_ar w3 (n_v vs 0) 36 = w_ar ws (n_v vs 0) 36 := by rw [← ar_0_36_2]; show v_ad (w_fd w3 _ _) = v_ad (w_fd w2 _ _); rw [s3.2]
  have ar_0_36_4 : w_ar w4 (n_v vs 0) 36 = w_ar ws (n_v vs 0) 36 := by rw [← ar_0_36_3]; show v_ad (w_fd w4 _ _) = v_ad (w_fd w3 _ _); rw [s4.2]
  have cr_0_36 := fdq_167 hD hth r0
  have ar_0_37_1 : w_ar w1 (n_v vs 0) 37 = w_ar ws (n_v vs 0) 37 := by show v_ad (w_fd w1 _ _) = v_ad (w_fd ws _ _); rw [s1.2, if_neg (fun e => absurd e.2 (by decide))]
  have ar_0_37_2 : w_ar w2 (n_v vs 0) 37 = w_ar ws (n_v vs 0) 37 := by rw [← ar_0_37_1]; show v_ad (w_fd w2 _ _) = v_ad (w_fd w1 _ _); rw [s2.2]
  have ar_0_37_3 : w_ar w3 (n_v vs 0) 37 = w_ar ws (n_v vs 0) 37 := by rw [← ar_0_37_2]; show v_ad (w_fd w3 _ _) = v_ad (w_fd w2 _ _); rw [s3.2]
  have ar_0_37_4 : w_ar w4 (n_v vs 0) 37 = w_ar ws (n_v vs 0) 37 := by rw [← ar_0_37_3]; show v_ad (w_fd w4 _ _) = v_ad (w_fd w3 _ _); rw [s4.2]
  have cr_0_37 := fdq_168 hD hth r0
  have ad_9 : v_ad (n_v vs 9) = w_ar ws (n_v vs 0) 35 := (congrArg v_ad f8).trans ar_0_35_2
  have ad_8 : v_ad (n_v vs 8) = w_ar ws (n_v vs 0) 34 := (congrArg v_ad f12).trans ar_0_34_3
  have ad_7 : v_ad (n_v vs 7) = w_ar ws (n_v vs 0) 33 := (congrArg v_ad f16).trans ar_0_33_4
  have g1 : v_iv (n_v vs 12) = w_fi ws (n_v vs 0) 32 := congrArg v_iv f1
  have g4 : v_iv (n_v vs 3) = w_fi w1 (n_v vs 0) 32 := congrArg v_iv f4
  simp only [ar_0_33_4, ar_0_34_4, ar_0_35_4, ar_0_36_4, ar_0_37_4] at f18 f19
  have fe_0_31_1 : w_fi ws (n_v vs 0) 31 = w_fi w1 (n_v vs 0) 31 := by show v_iv (w_fd _ _ _) = v_iv (w_fd _ _ _); rw [s1.2, if_neg (fun e => absurd e.2 (by decide))]
  have fe_0_32_1 : w_fi ws (n_v vs 0) 32 = v_iv (n_v vs 12) := by show v_iv (w_fd _ _ _) = _; rw [s1.2, if_pos ⟨rfl, rfl⟩]
  have fe_0_31_2 : w_fi w1 (n_v vs 0) 31 = w_fi w2 (n_v vs 0) 31 := congrArg v_iv (s2.2 _ _)
  have fe_0_32_2 : w_fi w1 (n_v vs 0) 32 = w_fi w2 (n_v vs 0) 32 := congrArg v_iv (s2.2 _ _)
  have fe_0_31_3 : w_fi w2 (n_v vs 0) 31 = w_fi w3 (n_v vs 0) 31 := congrArg v_iv (s3.2 _ _)
  have fe_0_32_3 : w_fi w2 (n_v vs 0) 32 = w_fi w3 (n_v vs 0) 32 := congrArg v_iv (s3.2 _ _)
  have fe_0_31_4 : w_fi w3 (n_v vs 0) 31 = w_fi w4 (n_v vs 0) 31 := congrArg v_iv (s4.2 _ _)
  have fe_0_32_4 : w_fi w3 (n_v vs 0) 32 = w_fi w4 (n_v vs 0) 32 := congrArg v_iv (s4.2 _ _)
  have hE_0_33_1 : ∀ j : Int, w_ei ws (w_ar ws (n_v vs 0) 33) j = w_ei w1 (w_ar ws (n_v vs 0) 33) j := fun j => s1.1 _ _
  have hE_0_33_2 : ∀ j : Int, w_ei w1 (w_ar ws (n_v vs 0) 33) j = w_ei w2 (w_ar ws (n_v vs 0) 33) j := el_kp s2.1 r9 cr_0_33 (by decide)
  have hE_0_33_3 : ∀ j : Int, w_ei w2 (w_ar ws (n_v vs 0) 33) j = w_ei w3 (w_ar ws (n_v vs 0) 33) j := el_kp s3.1 r8 cr_0_33 (by decide)
  have hE_0_33_4 : ∀ j : Int, 0 ≤ j → (j = v_iv (n_v vs 3) → w_ei w3 (w_ar ws (n_v vs 0) 33) j = v_iv (n_v vs 1)) ∧ (j ≠ v_iv (n_v vs 3) → w_ei w3 (w_ar ws (n_v vs 0) 33) j = w_ei w4 (w_ar ws (n_v vs 0) 33) j) := fun j hj => ⟨fun h => by unfold w_ei; rw [s4.1, if_pos ⟨ad_7.symm, by rw [h]⟩], fun h => by unfold w_ei; rw [s4.1, if_neg (fun e => h (by have := e.2; omega))]⟩
  have hK_0_33 := elq_60 hD hth cr_0_33
  have hE_0_34_1 : ∀ j : Int, w_ei ws (w_ar ws (n_v vs 0) 34) j = w_ei w1 (w_ar ws (n_v vs 0) 34) j := fun j => s1.1 _ _
  have hE_0_34_2 : ∀ j : Int, w_ei w1 (w_ar ws (n_v vs 0) 34) j = w_ei w2 (w_ar ws (n_v vs 0) 34) j := el_kp s2.1 r9 cr_0_34 (by decide)
  have hE_0_34_3 : ∀ j : Int, 0 ≤ j → (j = v_iv (n_v vs 3) → w_ei w2 (w_ar ws (n_v vs 0) 34) j = v_iv (n_v vs 2)) ∧ (j ≠ v_iv (n_v vs 3) → w_ei w2 (w_ar ws (n_v vs 0) 34) j = w_ei w3 (w_ar ws (n_v vs 0) 34) j) := fun j hj => ⟨fun h => by unfold w_ei; rw [s3.1, if_pos ⟨ad_8.symm, by rw [h]⟩], fun h => by unfold w_ei; rw [s3.1, if_neg (fun e => h (by have := e.2; omega))]⟩
  have hE_0_34_4 : ∀ j : Int, w_ei w3 (w_ar ws (n_v vs 0) 34) j = w_ei w4 (w_ar ws (n_v vs 0) 34) j := el_kp s4.1 r7 cr_0_34 (by decide)
  have hK_0_34 := elq_61 hD hth cr_0_34
  have hE_0_35_1 : ∀ j : Int, w_ei ws (w_ar ws (n_v vs 0) 35) j = w_ei w1 (w_ar ws (n_v vs 0) 35) j := fun j => s1.1 _ _
  have hE_0_35_2 : ∀ j : Int, 0 ≤ j → (j = v_iv (n_v vs 3) → w_ei w1 (w_ar ws (n_v vs 0) 35) j = v_iv (n_v vs 10)) ∧ (j ≠ v_iv (n_v vs 3) → w_ei w1 (w_ar ws (n_v vs 0) 35) j = w_ei w2 (w_ar ws (n_v vs 0) 35) j) := fun j hj => ⟨fun h => by unfold w_ei; rw [s2.1, if_pos ⟨ad_9.symm, by rw [h]⟩], fun h => by unfold w_ei; rw [s2.1, if_neg (fun e => h (by have := e.2; omega))]⟩
  have hE_0_35_3 : ∀ j : Int, w_ei w2 (w_ar ws (n_v vs 0) 35) j = w_ei w3 (w_ar ws (n_v vs 0) 35) j := el_kp s3.1 r8 cr_0_35 (by decide)
  have hE_0_35_4 : ∀ j : Int, w_ei w3 (w_ar ws (n_v vs 0) 35) j = w_ei w4 (w_ar ws (n_v vs 0) 35) j := el_kp s4.1 r7 cr_0_35 (by decide)
  have hK_0_35 := elq_72 hD hth cr_0_35
  have hE_0_36_1 : ∀ j : Int, w_ei ws (w_ar ws (n_v vs 0) 36) j = w_ei w1 (w_ar ws (n_v vs 0) 36) j := fun j => s1.1 _ _
  have hE_0_36_2 : ∀ j : Int, w_ei w1 (w_ar ws (n_v vs 0) 36) j = w_ei w2 (w_ar ws (n_v vs 0) 36) j := el_kp s2.1 r9 cr_0_36 (by decide)
  have hE_0_36_3 : ∀ j : Int, w_ei w2 (w_ar ws (n_v vs 0) 36) j = w_ei w3 (w_ar ws (n_v vs 0) 36) j := el_kp s3.1 r8 cr_0_36 (by decide)
  have hE_0_36_4 : ∀ j : Int, w_ei w3 (w_ar ws (n_v vs 0) 36) j = w_ei w4 (w_ar ws (n_v vs 0) 36) j := el_kp s4.1 r7 cr_0_36 (by decide)
  have hK_0_36 := elq_97 hD hth cr_0_36
  have hE_0_37_1 : ∀ j : Int, w_ei ws (w_ar ws (n_v vs 0) 37) j = w_ei w1 (w_ar ws (n_v vs 0) 37) j := fun j => s1.1 _ _
  have hE_0_37_2 : ∀ j : Int, w_ei w1 (w_ar ws (n_v vs 0) 37) j = w_ei w2 (w_ar ws (n_v vs 0) 37) j := el_kp s2.1 r9 cr_0_37 (by decide)
  have hE_0_37_3 : ∀ j : Int, w_ei w2 (w_ar ws (n_v vs 0) 37) j = w_ei w3 (w_ar ws (n_v vs 0) 37) j := el_kp s3.1 r8 cr_0_37 (by decide)
  have hE_0_37_4 : ∀ j : Int, w_ei w3 (w_ar ws (n_v vs 0) 37) j = w_ei w4 (w_ar ws (n_v vs 0) 37) j := el_kp s4.1 r7 cr_0_37 (by decide)
  have hK_0_37 := elq_98 hD hth cr_0_37
  have kz_0_31 := fdq_145 hD hth r0
  have kz_0_32 := fdq_140 hD hth r0
  have nf0 : fc_1 PRD (20, [0, 1, 2, 4, 5, 14], [60, 2, 5, 249, 31, 32, 33, 34, 35, 36, 37]) ws (vs) := ⟨nf_in hl rfl, sgq_658 (vc_Mo_newLine_at_g3_1_0 (v_iv (n_v vs 1)) (v_iv (n_v vs 2)) (v_iv (n_v vs 3)) (v_iv (n_v vs 4)) (v_iv (n_v vs 5)) (v_iv (n_v vs 6)) (v_iv (n_v vs 10)) (v_iv (n_v vs 11)) (v_iv (n_v vs 12)) (v_iv (n_v vs 13)) (v_iv (n_v vs 14)) (w_fi ws (n_v vs 0) 32) (w_fi w1 (n_v vs 0) 32) (w_fi w2 (n_v vs 0) 32) (w_fi w3 (n_v vs 0) 32) (w_fi w4 (n_v vs 0) 32) (w_ei w4 (w_ar ws (n_v vs 0) 33)) (w_ei w4 (w_ar ws (n_v vs 0) 34)) (w_ei w4 (w_ar ws (n_v vs 0) 35)) (w_ei w4 (w_ar ws (n_v vs 0) 36)) (w_ei w4 (w_ar ws (n_v vs 0) 37)) (w_fi w4 (n_v vs 0) 31) (w_fi ws (n_v vs 0) 31) (w_fi w1 (n_v vs 0) 31) (w_fi w2 (n_v vs 0) 31) (w_fi w3 (n_v vs 0) 31) (w_ei ws (w_ar ws (n_v vs 0) 33)) (w_ei w1 (w_ar ws (n_v vs 0) 33)) (w_ei w2 (w_ar ws (n_v vs 0) 33)) (w_ei w3 (w_ar ws (n_v vs 0) 33)) (w_ei ws (w_ar ws (n_v vs 0) 34)) (w_ei w1 (w_ar ws (n_v vs 0) 34)) (w_ei w2 (w_ar ws (n_v vs 0) 34)) (w_ei w3 (w_ar ws (n_v vs 0) 34)) (w_ei ws (w_ar ws (n_v vs 0) 35)) (w_ei w1 (w_ar ws (n_v vs 0) 35)) (w_ei w2 (w_ar ws (n_v vs 0) 35)) (w_ei w3 (w_ar ws (n_v vs 0) 35)) (w_ei ws (w_ar ws (n_v vs 0) 36)) (w_ei w1 (w_ar ws (n_v vs 0) 36)) (w_ei w2 (w_ar ws (n_v vs 0) 36)) (w_ei w3 (w_ar ws (n_v vs 0) 36)) (w_ei ws (w_ar ws (n_v vs 0) 37)) (w_ei w1 (w_ar ws (n_v vs 0) 37)) (w_ei w2 (w_ar ws (n_v vs 0) 37)) (w_ei w3 (w_ar ws (n_v vs 0) 37)) k1 k2 k3 k4 k5 k6 k10 k11 k12 k13 k14 d0 d1 d2 (shm_14 f0) g1 (shm_12 f3) g4 (shm_648 f5) (shm_657 f6) (shm_648 f9) (shm_657 f10) (shm_648 f13) (shm_657 f14) (shm_648 f17) f18 f19 (shm_657 f20) fe_0_31_1 fe_0_32_1 fe_0_31_2 fe_0_32_2 fe_0_31_3 fe_0_32_3 fe_0_31_4 fe_0_32_4 hE_0_33_1 hE_0_33_2 hE_0_33_3 hE_0_33_4 hK_0_33 hE_0_34_1 hE_0_34_2 hE_0_34_3 hE_0_34_4 hK_0_34 hE_0_35_1 hE_0_35_2 hE_0_35_3 hE_0_35_4 hK_0_35 hE_0_36_1 hE_0_36_2 hE_0_36_3 hE_0_36_4 hK_0_36 hE_0_37_1 hE_0_37_2 hE_0_37_3 hE_0_37_4 hK_0_37 kz_0_31 kz_0_32)⟩
  have nf1 : fc_1 PRD (20, [0], [60, 2, 3, 264, 31, 32, 33, 34, 35]) ws (vs) := ⟨nf_in hl rfl, sgq_656 (vc_Mo_newLine_at_g3_1_1 (v_iv (n_v vs 1)) (v_iv (n_v vs 2)) (v_iv (n_v vs 3)) (v_iv (n_v vs 4)) (v_iv (n_v vs 5)) (v_iv (n_v vs 6)) (v_iv (n_v vs 10)) (v_iv (n_v vs 11)) (v_iv (n_v vs 12)) (v_iv (n_v vs 13)) (v_iv (n_v vs 14)) (w_fi ws (n_v vs 0) 32) (w_fi w1 (n_v vs 0) 32) (w_fi w2 (n_v vs 0) 32) (w_fi w3 (n_v vs 0) 32) (w_fi w4 (n_v vs 0) 32) (w_ei w4 (w_ar ws (n_v vs 0) 33)) (w_ei w4 (w_ar ws (n_v vs 0) 34)) (w_ei w4 (w_ar ws (n_v vs 0) 35)) (w_ei w4 (w_ar ws (n_v vs 0) 36)) (w_ei w4 (w_ar ws (n_v vs 0) 37)) (w_fi w4 (n_v vs 0) 31) (w_fi ws (n_v vs 0) 31) (w_fi w1 (n_v vs 0) 31) (w_fi w2 (n_v vs 0) 31) (w_fi w3 (n_v vs 0) 31) (w_ei ws (w_ar ws (n_v vs 0) 33)) (w_ei w1 (w_ar ws (n_v vs 0) 33)) (w_ei w2 (w_ar ws (n_v vs 0) 33)) (w_ei w3 (w_ar ws (n_v vs 0) 33)) (w_ei ws (w_ar ws (n_v vs 0) 34)) (w_ei w1 (w_ar ws (n_v vs 0) 34)) (w_ei w2 (w_ar ws (n_v vs 0) 34)) (w_ei w3 (w_ar ws (n_v vs 0) 34)) (w_ei ws (w_ar ws (n_v vs 0) 35)) (w_ei w1 (w_ar ws (n_v vs 0) 35)) (w_ei w2 (w_ar ws (n_v vs 0) 35)) (w_ei w3 (w_ar ws (n_v vs 0) 35)) (w_ei ws (w_ar ws (n_v vs 0) 36)) (w_ei w1 (w_ar ws (n_v vs 0) 36)) (w_ei w2 (w_ar ws (n_v vs 0) 36)) (w_ei w3 (w_ar ws (n_v vs 0) 36)) (w_ei ws (w_ar ws (n_v vs 0) 37)) (w_ei w1 (w_ar ws (n_v vs 0) 37)) (w_ei w2 (w_ar ws (n_v vs 0) 37)) (w_ei w3 (w_ar ws (n_v vs 0) 37)) k1 k2 k3 k4 k5 k6 k10 k11 k12 k13 k14 d0 d1 d2 (shm_14 f0) g1 (shm_12 f3) g4 (shm_648 f5) (shm_657 f6) (shm_648 f9) (shm_657 f10) (shm_648 f13) (shm_657 f14) (shm_648 f17) f18 f19 (shm_657 f20) fe_0_31_1 fe_0_32_1 fe_0_31_2 fe_0_32_2 fe_0_31_3 fe_0_32_3 fe_0_31_4 fe_0_32_4 hE_0_33_1 hE_0_33_2 hE_0_33_3 hE_0_33_4 hK_0_33 hE_0_34_1 hE_0_34_2 hE_0_34_3 hE_0_34_4 hK_0_34 hE_0_35_1 hE_0_35_2 hE_0_35_3 hE_0_35_4 hK_0_35 hE_0_36_1 hE_0_36_2 hE_0_36_3 hE_0_36_4 hK_0_36 hE_0_37_1 hE_0_37_2 hE_0_37_3 hE_0_37_4 hK_0_37 kz_0_31 kz_0_32)⟩
  have nf2 : fc_1 PRD (20, [0, 6], [50, 1, 0, 32, 1, 3, 2, 0, 32, 4, 2, 1, 1, 0, 1]) ws (vs) := ⟨nf_in hl rfl, sgq_659 (vc_Mo_newLine_at_g3_1_2 (v_iv (n_v vs 1)) (v_iv (n_v vs 2)) (v_iv (n_v vs 3)) (v_iv (n_v vs 4)) (v_iv (n_v vs 5)) (v_iv (n_v vs 6)) (v_iv (n_v vs 10)) (v_iv (n_v vs 11)) (v_iv (n_v vs 12)) (v_iv (n_v vs 13)) (v_iv (n_v vs 14)) (w_fi ws (n_v vs 0) 32) (w_fi w1 (n_v vs 0) 32) (w_fi w2 (n_v vs 0) 32) (w_fi w3 (n_v vs 0) 32) (w_fi w4 (n_v vs 0) 32) (w_ei w4 (w_ar ws (n_v vs 0) 33)) (w_ei w4 (w_ar ws (n_v vs 0) 34)) (w_ei w4 (w_ar ws (n_v vs 0) 35)) (w_ei w4 (w_ar ws (n_v vs 0) 36)) (w_ei w4 (w_ar ws (n_v vs 0) 37)) (w_fi w4 (n_v vs 0) 31) (w_fi ws (n_v vs 0) 31) (w_fi w1 (n_v vs 0) 31) (w_fi w2 (n_v vs 0) 31) (w_fi w3 (n_v vs 0) 31) (w_ei ws (w_ar ws (n_v vs 0) 33)) (w_ei w1 (w_ar ws (n_v vs 0) 33)) (w_ei w2 (w_ar ws (n_v vs 0) 33)) (w_ei w3 (w_ar ws (n_v vs 0) 33)) (w_ei ws (w_ar ws (n_v vs 0) 34)) (w_ei w1 (w_ar ws (n_v vs 0) 34)) (w_ei w2 (w_ar ws (n_v vs 0) 34)) (w_ei w3 (w_ar ws (n_v vs 0) 34)) (w_ei ws (w_ar ws (n_v vs 0) 35)) (w_ei w1 (w_ar ws (n_v vs 0) 35)) (w_ei w2 (w_ar ws (n_v vs 0) 35)) (w_ei w3 (w_ar ws (n_v vs 0) 35)) (w_ei ws (w_ar ws (n_v vs 0) 36)) (w_ei w1 (w_ar ws (n_v vs 0) 36)) (w_ei w2 (w_ar ws (n_v vs 0) 36)) (w_ei w3 (w_ar ws (n_v vs 0) 36)) (w_ei ws (w_ar ws (n_v vs 0) 37)) (w_ei w1 (w_ar ws (n_v vs 0) 37)) (w_ei w2 (w_ar ws (n_v vs 0) 37)) (w_ei w3 (w_ar ws (n_v vs 0) 37)) k1 k2 k3 k4 k5 k6 k10 k11 k12 k13 k14 d0 d1 d2 (shm_14 f0) g1 (shm_12 f3) g4 (shm_648 f5) (shm_657 f6) (shm_648 f9) (shm_657 f10) (shm_648 f13) (shm_657 f14) (shm_648 f17) f18 f19 (shm_657 f20) fe_0_31_1 fe_0_32_1 fe_0_31_2 fe_0_32_2 fe_0_31_3 fe_0_32_3 fe_0_31_4 fe_0_32_4 hE_0_33_1 hE_0_33_2 hE_0_33_3 hE_0_33_4 hK_0_33 hE_0_34_1 hE_0_34_2 hE_0_34_3 hE_0_34_4 hK_0_34 hE_0_35_1 hE_0_35_2 hE_0_35_3 hE_0_35_4 hK_0_35 hE_0_36_1 hE_0_36_2 hE_0_36_3 hE_0_36_4 hK_0_36 hE_0_37_1 hE_0_37_2 hE_0_37_3 hE_0_37_4 hK_0_37 kz_0_31 kz_0_32)⟩
  refine ⟨(fun _ h => (by cases h)), [], trivial, ?_, (fun _ h => (by cases h))⟩
  rw [List.append_nil]
  exact List.forall_mem_cons.mpr ⟨⟨show (20 : Nat) < 100 from by decide, nf0⟩, List.forall_mem_cons.mpr ⟨⟨show (20 : Nat) < 100 from by decide, nf1⟩, List.forall_mem_cons.mpr ⟨⟨show (20 : Nat) < 100 from by decide, nf2⟩, (fun _ h => (by cases h))⟩⟩⟩
def n_Mo_newLine_at_g3_an : List an_T := []
def t_Mo_newLine_at_g3_ct : ct_L := []
set_option maxRecDepth 100000 in
theorem c_Mo_newLine_at_g3 {l : Launch} {D : va_G} {kA : Nat → ClassId} : ct_ok PRD l D kA GG y_Mo_newLine_at_g3 z_Mo_newLine_at_g3 e_Mo_newLine_at_g3 := chk_all_ok (FT := [(57, 13, 33), (60, 13, 34), (63, 13, 35), (597, 13, 32)]) (PT := [(597, 13, 32, .int)]) (CT := t_Mo_newLine_at_g3_ct) (KT := []) (NT := []) (AN := n_Mo_newLine_at_g3_an) (OT := [o_Mo_newLine_at_g3_0, o_Mo_newLine_at_g3_1]) 0 200 (List.forall_mem_cons.mpr ⟨oo_Mo_newLine_at_g3_0, List.forall_mem_cons.mpr ⟨oo_Mo_newLine_at_g3_1, List.forall_mem_nil _⟩⟩) (by decide +kernel) ⟨List.forall_mem_cons.mpr ⟨gf_Mo_57, List.forall_mem_cons.mpr ⟨gf_Mo_60, List.forall_mem_cons.mpr ⟨gf_Mo_63, List.forall_mem_cons.mpr ⟨gf_Mo_597, List.forall_mem_nil _⟩⟩⟩⟩, List.forall_mem_cons.mpr ⟨pf_Mo_597, List.forall_mem_nil _⟩, List.forall_mem_nil _, List.forall_mem_nil _, List.forall_mem_nil _, GG_pl⟩ (by decide +kernel)
set_option maxHeartbeats 4000000 in
theorem vc_Mo_nextOrder_at_gm_0_0 (x1 : Int) (x2 : Int) (x3 : Int) (x4 : Int) (order_0 : Int → Int) (member_0 : Int → Int) (k1 : 0 ≤ x1 ∧ x1 ≤ 26) (k2 : (-2) ≤ x2 ∧ x2 ≤ 16777216) (k3 : 2 ≤ x3 ∧ x3 ≤ 2) (k4 : (-2) ≤ x4 ∧ x4 ≤ 24) (d0 : x1 + (-2) ≤ x4 ∧ x4 ≤ x1 + (-2)) (f0 : x4 = x1 - x3) (f1 : x1 ≤ 8) (f2 : DIS (order_0) (x1)) (f3 : ORM (order_0) (x1) (x2)) (f4 : SEM (order_0) (member_0) (x1)) (hK_0_96 : ∀ j : Int, 0 ≤ j → j < 26 → 0 ≤ order_0 j ∧ order_0 j ≤ 25) (hK_0_98 : ∀ j : Int, 0 ≤ j → j < 26 → 0 ≤ member_0 j ∧ member_0 j ≤ 25) : NO1 (order_0) (x1) (x4) := by
  first
    | exact ⟨‹DIS _ _›, by omega⟩
    | (have h := ‹NO1 _ _ _›
       exact ⟨h.1, by have := h.2; omega⟩)
def o_Mo_nextOrder_at_gm_0 : or_T := (4, 5, [(0, (2, 0, 0, [165])), (1, (0, 0, 26, [])), (2, (0, -2, 16777216, [])), (3, (0, 2, 2, [])), (4, (0, -2, 24, []))], [(2, [4, 1, 3], []), (20, [1], [50, 0, 0, 0, 2, 1, 0, 0, 8]), (20, [0, 1], [60, 0, 1, 322, 96]), (20, [0, 1, 2], [60, 0, 1, 323, 96]), (20, [0, 1], [60, 0, 2, 328, 96, 98])], [], [], [(20, [0, 1, 4], [60, 0, 1, 325, 96]), (24, [0, 0], []), (24, [1, 1], [])], [], [(4, 1, -2, -2)])
theorem oo_Mo_nextOrder_at_gm_0 {kA : Nat → ClassId} : or_ok PRD kA GG o_Mo_nextOrder_at_gm_0 := by
  refine or_mk fun A ta ws vs hD hth hl => ?_
  intro t0 r0 t1 k1 t2 k2 t3 k3 t4 k4 d0 f0 f1 f2 f3 f4
  have cr_0_96 := fdq_166 hD hth r0
  have cr_0_98 := fdq_157 hD hth r0
  have hK_0_96 := elq_96 hD hth cr_0_96
  have hK_0_98 := elq_90 hD hth cr_0_98
  have nf0 : fc_1 PRD (20, [0, 1, 4], [60, 0, 1, 325, 96]) ws (vs) := ⟨nf_in hl rfl, sgq_664 (vc_Mo_nextOrder_at_gm_0_0 (v_iv (n_v vs 1)) (v_iv (n_v vs 2)) (v_iv (n_v vs 3)) (v_iv (n_v vs 4)) (w_ei ws (w_ar ws (n_v vs 0) 96)) (w_ei ws (w_ar ws (n_v vs 0) 98)) k1 k2 k3 k4 d0 (shm_14 f0) (shm_660 f1) (shm_661 f2) (shm_662 f3) (shm_663 f4) hK_0_96 hK_0_98)⟩
  have nf1 : fc_1 PRD (24, [0, 0], []) ws (vs) := by
    refine ⟨nf_in hl rfl, sgq_1 ?_⟩
    · show n_v vs 0 = n_v vs 0
      first | rfl | simp only [true_and]
  have nf2 : fc_1 PRD (24, [1, 1], []) ws (vs) := by
    refine ⟨nf_in hl rfl, sgq_1 ?_⟩
    · show n_v vs 1 = n_v vs 1
      first | rfl | simp only [true_and]
  refine ⟨(fun _ h => (by cases h)), [], trivial, ?_, (fun _ h => (by cases h))⟩
  rw [List.append_nil]
  exact List.forall_mem_cons.mpr ⟨⟨show (20 : Nat) < 100 from by decide, nf0⟩, List.forall_mem_cons.mpr ⟨⟨show (24 : Nat) < 100 from by decide, nf1⟩, List.forall_mem_cons.mpr ⟨⟨show (24 : Nat) < 100 from by decide, nf2⟩, (fun _ h => (by cases h))⟩⟩⟩
set_option maxHeartbeats 4000000 in
theorem vc_Mo_nextOrder_at_gm_1_0 (x1 : Int) (x2 : Int) (x4 : Int) (x5 : Int) (x6 : Int) (order_0 : Int → Int) (member_0 : Int → Int) (k1 : 0 ≤ x1 ∧ x1 ≤ 26) (k2 : (-2) ≤ x2 ∧ x2 ≤ 16777216) (k4 : 0 ≤ x4 ∧ x4 ≤ 26) (k5 : (-2) ≤ x5 ∧ x5 ≤ (-1)) (k6 : 0 ≤ x6 ∧ x6 ≤ 0) (d0 : x4 + (-4294967296) ≤ x1 ∧ x1 ≤ x4 + 0) (d1 : x1 + (-4294967296) ≤ x4 ∧ x4 ≤ x1 + 0) (d2 : x1 + (-4294967296) ≤ x5 ∧ x5 ≤ x1 + (-2)) (d3 : x4 + (-4294967296) ≤ x5 ∧ x5 ≤ x4 + (-2)) (f0 : x5 < 0) (f1 : x5 < 0) (f2 : SEM (order_0) (member_0) (x1)) (f3 : x1 ≤ 8) (f4 : NO1 (order_0) (x1) (x5)) (f5 : ORM (order_0) (x1) (x2)) (hK_0_96 : ∀ j : Int, 0 ≤ j → j < 26 → 0 ≤ order_0 j ∧ order_0 j ≤ 25) (hK_0_98 : ∀ j : Int, 0 ≤ j → j < 26 → 0 ≤ member_0 j ∧ member_0 j ≤ 25) : DIS (order_0) (x1) := by
  exact ‹NO1 _ _ _›.1
set_option maxHeartbeats 4000000 in
theorem vc_Mo_nextOrder_at_gm_1_1 (x1 : Int) (x2 : Int) (x4 : Int) (x5 : Int) (x6 : Int) (order_0 : Int → Int) (member_0 : Int → Int) (k1 : 0 ≤ x1 ∧ x1 ≤ 26) (k2 : (-2) ≤ x2 ∧ x2 ≤ 16777216) (k4 : 0 ≤ x4 ∧ x4 ≤ 26) (k5 : (-2) ≤ x5 ∧ x5 ≤ (-1)) (k6 : 0 ≤ x6 ∧ x6 ≤ 0) (d0 : x4 + (-4294967296) ≤ x1 ∧ x1 ≤ x4 + 0) (d1 : x1 + (-4294967296) ≤ x4 ∧ x4 ≤ x1 + 0) (d2 : x1 + (-4294967296) ≤ x5 ∧ x5 ≤ x1 + (-2)) (d3 : x4 + (-4294967296) ≤ x5 ∧ x5 ≤ x4 + (-2)) (f0 : x5 < 0) (f1 : x5 < 0) (f2 : SEM (order_0) (member_0) (x1)) (f3 : x1 ≤ 8) (f4 : NO1 (order_0) (x1) (x5)) (f5 : ORM (order_0) (x1) (x2)) (hK_0_96 : ∀ j : Int, 0 ≤ j → j < 26 → 0 ≤ order_0 j ∧ order_0 j ≤ 25) (hK_0_98 : ∀ j : Int, 0 ≤ j → j < 26 → 0 ≤ member_0 j ∧ member_0 j ≤ 25) : ORN (order_0) (x1) (x2) (x6) := by
  intro z; exfalso; omega
set_option maxHeartbeats 4000000 in
theorem vc_Mo_nextOrder_at_gm_1_2 (x1 : Int) (x2 : Int) (x4 : Int) (x5 : Int) (x6 : Int) (order_0 : Int → Int) (member_0 : Int → Int) (k1 : 0 ≤ x1 ∧ x1 ≤ 26) (k2 : (-2) ≤ x2 ∧ x2 ≤ 16777216) (k4 : 0 ≤ x4 ∧ x4 ≤ 26) (k5 : (-2) ≤ x5 ∧ x5 ≤ (-1)) (k6 : 0 ≤ x6 ∧ x6 ≤ 0) (d0 : x4 + (-4294967296) ≤ x1 ∧ x1 ≤ x4 + 0) (d1 : x1 + (-4294967296) ≤ x4 ∧ x4 ≤ x1 + 0) (d2 : x1 + (-4294967296) ≤ x5 ∧ x5 ≤ x1 + (-2)) (d3 : x4 + (-4294967296) ≤ x5 ∧ x5 ≤ x4 + (-2)) (f0 : x5 < 0) (f1 : x5 < 0) (f2 : SEM (order_0) (member_0) (x1)) (f3 : x1 ≤ 8) (f4 : NO1 (order_0) (x1) (x5)) (f5 : ORM (order_0) (x1) (x2)) (hK_0_96 : ∀ j : Int, 0 ≤ j → j < 26 → 0 ≤ order_0 j ∧ order_0 j ≤ 25) (hK_0_98 : ∀ j : Int, 0 ≤ j → j < 26 → 0 ≤ member_0 j ∧ member_0 j ≤ 25) : SEM (order_0) (member_0) (x1) := by
  first
    | assumption
    | (have h := ‹NO2 _ _ _ _›
       have h2 := h.2.1
       have h4 := h.2.2.2
       exact sem_swp (a := x5) (b := x6) ‹SEM _ _ _› (by omega) (by omega) (by omega) (by omega) (swp_st (by omega) (by omega) (by omega) (by assumption) (by omega) (by omega) (by assumption) (by omega) (by omega)))
    | (have h := ‹NO3 _ _ _ _ _ _›
       have h2 := h.2.1
       have h3 := h.2.2.1
       have h4 := h.2.2.2.1
       exact sem_swp (a := x8) (b := x9) ‹SEM _ _ _› (by omega) (by omega) (by omega) (by omega) (swp_st (by omega) (by omega) (by omega) (by assumption) (by omega) (by omega) (by assumption) (by omega) (by omega)))
def o_Mo_nextOrder_at_gm_1 : or_T := (36, 7, [(0, (2, 0, 0, [165])), (1, (0, 0, 26, [])), (2, (0, -2, 16777216, [])), (4, (0, 0, 26, [])), (5, (0, -2, -1, [])), (6, (0, 0, 0, []))], [(8, [5], [2]), (8, [5], [2]), (20, [3, 4], [60, 0, 2, 328, 96, 98]), (20, [4], [50, 0, 0, 0, 2, 1, 0, 0, 8]), (20, [3, 4, 5], [60, 0, 1, 325, 96]), (20, [3, 4, 2], [60, 0, 1, 323, 96]), (24, [0, 3], []), (24, [1, 4], [])], [], [], [(20, [0, 1], [60, 0, 1, 322, 96]), (20, [0, 1, 2, 6], [60, 0, 1, 324, 96]), (20, [0, 1], [60, 0, 2, 328, 96, 98])], [], [(1, 4, -4294967296, 0), (4, 1, -4294967296, 0), (5, 1, -4294967296, -2), (5, 4, -4294967296, -2)])
theorem oo_Mo_nextOrder_at_gm_1 {kA : Nat → ClassId} : or_ok PRD kA GG o_Mo_nextOrder_at_gm_1 := by
  refine or_mk fun A ta ws vs hD hth hl => ?_
  intro t0 r0 t1 k1 t2 k2 t4 k4 t5 k5 t6 k6 d0 d1 d2 d3 f0 f1 f2 f3 f4 f5 f6 f7
  replace f2 := shm_663 f2
  replace f3 := shm_660 f3
  replace f4 := shm_664 f4
  replace f5 := shm_662 f5
  replace f6 := shm_5 f6
  replace f7 := shm_5 f7
  have q3 : n_v vs 3 = n_v vs 0 := f6.symm
  have q4 : n_v vs 4 = n_v vs 1 := f7.symm
  simp only [q3, q4] at f2 f3 f4 f5
  have cr_0_96 := fdq_166 hD hth r0
  have cr_0_98 := fdq_157 hD hth r0
  have hK_0_96 := elq_96 hD hth cr_0_96
  have hK_0_98 := elq_90 hD hth cr_0_98
  have nf0 : fc_1 PRD (20, [0, 1], [60, 0, 1, 322, 96]) ws (vs) := ⟨nf_in hl rfl, sgq_661 (vc_Mo_nextOrder_at_gm_1_0 (v_iv (n_v vs 1)) (v_iv (n_v vs 2)) (v_iv (n_v vs 4)) (v_iv (n_v vs 5)) (v_iv (n_v vs 6)) (w_ei ws (w_ar ws (n_v vs 0) 96)) (w_ei ws (w_ar ws (n_v vs 0) 98)) k1 k2 k4 k5 k6 d0 d1 d2 d3 (shm_39 f0) (shm_39 f1) f2 f3 f4 f5 hK_0_96 hK_0_98)⟩
  have nf1 : fc_1 PRD (20, [0, 1, 2, 6], [60, 0, 1, 324, 96]) ws (vs) := ⟨nf_in hl rfl, sgq_665 (vc_Mo_nextOrder_at_gm_1_1 (v_iv (n_v vs 1)) (v_iv (n_v vs 2)) (v_iv (n_v vs 4)) (v_iv (n_v vs 5)) (v_iv (n_v vs 6)) (w_ei ws (w_ar ws (n_v vs 0) 96)) (w_ei ws (w_ar ws (n_v vs 0) 98)) k1 k2 k4 k5 k6 d0 d1 d2 d3 (shm_39 f0) (shm_39 f1) f2 f3 f4 f5 hK_0_96 hK_0_98)⟩
  have nf2 : fc_1 PRD (20, [0, 1], [60, 0, 2, 328, 96, 98]) ws (vs) := ⟨nf_in hl rfl, sgq_663 (vc_Mo_nextOrder_at_gm_1_2 (v_iv (n_v vs 1)) (v_iv (n_v vs 2)) (v_iv (n_v vs 4)) (v_iv (n_v vs 5)) (v_iv (n_v vs 6)) (w_ei ws (w_ar ws (n_v vs 0) 96)) (w_ei ws (w_ar ws (n_v vs 0) 98)) k1 k2 k4 k5 k6 d0 d1 d2 d3 (shm_39 f0) (shm_39 f1) f2 f3 f4 f5 hK_0_96 hK_0_98)⟩
  refine ⟨(fun _ h => (by cases h)), [], trivial, ?_, (fun _ h => (by cases h))⟩
  rw [List.append_nil]
  exact List.forall_mem_cons.mpr ⟨⟨show (20 : Nat) < 100 from by decide, nf0⟩, List.forall_mem_cons.mpr ⟨⟨show (20 : Nat) < 100 from by decide, nf1⟩, List.forall_mem_cons.mpr ⟨⟨show (20 : Nat) < 100 from by decide, nf2⟩, (fun _ h => (by cases h))⟩⟩⟩
set_option maxHeartbeats 4000000 in
theorem vc_Mo_nextOrder_at_gm_2_0 (x1 : Int) (x2 : Int) (x4 : Int) (x5 : Int) (x7 : Int) (x8 : Int) (x9 : Int) (x10 : Int) (x11 : Int) (x12 : Int) (order_0 : Int → Int) (member_0 : Int → Int) (k1 : 2 ≤ x1 ∧ x1 ≤ 26) (k2 : (-2) ≤ x2 ∧ x2 ≤ 16777216) (k4 : 2 ≤ x4 ∧ x4 ≤ 26) (k5 : 0 ≤ x5 ∧ x5 ≤ 24) (k7 : 0 ≤ x7 ∧ x7 ≤ 25) (k8 : 1 ≤ x8 ∧ x8 ≤ 1) (k9 : 1 ≤ x9 ∧ x9 ≤ 25) (k10 : 0 ≤ x10 ∧ x10 ≤ 25) (k11 : 1 ≤ x11 ∧ x11 ≤ 1) (k12 : 1 ≤ x12 ∧ x12 ≤ 25) (d0 : x4 + (-1) ≤ x12 ∧ x12 ≤ x4 + (-1)) (d1 : x1 + (-4294967296) ≤ x12 ∧ x12 ≤ x1 + (-1)) (d2 : x10 + (-4294967296) ≤ x7 ∧ x7 ≤ x10 + 0) (d3 : x5 + 1 ≤ x9 ∧ x9 ≤ x5 + 1) (d4 : x1 + (-4294967296) ≤ x9 ∧ x9 ≤ x1 + (-1)) (d5 : x4 + (-4294967296) ≤ x9 ∧ x9 ≤ x4 + (-1)) (d6 : x4 + (-4294967296) ≤ x1 ∧ x1 ≤ x4 + 0) (d7 : x1 + (-4294967296) ≤ x4 ∧ x4 ≤ x1 + 0) (d8 : x1 + (-4294967296) ≤ x5 ∧ x5 ≤ x1 + (-2)) (d9 : x4 + (-4294967296) ≤ x5 ∧ x5 ≤ x4 + (-2)) (f0 : x12 = x1 - x11) (f1 : 0 ≤ x5) (f2 : x7 ≤ x10) (h3 : x10 = order_0 (x9)) (f4 : x9 = x5 + x8) (h6 : x7 = order_0 (x5)) (f7 : 0 ≤ x5) (f8 : SEM (order_0) (member_0) (x1)) (f9 : x1 ≤ 8) (f10 : NO1 (order_0) (x1) (x5)) (f11 : ORM (order_0) (x1) (x2)) (hK_0_96 : ∀ j : Int, 0 ≤ j → j < 26 → 0 ≤ order_0 j ∧ order_0 j ≤ 25) (hK_0_98 : ∀ j : Int, 0 ≤ j → j < 26 → 0 ≤ member_0 j ∧ member_0 j ≤ 25) : NO2 (order_0) (x1) (x5) (x12) := by
  first
    | exact no2_start ‹NO1 _ _ _› (by omega) (by rw [← (by omega : x9 = x5 + 1)]; omega) (by omega)
    | exact no2_step ‹NO2 _ _ _ _› (by omega) (by omega)
def o_Mo_nextOrder_at_gm_2 : or_T := (41, 13, [(0, (2, 0, 0, [165])), (1, (0, 2, 26, [])), (2, (0, -2, 16777216, [])), (4, (0, 2, 26, [])), (5, (0, 0, 24, [])), (7, (0, 0, 25, [])), (8, (0, 1, 1, [])), (9, (0, 1, 25, [])), (10, (0, 0, 25, [])), (11, (0, 1, 1, [])), (12, (0, 1, 25, []))], [(2, [12, 4, 11], []), (8, [5], [3]), (7, [7, 10], [5]), (10, [10, 6, 9], []), (1, [9, 5, 8], []), (9, [6, 3], [96]), (10, [7, 6, 5], []), (8, [5], [3]), (20, [3, 4], [60, 0, 2, 328, 96, 98]), (20, [4], [50, 0, 0, 0, 2, 1, 0, 0, 8]), (20, [3, 4, 5], [60, 0, 1, 325, 96]), (20, [3, 4, 2], [60, 0, 1, 323, 96]), (24, [0, 3], []), (24, [1, 4], [])], [], [], [(20, [3, 4, 5, 12], [60, 0, 1, 326, 96])], [], [(12, 4, -1, -1), (12, 1, -4294967296, -1), (7, 10, -4294967296, 0), (9, 5, 1, 1), (9, 1, -4294967296, -1), (9, 4, -4294967296, -1), (1, 4, -4294967296, 0), (4, 1, -4294967296, 0), (5, 1, -4294967296, -2), (5, 4, -4294967296, -2)])
theorem oo_Mo_nextOrder_at_gm_2 {kA : Nat → ClassId} : or_ok PRD kA GG o_Mo_nextOrder_at_gm_2 := by
  refine or_mk fun A ta ws vs hD hth hl => ?_
  intro t0 r0 t1 k1 t2 k2 t4 k4 t5 k5 t7 k7 t8 k8 t9 k9 t10 k10 t11 k11 t12 k12 d0 d1 d2 d3 d4 d5 d6 d7 d8 d9 f0 f1 f2 f3 f4 f5 f6 f7 f8 f9 f10 f11 f12 f13
  replace f0 := shm_14 f0
  replace f1 := shm_32 f1
  replace f2 := shm_24 f2
  replace f3 := shm_107 f3
  replace f4 := shm_12 f4
  replace f5 := shm_666 f5
  replace f6 := shm_107 f6
  replace f7 := shm_32 f7
  replace f8 := shm_663 f8
  replace f9 := shm_660 f9
  replace f10 := shm_664 f10
  replace f11 := shm_662 f11
  replace f12 := shm_5 f12
  replace f13 := shm_5 f13
  have q3 : n_v vs 3 = n_v vs 0 := f12.symm
  have q4 : n_v vs 4 = n_v vs 1 := f13.symm
  simp only [q4, q3] at f0 f5 f8 f9 f10 f11
  have cr_0_96 := fdq_166 hD hth r0
  have cr_0_98 := fdq_157 hD hth r0
  have ad_6 : v_ad (n_v vs 6) = w_ar ws (n_v vs 0) 96 := congrArg v_ad f5
  simp only [ad_6] at f3
  have h3 : v_iv (n_v vs 10) = w_ei ws (w_ar ws (n_v vs 0) 96) (v_iv (n_v vs 9)) := f3
  simp only [ad_6] at f6
  have h6 : v_iv (n_v vs 7) = w_ei ws (w_ar ws (n_v vs 0) 96) (v_iv (n_v vs 5)) := f6
  have hK_0_96 := elq_96 hD hth cr_0_96
  have hK_0_98 := elq_90 hD hth cr_0_98
  have nf0 : fc_1 PRD (20, [3, 4, 5, 12], [60, 0, 1, 326, 96]) ws (vs) := by
    refine ⟨nf_in hl rfl, sgq_667 ?_⟩
    · show NO2 (w_ei ws (w_ar ws (n_v vs 3) 96)) (v_iv (n_v vs 4)) (v_iv (n_v vs 5)) (v_iv (n_v vs 12))
      simp only [q3, q4]
      exact vc_Mo_nextOrder_at_gm_2_0 (v_iv (n_v vs 1)) (v_iv (n_v vs 2)) (v_iv (n_v vs 4)) (v_iv (n_v vs 5)) (v_iv (n_v vs 7)) (v_iv (n_v vs 8)) (v_iv (n_v vs 9)) (v_iv (n_v vs 10)) (v_iv (n_v vs 11)) (v_iv (n_v vs 12)) (w_ei ws (w_ar ws (n_v vs 0) 96)) (w_ei ws (w_ar ws (n_v vs 0) 98)) k1 k2 k4 k5 k7 k8 k9 k10 k11 k12 d0 d1 d2 d3 d4 d5 d6 d7 d8 d9 f0 f1 f2 h3 f4 h6 f7 f8 f9 f10 f11 hK_0_96 hK_0_98
  refine ⟨(fun _ h => (by cases h)), [], trivial, ?_, (fun _ h => (by cases h))⟩
  rw [List.append_nil]
  exact List.forall_mem_cons.mpr ⟨⟨show (20 : Nat) < 100 from by decide, nf0⟩, (fun _ h => (by cases h))⟩
set_option maxHeartbeats 4000000 in
theorem vc_Mo_nextOrder_at_gm_3_0 (x1 : Int) (x2 : Int) (x4 : Int) (x5 : Int) (x7 : Int) (x8 : Int) (x9 : Int) (x10 : Int) (x11 : Int) (order_0 : Int → Int) (member_0 : Int → Int) (k1 : 2 ≤ x1 ∧ x1 ≤ 26) (k2 : (-2) ≤ x2 ∧ x2 ≤ 16777216) (k4 : 2 ≤ x4 ∧ x4 ≤ 26) (k5 : 0 ≤ x5 ∧ x5 ≤ 24) (k7 : 1 ≤ x7 ∧ x7 ≤ 25) (k8 : 1 ≤ x8 ∧ x8 ≤ 1) (k9 : 1 ≤ x9 ∧ x9 ≤ 25) (k10 : 0 ≤ x10 ∧ x10 ≤ 24) (k11 : (-1) ≤ x11 ∧ x11 ≤ 23) (d0 : x5 + (-1) ≤ x11 ∧ x11 ≤ x5 + (-1)) (d1 : x1 + (-4294967296) ≤ x11 ∧ x11 ≤ x1 + (-3)) (d2 : x4 + (-4294967296) ≤ x11 ∧ x11 ≤ x4 + (-3)) (d3 : x10 + 1 ≤ x7 ∧ x7 ≤ x10 + 4294967296) (d4 : x5 + 1 ≤ x9 ∧ x9 ≤ x5 + 1) (d5 : x1 + (-4294967296) ≤ x9 ∧ x9 ≤ x1 + (-1)) (d6 : x4 + (-4294967296) ≤ x9 ∧ x9 ≤ x4 + (-1)) (d7 : x4 + (-4294967296) ≤ x1 ∧ x1 ≤ x4 + 0) (d8 : x1 + (-4294967296) ≤ x4 ∧ x4 ≤ x1 + 0) (d9 : x1 + (-4294967296) ≤ x5 ∧ x5 ≤ x1 + (-2)) (d10 : x4 + (-4294967296) ≤ x5 ∧ x5 ≤ x4 + (-2)) (f0 : x11 = x5 + (-1)) (f1 : x10 < x7) (h2 : x10 = order_0 (x9)) (f3 : x9 = x5 + x8) (h5 : x7 = order_0 (x5)) (f6 : 0 ≤ x5) (f7 : SEM (order_0) (member_0) (x1)) (f8 : x1 ≤ 8) (f9 : NO1 (order_0) (x1) (x5)) (f10 : ORM (order_0) (x1) (x2)) (hK_0_96 : ∀ j : Int, 0 ≤ j → j < 26 → 0 ≤ order_0 j ∧ order_0 j ≤ 25) (hK_0_98 : ∀ j : Int, 0 ≤ j → j < 26 → 0 ≤ member_0 j ∧ member_0 j ≤ 25) : NO1 (order_0) (x1) (x11) := by
  first
    | exact ⟨‹DIS _ _›, by omega⟩
    | (have h := ‹NO1 _ _ _›
       exact ⟨h.1, by have := h.2; omega⟩)
def o_Mo_nextOrder_at_gm_3 : or_T := (4, 12, [(0, (2, 0, 0, [165])), (1, (0, 2, 26, [])), (2, (0, -2, 16777216, [])), (4, (0, 2, 26, [])), (5, (0, 0, 24, [])), (7, (0, 1, 25, [])), (8, (0, 1, 1, [])), (9, (0, 1, 25, [])), (10, (0, 0, 24, [])), (11, (0, -1, 23, []))], [(6, [11, 5], [-1]), (7, [7, 10], [4]), (10, [10, 6, 9], []), (1, [9, 5, 8], []), (9, [6, 3], [96]), (10, [7, 6, 5], []), (8, [5], [3]), (20, [3, 4], [60, 0, 2, 328, 96, 98]), (20, [4], [50, 0, 0, 0, 2, 1, 0, 0, 8]), (20, [3, 4, 5], [60, 0, 1, 325, 96]), (20, [3, 4, 2], [60, 0, 1, 323, 96]), (24, [0, 3], []), (24, [1, 4], [])], [], [], [(20, [3, 4, 11], [60, 0, 1, 325, 96])], [], [(11, 5, -1, -1), (11, 1, -4294967296, -3), (11, 4, -4294967296, -3), (7, 10, 1, 4294967296), (9, 5, 1, 1), (9, 1, -4294967296, -1), (9, 4, -4294967296, -1), (1, 4, -4294967296, 0), (4, 1, -4294967296, 0), (5, 1, -4294967296, -2), (5, 4, -4294967296, -2)])
theorem oo_Mo_nextOrder_at_gm_3 {kA : Nat → ClassId} : or_ok PRD kA GG o_Mo_nextOrder_at_gm_3 := by
  refine or_mk fun A ta ws vs hD hth hl => ?_
  intro t0 r0 t1 k1 t2 k2 t4 k4 t5 k5 t7 k7 t8 k8 t9 k9 t10 k10 t11 k11 d0 d1 d2 d3 d4 d5 d6 d7 d8 d9 d10 f0 f1 f2 f3 f4 f5 f6 f7 f8 f9 f10 f11 f12
  replace f0 := shm_186 f0
  replace f1 := shm_21 f1
  replace f2 := shm_107 f2
  replace f3 := shm_12 f3
  replace f4 := shm_666 f4
  replace f5 := shm_107 f5
  replace f6 := shm_32 f6
  replace f7 := shm_663 f7
  replace f8 := shm_660 f8
  replace f9 := shm_664 f9
  replace f10 := shm_662 f10
  replace f11 := shm_5 f11
  replace f12 := shm_5 f12
  have q3 : n_v vs 3 = n_v vs 0 := f11.symm
  have q4 : n_v vs 4 = n_v vs 1 := f12.symm
  simp only [q3, q4] at f4 f7 f8 f9 f10
  have cr_0_96 := fdq_166 hD hth r0
  have cr_0_98 := fdq_157 hD hth r0
  have ad_6 : v_ad (n_v vs 6) = w_ar ws (n_v vs 0) 96 := congrArg v_ad f4
  simp only [ad_6] at f2
  have h2 : v_iv (n_v vs 10) = w_ei ws (w_ar ws (n_v vs 0) 96) (v_iv (n_v vs 9)) := f2
  simp only [ad_6] at f5
  have h5 : v_iv (n_v vs 7) = w_ei ws (w_ar ws (n_v vs 0) 96) (v_iv (n_v vs 5)) := f5
  have hK_0_96 := elq_96 hD hth cr_0_96
  have hK_0_98 := elq_90 hD hth cr_0_98
  have nf0 : fc_1 PRD (20, [3, 4, 11], [60, 0, 1, 325, 96]) ws (vs) := by
    refine ⟨nf_in hl rfl, sgq_664 ?_⟩
    · show NO1 (w_ei ws (w_ar ws (n_v vs 3) 96)) (v_iv (n_v vs 4)) (v_iv (n_v vs 11))
      simp only [q3, q4]
      exact vc_Mo_nextOrder_at_gm_3_0 (v_iv (n_v vs 1)) (v_iv (n_v vs 2)) (v_iv (n_v vs 4)) (v_iv (n_v vs 5)) (v_iv (n_v vs 7)) (v_iv (n_v vs 8)) (v_iv (n_v vs 9)) (v_iv (n_v vs 10)) (v_iv (n_v vs 11)) (w_ei ws (w_ar ws (n_v vs 0) 96)) (w_ei ws (w_ar ws (n_v vs 0) 98)) k1 k2 k4 k5 k7 k8 k9 k10 k11 d0 d1 d2 d3 d4 d5 d6 d7 d8 d9 d10 f0 f1 h2 f3 h5 f6 f7 f8 f9 f10 hK_0_96 hK_0_98
  refine ⟨(fun _ h => (by cases h)), [], trivial, ?_, (fun _ h => (by cases h))⟩
  rw [List.append_nil]
  exact List.forall_mem_cons.mpr ⟨⟨show (20 : Nat) < 100 from by decide, nf0⟩, (fun _ h => (by cases h))⟩
set_option maxHeartbeats 4000000 in
theorem vc_Mo_nextOrder_at_gm_4_0 (x1 : Int) (x2 : Int) (x4 : Int) (x5 : Int) (x6 : Int) (x8 : Int) (x9 : Int) (x10 : Int) (x11 : Int) (x12 : Int) (x13 : Int) (x14 : Int) (x15 : Int) (order_2 : Int → Int) (member_2 : Int → Int) (order_0 : Int → Int) (order_1 : Int → Int) (member_0 : Int → Int) (member_1 : Int → Int) (k1 : 0 ≤ x1 ∧ x1 ≤ 26) (k2 : (-2) ≤ x2 ∧ x2 ≤ 16777216) (k4 : 2 ≤ x4 ∧ x4 ≤ 26) (k5 : 0 ≤ x5 ∧ x5 ≤ 24) (k6 : 0 ≤ x6 ∧ x6 ≤ 25) (k8 : 0 ≤ x8 ∧ x8 ≤ 25) (k9 : 0 ≤ x9 ∧ x9 ≤ 25) (k10 : 0 ≤ x10 ∧ x10 ≤ 25) (k11 : 0 ≤ x11 ∧ x11 ≤ 25) (k12 : 1 ≤ x12 ∧ x12 ≤ 1) (k13 : 1 ≤ x13 ∧ x13 ≤ 25) (k14 : 1 ≤ x14 ∧ x14 ≤ 1) (k15 : 1 ≤ x15 ∧ x15 ≤ 25) (d0 : x4 + (-1) ≤ x15 ∧ x15 ≤ x4 + (-1)) (d1 : x1 + (-4294967296) ≤ x15 ∧ x15 ≤ x1 + (-1)) (d2 : x5 + 1 ≤ x13 ∧ x13 ≤ x5 + 1) (d3 : x1 + (-4294967296) ≤ x13 ∧ x13 ≤ x1 + (-1)) (d4 : x4 + (-4294967296) ≤ x13 ∧ x13 ≤ x4 + (-1)) (d5 : x9 + 0 ≤ x8 ∧ x8 ≤ x9 + 4294967296) (d6 : x4 + (-4294967296) ≤ x1 ∧ x1 ≤ x4 + 0) (d7 : x1 + (-4294967296) ≤ x4 ∧ x4 ≤ x1 + 0) (d8 : x1 + (-4294967296) ≤ x5 ∧ x5 ≤ x1 + (-2)) (d9 : x4 + (-4294967296) ≤ x5 ∧ x5 ≤ x4 + (-2)) (d10 : x1 + (-4294967296) ≤ x6 ∧ x6 ≤ x1 + (-1)) (d11 : x4 + (-4294967296) ≤ x6 ∧ x6 ≤ x4 + (-1)) (f0 : x15 = x1 - x14) (f1 : x13 = x5 + x12) (f2 : x1 ≤ 8) (f7 : x1 ≤ 8) (h9 : x11 = order_2 (x6)) (h10 : x10 = order_2 (x5)) (f11 : x9 ≤ x8) (h12 : x9 = order_2 (x5)) (h13 : x8 = order_2 (x6)) (f14 : SEM (order_2) (member_2) (x1)) (f15 : x1 ≤ 8) (f16 : NO2 (order_2) (x1) (x5) (x6)) (f17 : ORM (order_2) (x1) (x2)) (hE_0_96_1 : ∀ j : Int, 0 ≤ j → (j = x6 → order_0 j = x10) ∧ (j ≠ x6 → order_0 j = order_1 j)) (hE_0_96_2 : ∀ j : Int, 0 ≤ j → (j = x5 → order_1 j = x11) ∧ (j ≠ x5 → order_1 j = order_2 j)) (hK_0_96 : ∀ j : Int, 0 ≤ j → j < 26 → 0 ≤ order_0 j ∧ order_0 j ≤ 25) (hE_0_98_1 : ∀ j : Int, member_0 j = member_1 j) (hE_0_98_2 : ∀ j : Int, member_1 j = member_2 j) (hK_0_98 : ∀ j : Int, 0 ≤ j → j < 26 → 0 ≤ member_0 j ∧ member_0 j ≤ 25) : SEM (order_0) (member_0) (x1) := by
  have e_hE_0_98_1 := funext hE_0_98_1; subst e_hE_0_98_1
  have e_hE_0_98_2 := funext hE_0_98_2; subst e_hE_0_98_2
  first
    | assumption
    | (have h := ‹NO2 _ _ _ _›
       have h2 := h.2.1
       have h4 := h.2.2.2
       exact sem_swp (a := x5) (b := x6) ‹SEM _ _ _› (by omega) (by omega) (by omega) (by omega) (swp_st (by omega) (by omega) (by omega) (by assumption) (by omega) (by omega) (by assumption) (by omega) (by omega)))
    | (have h := ‹NO3 _ _ _ _ _ _›
       have h2 := h.2.1
       have h3 := h.2.2.1
       have h4 := h.2.2.2.1
       exact sem_swp (a := x8) (b := x9) ‹SEM _ _ _› (by omega) (by omega) (by omega) (by omega) (swp_st (by omega) (by omega) (by omega) (by assumption) (by omega) (by omega) (by assumption) (by omega) (by omega)))
set_option maxHeartbeats 4000000 in
theorem vc_Mo_nextOrder_at_gm_4_1 (x1 : Int) (x2 : Int) (x4 : Int) (x5 : Int) (x6 : Int) (x8 : Int) (x9 : Int) (x10 : Int) (x11 : Int) (x12 : Int) (x13 : Int) (x14 : Int) (x15 : Int) (order_2 : Int → Int) (member_2 : Int → Int) (order_0 : Int → Int) (order_1 : Int → Int) (member_0 : Int → Int) (member_1 : Int → Int) (k1 : 0 ≤ x1 ∧ x1 ≤ 26) (k2 : (-2) ≤ x2 ∧ x2 ≤ 16777216) (k4 : 2 ≤ x4 ∧ x4 ≤ 26) (k5 : 0 ≤ x5 ∧ x5 ≤ 24) (k6 : 0 ≤ x6 ∧ x6 ≤ 25) (k8 : 0 ≤ x8 ∧ x8 ≤ 25) (k9 : 0 ≤ x9 ∧ x9 ≤ 25) (k10 : 0 ≤ x10 ∧ x10 ≤ 25) (k11 : 0 ≤ x11 ∧ x11 ≤ 25) (k12 : 1 ≤ x12 ∧ x12 ≤ 1) (k13 : 1 ≤ x13 ∧ x13 ≤ 25) (k14 : 1 ≤ x14 ∧ x14 ≤ 1) (k15 : 1 ≤ x15 ∧ x15 ≤ 25) (d0 : x4 + (-1) ≤ x15 ∧ x15 ≤ x4 + (-1)) (d1 : x1 + (-4294967296) ≤ x15 ∧ x15 ≤ x1 + (-1)) (d2 : x5 + 1 ≤ x13 ∧ x13 ≤ x5 + 1) (d3 : x1 + (-4294967296) ≤ x13 ∧ x13 ≤ x1 + (-1)) (d4 : x4 + (-4294967296) ≤ x13 ∧ x13 ≤ x4 + (-1)) (d5 : x9 + 0 ≤ x8 ∧ x8 ≤ x9 + 4294967296) (d6 : x4 + (-4294967296) ≤ x1 ∧ x1 ≤ x4 + 0) (d7 : x1 + (-4294967296) ≤ x4 ∧ x4 ≤ x1 + 0) (d8 : x1 + (-4294967296) ≤ x5 ∧ x5 ≤ x1 + (-2)) (d9 : x4 + (-4294967296) ≤ x5 ∧ x5 ≤ x4 + (-2)) (d10 : x1 + (-4294967296) ≤ x6 ∧ x6 ≤ x1 + (-1)) (d11 : x4 + (-4294967296) ≤ x6 ∧ x6 ≤ x4 + (-1)) (f0 : x15 = x1 - x14) (f1 : x13 = x5 + x12) (f2 : x1 ≤ 8) (f7 : x1 ≤ 8) (h9 : x11 = order_2 (x6)) (h10 : x10 = order_2 (x5)) (f11 : x9 ≤ x8) (h12 : x9 = order_2 (x5)) (h13 : x8 = order_2 (x6)) (f14 : SEM (order_2) (member_2) (x1)) (f15 : x1 ≤ 8) (f16 : NO2 (order_2) (x1) (x5) (x6)) (f17 : ORM (order_2) (x1) (x2)) (hE_0_96_1 : ∀ j : Int, 0 ≤ j → (j = x6 → order_0 j = x10) ∧ (j ≠ x6 → order_0 j = order_1 j)) (hE_0_96_2 : ∀ j : Int, 0 ≤ j → (j = x5 → order_1 j = x11) ∧ (j ≠ x5 → order_1 j = order_2 j)) (hK_0_96 : ∀ j : Int, 0 ≤ j → j < 26 → 0 ≤ order_0 j ∧ order_0 j ≤ 25) (hE_0_98_1 : ∀ j : Int, member_0 j = member_1 j) (hE_0_98_2 : ∀ j : Int, member_1 j = member_2 j) (hK_0_98 : ∀ j : Int, 0 ≤ j → j < 26 → 0 ≤ member_0 j ∧ member_0 j ≤ 25) : NO3 (order_0) (x1) (x5) (x13) (x15) (x2) := by
  have e_hE_0_98_1 := funext hE_0_98_1; subst e_hE_0_98_1
  have e_hE_0_98_2 := funext hE_0_98_2; subst e_hE_0_98_2
  first
    | (have h := ‹NO2 _ _ _ _›
       have h2 := h.2.1
       have h4 := h.2.2.2
       exact no3_start h (by omega) (swp_st (by omega) (by omega) (by omega) (by assumption) (by omega) (by omega) (by assumption) (by omega) (by omega)) (by omega) (by omega) ‹ORM _ _ _›)
    | (have h := ‹NO3 _ _ _ _ _ _›
       have h2 := h.2.1
       have h3 := h.2.2.1
       have h4 := h.2.2.2.1
       exact no3_step h (by omega) (swp_st (by omega) (by omega) (by omega) (by assumption) (by omega) (by omega) (by assumption) (by omega) (by omega)) (by omega) (by omega))
def o_Mo_nextOrder_at_gm_4 : or_T := (100, 16, [(0, (2, 0, 0, [165])), (1, (0, 0, 26, [])), (2, (0, -2, 16777216, [])), (4, (0, 2, 26, [])), (5, (0, 0, 24, [])), (6, (0, 0, 25, [])), (7, (2, 0, 0, [232])), (8, (0, 0, 25, [])), (9, (0, 0, 25, [])), (10, (0, 0, 25, [])), (11, (0, 0, 25, [])), (12, (0, 1, 1, [])), (13, (0, 1, 25, [])), (14, (0, 1, 1, [])), (15, (0, 1, 25, []))], [(2, [15, 4, 14], []), (1, [13, 5, 12], []), (20, [4], [50, 0, 0, 0, 2, 1, 0, 0, 8]), (24, [0, 3], []), (24, [1, 4], []), (100, [7, 6, 10], []), (9, [7, 3], [96]), (20, [4], [50, 0, 0, 0, 2, 1, 0, 0, 8]), (100, [7, 5, 11], []), (10, [11, 7, 6], []), (10, [10, 7, 5], []), (7, [8, 9], [3]), (10, [9, 7, 5], []), (10, [8, 7, 6], []), (20, [3, 4], [60, 0, 2, 328, 96, 98]), (20, [4], [50, 0, 0, 0, 2, 1, 0, 0, 8]), (20, [3, 4, 5, 6], [60, 0, 1, 326, 96]), (20, [3, 4, 2], [60, 0, 1, 323, 96])], [], [], [(20, [3, 4], [60, 0, 2, 328, 96, 98]), (20, [3, 4, 5, 13, 15, 2], [60, 0, 1, 327, 96])], [], [(15, 4, -1, -1), (15, 1, -4294967296, -1), (13, 5, 1, 1), (13, 1, -4294967296, -1), (13, 4, -4294967296, -1), (8, 9, 0, 4294967296), (1, 4, -4294967296, 0), (4, 1, -4294967296, 0), (5, 1, -4294967296, -2), (5, 4, -4294967296, -2), (6, 1, -4294967296, -1), (6, 4, -4294967296, -1)])
theorem oo_Mo_nextOrder_at_gm_4 {kA : Nat → ClassId} : or_ok PRD kA GG o_Mo_nextOrder_at_gm_4 := by
  refine or_mk fun A ta ws vs hD hth hl => ?_
  intro t0 r0 t1 k1 t2 k2 t4 k4 t5 k5 t6 k6 t7 r7 t8 k8 t9 k9 t10 k10 t11 k11 t12 k12 t13 k13 t14 k14 t15 k15 d0 d1 d2 d3 d4 d5 d6 d7 d8 d9 d10 d11 f0 f1 f2 f3 f4 ta1 w1 le1 s1 f6 f7 ta2 w2 le2 s2 f9 f10 f11 f12 f13 f14 f15 f16 f17
  replace f0 := shm_14 f0
  replace f1 := shm_12 f1
  replace f2 := shm_660 f2
  replace f3 := shm_5 f3
  replace f4 := shm_5 f4
  have s1 : (∀ b j, w_el ws b j = if b = v_ad (n_v vs 7) ∧ j = (v_iv (n_v vs 6)).toNat then v_iv (n_v vs 10) else w_el w1 b j) ∧ ∀ b k, w_fd ws b k = w_fd w1 b k := s1.2
  replace f6 := shm_666 f6
  replace f7 := shm_660 f7
  have s2 : (∀ b j, w_el w1 b j = if b = v_ad (n_v vs 7) ∧ j = (v_iv (n_v vs 5)).toNat then v_iv (n_v vs 11) else w_el w2 b j) ∧ ∀ b k, w_fd w1 b k = w_fd w2 b k := s2.2
  replace f9 := shm_107 f9
  replace f10 := shm_107 f10
  replace f11 := shm_2 f11
  replace f12 := shm_107 f12
  replace f13 := shm_107 f13
  replace f14 := shm_663 f14
  replace f15 := shm_660 f15
  replace f16 := shm_667 f16
  replace f17 := shm_662 f17
  have q3 : n_v vs 3 = n_v vs 0 := f3.symm
  have q4 : n_v vs 4 = n_v vs 1 := f4.symm
  simp only [q4, q3] at f0 f2 f6 f7 f14 f15 f16 f17
  have ar_0_96_1 : w_ar w1 (n_v vs 0) 96 = w_ar ws (n_v vs 0) 96 := congrArg v_ad (s1.2 _ _).symm
  have ar_0_96_2 : w_ar w2 (n_v vs 0) 96 = w_ar ws (n_v vs 0) 96 := by rw [← ar_0_96_1]; show v_ad (w_fd w2 _ _) = v_ad (w_fd w1 _ _); rw [s2.2]
  have cr_0_96 := fdq_166 hD hth r0
  have ar_0_98_1 : w_ar w1 (n_v vs 0) 98 = w_ar ws (n_v vs 0) 98 := congrArg v_ad (s1.2 _ _).symm
  have ar_0_98_2 : w_ar w2 (n_v vs 0) 98 = w_ar ws (n_v vs 0) 98 := by rw [← ar_0_98_1]; show v_ad (w_fd w2 _ _) = v_ad (w_fd w1 _ _); rw [s2.2]
  have cr_0_98 := fdq_157 hD hth r0
  have ad_7 : v_ad (n_v vs 7) = w_ar ws (n_v vs 0) 96 := (congrArg v_ad f6).trans ar_0_96_1
  simp only [ad_7] at f9
  have h9 : v_iv (n_v vs 11) = w_ei w2 (w_ar ws (n_v vs 0) 96) (v_iv (n_v vs 6)) := f9
  simp only [ad_7] at f10
  have h10 : v_iv (n_v vs 10) = w_ei w2 (w_ar ws (n_v vs 0) 96) (v_iv (n_v vs 5)) := f10
  simp only [ad_7] at f12
  have h12 : v_iv (n_v vs 9) = w_ei w2 (w_ar ws (n_v vs 0) 96) (v_iv (n_v vs 5)) := f12
  simp only [ad_7] at f13
  have h13 : v_iv (n_v vs 8) = w_ei w2 (w_ar ws (n_v vs 0) 96) (v_iv (n_v vs 6)) := f13
  simp only [ar_0_96_2, ar_0_98_2] at f14 f16 f17
  have hE_0_96_1 : ∀ j : Int, 0 ≤ j → (j = v_iv (n_v vs 6) → w_ei ws (w_ar ws (n_v vs 0) 96) j = v_iv (n_v vs 10)) ∧ (j ≠ v_iv (n_v vs 6) → w_ei ws (w_ar ws (n_v vs 0) 96) j = w_ei w1 (w_ar ws (n_v vs 0) 96) j) := fun j hj => ⟨fun h => by unfold w_ei; rw [s1.1, if_pos ⟨ad_7.symm, by rw [h]⟩], fun h => by unfold w_ei; rw [s1.1, if_neg (fun e => h (by have := e.2; omega))]⟩
  have hE_0_96_2 : ∀ j : Int, 0 ≤ j → (j = v_iv (n_v vs 5) → w_ei w1 (w_ar ws (n_v vs 0) 96) j = v_iv (n_v vs 11)) ∧ (j ≠ v_iv (n_v vs 5) → w_ei w1 (w_ar ws (n_v vs 0) 96) j = w_ei w2 (w_ar ws (n_v vs 0) 96) j) := fun j hj => ⟨fun h => by unfold w_ei; rw [s2.1, if_pos ⟨ad_7.symm, by rw [h]⟩], fun h => by unfold w_ei; rw [s2.1, if_neg (fun e => h (by have := e.2; omega))]⟩
  have hK_0_96 := elq_96 hD hth cr_0_96
  have hE_0_98_1 : ∀ j : Int, w_ei ws (w_ar ws (n_v vs 0) 98) j = w_ei w1 (w_ar ws (n_v vs 0) 98) j := el_kp s1.1 r7 cr_0_98 (by decide)
  have hE_0_98_2 : ∀ j : Int, w_ei w1 (w_ar ws (n_v vs 0) 98) j = w_ei w2 (w_ar ws (n_v vs 0) 98) j := el_kp s2.1 r7 cr_0_98 (by decide)
  have hK_0_98 := elq_90 hD hth cr_0_98
  have nf0 : fc_1 PRD (20, [3, 4], [60, 0, 2, 328, 96, 98]) ws (vs) := by
    refine ⟨nf_in hl rfl, sgq_663 ?_⟩
    · show SEM (w_ei ws (w_ar ws (n_v vs 3) 96)) (w_ei ws (w_ar ws (n_v vs 3) 98)) (v_iv (n_v vs 4))
      simp only [q3, q4]
      exact vc_Mo_nextOrder_at_gm_4_0 (v_iv (n_v vs 1)) (v_iv (n_v vs 2)) (v_iv (n_v vs 4)) (v_iv (n_v vs 5)) (v_iv (n_v vs 6)) (v_iv (n_v vs 8)) (v_iv (n_v vs 9)) (v_iv (n_v vs 10)) (v_iv (n_v vs 11)) (v_iv (n_v vs 12)) (v_iv (n_v vs 13)) (v_iv (n_v vs 14)) (v_iv (n_v vs 15)) (w_ei w2 (w_ar ws (n_v vs 0) 96)) (w_ei w2 (w_ar ws (n_v vs 0) 98)) (w_ei ws (w_ar ws (n_v vs 0) 96)) (w_ei w1 (w_ar ws (n_v vs 0) 96)) (w_ei ws (w_ar ws (n_v vs 0) 98)) (w_ei w1 (w_ar ws (n_v vs 0) 98)) k1 k2 k4 k5 k6 k8 k9 k10 k11 k12 k13 k14 k15 d0 d1 d2 d3 d4 d5 d6 d7 d8 d9 d10 d11 f0 f1 f2 f7 h9 h10 f11 h12 h13 f14 f15 f16 f17 hE_0_96_1 hE_0_96_2 hK_0_96 hE_0_98_1 hE_0_98_2 hK_0_98
  have nf1 : fc_1 PRD (20, [3, 4, 5, 13, 15, 2], [60, 0, 1, 327, 96]) ws (vs) := by
    refine ⟨nf_in hl rfl, sgq_668 ?_⟩
    · show NO3 (w_ei ws (w_ar ws (n_v vs 3) 96)) (v_iv (n_v vs 4)) (v_iv (n_v vs 5)) (v_iv (n_v vs 13)) (v_iv (n_v vs 15)) (v_iv (n_v vs 2))
      simp only [q3, q4]
      exact vc_Mo_nextOrder_at_gm_4_1 (v_iv (n_v vs 1)) (v_iv (n_v vs 2)) (v_iv (n_v vs 4)) (v_iv (n_v vs 5)) (v_iv (n_v vs 6)) (v_iv (n_v vs 8)) (v_iv (n_v vs 9)) (v_iv (n_v vs 10)) (v_iv (n_v vs 11)) (v_iv (n_v vs 12)) (v_iv (n_v vs 13)) (v_iv (n_v vs 14)) (v_iv (n_v vs 15)) (w_ei w2 (w_ar ws (n_v vs 0) 96)) (w_ei w2 (w_ar ws (n_v vs 0) 98)) (w_ei ws (w_ar ws (n_v vs 0) 96)) (w_ei w1 (w_ar ws (n_v vs 0) 96)) (w_ei ws (w_ar ws (n_v vs 0) 98)) (w_ei w1 (w_ar ws (n_v vs 0) 98)) k1 k2 k4 k5 k6 k8 k9 k10 k11 k12 k13 k14 k15 d0 d1 d2 d3 d4 d5 d6 d7 d8 d9 d10 d11 f0 f1 f2 f7 h9 h10 f11 h12 h13 f14 f15 f16 f17 hE_0_96_1 hE_0_96_2 hK_0_96 hE_0_98_1 hE_0_98_2 hK_0_98
  refine ⟨(fun _ h => (by cases h)), [], trivial, ?_, (fun _ h => (by cases h))⟩
  rw [List.append_nil]
  exact List.forall_mem_cons.mpr ⟨⟨show (20 : Nat) < 100 from by decide, nf0⟩, List.forall_mem_cons.mpr ⟨⟨show (20 : Nat) < 100 from by decide, nf1⟩, (fun _ h => (by cases h))⟩⟩
set_option maxHeartbeats 4000000 in
theorem vc_Mo_nextOrder_at_gm_5_r0 (x1 : Int) (x2 : Int) (x4 : Int) (x5 : Int) (x6 : Int) (x8 : Int) (x9 : Int) (order_0 : Int → Int) (member_0 : Int → Int) (k1 : 0 ≤ x1 ∧ x1 ≤ 26) (k2 : (-2) ≤ x2 ∧ x2 ≤ 16777216) (k4 : 2 ≤ x4 ∧ x4 ≤ 26) (k5 : 0 ≤ x5 ∧ x5 ≤ 24) (k6 : 0 ≤ x6 ∧ x6 ≤ 25) (k8 : 0 ≤ x8 ∧ x8 ≤ 24) (k9 : 1 ≤ x9 ∧ x9 ≤ 25) (d0 : x9 + (-4294967296) ≤ x8 ∧ x8 ≤ x9 + (-1)) (d1 : x4 + (-4294967296) ≤ x1 ∧ x1 ≤ x4 + 0) (d2 : x1 + (-4294967296) ≤ x4 ∧ x4 ≤ x1 + 0) (d3 : x1 + (-4294967296) ≤ x5 ∧ x5 ≤ x1 + (-2)) (d4 : x4 + (-4294967296) ≤ x5 ∧ x5 ≤ x4 + (-2)) (d5 : x1 + (-4294967296) ≤ x6 ∧ x6 ≤ x1 + (-1)) (d6 : x4 + (-4294967296) ≤ x6 ∧ x6 ≤ x4 + (-1)) (f0 : x8 < x9) (h1 : x9 = order_0 (x5)) (h3 : x8 = order_0 (x6)) (f4 : SEM (order_0) (member_0) (x1)) (f5 : x1 ≤ 8) (f6 : NO2 (order_0) (x1) (x5) (x6)) (f7 : ORM (order_0) (x1) (x2)) (hK_0_96 : ∀ j : Int, 0 ≤ j → j < 26 → 0 ≤ order_0 j ∧ order_0 j ≤ 25) (hK_0_98 : ∀ j : Int, 0 ≤ j → j < 26 → 0 ≤ member_0 j ∧ member_0 j ≤ 25) : 1 ≤ x6 ∧ x6 ≤ 25 := by
  first
    | omega
    | (have h := ‹NO1 _ _ _›.2; omega)
    | (have h := ‹NO2 _ _ _ _›.2; omega)
    | (have h := ‹NO3 _ _ _ _ _ _›.2; omega)
def o_Mo_nextOrder_at_gm_5 : or_T := (56, 10, [(0, (2, 0, 0, [165])), (1, (0, 0, 26, [])), (2, (0, -2, 16777216, [])), (3, (2, 0, 0, [165])), (4, (0, 2, 26, [])), (5, (0, 0, 24, [])), (6, (0, 0, 25, [])), (7, (2, 0, 0, [232])), (8, (0, 0, 24, [])), (9, (0, 1, 25, []))], [(7, [8, 9], [2]), (10, [9, 7, 5], []), (9, [7, 3], [96]), (10, [8, 7, 6], []), (20, [3, 4], [60, 0, 2, 328, 96, 98]), (20, [4], [50, 0, 0, 0, 2, 1, 0, 0, 8]), (20, [3, 4, 5, 6], [60, 0, 1, 326, 96]), (20, [3, 4, 2], [60, 0, 1, 323, 96]), (24, [0, 3], []), (24, [1, 4], [])], [(6, (0, 1, 25, []))], [], [], [], [(8, 9, -4294967296, -1), (1, 4, -4294967296, 0), (4, 1, -4294967296, 0), (5, 1, -4294967296, -2), (5, 4, -4294967296, -2), (6, 1, -4294967296, -1), (6, 4, -4294967296, -1)])
theorem oo_Mo_nextOrder_at_gm_5 {kA : Nat → ClassId} : or_ok PRD kA GG o_Mo_nextOrder_at_gm_5 := by
  refine or_mk fun A ta ws vs hD hth hl => ?_
  intro t0 r0 t1 k1 t2 k2 t3 r3 t4 k4 t5 k5 t6 k6 t7 r7 t8 k8 t9 k9 d0 d1 d2 d3 d4 d5 d6 f0 f1 f2 f3 f4 f5 f6 f7 f8 f9
  replace f1 := shm_107 f1
  replace f2 := shm_666 f2
  replace f3 := shm_107 f3
  replace f4 := shm_663 f4
  replace f5 := shm_660 f5
  replace f6 := shm_667 f6
  replace f7 := shm_662 f7
  replace f8 := shm_5 f8
  replace f9 := shm_5 f9
  have q3 : n_v vs 3 = n_v vs 0 := f8.symm
  have q4 : n_v vs 4 = n_v vs 1 := f9.symm
  simp only [q3, q4] at f2 f4 f5 f6 f7
  have cr_0_96 := fdq_166 hD hth r0
  have cr_0_98 := fdq_157 hD hth r0
  have ad_7 : v_ad (n_v vs 7) = w_ar ws (n_v vs 0) 96 := congrArg v_ad f2
  simp only [ad_7] at f1
  have h1 : v_iv (n_v vs 9) = w_ei ws (w_ar ws (n_v vs 0) 96) (v_iv (n_v vs 5)) := f1
  simp only [ad_7] at f3
  have h3 : v_iv (n_v vs 8) = w_ei ws (w_ar ws (n_v vs 0) 96) (v_iv (n_v vs 6)) := f3
  have hK_0_96 := elq_96 hD hth cr_0_96
  have hK_0_98 := elq_90 hD hth cr_0_98
  have hrf0 : 1 ≤ v_iv (n_v vs 6) ∧ v_iv (n_v vs 6) ≤ 25 := vc_Mo_nextOrder_at_gm_5_r0 (v_iv (n_v vs 1)) (v_iv (n_v vs 2)) (v_iv (n_v vs 4)) (v_iv (n_v vs 5)) (v_iv (n_v vs 6)) (v_iv (n_v vs 8)) (v_iv (n_v vs 9)) (w_ei ws (w_ar ws (n_v vs 0) 96)) (w_ei ws (w_ar ws (n_v vs 0) 98)) k1 k2 k4 k5 k6 k8 k9 d0 d1 d2 d3 d4 d5 d6 (shm_6 f0) h1 h3 f4 f5 f6 f7 hK_0_96 hK_0_98
  have rf6 : tv_ok ta (0, 1, 25, []) (n_v vs 6) := tv_in t6 (by first | omega | grind) (by first | omega | grind)
  refine ⟨List.forall_mem_cons.mpr ⟨rf6, (fun _ h => (by cases h))⟩, [], trivial, ?_, (fun _ h => (by cases h))⟩
  rw [List.append_nil]
  exact (fun _ h => (by cases h))
set_option maxHeartbeats 4000000 in
theorem vc_Mo_nextOrder_at_gm_6_0 (x1 : Int) (x2 : Int) (x4 : Int) (x5 : Int) (x6 : Int) (x8 : Int) (x9 : Int) (x10 : Int) (order_0 : Int → Int) (member_0 : Int → Int) (k1 : 0 ≤ x1 ∧ x1 ≤ 26) (k2 : (-2) ≤ x2 ∧ x2 ≤ 16777216) (k4 : 2 ≤ x4 ∧ x4 ≤ 26) (k5 : 0 ≤ x5 ∧ x5 ≤ 24) (k6 : 1 ≤ x6 ∧ x6 ≤ 25) (k8 : 0 ≤ x8 ∧ x8 ≤ 24) (k9 : 1 ≤ x9 ∧ x9 ≤ 25) (k10 : 0 ≤ x10 ∧ x10 ≤ 24) (d0 : x6 + (-1) ≤ x10 ∧ x10 ≤ x6 + (-1)) (d1 : x1 + (-4294967296) ≤ x10 ∧ x10 ≤ x1 + (-2)) (d2 : x4 + (-4294967296) ≤ x10 ∧ x10 ≤ x4 + (-2)) (d3 : x9 + (-4294967296) ≤ x8 ∧ x8 ≤ x9 + (-1)) (d4 : x4 + (-4294967296) ≤ x1 ∧ x1 ≤ x4 + 0) (d5 : x1 + (-4294967296) ≤ x4 ∧ x4 ≤ x1 + 0) (d6 : x1 + (-4294967296) ≤ x5 ∧ x5 ≤ x1 + (-2)) (d7 : x4 + (-4294967296) ≤ x5 ∧ x5 ≤ x4 + (-2)) (d8 : x1 + (-4294967296) ≤ x6 ∧ x6 ≤ x1 + (-1)) (d9 : x4 + (-4294967296) ≤ x6 ∧ x6 ≤ x4 + (-1)) (f0 : x10 = x6 + (-1)) (f1 : x8 < x9) (h2 : x9 = order_0 (x5)) (h4 : x8 = order_0 (x6)) (f5 : SEM (order_0) (member_0) (x1)) (f6 : x1 ≤ 8) (f7 : NO2 (order_0) (x1) (x5) (x6)) (f8 : ORM (order_0) (x1) (x2)) (hK_0_96 : ∀ j : Int, 0 ≤ j → j < 26 → 0 ≤ order_0 j ∧ order_0 j ≤ 25) (hK_0_98 : ∀ j : Int, 0 ≤ j → j < 26 → 0 ≤ member_0 j ∧ member_0 j ≤ 25) : NO2 (order_0) (x1) (x5) (x10) := by
  first
    | exact no2_start ‹NO1 _ _ _› (by omega) (by rw [← (by omega : x9 = x5 + 1)]; omega) (by omega)
    | exact no2_step ‹NO2 _ _ _ _› (by omega) (by omega)
def o_Mo_nextOrder_at_gm_6 : or_T := (41, 11, [(0, (2, 0, 0, [165])), (1, (0, 0, 26, [])), (2, (0, -2, 16777216, [])), (4, (0, 2, 26, [])), (5, (0, 0, 24, [])), (6, (0, 1, 25, [])), (8, (0, 0, 24, [])), (9, (0, 1, 25, [])), (10, (0, 0, 24, []))], [(6, [10, 6], [-1]), (7, [8, 9], [2]), (10, [9, 7, 5], []), (9, [7, 3], [96]), (10, [8, 7, 6], []), (20, [3, 4], [60, 0, 2, 328, 96, 98]), (20, [4], [50, 0, 0, 0, 2, 1, 0, 0, 8]), (20, [3, 4, 5, 6], [60, 0, 1, 326, 96]), (20, [3, 4, 2], [60, 0, 1, 323, 96]), (24, [0, 3], []), (24, [1, 4], [])], [], [], [(20, [3, 4, 5, 10], [60, 0, 1, 326, 96])], [], [(10, 6, -1, -1), (10, 1, -4294967296, -2), (10, 4, -4294967296, -2), (8, 9, -4294967296, -1), (1, 4, -4294967296, 0), (4, 1, -4294967296, 0), (5, 1, -4294967296, -2), (5, 4, -4294967296, -2), (6, 1, -4294967296, -1), (6, 4, -4294967296, -1)])
theorem oo_Mo_nextOrder_at_gm_6 {kA : Nat → ClassId} : or_ok PRD kA GG o_Mo_nextOrder_at_gm_6 := by
  refine or_mk fun A ta ws vs hD hth hl => ?_
  intro t0 r0 t1 k1 t2 k2 t4 k4 t5 k5 t6 k6 t8 k8 t9 k9 t10 k10 d0 d1 d2 d3 d4 d5 d6 d7 d8 d9 f0 f1 f2 f3 f4 f5 f6 f7 f8 f9 f10
  replace f0 := shm_186 f0
  replace f1 := shm_6 f1
  replace f2 := shm_107 f2
  replace f3 := shm_666 f3
  replace f4 := shm_107 f4
  replace f5 := shm_663 f5
  replace f6 := shm_660 f6
  replace f7 := shm_667 f7
  replace f8 := shm_662 f8
  replace f9 := shm_5 f9
  replace f10 := shm_5 f10
  have q3 : n_v vs 3 = n_v vs 0 := f9.symm
  have q4 : n_v vs 4 = n_v vs 1 := f10.symm
  simp only [q3, q4] at f3 f5 f6 f7 f8
  have cr_0_96 := fdq_166 hD hth r0
  have cr_0_98 := fdq_157 hD hth r0
  have ad_7 : v_ad (n_v vs 7) = w_ar ws (n_v vs 0) 96 := congrArg v_ad f3
  simp only [ad_7] at f2
  have h2 : v_iv (n_v vs 9) = w_ei ws (w_ar ws (n_v vs 0) 96) (v_iv (n_v vs 5)) := f2
  simp only [ad_7] at f4
  have h4 : v_iv (n_v vs 8) = w_ei ws (w_ar ws (n_v vs 0) 96) (v_iv (n_v vs 6)) := f4
  have hK_0_96 := elq_96 hD hth cr_0_96
  have hK_0_98 := elq_90 hD hth cr_0_98
  have nf0 : fc_1 PRD (20, [3, 4, 5, 10], [60, 0, 1, 326, 96]) ws (vs) := by
    refine ⟨nf_in hl rfl, sgq_667 ?_⟩
    · show NO2 (w_ei ws (w_ar ws (n_v vs 3) 96)) (v_iv (n_v vs 4)) (v_iv (n_v vs 5)) (v_iv (n_v vs 10))
      simp only [q3, q4]
      exact vc_Mo_nextOrder_at_gm_6_0 (v_iv (n_v vs 1)) (v_iv (n_v vs 2)) (v_iv (n_v vs 4)) (v_iv (n_v vs 5)) (v_iv (n_v vs 6)) (v_iv (n_v vs 8)) (v_iv (n_v vs 9)) (v_iv (n_v vs 10)) (w_ei ws (w_ar ws (n_v vs 0) 96)) (w_ei ws (w_ar ws (n_v vs 0) 98)) k1 k2 k4 k5 k6 k8 k9 k10 d0 d1 d2 d3 d4 d5 d6 d7 d8 d9 f0 f1 h2 h4 f5 f6 f7 f8 hK_0_96 hK_0_98
  refine ⟨(fun _ h => (by cases h)), [], trivial, ?_, (fun _ h => (by cases h))⟩
  rw [List.append_nil]
  exact List.forall_mem_cons.mpr ⟨⟨show (20 : Nat) < 100 from by decide, nf0⟩, (fun _ h => (by cases h))⟩
set_option maxHeartbeats 4000000 in
theorem vc_Mo_nextOrder_at_gm_7_0 (x1 : Int) (x2 : Int) (x4 : Int) (x5 : Int) (x8 : Int) (x9 : Int) (x10 : Int) (order_0 : Int → Int) (member_0 : Int → Int) (k1 : 2 ≤ x1 ∧ x1 ≤ 26) (k2 : (-2) ≤ x2 ∧ x2 ≤ 16777216) (k4 : 2 ≤ x4 ∧ x4 ≤ 26) (k5 : 0 ≤ x5 ∧ x5 ≤ 24) (k8 : 1 ≤ x8 ∧ x8 ≤ 25) (k9 : 1 ≤ x9 ∧ x9 ≤ 25) (k10 : 1 ≤ x10 ∧ x10 ≤ 1) (d0 : x9 + 0 ≤ x8 ∧ x8 ≤ x9 + 4294967296) (d1 : x4 + (-4294967296) ≤ x1 ∧ x1 ≤ x4 + 0) (d2 : x1 + (-4294967296) ≤ x4 ∧ x4 ≤ x1 + 0) (d3 : x1 + (-4294967296) ≤ x5 ∧ x5 ≤ x1 + (-2)) (d4 : x4 + (-4294967296) ≤ x5 ∧ x5 ≤ x4 + (-2)) (d5 : x8 + (-4294967296) ≤ x5 ∧ x5 ≤ x8 + (-1)) (d6 : x1 + (-4294967296) ≤ x8 ∧ x8 ≤ x1 + (-1)) (d7 : x4 + (-4294967296) ≤ x8 ∧ x8 ≤ x4 + (-1)) (d8 : x9 + (-4294967296) ≤ x8 ∧ x8 ≤ x9 + 1) (d9 : x1 + (-4294967296) ≤ x9 ∧ x9 ≤ x1 + (-1)) (d10 : x4 + (-4294967296) ≤ x9 ∧ x9 ≤ x4 + (-1)) (f0 : x9 ≤ x8) (f1 : SEM (order_0) (member_0) (x1)) (f2 : x1 ≤ 8) (f3 : NO3 (order_0) (x1) (x5) (x8) (x9) (x2)) (hK_0_96 : ∀ j : Int, 0 ≤ j → j < 26 → 0 ≤ order_0 j ∧ order_0 j ≤ 25) (hK_0_98 : ∀ j : Int, 0 ≤ j → j < 26 → 0 ≤ member_0 j ∧ member_0 j ≤ 25) : DIS (order_0) (x1) := by
  exact ‹NO3 _ _ _ _ _ _›.1
set_option maxHeartbeats 4000000 in
theorem vc_Mo_nextOrder_at_gm_7_1 (x1 : Int) (x2 : Int) (x4 : Int) (x5 : Int) (x8 : Int) (x9 : Int) (x10 : Int) (order_0 : Int → Int) (member_0 : Int → Int) (k1 : 2 ≤ x1 ∧ x1 ≤ 26) (k2 : (-2) ≤ x2 ∧ x2 ≤ 16777216) (k4 : 2 ≤ x4 ∧ x4 ≤ 26) (k5 : 0 ≤ x5 ∧ x5 ≤ 24) (k8 : 1 ≤ x8 ∧ x8 ≤ 25) (k9 : 1 ≤ x9 ∧ x9 ≤ 25) (k10 : 1 ≤ x10 ∧ x10 ≤ 1) (d0 : x9 + 0 ≤ x8 ∧ x8 ≤ x9 + 4294967296) (d1 : x4 + (-4294967296) ≤ x1 ∧ x1 ≤ x4 + 0) (d2 : x1 + (-4294967296) ≤ x4 ∧ x4 ≤ x1 + 0) (d3 : x1 + (-4294967296) ≤ x5 ∧ x5 ≤ x1 + (-2)) (d4 : x4 + (-4294967296) ≤ x5 ∧ x5 ≤ x4 + (-2)) (d5 : x8 + (-4294967296) ≤ x5 ∧ x5 ≤ x8 + (-1)) (d6 : x1 + (-4294967296) ≤ x8 ∧ x8 ≤ x1 + (-1)) (d7 : x4 + (-4294967296) ≤ x8 ∧ x8 ≤ x4 + (-1)) (d8 : x9 + (-4294967296) ≤ x8 ∧ x8 ≤ x9 + 1) (d9 : x1 + (-4294967296) ≤ x9 ∧ x9 ≤ x1 + (-1)) (d10 : x4 + (-4294967296) ≤ x9 ∧ x9 ≤ x4 + (-1)) (f0 : x9 ≤ x8) (f1 : SEM (order_0) (member_0) (x1)) (f2 : x1 ≤ 8) (f3 : NO3 (order_0) (x1) (x5) (x8) (x9) (x2)) (hK_0_96 : ∀ j : Int, 0 ≤ j → j < 26 → 0 ≤ order_0 j ∧ order_0 j ≤ 25) (hK_0_98 : ∀ j : Int, 0 ≤ j → j < 26 → 0 ≤ member_0 j ∧ member_0 j ≤ 25) : ORN (order_0) (x1) (x2) (x10) := by
  exact no3_end (by omega) ‹NO3 _ _ _ _ _ _›
set_option maxHeartbeats 4000000 in
theorem vc_Mo_nextOrder_at_gm_7_2 (x1 : Int) (x2 : Int) (x4 : Int) (x5 : Int) (x8 : Int) (x9 : Int) (x10 : Int) (order_0 : Int → Int) (member_0 : Int → Int) (k1 : 2 ≤ x1 ∧ x1 ≤ 26) (k2 : (-2) ≤ x2 ∧ x2 ≤ 16777216) (k4 : 2 ≤ x4 ∧ x4 ≤ 26) (k5 : 0 ≤ x5 ∧ x5 ≤ 24) (k8 : 1 ≤ x8 ∧ x8 ≤ 25) (k9 : 1 ≤ x9 ∧ x9 ≤ 25) (k10 : 1 ≤ x10 ∧ x10 ≤ 1) (d0 : x9 + 0 ≤ x8 ∧ x8 ≤ x9 + 4294967296) (d1 : x4 + (-4294967296) ≤ x1 ∧ x1 ≤ x4 + 0) (d2 : x1 + (-4294967296) ≤ x4 ∧ x4 ≤ x1 + 0) (d3 : x1 + (-4294967296) ≤ x5 ∧ x5 ≤ x1 + (-2)) (d4 : x4 + (-4294967296) ≤ x5 ∧ x5 ≤ x4 + (-2)) (d5 : x8 + (-4294967296) ≤ x5 ∧ x5 ≤ x8 + (-1)) (d6 : x1 + (-4294967296) ≤ x8 ∧ x8 ≤ x1 + (-1)) (d7 : x4 + (-4294967296) ≤ x8 ∧ x8 ≤ x4 + (-1)) (d8 : x9 + (-4294967296) ≤ x8 ∧ x8 ≤ x9 + 1) (d9 : x1 + (-4294967296) ≤ x9 ∧ x9 ≤ x1 + (-1)) (d10 : x4 + (-4294967296) ≤ x9 ∧ x9 ≤ x4 + (-1)) (f0 : x9 ≤ x8) (f1 : SEM (order_0) (member_0) (x1)) (f2 : x1 ≤ 8) (f3 : NO3 (order_0) (x1) (x5) (x8) (x9) (x2)) (hK_0_96 : ∀ j : Int, 0 ≤ j → j < 26 → 0 ≤ order_0 j ∧ order_0 j ≤ 25) (hK_0_98 : ∀ j : Int, 0 ≤ j → j < 26 → 0 ≤ member_0 j ∧ member_0 j ≤ 25) : SEM (order_0) (member_0) (x1) := by
  first
    | assumption
    | (have h := ‹NO2 _ _ _ _›
       have h2 := h.2.1
       have h4 := h.2.2.2
       exact sem_swp (a := x5) (b := x6) ‹SEM _ _ _› (by omega) (by omega) (by omega) (by omega) (swp_st (by omega) (by omega) (by omega) (by assumption) (by omega) (by omega) (by assumption) (by omega) (by omega)))
    | (have h := ‹NO3 _ _ _ _ _ _›
       have h2 := h.2.1
       have h3 := h.2.2.1
       have h4 := h.2.2.2.1
       exact sem_swp (a := x8) (b := x9) ‹SEM _ _ _› (by omega) (by omega) (by omega) (by omega) (swp_st (by omega) (by omega) (by omega) (by assumption) (by omega) (by omega) (by assumption) (by omega) (by omega)))
def o_Mo_nextOrder_at_gm_7 : or_T := (149, 11, [(0, (2, 0, 0, [165])), (1, (0, 2, 26, [])), (2, (0, -2, 16777216, [])), (4, (0, 2, 26, [])), (5, (0, 0, 24, [])), (8, (0, 1, 25, [])), (9, (0, 1, 25, [])), (10, (0, 1, 1, []))], [(7, [8, 9], [3]), (20, [3, 4], [60, 0, 2, 328, 96, 98]), (20, [4], [50, 0, 0, 0, 2, 1, 0, 0, 8]), (20, [3, 4, 5, 8, 9, 2], [60, 0, 1, 327, 96]), (24, [0, 3], []), (24, [1, 4], [])], [], [], [(20, [0, 1], [60, 0, 1, 322, 96]), (20, [0, 1, 2, 10], [60, 0, 1, 324, 96]), (20, [0, 1], [60, 0, 2, 328, 96, 98])], [], [(8, 9, 0, 4294967296), (1, 4, -4294967296, 0), (4, 1, -4294967296, 0), (5, 1, -4294967296, -2), (5, 4, -4294967296, -2), (5, 8, -4294967296, -1), (8, 1, -4294967296, -1), (8, 4, -4294967296, -1), (8, 9, -4294967296, 1), (9, 1, -4294967296, -1), (9, 4, -4294967296, -1)])
theorem oo_Mo_nextOrder_at_gm_7 {kA : Nat → ClassId} : or_ok PRD kA GG o_Mo_nextOrder_at_gm_7 := by
  refine or_mk fun A ta ws vs hD hth hl => ?_
  intro t0 r0 t1 k1 t2 k2 t4 k4 t5 k5 t8 k8 t9 k9 t10 k10 d0 d1 d2 d3 d4 d5 d6 d7 d8 d9 d10 f0 f1 f2 f3 f4 f5
  replace f1 := shm_663 f1
  replace f2 := shm_660 f2
  replace f3 := shm_668 f3
  replace f4 := shm_5 f4
  replace f5 := shm_5 f5
  have q3 : n_v vs 3 = n_v vs 0 := f4.symm
  have q4 : n_v vs 4 = n_v vs 1 := f5.symm
  simp only [q3, q4] at f1 f2 f3
  have cr_0_96 := fdq_166 hD hth r0
  have cr_0_98 := fdq_157 hD hth r0
  have hK_0_96 := elq_96 hD hth cr_0_96
  have hK_0_98 := elq_90 hD hth cr_0_98
  have nf0 : fc_1 PRD (20, [0, 1], [60, 0, 1, 322, 96]) ws (vs) := ⟨nf_in hl rfl, sgq_661 (vc_Mo_nextOrder_at_gm_7_0 (v_iv (n_v vs 1)) (v_iv (n_v vs 2)) (v_iv (n_v vs 4)) (v_iv (n_v vs 5)) (v_iv (n_v vs 8)) (v_iv (n_v vs 9)) (v_iv (n_v vs 10)) (w_ei ws (w_ar ws (n_v vs 0) 96)) (w_ei ws (w_ar ws (n_v vs 0) 98)) k1 k2 k4 k5 k8 k9 k10 d0 d1 d2 d3 d4 d5 d6 d7 d8 d9 d10 (shm_2 f0) f1 f2 f3 hK_0_96 hK_0_98)⟩
  have nf1 : fc_1 PRD (20, [0, 1, 2, 10], [60, 0, 1, 324, 96]) ws (vs) := ⟨nf_in hl rfl, sgq_665 (vc_Mo_nextOrder_at_gm_7_1 (v_iv (n_v vs 1)) (v_iv (n_v vs 2)) (v_iv (n_v vs 4)) (v_iv (n_v vs 5)) (v_iv (n_v vs 8)) (v_iv (n_v vs 9)) (v_iv (n_v vs 10)) (w_ei ws (w_ar ws (n_v vs 0) 96)) (w_ei ws (w_ar ws (n_v vs 0) 98)) k1 k2 k4 k5 k8 k9 k10 d0 d1 d2 d3 d4 d5 d6 d7 d8 d9 d10 (shm_2 f0) f1 f2 f3 hK_0_96 hK_0_98)⟩
  have nf2 : fc_1 PRD (20, [0, 1], [60, 0, 2, 328, 96, 98]) ws (vs) := ⟨nf_in hl rfl, sgq_663 (vc_Mo_nextOrder_at_gm_7_2 (v_iv (n_v vs 1)) (v_iv (n_v vs 2)) (v_iv (n_v vs 4)) (v_iv (n_v vs 5)) (v_iv (n_v vs 8)) (v_iv (n_v vs 9)) (v_iv (n_v vs 10)) (w_ei ws (w_ar ws (n_v vs 0) 96)) (w_ei ws (w_ar ws (n_v vs 0) 98)) k1 k2 k4 k5 k8 k9 k10 d0 d1 d2 d3 d4 d5 d6 d7 d8 d9 d10 (shm_2 f0) f1 f2 f3 hK_0_96 hK_0_98)⟩
  refine ⟨(fun _ h => (by cases h)), [], trivial, ?_, (fun _ h => (by cases h))⟩
  rw [List.append_nil]
  exact List.forall_mem_cons.mpr ⟨⟨show (20 : Nat) < 100 from by decide, nf0⟩, List.forall_mem_cons.mpr ⟨⟨show (20 : Nat) < 100 from by decide, nf1⟩, List.forall_mem_cons.mpr ⟨⟨show (20 : Nat) < 100 from by decide, nf2⟩, (fun _ h => (by cases h))⟩⟩⟩
set_option maxHeartbeats 4000000 in
theorem vc_Mo_nextOrder_at_gm_8_0 (x1 : Int) (x2 : Int) (x4 : Int) (x5 : Int) (x8 : Int) (x9 : Int) (x11 : Int) (x12 : Int) (x13 : Int) (x14 : Int) (order_2 : Int → Int) (member_2 : Int → Int) (order_0 : Int → Int) (order_1 : Int → Int) (member_0 : Int → Int) (member_1 : Int → Int) (k1 : 3 ≤ x1 ∧ x1 ≤ 26) (k2 : (-2) ≤ x2 ∧ x2 ≤ 16777216) (k4 : 3 ≤ x4 ∧ x4 ≤ 26) (k5 : 0 ≤ x5 ∧ x5 ≤ 23) (k8 : 1 ≤ x8 ∧ x8 ≤ 24) (k9 : 2 ≤ x9 ∧ x9 ≤ 25) (k11 : 0 ≤ x11 ∧ x11 ≤ 25) (k12 : 0 ≤ x12 ∧ x12 ≤ 25) (k13 : 2 ≤ x13 ∧ x13 ≤ 25) (k14 : 1 ≤ x14 ∧ x14 ≤ 24) (d0 : x9 + (-1) ≤ x14 ∧ x14 ≤ x9 + (-1)) (d1 : x1 + (-4294967296) ≤ x14 ∧ x14 ≤ x1 + (-2)) (d2 : x4 + (-4294967296) ≤ x14 ∧ x14 ≤ x4 + (-2)) (d3 : x8 + 1 ≤ x13 ∧ x13 ≤ x8 + 1) (d4 : x9 + (-4294967296) ≤ x13 ∧ x13 ≤ x9 + 0) (d5 : x1 + (-4294967296) ≤ x13 ∧ x13 ≤ x1 + 0) (d6 : x4 + (-4294967296) ≤ x13 ∧ x13 ≤ x4 + 0) (d7 : x9 + (-4294967296) ≤ x13 ∧ x13 ≤ x9 + 2) (d8 : x9 + (-4294967296) ≤ x8 ∧ x8 ≤ x9 + (-1)) (d9 : x4 + (-4294967296) ≤ x1 ∧ x1 ≤ x4 + 0) (d10 : x1 + (-4294967296) ≤ x4 ∧ x4 ≤ x1 + 0) (d11 : x1 + (-4294967296) ≤ x5 ∧ x5 ≤ x1 + (-2)) (d12 : x4 + (-4294967296) ≤ x5 ∧ x5 ≤ x4 + (-2)) (d13 : x8 + (-4294967296) ≤ x5 ∧ x5 ≤ x8 + (-1)) (d14 : x1 + (-4294967296) ≤ x8 ∧ x8 ≤ x1 + (-1)) (d15 : x4 + (-4294967296) ≤ x8 ∧ x8 ≤ x4 + (-1)) (d16 : x9 + (-4294967296) ≤ x8 ∧ x8 ≤ x9 + 1) (d17 : x1 + (-4294967296) ≤ x9 ∧ x9 ≤ x1 + (-1)) (d18 : x4 + (-4294967296) ≤ x9 ∧ x9 ≤ x4 + (-1)) (f0 : x14 = x9 + (-1)) (f1 : x13 = x8 + 1) (f2 : x1 ≤ 8) (f7 : x1 ≤ 8) (h9 : x12 = order_2 (x9)) (h10 : x11 = order_2 (x8)) (f11 : x8 < x9) (f12 : SEM (order_2) (member_2) (x1)) (f13 : x1 ≤ 8) (f14 : NO3 (order_2) (x1) (x5) (x8) (x9) (x2)) (hE_0_96_1 : ∀ j : Int, 0 ≤ j → (j = x9 → order_0 j = x11) ∧ (j ≠ x9 → order_0 j = order_1 j)) (hE_0_96_2 : ∀ j : Int, 0 ≤ j → (j = x8 → order_1 j = x12) ∧ (j ≠ x8 → order_1 j = order_2 j)) (hK_0_96 : ∀ j : Int, 0 ≤ j → j < 26 → 0 ≤ order_0 j ∧ order_0 j ≤ 25) (hE_0_98_1 : ∀ j : Int, member_0 j = member_1 j) (hE_0_98_2 : ∀ j : Int, member_1 j = member_2 j) (hK_0_98 : ∀ j : Int, 0 ≤ j → j < 26 → 0 ≤ member_0 j ∧ member_0 j ≤ 25) : SEM (order_0) (member_0) (x1) := by
  have e_hE_0_98_1 := funext hE_0_98_1; subst e_hE_0_98_1
  have e_hE_0_98_2 := funext hE_0_98_2; subst e_hE_0_98_2
  first
    | assumption
    | (have h := ‹NO2 _ _ _ _›
       have h2 := h.2.1
       have h4 := h.2.2.2
       exact sem_swp (a := x5) (b := x6) ‹SEM _ _ _› (by omega) (by omega) (by omega) (by omega) (swp_st (by omega) (by omega) (by omega) (by assumption) (by omega) (by omega) (by assumption) (by omega) (by omega)))
    | (have h := ‹NO3 _ _ _ _ _ _›
       have h2 := h.2.1
       have h3 := h.2.2.1
       have h4 := h.2.2.2.1
       exact sem_swp (a := x8) (b := x9) ‹SEM _ _ _› (by omega) (by omega) (by omega) (by omega) (swp_st (by omega) (by omega) (by omega) (by assumption) (by omega) (by omega) (by assumption) (by omega) (by omega)))
set_option maxHeartbeats 4000000 in
theorem vc_Mo_nextOrder_at_gm_8_1 (x1 : Int) (x2 : Int) (x4 : Int) (x5 : Int) (x8 : Int) (x9 : Int) (x11 : Int) (x12 : Int) (x13 : Int) (x14 : Int) (order_2 : Int → Int) (member_2 : Int → Int) (order_0 : Int → Int) (order_1 : Int → Int) (member_0 : Int → Int) (member_1 : Int → Int) (k1 : 3 ≤ x1 ∧ x1 ≤ 26) (k2 : (-2) ≤ x2 ∧ x2 ≤ 16777216) (k4 : 3 ≤ x4 ∧ x4 ≤ 26) (k5 : 0 ≤ x5 ∧ x5 ≤ 23) (k8 : 1 ≤ x8 ∧ x8 ≤ 24) (k9 : 2 ≤ x9 ∧ x9 ≤ 25) (k11 : 0 ≤ x11 ∧ x11 ≤ 25) (k12 : 0 ≤ x12 ∧ x12 ≤ 25) (k13 : 2 ≤ x13 ∧ x13 ≤ 25) (k14 : 1 ≤ x14 ∧ x14 ≤ 24) (d0 : x9 + (-1) ≤ x14 ∧ x14 ≤ x9 + (-1)) (d1 : x1 + (-4294967296) ≤ x14 ∧ x14 ≤ x1 + (-2)) (d2 : x4 + (-4294967296) ≤ x14 ∧ x14 ≤ x4 + (-2)) (d3 : x8 + 1 ≤ x13 ∧ x13 ≤ x8 + 1) (d4 : x9 + (-4294967296) ≤ x13 ∧ x13 ≤ x9 + 0) (d5 : x1 + (-4294967296) ≤ x13 ∧ x13 ≤ x1 + 0) (d6 : x4 + (-4294967296) ≤ x13 ∧ x13 ≤ x4 + 0) (d7 : x9 + (-4294967296) ≤ x13 ∧ x13 ≤ x9 + 2) (d8 : x9 + (-4294967296) ≤ x8 ∧ x8 ≤ x9 + (-1)) (d9 : x4 + (-4294967296) ≤ x1 ∧ x1 ≤ x4 + 0) (d10 : x1 + (-4294967296) ≤ x4 ∧ x4 ≤ x1 + 0) (d11 : x1 + (-4294967296) ≤ x5 ∧ x5 ≤ x1 + (-2)) (d12 : x4 + (-4294967296) ≤ x5 ∧ x5 ≤ x4 + (-2)) (d13 : x8 + (-4294967296) ≤ x5 ∧ x5 ≤ x8 + (-1)) (d14 : x1 + (-4294967296) ≤ x8 ∧ x8 ≤ x1 + (-1)) (d15 : x4 + (-4294967296) ≤ x8 ∧ x8 ≤ x4 + (-1)) (d16 : x9 + (-4294967296) ≤ x8 ∧ x8 ≤ x9 + 1) (d17 : x1 + (-4294967296) ≤ x9 ∧ x9 ≤ x1 + (-1)) (d18 : x4 + (-4294967296) ≤ x9 ∧ x9 ≤ x4 + (-1)) (f0 : x14 = x9 + (-1)) (f1 : x13 = x8 + 1) (f2 : x1 ≤ 8) (f7 : x1 ≤ 8) (h9 : x12 = order_2 (x9)) (h10 : x11 = order_2 (x8)) (f11 : x8 < x9) (f12 : SEM (order_2) (member_2) (x1)) (f13 : x1 ≤ 8) (f14 : NO3 (order_2) (x1) (x5) (x8) (x9) (x2)) (hE_0_96_1 : ∀ j : Int, 0 ≤ j → (j = x9 → order_0 j = x11) ∧ (j ≠ x9 → order_0 j = order_1 j)) (hE_0_96_2 : ∀ j : Int, 0 ≤ j → (j = x8 → order_1 j = x12) ∧ (j ≠ x8 → order_1 j = order_2 j)) (hK_0_96 : ∀ j : Int, 0 ≤ j → j < 26 → 0 ≤ order_0 j ∧ order_0 j ≤ 25) (hE_0_98_1 : ∀ j : Int, member_0 j = member_1 j) (hE_0_98_2 : ∀ j : Int, member_1 j = member_2 j) (hK_0_98 : ∀ j : Int, 0 ≤ j → j < 26 → 0 ≤ member_0 j ∧ member_0 j ≤ 25) : NO3 (order_0) (x1) (x5) (x13) (x14) (x2) := by
  have e_hE_0_98_1 := funext hE_0_98_1; subst e_hE_0_98_1
  have e_hE_0_98_2 := funext hE_0_98_2; subst e_hE_0_98_2
  first
    | (have h := ‹NO2 _ _ _ _›
       have h2 := h.2.1
       have h4 := h.2.2.2
       exact no3_start h (by omega) (swp_st (by omega) (by omega) (by omega) (by assumption) (by omega) (by omega) (by assumption) (by omega) (by omega)) (by omega) (by omega) ‹ORM _ _ _›)
    | (have h := ‹NO3 _ _ _ _ _ _›
       have h2 := h.2.1
       have h3 := h.2.2.1
       have h4 := h.2.2.2.1
       exact no3_step h (by omega) (swp_st (by omega) (by omega) (by omega) (by assumption) (by omega) (by omega) (by assumption) (by omega) (by omega)) (by omega) (by omega))
def o_Mo_nextOrder_at_gm_8 : or_T := (100, 15, [(0, (2, 0, 0, [165])), (1, (0, 3, 26, [])), (2, (0, -2, 16777216, [])), (4, (0, 3, 26, [])), (5, (0, 0, 23, [])), (8, (0, 1, 24, [])), (9, (0, 2, 25, [])), (10, (2, 0, 0, [232])), (11, (0, 0, 25, [])), (12, (0, 0, 25, [])), (13, (0, 2, 25, [])), (14, (0, 1, 24, []))], [(6, [14, 9], [-1]), (6, [13, 8], [1]), (20, [4], [50, 0, 0, 0, 2, 1, 0, 0, 8]), (24, [0, 3], []), (24, [1, 4], []), (100, [10, 9, 11], []), (9, [10, 3], [96]), (20, [4], [50, 0, 0, 0, 2, 1, 0, 0, 8]), (100, [10, 8, 12], []), (10, [12, 10, 9], []), (10, [11, 10, 8], []), (7, [8, 9], [2]), (20, [3, 4], [60, 0, 2, 328, 96, 98]), (20, [4], [50, 0, 0, 0, 2, 1, 0, 0, 8]), (20, [3, 4, 5, 8, 9, 2], [60, 0, 1, 327, 96])], [], [], [(20, [3, 4], [60, 0, 2, 328, 96, 98]), (20, [3, 4, 5, 13, 14, 2], [60, 0, 1, 327, 96])], [], [(14, 9, -1, -1), (14, 1, -4294967296, -2), (14, 4, -4294967296, -2), (13, 8, 1, 1), (13, 9, -4294967296, 0), (13, 1, -4294967296, 0), (13, 4, -4294967296, 0), (13, 9, -4294967296, 2), (8, 9, -4294967296, -1), (1, 4, -4294967296, 0), (4, 1, -4294967296, 0), (5, 1, -4294967296, -2), (5, 4, -4294967296, -2), (5, 8, -4294967296, -1), (8, 1, -4294967296, -1), (8, 4, -4294967296, -1), (8, 9, -4294967296, 1), (9, 1, -4294967296, -1), (9, 4, -4294967296, -1)])
theorem oo_Mo_nextOrder_at_gm_8 {kA : Nat → ClassId} : or_ok PRD kA GG o_Mo_nextOrder_at_gm_8 := by
  refine or_mk fun A ta ws vs hD hth hl => ?_
  intro t0 r0 t1 k1 t2 k2 t4 k4 t5 k5 t8 k8 t9 k9 t10 r10 t11 k11 t12 k12 t13 k13 t14 k14 d0 d1 d2 d3 d4 d5 d6 d7 d8 d9 d10 d11 d12 d13 d14 d15 d16 d17 d18 f0 f1 f2 f3 f4 ta1 w1 le1 s1 f6 f7 ta2 w2 le2 s2 f9 f10 f11 f12 f13 f14
  replace f0 := shm_186 f0
  replace f1 := shm_4 f1
  replace f2 := shm_660 f2
  replace f3 := shm_5 f3
  replace f4 := shm_5 f4
  have s1 : (∀ b j, w_el ws b j = if b = v_ad (n_v vs 10) ∧ j = (v_iv (n_v vs 9)).toNat then v_iv (n_v vs 11) else w_el w1 b j) ∧ ∀ b k, w_fd ws b k = w_fd w1 b k := s1.2
  replace f6 := shm_666 f6
  replace f7 := shm_660 f7
  have s2 : (∀ b j, w_el w1 b j = if b = v_ad (n_v vs 10) ∧ j = (v_iv (n_v vs 8)).toNat then v_iv (n_v vs 12) else w_el w2 b j) ∧ ∀ b k, w_fd w1 b k = w_fd w2 b k := s2.2
  replace f9 := shm_107 f9
  replace f10 := shm_107 f10
  replace f11 := shm_6 f11
  replace f12 := shm_663 f12
  replace f13 := shm_660 f13
  replace f14 := shm_668 f14
  have q3 : n_v vs 3 = n_v vs 0 := f3.symm
  have q4 : n_v vs 4 = n_v vs 1 := f4.symm
  simp only [q4, q3] at f2 f6 f7 f12 f13 f14
  have ar_0_96_1 : w_ar w1 (n_v vs 0) 96 = w_ar ws (n_v vs 0) 96 := congrArg v_ad (s1.2 _ _).symm
  have ar_0_96_2 : w_ar w2 (n_v vs 0) 96 = w_ar ws (n_v vs 0) 96 := by rw [← ar_0_96_1]; show v_ad (w_fd w2 _ _) = v_ad (w_fd w1 _ _); rw [s2.2]
  have cr_0_96 := fdq_166 hD hth r0
  have ar_0_98_1 : w_ar w1 (n_v vs 0) 98 = w_ar ws (n_v vs 0) 98 := congrArg v_ad (s1.2 _ _).symm
  have ar_0_98_2 : w_ar w2 (n_v vs 0) 98 = w_ar ws (n_v vs 0) 98 := by rw [← ar_0_98_1]; show v_ad (w_fd w2 _ _) = v_ad (w_fd w1 _ _); rw [s2.2]
  have cr_0_98 := fdq_157 hD hth r0
  have ad_10 : v_ad (n_v vs 10) = w_ar ws (n_v vs 0) 96 := (congrArg v_ad f6).trans ar_0_96_1
  simp only [ad_10] at f9
  have h9 : v_iv (n_v vs 12) = w_ei w2 (w_ar ws (n_v vs 0) 96) (v_iv (n_v vs 9)) := f9
  simp only [ad_10] at f10
  have h10 : v_iv (n_v vs 11) = w_ei w2 (w_ar ws (n_v vs 0) 96) (v_iv (n_v vs 8)) := f10
  simp only [ar_0_96_2, ar_0_98_2] at f12 f14
  have hE_0_96_1 : ∀ j : Int, 0 ≤ j → (j = v_iv (n_v vs 9) → w_ei ws (w_ar ws (n_v vs 0) 96) j = v_iv (n_v vs 11)) ∧ (j ≠ v_iv (n_v vs 9) → w_ei ws (w_ar ws (n_v vs 0) 96) j = w_ei w1 (w_ar ws (n_v vs 0) 96) j) := fun j hj => ⟨fun h => by unfold w_ei; rw [s1.1, if_pos ⟨ad_10.symm, by rw [h]⟩], fun h => by unfold w_ei; rw [s1.1, if_neg (fun e => h (by have := e.2; omega))]⟩
  have hE_0_96_2 : ∀ j : Int, 0 ≤ j → (j = v_iv (n_v vs 8) → w_ei w1 (w_ar ws (n_v vs 0) 96) j = v_iv (n_v vs 12)) ∧ (j ≠ v_iv (n_v vs 8) → w_ei w1 (w_ar ws (n_v vs 0) 96) j = w_ei w2 (w_ar ws (n_v vs 0) 96) j) := fun j hj => ⟨fun h => by unfold w_ei; rw [s2.1, if_pos ⟨ad_10.symm, by rw [h]⟩], fun h => by unfold w_ei; rw [s2.1, if_neg (fun e => h (by have := e.2; omega))]⟩
  have hK_0_96 := elq_96 hD hth cr_0_96
  have hE_0_98_1 : ∀ j : Int, w_ei ws (w_ar ws (n_v vs 0) 98) j = w_ei w1 (w_ar ws (n_v vs 0) 98) j := el_kp s1.1 r10 cr_0_98 (by decide)
  have hE_0_98_2 : ∀ j : Int, w_ei w1 (w_ar ws (n_v vs 0) 98) j = w_ei w2 (w_ar ws (n_v vs 0) 98) j := el_kp s2.1 r10 cr_0_98 (by decide)
  have hK_0_98 := elq_90 hD hth cr_0_98
  have nf0 : fc_1 PRD (20, [3, 4], [60, 0, 2, 328, 96, 98]) ws (vs) := by
    refine ⟨nf_in hl rfl, sgq_663 ?_⟩
    · show SEM (w_ei ws (w_ar ws (n_v vs 3) 96)) (w_ei ws (w_ar ws (n_v vs 3) 98)) (v_iv (n_v vs 4))
      simp only [q3, q4]
      exact vc_Mo_nextOrder_at_gm_8_0 (v_iv (n_v vs 1)) (v_iv (n_v vs 2)) (v_iv (n_v vs 4)) (v_iv (n_v vs 5)) (v_iv (n_v vs 8)) (v_iv (n_v vs 9)) (v_iv (n_v vs 11)) (v_iv (n_v vs 12)) (v_iv (n_v vs 13)) (v_iv (n_v vs 14)) (w_ei w2 (w_ar ws (n_v vs 0) 96)) (w_ei w2 (w_ar ws (n_v vs 0) 98)) (w_ei ws (w_ar ws (n_v vs 0) 96)) (w_ei w1 (w_ar ws (n_v vs 0) 96)) (w_ei ws (w_ar ws (n_v vs 0) 98)) (w_ei w1 (w_ar ws (n_v vs 0) 98)) k1 k2 k4 k5 k8 k9 k11 k12 k13 k14 d0 d1 d2 d3 d4 d5 d6 d7 d8 d9 d10 d11 d12 d13 d14 d15 d16 d17 d18 f0 f1 f2 f7 h9 h10 f11 f12 f13 f14 hE_0_96_1 hE_0_96_2 hK_0_96 hE_0_98_1 hE_0_98_2 hK_0_98
  have nf1 : fc_1 PRD (20, [3, 4, 5, 13, 14, 2], [60, 0, 1, 327, 96]) ws (vs) := by
    refine ⟨nf_in hl rfl, sgq_668 ?_⟩
    · show NO3 (w_ei ws (w_ar ws (n_v vs 3) 96)) (v_iv (n_v vs 4)) (v_iv (n_v vs 5)) (v_iv (n_v vs 13)) (v_iv (n_v vs 14)) (v_iv (n_v vs 2))
      simp only [q3, q4]
      exact vc_Mo_nextOrder_at_gm_8_1 (v_iv (n_v vs 1)) (v_iv (n_v vs 2)) (v_iv (n_v vs 4)) (v_iv (n_v vs 5)) (v_iv (n_v vs 8)) (v_iv (n_v vs 9)) (v_iv (n_v vs 11)) (v_iv (n_v vs 12)) (v_iv (n_v vs 13)) (v_iv (n_v vs 14)) (w_ei w2 (w_ar ws (n_v vs 0) 96)) (w_ei w2 (w_ar ws (n_v vs 0) 98)) (w_ei ws (w_ar ws (n_v vs 0) 96)) (w_ei w1 (w_ar ws (n_v vs 0) 96)) (w_ei ws (w_ar ws (n_v vs 0) 98)) (w_ei w1 (w_ar ws (n_v vs 0) 98)) k1 k2 k4 k5 k8 k9 k11 k12 k13 k14 d0 d1 d2 d3 d4 d5 d6 d7 d8 d9 d10 d11 d12 d13 d14 d15 d16 d17 d18 f0 f1 f2 f7 h9 h10 f11 f12 f13 f14 hE_0_96_1 hE_0_96_2 hK_0_96 hE_0_98_1 hE_0_98_2 hK_0_98
  refine ⟨(fun _ h => (by cases h)), [], trivial, ?_, (fun _ h => (by cases h))⟩
  rw [List.append_nil]
  exact List.forall_mem_cons.mpr ⟨⟨show (20 : Nat) < 100 from by decide, nf0⟩, List.forall_mem_cons.mpr ⟨⟨show (20 : Nat) < 100 from by decide, nf1⟩, (fun _ h => (by cases h))⟩⟩
def n_Mo_nextOrder_at_gm_an : List an_T := [(4, [(0, (2, 0, 0, [165])), (1, (0, 0, 26, [])), (2, (0, (Int.negSucc 1), 24, []))], [], (0, 0), [(0, 0, 99996), (2, 5, (Int.negSucc 1)), (0, 0, 100000)], [(1, 4, (Int.negSucc 999999999999), 0), (4, 1, (Int.negSucc 999999999999), 0), (5, 1, (Int.negSucc 999999999999), (Int.negSucc 1)), (5, 4, (Int.negSucc 999999999999), (Int.negSucc 1))], [], [(2, 0, 0, [165]), (0, 0, 26, []), (0, (Int.negSucc 1), 16777216, [])], 0, [], [(20, [3, 4], [60, 0, 2, 328, 96, 98]), (20, [4], [50, 0, 0, 0, 2, 1, 0, 0, 8]), (20, [3, 4, 5], [60, 0, 1, 325, 96]), (20, [3, 4, 2], [60, 0, 1, 323, 96]), (24, [0, 3], []), (24, [1, 4], [])]), (41, [(0, (2, 0, 0, [165])), (1, (0, 2, 26, [])), (2, (0, 0, 24, [])), (3, (0, 0, 25, []))], [], (0, 0), [(0, 0, 99959), (2, 6, 0), (0, 0, 100000)], [(1, 4, (Int.negSucc 999999999999), 0), (4, 1, (Int.negSucc 999999999999), 0), (5, 1, (Int.negSucc 999999999999), (Int.negSucc 1)), (5, 4, (Int.negSucc 999999999999), (Int.negSucc 1)), (6, 1, (Int.negSucc 999999999999), (Int.negSucc 0)), (6, 4, (Int.negSucc 999999999999), (Int.negSucc 0))], [], [(2, 0, 0, [165]), (0, 0, 26, []), (0, (Int.negSucc 1), 16777216, [])], 0, [], [(20, [3, 4], [60, 0, 2, 328, 96, 98]), (20, [4], [50, 0, 0, 0, 2, 1, 0, 0, 8]), (20, [3, 4, 5, 6], [60, 0, 1, 326, 96]), (20, [3, 4, 2], [60, 0, 1, 323, 96]), (24, [0, 3], []), (24, [1, 4], [])]), (100, [(0, (2, 0, 0, [165])), (1, (0, 2, 26, [])), (2, (0, 0, 24, [])), (3, (0, 0, 25, [])), (4, (0, 0, 25, [])), (5, (0, 1, 25, [])), (6, (0, 1, 25, []))], [], (0, 0), [(0, 0, 99900), (1, 8, 25), (0, 0, 100000)], [(1, 4, (Int.negSucc 999999999999), 0), (4, 1, (Int.negSucc 999999999999), 0), (5, 1, (Int.negSucc 999999999999), (Int.negSucc 1)), (5, 4, (Int.negSucc 999999999999), (Int.negSucc 1)), (5, 8, (Int.negSucc 999999999999), (Int.negSucc 0)), (6, 1, (Int.negSucc 999999999999), (Int.negSucc 0)), (6, 4, (Int.negSucc 999999999999), (Int.negSucc 0)), (8, 1, (Int.negSucc 999999999999), (Int.negSucc 0)), (8, 4, (Int.negSucc 999999999999), (Int.negSucc 0)), (8, 9, (Int.negSucc 999999999999), 1), (9, 1, (Int.negSucc 999999999999), (Int.negSucc 0)), (9, 4, (Int.negSucc 999999999999), (Int.negSucc 0))], [], [(2, 0, 0, [165]), (0, 0, 26, []), (0, (Int.negSucc 1), 16777216, [])], 0, [], [(20, [3, 4], [60, 0, 2, 328, 96, 98]), (20, [4], [50, 0, 0, 0, 2, 1, 0, 0, 8]), (20, [3, 4, 5, 8, 9, 2], [60, 0, 1, 327, 96]), (24, [0, 3], []), (24, [1, 4], [])])]
def t_Mo_nextOrder_at_gm_ct : ct_L := []
set_option maxRecDepth 100000 in
theorem c_Mo_nextOrder_at_gm {l : Launch} {D : va_G} {kA : Nat → ClassId} : ct_ok PRD l D kA GG y_Mo_nextOrder_at_gm z_Mo_nextOrder_at_gm e_Mo_nextOrder_at_gm := chk_all_ok (FT := [(213, 13, 96)]) (PT := []) (CT := t_Mo_nextOrder_at_gm_ct) (KT := []) (NT := []) (AN := n_Mo_nextOrder_at_gm_an) (OT := [o_Mo_nextOrder_at_gm_0, o_Mo_nextOrder_at_gm_1, o_Mo_nextOrder_at_gm_2, o_Mo_nextOrder_at_gm_3, o_Mo_nextOrder_at_gm_4, o_Mo_nextOrder_at_gm_5, o_Mo_nextOrder_at_gm_6, o_Mo_nextOrder_at_gm_7, o_Mo_nextOrder_at_gm_8]) 3 368 (List.forall_mem_cons.mpr ⟨oo_Mo_nextOrder_at_gm_0, List.forall_mem_cons.mpr ⟨oo_Mo_nextOrder_at_gm_1, List.forall_mem_cons.mpr ⟨oo_Mo_nextOrder_at_gm_2, List.forall_mem_cons.mpr ⟨oo_Mo_nextOrder_at_gm_3, List.forall_mem_cons.mpr ⟨oo_Mo_nextOrder_at_gm_4, List.forall_mem_cons.mpr ⟨oo_Mo_nextOrder_at_gm_5, List.forall_mem_cons.mpr ⟨oo_Mo_nextOrder_at_gm_6, List.forall_mem_cons.mpr ⟨oo_Mo_nextOrder_at_gm_7, List.forall_mem_cons.mpr ⟨oo_Mo_nextOrder_at_gm_8, List.forall_mem_nil _⟩⟩⟩⟩⟩⟩⟩⟩⟩) (by decide +kernel) ⟨List.forall_mem_cons.mpr ⟨gf_Mo_213, List.forall_mem_nil _⟩, List.forall_mem_nil _, List.forall_mem_nil _, List.forall_mem_nil _, List.forall_mem_nil _, GG_pl⟩ (by decide +kernel)

set_option maxHeartbeats 4000000 in
theorem vc_Mo_nextOrder_at_gx_0_0 (x1 : Int) (x2 : Int) (x3 : Int) (x4 : Int) (order_0 : Int → Int) (k1 : 0 ≤ x1 ∧ x1 ≤ 8) (k2 : (-2) ≤ x2 ∧ x2 ≤ 16777216) (k3 : 2 ≤ x3 ∧ x3 ≤ 2) (k4 : (-2) ≤ x4 ∧ x4 ≤ 6) (d0 : x1 + (-2) ≤ x4 ∧ x4 ≤ x1 + (-2)) (f0 : x4 = x1 - x3) (f1 : x1 ≤ 8) (f2 : DIS (order_0) (x1)) (f3 : ORM (order_0) (x1) (x2)) (hK_0_96 : ∀ j : Int, 0 ≤ j → j < 26 → 0 ≤ order_0 j ∧ order_0 j ≤ 25) : NO1 (order_0) (x1) (x4) := by
  first
    | exact ⟨‹DIS _ _›, by omega⟩
    | (have h := ‹NO1 _ _ _›
       exact ⟨h.1, by have := h.2; omega⟩)
def o_Mo_nextOrder_at_gx_0 : or_T := (4, 5, [(0, (2, 0, 0, [165])), (1, (0, 0, 8, [])), (2, (0, -2, 16777216, [])), (3, (0, 2, 2, [])), (4, (0, -2, 6, []))], [(2, [4, 1, 3], []), (20, [1], [50, 0, 0, 0, 2, 1, 0, 0, 8]), (20, [0, 1], [60, 0, 1, 322, 96]), (20, [0, 1, 2], [60, 0, 1, 323, 96])], [], [], [(20, [0, 1, 4], [60, 0, 1, 325, 96]), (24, [0, 0], []), (24, [1, 1], [])], [], [(4, 1, -2, -2)])
theorem oo_Mo_nextOrder_at_gx_0 {kA : Nat → ClassId} : or_ok PRD kA GG o_Mo_nextOrder_at_gx_0 := by
  refine or_mk fun A ta ws vs hD hth hl => ?_
  intro t0 r0 t1 k1 t2 k2 t3 k3 t4 k4 d0 f0 f1 f2 f3
  have cr_0_96 := fdq_166 hD hth r0
  have hK_0_96 := elq_96 hD hth cr_0_96
  have nf0 : fc_1 PRD (20, [0, 1, 4], [60, 0, 1, 325, 96]) ws (vs) := ⟨nf_in hl rfl, sgq_664 (vc_Mo_nextOrder_at_gx_0_0 (v_iv (n_v vs 1)) (v_iv (n_v vs 2)) (v_iv (n_v vs 3)) (v_iv (n_v vs 4)) (w_ei ws (w_ar ws (n_v vs 0) 96)) k1 k2 k3 k4 d0 (shm_14 f0) (shm_660 f1) (shm_661 f2) (shm_662 f3) hK_0_96)⟩
  have nf1 : fc_1 PRD (24, [0, 0], []) ws (vs) := by
    refine ⟨nf_in hl rfl, sgq_1 ?_⟩
    · show n_v vs 0 = n_v vs 0
      first | rfl | simp only [true_and]
  have nf2 : fc_1 PRD (24, [1, 1], []) ws (vs) := by
    refine ⟨nf_in hl rfl, sgq_1 ?_⟩
    · show n_v vs 1 = n_v vs 1
      first | rfl | simp only [true_and]
  refine ⟨(fun _ h => (by cases h)), [], trivial, ?_, (fun _ h => (by cases h))⟩
  rw [List.append_nil]
  exact List.forall_mem_cons.mpr ⟨⟨show (20 : Nat) < 100 from by decide, nf0⟩, List.forall_mem_cons.mpr ⟨⟨show (24 : Nat) < 100 from by decide, nf1⟩, List.forall_mem_cons.mpr ⟨⟨show (24 : Nat) < 100 from by decide, nf2⟩, (fun _ h => (by cases h))⟩⟩⟩
set_option maxHeartbeats 4000000 in
theorem vc_Mo_nextOrder_at_gx_1_0 (x1 : Int) (x2 : Int) (x4 : Int) (x5 : Int) (x6 : Int) (order_0 : Int → Int) (k1 : 0 ≤ x1 ∧ x1 ≤ 8) (k2 : (-2) ≤ x2 ∧ x2 ≤ 16777216) (k4 : 0 ≤ x4 ∧ x4 ≤ 8) (k5 : (-2) ≤ x5 ∧ x5 ≤ (-1)) (k6 : 0 ≤ x6 ∧ x6 ≤ 0) (d0 : x4 + (-4294967296) ≤ x1 ∧ x1 ≤ x4 + 0) (d1 : x1 + (-4294967296) ≤ x4 ∧ x4 ≤ x1 + 0) (d2 : x1 + (-4294967296) ≤ x5 ∧ x5 ≤ x1 + (-2)) (d3 : x4 + (-4294967296) ≤ x5 ∧ x5 ≤ x4 + (-2)) (f0 : x5 < 0) (f1 : x5 < 0) (f2 : x1 ≤ 8) (f3 : NO1 (order_0) (x1) (x5)) (f4 : ORM (order_0) (x1) (x2)) (hK_0_96 : ∀ j : Int, 0 ≤ j → j < 26 → 0 ≤ order_0 j ∧ order_0 j ≤ 25) : DIS (order_0) (x1) := by
  exact ‹NO1 _ _ _›.1
set_option maxHeartbeats 4000000 in
theorem vc_Mo_nextOrder_at_gx_1_1 (x1 : Int) (x2 : Int) (x4 : Int) (x5 : Int) (x6 : Int) (order_0 : Int → Int) (k1 : 0 ≤ x1 ∧ x1 ≤ 8) (k2 : (-2) ≤ x2 ∧ x2 ≤ 16777216) (k4 : 0 ≤ x4 ∧ x4 ≤ 8) (k5 : (-2) ≤ x5 ∧ x5 ≤ (-1)) (k6 : 0 ≤ x6 ∧ x6 ≤ 0) (d0 : x4 + (-4294967296) ≤ x1 ∧ x1 ≤ x4 + 0) (d1 : x1 + (-4294967296) ≤ x4 ∧ x4 ≤ x1 + 0) (d2 : x1 + (-4294967296) ≤ x5 ∧ x5 ≤ x1 + (-2)) (d3 : x4 + (-4294967296) ≤ x5 ∧ x5 ≤ x4 + (-2)) (f0 : x5 < 0) (f1 : x5 < 0) (f2 : x1 ≤ 8) (f3 : NO1 (order_0) (x1) (x5)) (f4 : ORM (order_0) (x1) (x2)) (hK_0_96 : ∀ j : Int, 0 ≤ j → j < 26 → 0 ≤ order_0 j ∧ order_0 j ≤ 25) : ORN (order_0) (x1) (x2) (x6) := by
  intro z; exfalso; omega
def o_Mo_nextOrder_at_gx_1 : or_T := (36, 7, [(0, (2, 0, 0, [165])), (1, (0, 0, 8, [])), (2, (0, -2, 16777216, [])), (4, (0, 0, 8, [])), (5, (0, -2, -1, [])), (6, (0, 0, 0, []))], [(8, [5], [2]), (8, [5], [2]), (20, [4], [50, 0, 0, 0, 2, 1, 0, 0, 8]), (20, [3, 4, 5], [60, 0, 1, 325, 96]), (20, [3, 4, 2], [60, 0, 1, 323, 96]), (24, [0, 3], []), (24, [1, 4], [])], [], [], [(20, [0, 1], [60, 0, 1, 322, 96]), (20, [0, 1, 2, 6], [60, 0, 1, 324, 96])], [], [(1, 4, -4294967296, 0), (4, 1, -4294967296, 0), (5, 1, -4294967296, -2), (5, 4, -4294967296, -2)])
theorem oo_Mo_nextOrder_at_gx_1 {kA : Nat → ClassId} : or_ok PRD kA GG o_Mo_nextOrder_at_gx_1 := by
  refine or_mk fun A ta ws vs hD hth hl => ?_
  intro t0 r0 t1 k1 t2 k2 t4 k4 t5 k5 t6 k6 d0 d1 d2 d3 f0 f1 f2 f3 f4 f5 f6
  replace f2 := shm_660 f2
  replace f3 := shm_664 f3
  replace f4 := shm_662 f4
  replace f5 := shm_5 f5
  replace f6 := shm_5 f6
  have q3 : n_v vs 3 = n_v vs 0 := f5.symm
  have q4 : n_v vs 4 = n_v vs 1 := f6.symm
  simp only [q4, q3] at f2 f3 f4
  have cr_0_96 := fdq_166 hD hth r0
  have hK_0_96 := elq_96 hD hth cr_0_96
  have nf0 : fc_1 PRD (20, [0, 1], [60, 0, 1, 322, 96]) ws (vs) := ⟨nf_in hl rfl, sgq_661 (vc_Mo_nextOrder_at_gx_1_0 (v_iv (n_v vs 1)) (v_iv (n_v vs 2)) (v_iv (n_v vs 4)) (v_iv (n_v vs 5)) (v_iv (n_v vs 6)) (w_ei ws (w_ar ws (n_v vs 0) 96)) k1 k2 k4 k5 k6 d0 d1 d2 d3 (shm_39 f0) (shm_39 f1) f2 f3 f4 hK_0_96)⟩
  have nf1 : fc_1 PRD (20, [0, 1, 2, 6], [60, 0, 1, 324, 96]) ws (vs) := ⟨nf_in hl rfl, sgq_665 (vc_Mo_nextOrder_at_gx_1_1 (v_iv (n_v vs 1)) (v_iv (n_v vs 2)) (v_iv (n_v vs 4)) (v_iv (n_v vs 5)) (v_iv (n_v vs 6)) (w_ei ws (w_ar ws (n_v vs 0) 96)) k1 k2 k4 k5 k6 d0 d1 d2 d3 (shm_39 f0) (shm_39 f1) f2 f3 f4 hK_0_96)⟩
  refine ⟨(fun _ h => (by cases h)), [], trivial, ?_, (fun _ h => (by cases h))⟩
  rw [List.append_nil]
  exact List.forall_mem_cons.mpr ⟨⟨show (20 : Nat) < 100 from by decide, nf0⟩, List.forall_mem_cons.mpr ⟨⟨show (20 : Nat) < 100 from by decide, nf1⟩, (fun _ h => (by cases h))⟩⟩
set_option maxHeartbeats 4000000 in
theorem vc_Mo_nextOrder_at_gx_2_0 (x1 : Int) (x2 : Int) (x4 : Int) (x5 : Int) (x7 : Int) (x8 : Int) (x9 : Int) (x10 : Int) (x11 : Int) (x12 : Int) (order_0 : Int → Int) (k1 : 2 ≤ x1 ∧ x1 ≤ 8) (k2 : (-2) ≤ x2 ∧ x2 ≤ 16777216) (k4 : 2 ≤ x4 ∧ x4 ≤ 8) (k5 : 0 ≤ x5 ∧ x5 ≤ 6) (k7 : 0 ≤ x7 ∧ x7 ≤ 25) (k8 : 1 ≤ x8 ∧ x8 ≤ 1) (k9 : 1 ≤ x9 ∧ x9 ≤ 7) (k10 : 0 ≤ x10 ∧ x10 ≤ 25) (k11 : 1 ≤ x11 ∧ x11 ≤ 1) (k12 : 1 ≤ x12 ∧ x12 ≤ 7) (d0 : x4 + (-1) ≤ x12 ∧ x12 ≤ x4 + (-1)) (d1 : x1 + (-4294967296) ≤ x12 ∧ x12 ≤ x1 + (-1)) (d2 : x10 + (-4294967296) ≤ x7 ∧ x7 ≤ x10 + 0) (d3 : x5 + 1 ≤ x9 ∧ x9 ≤ x5 + 1) (d4 : x1 + (-4294967296) ≤ x9 ∧ x9 ≤ x1 + (-1)) (d5 : x4 + (-4294967296) ≤ x9 ∧ x9 ≤ x4 + (-1)) (d6 : x4 + (-4294967296) ≤ x1 ∧ x1 ≤ x4 + 0) (d7 : x1 + (-4294967296) ≤ x4 ∧ x4 ≤ x1 + 0) (d8 : x1 + (-4294967296) ≤ x5 ∧ x5 ≤ x1 + (-2)) (d9 : x4 + (-4294967296) ≤ x5 ∧ x5 ≤ x4 + (-2)) (f0 : x12 = x1 - x11) (f1 : 0 ≤ x5) (f2 : x7 ≤ x10) (h3 : x10 = order_0 (x9)) (f4 : x9 = x5 + x8) (h6 : x7 = order_0 (x5)) (f7 : 0 ≤ x5) (f8 : x1 ≤ 8) (f9 : NO1 (order_0) (x1) (x5)) (f10 : ORM (order_0) (x1) (x2)) (hK_0_96 : ∀ j : Int, 0 ≤ j → j < 26 → 0 ≤ order_0 j ∧ order_0 j ≤ 25) : NO2 (order_0) (x1) (x5) (x12) := by
  first
    | exact no2_start ‹NO1 _ _ _› (by omega) (by rw [← (by omega : x9 = x5 + 1)]; omega) (by omega)
    | exact no2_step ‹NO2 _ _ _ _› (by omega) (by omega)
def o_Mo_nextOrder_at_gx_2 : or_T := (41, 13, [(0, (2, 0, 0, [165])), (1, (0, 2, 8, [])), (2, (0, -2, 16777216, [])), (4, (0, 2, 8, [])), (5, (0, 0, 6, [])), (7, (0, 0, 25, [])), (8, (0, 1, 1, [])), (9, (0, 1, 7, [])), (10, (0, 0, 25, [])), (11, (0, 1, 1, [])), (12, (0, 1, 7, []))], [(2, [12, 4, 11], []), (8, [5], [3]), (7, [7, 10], [5]), (10, [10, 6, 9], []), (1, [9, 5, 8], []), (9, [6, 3], [96]), (10, [7, 6, 5], []), (8, [5], [3]), (20, [4], [50, 0, 0, 0, 2, 1, 0, 0, 8]), (20, [3, 4, 5], [60, 0, 1, 325, 96]), (20, [3, 4, 2], [60, 0, 1, 323, 96]), (24, [0, 3], []), (24, [1, 4], [])], [], [], [(20, [3, 4, 5, 12], [60, 0, 1, 326, 96])], [], [(12, 4, -1, -1), (12, 1, -4294967296, -1), (7, 10, -4294967296, 0), (9, 5, 1, 1), (9, 1, -4294967296, -1), (9, 4, -4294967296, -1), (1, 4, -4294967296, 0), (4, 1, -4294967296, 0), (5, 1, -4294967296, -2), (5, 4, -4294967296, -2)])
theorem oo_Mo_nextOrder_at_gx_2 {kA : Nat → ClassId} : or_ok PRD kA GG o_Mo_nextOrder_at_gx_2 := by
  refine or_mk fun A ta ws vs hD hth hl => ?_
  intro t0 r0 t1 k1 t2 k2 t4 k4 t5 k5 t7 k7 t8 k8 t9 k9 t10 k10 t11 k11 t12 k12 d0 d1 d2 d3 d4 d5 d6 d7 d8 d9 f0 f1 f2 f3 f4 f5 f6 f7 f8 f9 f10 f11 f12
  replace f0 := shm_14 f0
  replace f1 := shm_32 f1
  replace f2 := shm_24 f2
  replace f3 := shm_107 f3
  replace f4 := shm_12 f4
  replace f5 := shm_666 f5
  replace f6 := shm_107 f6
  replace f7 := shm_32 f7
  replace f8 := shm_660 f8
  replace f9 := shm_664 f9
  replace f10 := shm_662 f10
  replace f11 := shm_5 f11
  replace f12 := shm_5 f12
  have q3 : n_v vs 3 = n_v vs 0 := f11.symm
  have q4 : n_v vs 4 = n_v vs 1 := f12.symm
  simp only [q4, q3] at f0 f5 f8 f9 f10
  have cr_0_96 := fdq_166 hD hth r0
  have ad_6 : v_ad (n_v vs 6) = w_ar ws (n_v vs 0) 96 := congrArg v_ad f5
  simp only [ad_6] at f3
  have h3 : v_iv (n_v vs 10) = w_ei ws (w_ar ws (n_v vs 0) 96) (v_iv (n_v vs 9)) := f3
  simp only [ad_6] at f6
  have h6 : v_iv (n_v vs 7) = w_ei ws (w_ar ws (n_v vs 0) 96) (v_iv (n_v vs 5)) := f6
  have hK_0_96 := elq_96 hD hth cr_0_96
  have nf0 : fc_1 PRD (20, [3, 4, 5, 12], [60, 0, 1, 326, 96]) ws (vs) := by
    refine ⟨nf_in hl rfl, sgq_667 ?_⟩
    · show NO2 (w_ei ws (w_ar ws (n_v vs 3) 96)) (v_iv (n_v vs 4)) (v_iv (n_v vs 5)) (v_iv (n_v vs 12))
      simp only [q3, q4]
      exact vc_Mo_nextOrder_at_gx_2_0 (v_iv (n_v vs 1)) (v_iv (n_v vs 2)) (v_iv (n_v vs 4)) (v_iv (n_v vs 5)) (v_iv (n_v vs 7)) (v_iv (n_v vs 8)) (v_iv (n_v vs 9)) (v_iv (n_v vs 10)) (v_iv (n_v vs 11)) (v_iv (n_v vs 12)) (w_ei ws (w_ar ws (n_v vs 0) 96)) k1 k2 k4 k5 k7 k8 k9 k10 k11 k12 d0 d1 d2 d3 d4 d5 d6 d7 d8 d9 f0 f1 f2 h3 f4 h6 f7 f8 f9 f10 hK_0_96
  refine ⟨(fun _ h => (by cases h)), [], trivial, ?_, (fun _ h => (by cases h))⟩
  rw [List.append_nil]
  exact List.forall_mem_cons.mpr ⟨⟨show (20 : Nat) < 100 from by decide, nf0⟩, (fun _ h => (by cases h))⟩
