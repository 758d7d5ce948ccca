set_option maxHeartbeats 4000000 in
theorem vc_Mo_met_33_5 (x1 : Int) (x3 : Int) (x18 : Int) (x19 : Int) (x22 : Int) (from_0 : Int) (pos_0 : Int) (kind_0 : Int) (r_1 : Int) (from_1 : Int) (pos_1 : Int) (kind_1 : Int) (from_2 : Int) (pos_2 : Int) (kind_2 : Int) (all_2 : Int → Int) (r_2 : Int) (now_2 : Int → Int) (latest_2 : Int → Int) (r_0 : Int) (all_0 : Int → Int) (all_1 : Int → Int) (now_0 : Int → Int) (now_1 : Int → Int) (latest_0 : Int → Int) (latest_1 : Int → Int) (gx : Int) (k1 : 0 ≤ x1 ∧ x1 ≤ 7) (k3 : 0 ≤ x3 ∧ x3 ≤ 2000) (k18 : 219 ≤ x18 ∧ x18 ≤ 66539) (k19 : 1 ≤ x19 ∧ x19 ≤ 1) (k22 : 243 ≤ x22 ∧ x22 ≤ 66563) (f2 : 1 * x3 + ((-1) * pos_0 + 0) ≤ 0) (fe_0_5_1 : r_0 = r_1) (fe_0_11_1 : pos_0 = pos_1) (fe_0_12_1 : kind_0 = kind_1) (fe_0_15_1 : from_0 = from_1) (fe_0_5_2 : r_1 = r_2) (fe_0_11_2 : pos_1 = pos_2) (fe_0_12_2 : kind_1 = kind_2) (fe_0_15_2 : from_1 = from_2) (hE_0_2_1 : ∀ j : Int, 0 ≤ j → (j = x22 → all_0 j = x1) ∧ (j ≠ x22 → all_0 j = all_1 j)) (hE_0_2_2 : ∀ j : Int, 0 ≤ j → (j = x18 → all_1 j = x19) ∧ (j ≠ x18 → all_1 j = all_2 j)) (hE_0_3_1 : ∀ j : Int, now_0 j = now_1 j) (hE_0_3_2 : ∀ j : Int, now_1 j = now_2 j) (hE_0_4_1 : ∀ j : Int, latest_0 j = latest_1 j) (hE_0_4_2 : ∀ j : Int, latest_1 j = latest_2 j) (kz_0_11 : 0 ≤ pos_0 ∧ pos_0 ≤ 2000) (kz_0_12 : 0 ≤ kind_0 ∧ kind_0 ≤ 4) (kz_0_15 : 0 ≤ from_0 ∧ from_0 ≤ 2000) (ex2 : gx = pos_0) : 1 * x3 + ((-1) * gx + 0) ≤ 0 := by
  subst fe_0_5_1
  subst fe_0_11_1
  subst fe_0_12_1
  subst fe_0_15_1
  subst fe_0_5_2
  subst fe_0_11_2
  subst fe_0_12_2
  subst fe_0_15_2
  have e_hE_0_3_1 := funext hE_0_3_1; subst e_hE_0_3_1
  have e_hE_0_3_2 := funext hE_0_3_2; subst e_hE_0_3_2
  have e_hE_0_4_1 := funext hE_0_4_1; subst e_hE_0_4_1
  have e_hE_0_4_2 := funext hE_0_4_2; subst e_hE_0_4_2
  first
    | omega
    | (have q1 := (hE_0_2_1 (r_0 + 2) (by omega)).2 (by omega)
       have q2 := (hE_0_2_2 (r_0 + 2) (by omega)).2 (by omega)
       omega)
    | (have q1 := (hE_0_2_1 (r_0 + 1) (by omega)).2 (by omega)
       have q2 := (hE_0_2_2 (r_0 + 1) (by omega)).2 (by omega)
       omega)
    | (have q1 := (hE_0_2_1 (r_0 + 2) (by omega)).2 (by omega)
       omega)
    | (have q1 := (hE_0_2_1 (r_0 + 1) (by omega)).2 (by omega)
       omega)
    | (have q1 := (hE_0_2_1 (r_0 + 2) (by omega)).2 (by omega)
       have q2 := (hE_0_2_2 (r_0 + 2) (by omega)).2 (by omega)
       have q3 := (hE_0_2_3 (r_0 + 2) (by omega)).1 (by omega)
       omega)
    | (have q1 := (hE_0_2_1 (r_0 + 2) (by omega)).2 (by omega)
       have q2 := (hE_0_2_2 (r_0 + 2) (by omega)).2 (by omega)
       have q3 := (hE_0_2_3 (r_0 + 2) (by omega)).2 (by omega)
       omega)
set_option maxHeartbeats 4000000 in
theorem vc_Mo_met_33_6 (x1 : Int) (x4 : Int) (x18 : Int) (x19 : Int) (x22 : Int) (from_0 : Int) (pos_0 : Int) (kind_0 : Int) (r_1 : Int) (from_1 : Int) (pos_1 : Int) (kind_1 : Int) (from_2 : Int) (pos_2 : Int) (kind_2 : Int) (all_2 : Int → Int) (r_2 : Int) (now_2 : Int → Int) (latest_2 : Int → Int) (r_0 : Int) (all_0 : Int → Int) (all_1 : Int → Int) (now_0 : Int → Int) (now_1 : Int → Int) (latest_0 : Int → Int) (latest_1 : Int → Int) (gx : Int) (k1 : 0 ≤ x1 ∧ x1 ≤ 7) (k4 : 0 ≤ x4 ∧ x4 ≤ 2000) (k18 : 219 ≤ x18 ∧ x18 ≤ 66539) (k19 : 1 ≤ x19 ∧ x19 ≤ 1) (k22 : 243 ≤ x22 ∧ x22 ≤ 66563) (f3 : 1 * x4 + ((-1) * pos_0 + 0) ≤ (-1)) (fe_0_5_1 : r_0 = r_1) (fe_0_11_1 : pos_0 = pos_1) (fe_0_12_1 : kind_0 = kind_1) (fe_0_15_1 : from_0 = from_1) (fe_0_5_2 : r_1 = r_2) (fe_0_11_2 : pos_1 = pos_2) (fe_0_12_2 : kind_1 = kind_2) (fe_0_15_2 : from_1 = from_2) (hE_0_2_1 : ∀ j : Int, 0 ≤ j → (j = x22 → all_0 j = x1) ∧ (j ≠ x22 → all_0 j = all_1 j)) (hE_0_2_2 : ∀ j : Int, 0 ≤ j → (j = x18 → all_1 j = x19) ∧ (j ≠ x18 → all_1 j = all_2 j)) (hE_0_3_1 : ∀ j : Int, now_0 j = now_1 j) (hE_0_3_2 : ∀ j : Int, now_1 j = now_2 j) (hE_0_4_1 : ∀ j : Int, latest_0 j = latest_1 j) (hE_0_4_2 : ∀ j : Int, latest_1 j = latest_2 j) (kz_0_11 : 0 ≤ pos_0 ∧ pos_0 ≤ 2000) (kz_0_12 : 0 ≤ kind_0 ∧ kind_0 ≤ 4) (kz_0_15 : 0 ≤ from_0 ∧ from_0 ≤ 2000) (ex2 : gx = pos_0) : 1 * x4 + ((-1) * gx + 0) ≤ (-1) := by
  subst fe_0_5_1
  subst fe_0_11_1
  subst fe_0_12_1
  subst fe_0_15_1
  subst fe_0_5_2
  subst fe_0_11_2
  subst fe_0_12_2
  subst fe_0_15_2
  have e_hE_0_3_1 := funext hE_0_3_1; subst e_hE_0_3_1
  have e_hE_0_3_2 := funext hE_0_3_2; subst e_hE_0_3_2
  have e_hE_0_4_1 := funext hE_0_4_1; subst e_hE_0_4_1
  have e_hE_0_4_2 := funext hE_0_4_2; subst e_hE_0_4_2
  first
    | omega
    | (have q1 := (hE_0_2_1 (r_0 + 2) (by omega)).2 (by omega)
       have q2 := (hE_0_2_2 (r_0 + 2) (by omega)).2 (by omega)
       omega)
    | (have q1 := (hE_0_2_1 (r_0 + 1) (by omega)).2 (by omega)
       have q2 := (hE_0_2_2 (r_0 + 1) (by omega)).2 (by omega)
       omega)
    | (have q1 := (hE_0_2_1 (r_0 + 2) (by omega)).2 (by omega)
       omega)
    | (have q1 := (hE_0_2_1 (r_0 + 1) (by omega)).2 (by omega)
       omega)
    | (have q1 := (hE_0_2_1 (r_0 + 2) (by omega)).2 (by omega)
       have q2 := (hE_0_2_2 (r_0 + 2) (by omega)).2 (by omega)
       have q3 := (hE_0_2_3 (r_0 + 2) (by omega)).1 (by omega)
       omega)
    | (have q1 := (hE_0_2_1 (r_0 + 2) (by omega)).2 (by omega)
       have q2 := (hE_0_2_2 (r_0 + 2) (by omega)).2 (by omega)
       have q3 := (hE_0_2_3 (r_0 + 2) (by omega)).2 (by omega)
       omega)
def o_Mo_met_33 : or_T := (254, 23, [(0, (2, 0, 0, [165])), (1, (0, 0, 7, [])), (2, (0, -1, 23, [])), (3, (0, 0, 2000, [])), (4, (0, 0, 2000, [])), (5, (2, 0, 0, [165])), (6, (0, 0, 7, [])), (7, (0, -1, 23, [])), (8, (0, 0, 23, [])), (10, (0, 0, 8, [])), (11, (0, 0, 2000, [])), (12, (0, 0, 2000, [])), (13, (0, -2000, 8, [])), (14, (2, 0, 0, [167])), (15, (0, 0, 66297, [])), (16, (0, 219, 219, [])), (17, (0, 219, 66516, [])), (18, (0, 219, 66539, [])), (19, (0, 1, 1, [])), (20, (0, 243, 243, [])), (21, (0, 243, 66540, [])), (22, (0, 243, 66563, []))], [(20, [5, 5], [30, 0, 1, 1, 15, -1, 1, 11]), (20, [5], [50, 3, 0, 12, 11, 15, 2, 21, 4, 7, 1, 3, 2, 0, 12, 0, 1, 0, 3, 2, 0, 11, 4, 3, 2, 0, 15, 0, 8, 3, 7, 1, 3, 2, 0, 12, 0, 0, 0, 7, 4, 3, 2, 0, 15, 0, 1, 2, 0, 11]), (20, [3, 5], [30, 0, 1, 0, 0, -1, 1, 11]), (20, [4, 5], [30, -1, 1, 0, 0, -1, 1, 11]), (20, [5], [50, 1, 0, 12, 1, 3, 2, 0, 12, 0, 1]), (24, [0, 5], []), (24, [1, 6], []), (24, [2, 7], []), (100, [14, 22, 6], []), (1, [22, 21, 8], []), (1, [21, 15, 20], []), (9, [15, 5], [5]), (9, [14, 5], [2]), (20, [5, 5], [30, 0, 1, 1, 15, -1, 1, 11]), (20, [5], [50, 3, 0, 12, 11, 15, 2, 21, 4, 7, 1, 3, 2, 0, 12, 0, 1, 0, 3, 2, 0, 11, 4, 3, 2, 0, 15, 0, 8, 3, 7, 1, 3, 2, 0, 12, 0, 0, 0, 7, 4, 3, 2, 0, 15, 0, 1, 2, 0, 11]), (20, [3, 5], [30, 0, 1, 0, 0, -1, 1, 11]), (20, [4, 5], [30, -1, 1, 0, 0, -1, 1, 11]), (20, [5], [50, 1, 0, 12, 1, 3, 2, 0, 12, 0, 1]), (100, [14, 18, 19], []), (1, [18, 17, 8], []), (1, [17, 15, 16], []), (7, [10, 13], [3]), (2, [13, 11, 12], []), (9, [12, 5], [15]), (9, [11, 5], [11]), (20, [5, 5], [30, 0, 1, 1, 15, -1, 1, 11]), (20, [5], [50, 3, 0, 12, 11, 15, 2, 21, 4, 7, 1, 3, 2, 0, 12, 0, 1, 0, 3, 2, 0, 11, 4, 3, 2, 0, 15, 0, 8, 3, 7, 1, 3, 2, 0, 12, 0, 0, 0, 7, 4, 3, 2, 0, 15, 0, 1, 2, 0, 11]), (20, [3, 5], [30, 0, 1, 0, 0, -1, 1, 11]), (20, [4, 5], [30, -1, 1, 0, 0, -1, 1, 11]), (20, [5], [50, 1, 0, 12, 1, 3, 2, 0, 12, 0, 1]), (20, [7, 5], [50, 1, 1, 1005, 1002, 3, 6, 0, 2, 1, 0, 0, -1, 0, 10, 3, 1, 2, 4, 3, 2, 1, 5, 0, 1, 0, 47]), (20, [6, 5], [50, 1, 1, 1005, 1002, 0, 6, 4, 2, 1, 0, 0, 1, 3, 1, 2, 4, 3, 2, 1, 5, 0, 2]), (20, [5, 8], [60, 1, 3, 200, 5, 2, 3, 4]), (20, [5, 7, 8], [60, 1, 1, 243, 5, 2])], [], [(0, 0, 2000, [])], [(20, [7, 5], [50, 1, 1, 1005, 1002, 3, 6, 0, 2, 1, 0, 0, -1, 0, 10, 3, 1, 2, 4, 3, 2, 1, 5, 0, 1, 0, 47]), (20, [6, 5], [50, 1, 1, 1005, 1002, 0, 6, 4, 2, 1, 0, 0, 1, 3, 1, 2, 4, 3, 2, 1, 5, 0, 2]), (20, [5], [60, 1, 3, 199, 5, 2, 3, 4]), (20, [5, 7, 8], [60, 1, 1, 243, 5, 2]), (20, [23, 5], [30, 0, 1, 0, 0, -1, 1, 11]), (23, [3, 23], [0, 1, -1]), (23, [4, 23], [-1, 1, -1])], [], [(22, 8, 243, 66540), (22, 21, 0, 23), (22, 15, 243, 266), (21, 15, 243, 243), (18, 8, 219, 66516), (18, 17, 0, 23), (18, 15, 219, 242), (17, 15, 219, 219), (10, 13, 0, 4294967296), (13, 11, -2000, 0), (1, 6, -4294967296, 0), (2, 7, -4294967296, 0), (6, 1, -4294967296, 0), (7, 2, -4294967296, 0)])
theorem oo_Mo_met_33 {kA : Nat → ClassId} : or_ok PRD kA GG o_Mo_met_33 := by
  refine or_mk fun A ta ws vs hD hth hl => ?_
  intro t0 r0 t1 k1 t2 k2 t3 k3 t4 k4 t5 r5 t6 k6 t7 k7 t8 k8 t10 k10 t11 k11 t12 k12 t13 k13 t14 r14 t15 k15 t16 k16 t17 k17 t18 k18 t19 k19 t20 k20 t21 k21 t22 k22 d0 d1 d2 d3 d4 d5 d6 d7 d8 d9 d10 d11 d12 d13 f0 f1 f2 f3 f4 f5 f6 f7 ta1 w1 le1 s1 f9 f10 f11 f12 f13 f14 f15 f16 f17 ta2 w2 le2 s2 f19 f20 f21 f22 f23 f24 f25 f26 f27 f28 f29 f30 f31 f32 f33
  replace f0 := shm_1397 f0
  replace f1 := shm_1398 f1
  replace f2 := shm_1395 f2
  replace f3 := shm_1891 f3
  replace f4 := shm_1791 f4
  replace f5 := shm_5 f5
  replace f6 := shm_5 f6
  replace f7 := shm_5 f7
  have s1 : (∀ b j, w_el ws b j = if b = v_ad (n_v vs 14) ∧ j = (v_iv (n_v vs 22)).toNat then v_iv (n_v vs 6) else w_el w1 b j) ∧ ∀ b k, w_fd ws b k = w_fd w1 b k := s1.2
  replace f9 := shm_12 f9
  replace f10 := shm_12 f10
  replace f11 := shm_109 f11
  replace f12 := shm_129 f12
  replace f13 := shm_1397 f13
  replace f14 := shm_1398 f14
  replace f15 := shm_1395 f15
  replace f16 := shm_1891 f16
  replace f17 := shm_1791 f17
  have s2 : (∀ b j, w_el w1 b j = if b = v_ad (n_v vs 14) ∧ j = (v_iv (n_v vs 18)).toNat then v_iv (n_v vs 19) else w_el w2 b j) ∧ ∀ b k, w_fd w1 b k = w_fd w2 b k := s2.2
  replace f19 := shm_12 f19
  replace f20 := shm_12 f20
  replace f21 := shm_2 f21
  replace f22 := shm_14 f22
  replace f23 := shm_189 f23
  replace f24 := shm_117 f24
  replace f25 := shm_1397 f25
  replace f26 := shm_1398 f26
  replace f27 := shm_1395 f27
  replace f28 := shm_1891 f28
  replace f29 := shm_1791 f29
  replace f30 := shm_1980 f30
  replace f31 := shm_981 f31
  replace f32 := shm_1718 f32
  replace f33 := shm_1981 f33
  have q5 : n_v vs 5 = n_v vs 0 := f5.symm
  have q6 : n_v vs 6 = n_v vs 1 := f6.symm
  have q7 : n_v vs 7 = n_v vs 2 := f7.symm
  simp only [q5] at f0 f1 f2 f3 f4
  rw [q6] at s1
  simp only [q5, q7, q6] at f11 f12 f13 f14 f15 f16 f17 f23 f24 f25 f26 f27 f28 f29 f30 f31 f32 f33
  have ar_0_2_1 : w_ar w1 (n_v vs 0) 2 = w_ar ws (n_v vs 0) 2 := congrArg v_ad (s1.2 _ _).symm
  have ar_0_2_2 : w_ar w2 (n_v vs 0) 2 = w_ar ws (n_v vs 0) 2 := by rw [← ar_0_2_1]; show v_ad (w_fd w2 _ _) = v_ad (w_fd w1 _ _); rw [s2.2]
  have cr_0_2 := fdq_12 hD hth r0
  have ar_0_3_1 : w_ar w1 (n_v vs 0) 3 = w_ar ws (n_v vs 0) 3 := congrArg v_ad (s1.2 _ _).symm
  have ar_0_3_2 : w_ar w2 (n_v vs 0) 3 = w_ar ws (n_v vs 0) 3 := by rw [← ar_0_3_1]; show v_ad (w_fd w2 _ _) = v_ad (w_fd w1 _ _); rw [s2.2]
  have cr_0_3 := fdq_141 hD hth r0
  have ar_0_4_1 : w_ar w1 (n_v vs 0) 4 = w_ar ws (n_v vs 0) 4 := congrArg v_ad (s1.2 _ _).symm
  have ar_0_4_2 : w_ar w2 (n_v vs 0) 4 = w_ar ws (n_v vs 0) 4 := by rw [← ar_0_4_1]; show v_ad (w_fd w2 _ _) = v_ad (w_fd w1 _ _); rw [s2.2]
  have cr_0_4 := fdq_142 hD hth r0
  have ad_14 : v_ad (n_v vs 14) = w_ar ws (n_v vs 0) 2 := (congrArg v_ad f12).trans ar_0_2_1
  have g11 : v_iv (n_v vs 15) = w_fi w1 (n_v vs 0) 5 := congrArg v_iv f11
  have g23 : v_iv (n_v vs 12) = w_fi w2 (n_v vs 0) 15 := congrArg v_iv f23
  have g24 : v_iv (n_v vs 11) = w_fi w2 (n_v vs 0) 11 := congrArg v_iv f24
  simp only [ar_0_2_2, ar_0_3_2, ar_0_4_2] at f30 f31 f32 f33
  have fe_0_5_1 : w_fi ws (n_v vs 0) 5 = w_fi w1 (n_v vs 0) 5 := congrArg v_iv (s1.2 _ _)
  have fe_0_11_1 : w_fi ws (n_v vs 0) 11 = w_fi w1 (n_v vs 0) 11 := congrArg v_iv (s1.2 _ _)
  have fe_0_12_1 : w_fi ws (n_v vs 0) 12 = w_fi w1 (n_v vs 0) 12 := congrArg v_iv (s1.2 _ _)
  have fe_0_15_1 : w_fi ws (n_v vs 0) 15 = w_fi w1 (n_v vs 0) 15 := congrArg v_iv (s1.2 _ _)
  have fe_0_5_2 : w_fi w1 (n_v vs 0) 5 = w_fi w2 (n_v vs 0) 5 := congrArg v_iv (s2.2 _ _)
  have fe_0_11_2 : w_fi w1 (n_v vs 0) 11 = w_fi w2 (n_v vs 0) 11 := congrArg v_iv (s2.2 _ _)
  have fe_0_12_2 : w_fi w1 (n_v vs 0) 12 = w_fi w2 (n_v vs 0) 12 := congrArg v_iv (s2.2 _ _)
  have fe_0_15_2 : w_fi w1 (n_v vs 0) 15 = w_fi w2 (n_v vs 0) 15 := congrArg v_iv (s2.2 _ _)
  have hE_0_2_1 : ∀ j : Int, 0 ≤ j → (j = v_iv (n_v vs 22) → w_ei ws (w_ar ws (n_v vs 0) 2) j = v_iv (n_v vs 1)) ∧ (j ≠ v_iv (n_v vs 22) → w_ei ws (w_ar ws (n_v vs 0) 2) j = w_ei w1 (w_ar ws (n_v vs 0) 2) j) := fun j hj => ⟨fun h => by unfold w_ei; rw [s1.1, if_pos ⟨ad_14.symm, by rw [h]⟩], fun h => by unfold w_ei; rw [s1.1, if_neg (fun e => h (by have := e.2; omega))]⟩
  have hE_0_2_2 : ∀ j : Int, 0 ≤ j → (j = v_iv (n_v vs 18) → w_ei w1 (w_ar ws (n_v vs 0) 2) j = v_iv (n_v vs 19)) ∧ (j ≠ v_iv (n_v vs 18) → w_ei w1 (w_ar ws (n_v vs 0) 2) j = w_ei w2 (w_ar ws (n_v vs 0) 2) j) := fun j hj => ⟨fun h => by unfold w_ei; rw [s2.1, if_pos ⟨ad_14.symm, by rw [h]⟩], fun h => by unfold w_ei; rw [s2.1, if_neg (fun e => h (by have := e.2; omega))]⟩
  have hE_0_3_1 : ∀ j : Int, w_ei ws (w_ar ws (n_v vs 0) 3) j = w_ei w1 (w_ar ws (n_v vs 0) 3) j := el_kp s1.1 r14 cr_0_3 (by decide)
  have hE_0_3_2 : ∀ j : Int, w_ei w1 (w_ar ws (n_v vs 0) 3) j = w_ei w2 (w_ar ws (n_v vs 0) 3) j := el_kp s2.1 r14 cr_0_3 (by decide)
  have hK_0_3 := elq_77 hD hth cr_0_3
  have hE_0_4_1 : ∀ j : Int, w_ei ws (w_ar ws (n_v vs 0) 4) j = w_ei w1 (w_ar ws (n_v vs 0) 4) j := el_kp s1.1 r14 cr_0_4 (by decide)
  have hE_0_4_2 : ∀ j : Int, w_ei w1 (w_ar ws (n_v vs 0) 4) j = w_ei w2 (w_ar ws (n_v vs 0) 4) j := el_kp s2.1 r14 cr_0_4 (by decide)
  have hK_0_4 := elq_78 hD hth cr_0_4
  have kz_0_11 := fdq_273 hD hth r0
  have kz_0_12 := fdq_186 hD hth r0
  have kz_0_15 := fdq_274 hD hth r0
  first | have hJ0 : w_ei w2 (w_ar ws (n_v vs 0) 2) ((w_fi w2 (n_v vs 0) 5 + 1)) = w_ei w2 (w_ar ws (n_v vs 0) 2) ((w_fi ws (n_v vs 0) 5 + 1)) := congrArg _ (show ((w_fi w2 (n_v vs 0) 5 + 1) : Int) = (w_fi ws (n_v vs 0) 5 + 1) from by omega) | skip
  first | have hJ1 : w_ei w2 (w_ar ws (n_v vs 0) 2) ((w_fi w2 (n_v vs 0) 5 + 2)) = w_ei w2 (w_ar ws (n_v vs 0) 2) ((w_fi ws (n_v vs 0) 5 + 2)) := congrArg _ (show ((w_fi w2 (n_v vs 0) 5 + 2) : Int) = (w_fi ws (n_v vs 0) 5 + 2) from by omega) | skip
  first | have hI2 := (hE_0_2_1 ((w_fi ws (n_v vs 0) 5 + 1)) (by omega)).2 (by omega) | have hI2 := (hE_0_2_1 ((w_fi ws (n_v vs 0) 5 + 1)) (by omega)).1 (by omega) | skip
  first | have hI3 := (hE_0_2_2 ((w_fi ws (n_v vs 0) 5 + 1)) (by omega)).2 (by omega) | have hI3 := (hE_0_2_2 ((w_fi ws (n_v vs 0) 5 + 1)) (by omega)).1 (by omega) | skip
  first | have hI4 := (hE_0_2_1 ((w_fi ws (n_v vs 0) 5 + 2)) (by omega)).2 (by omega) | have hI4 := (hE_0_2_1 ((w_fi ws (n_v vs 0) 5 + 2)) (by omega)).1 (by omega) | skip
  first | have hI5 := (hE_0_2_2 ((w_fi ws (n_v vs 0) 5 + 2)) (by omega)).2 (by omega) | have hI5 := (hE_0_2_2 ((w_fi ws (n_v vs 0) 5 + 2)) (by omega)).1 (by omega) | skip
  have kv0 := fdq_273 hD hth r0
  obtain ⟨x, ex, hx⟩ := iv_ex (ta := ta) (lo := 0) (hi := 2000) (z := w_fi ws (n_v vs 0) 11) (by omega) (by omega) (by omega) (by omega)
  have ex2 : v_iv (Value.int x) = w_fi ws (n_v vs 0) 11 := ex
  have ex3 : 0 ≤ v_iv (Value.int x) ∧ v_iv (Value.int x) ≤ 2000 := tv_rng hx
  have e_3 : n_v (vs ++ [Value.int x]) 3 = n_v vs 3 := n_v_old (by rw [hl]; decide)
  have e_4 : n_v (vs ++ [Value.int x]) 4 = n_v vs 4 := n_v_old (by rw [hl]; decide)
  have e_5 : n_v (vs ++ [Value.int x]) 5 = n_v vs 5 := n_v_old (by rw [hl]; decide)
  have e_6 : n_v (vs ++ [Value.int x]) 6 = n_v vs 6 := n_v_old (by rw [hl]; decide)
  have e_7 : n_v (vs ++ [Value.int x]) 7 = n_v vs 7 := n_v_old (by rw [hl]; decide)
  have e_8 : n_v (vs ++ [Value.int x]) 8 = n_v vs 8 := n_v_old (by rw [hl]; decide)
  have e_23 : n_v (vs ++ [Value.int x]) 23 = Value.int x := n_v_new hl
  have nf0 : fc_1 PRD (20, [7, 5], [50, 1, 1, 1005, 1002, 3, 6, 0, 2, 1, 0, 0, -1, 0, 10, 3, 1, 2, 4, 3, 2, 1, 5, 0, 1, 0, 47]) ws (vs ++ [Value.int x]) := by
    refine ⟨nf_inA hl rfl, sgq_1980 ?_⟩
    · show (v_iv (n_v (vs ++ [Value.int x]) 7) ≤ (-1)) ∨ (w_ei ws (w_ar ws (n_v (vs ++ [Value.int x]) 5) 2) ((w_fi ws (n_v (vs ++ [Value.int x]) 5) 5 + 1)) ≤ 47)
      simp only [e_5, e_7, q5, q7]
      exact vc_Mo_met_33_0 (v_iv (n_v vs 1)) (v_iv (n_v vs 2)) (v_iv (n_v vs 7)) (v_iv (n_v vs 8)) (v_iv (n_v vs 15)) (v_iv (n_v vs 17)) (v_iv (n_v vs 18)) (v_iv (n_v vs 19)) (v_iv (n_v vs 21)) (v_iv (n_v vs 22)) (w_fi ws (n_v vs 0) 15) (w_fi ws (n_v vs 0) 11) (w_fi ws (n_v vs 0) 12) (w_fi w1 (n_v vs 0) 5) (w_fi w1 (n_v vs 0) 15) (w_fi w1 (n_v vs 0) 11) (w_fi w1 (n_v vs 0) 12) (w_fi w2 (n_v vs 0) 15) (w_fi w2 (n_v vs 0) 11) (w_fi w2 (n_v vs 0) 12) (w_ei w2 (w_ar ws (n_v vs 0) 2)) (w_fi w2 (n_v vs 0) 5) (w_ei w2 (w_ar ws (n_v vs 0) 3)) (w_ei w2 (w_ar ws (n_v vs 0) 4)) (w_fi ws (n_v vs 0) 5) (w_ei ws (w_ar ws (n_v vs 0) 2)) (w_ei w1 (w_ar ws (n_v vs 0) 2)) (w_ei ws (w_ar ws (n_v vs 0) 3)) (w_ei w1 (w_ar ws (n_v vs 0) 3)) (w_ei ws (w_ar ws (n_v vs 0) 4)) (w_ei w1 (w_ar ws (n_v vs 0) 4)) k1 k2 k7 k8 k15 k17 k18 k19 k21 k22 d3 d7 d11 d13 f4 f9 g11 f19 f26 f30 fe_0_5_1 fe_0_11_1 fe_0_12_1 fe_0_15_1 fe_0_5_2 fe_0_11_2 fe_0_12_2 fe_0_15_2 hE_0_2_1 hE_0_2_2 hE_0_3_1 hE_0_3_2 hE_0_4_1 hE_0_4_2 kz_0_11 kz_0_12 kz_0_15
  have nf1 : fc_1 PRD (20, [6, 5], [50, 1, 1, 1005, 1002, 0, 6, 4, 2, 1, 0, 0, 1, 3, 1, 2, 4, 3, 2, 1, 5, 0, 2]) ws (vs ++ [Value.int x]) := by
    refine ⟨nf_inA hl rfl, sgq_981 ?_⟩
    · show (v_iv (n_v (vs ++ [Value.int x]) 6) + 1) ≤ w_ei ws (w_ar ws (n_v (vs ++ [Value.int x]) 5) 2) ((w_fi ws (n_v (vs ++ [Value.int x]) 5) 5 + 2))
      simp only [e_5, e_6, q5, q6]
      exact vc_Mo_met_33_1 (v_iv (n_v vs 1)) (v_iv (n_v vs 6)) (v_iv (n_v vs 8)) (v_iv (n_v vs 15)) (v_iv (n_v vs 17)) (v_iv (n_v vs 18)) (v_iv (n_v vs 19)) (v_iv (n_v vs 21)) (v_iv (n_v vs 22)) (w_fi ws (n_v vs 0) 15) (w_fi ws (n_v vs 0) 11) (w_fi ws (n_v vs 0) 12) (w_fi w1 (n_v vs 0) 5) (w_fi w1 (n_v vs 0) 15) (w_fi w1 (n_v vs 0) 11) (w_fi w1 (n_v vs 0) 12) (w_fi w2 (n_v vs 0) 15) (w_fi w2 (n_v vs 0) 11) (w_fi w2 (n_v vs 0) 12) (w_ei w2 (w_ar ws (n_v vs 0) 2)) (w_fi w2 (n_v vs 0) 5) (w_ei w2 (w_ar ws (n_v vs 0) 3)) (w_ei w2 (w_ar ws (n_v vs 0) 4)) (w_fi ws (n_v vs 0) 5) (w_ei ws (w_ar ws (n_v vs 0) 2)) (w_ei w1 (w_ar ws (n_v vs 0) 2)) (w_ei ws (w_ar ws (n_v vs 0) 3)) (w_ei w1 (w_ar ws (n_v vs 0) 3)) (w_ei ws (w_ar ws (n_v vs 0) 4)) (w_ei w1 (w_ar ws (n_v vs 0) 4)) k1 k6 k8 k15 k17 k18 k19 k21 k22 d3 d7 d10 d12 f9 g11 f19 f31 fe_0_5_1 fe_0_11_1 fe_0_12_1 fe_0_15_1 fe_0_5_2 fe_0_11_2 fe_0_12_2 fe_0_15_2 hE_0_2_1 hE_0_2_2 hE_0_3_1 hE_0_3_2 hE_0_4_1 hE_0_4_2 kz_0_11 kz_0_12 kz_0_15
  have nf2 : fc_1 PRD (20, [5], [60, 1, 3, 199, 5, 2, 3, 4]) ws (vs ++ [Value.int x]) := by
    refine ⟨nf_inA hl rfl, sgq_952 ?_⟩
    · show RWS (w_fi ws (n_v (vs ++ [Value.int x]) 5) 5) (w_ei ws (w_ar ws (n_v (vs ++ [Value.int x]) 5) 2)) (w_ei ws (w_ar ws (n_v (vs ++ [Value.int x]) 5) 3)) (w_ei ws (w_ar ws (n_v (vs ++ [Value.int x]) 5) 4))
      simp only [e_5, q5]
      exact vc_Mo_met_33_2 (v_iv (n_v vs 1)) (v_iv (n_v vs 2)) (v_iv (n_v vs 8)) (v_iv (n_v vs 15)) (v_iv (n_v vs 17)) (v_iv (n_v vs 18)) (v_iv (n_v vs 19)) (v_iv (n_v vs 21)) (v_iv (n_v vs 22)) (w_fi ws (n_v vs 0) 15) (w_fi ws (n_v vs 0) 11) (w_fi ws (n_v vs 0) 12) (w_fi w1 (n_v vs 0) 5) (w_fi w1 (n_v vs 0) 15) (w_fi w1 (n_v vs 0) 11) (w_fi w1 (n_v vs 0) 12) (w_fi w2 (n_v vs 0) 15) (w_fi w2 (n_v vs 0) 11) (w_fi w2 (n_v vs 0) 12) (w_ei w2 (w_ar ws (n_v vs 0) 2)) (w_fi w2 (n_v vs 0) 5) (w_ei w2 (w_ar ws (n_v vs 0) 3)) (w_ei w2 (w_ar ws (n_v vs 0) 4)) (w_fi ws (n_v vs 0) 5) (w_ei ws (w_ar ws (n_v vs 0) 2)) (w_ei w1 (w_ar ws (n_v vs 0) 2)) (w_ei ws (w_ar ws (n_v vs 0) 3)) (w_ei w1 (w_ar ws (n_v vs 0) 3)) (w_ei ws (w_ar ws (n_v vs 0) 4)) (w_ei w1 (w_ar ws (n_v vs 0) 4)) k1 k2 k8 k15 k17 k18 k19 k21 k22 d3 d7 f9 g11 f19 f32 f33 fe_0_5_1 fe_0_11_1 fe_0_12_1 fe_0_15_1 fe_0_5_2 fe_0_11_2 fe_0_12_2 fe_0_15_2 hE_0_2_1 hE_0_2_2 hE_0_3_1 hE_0_3_2 hE_0_4_1 hE_0_4_2 kz_0_11 kz_0_12 kz_0_15
  have nf3 : fc_1 PRD (20, [5, 7, 8], [60, 1, 1, 243, 5, 2]) ws (vs ++ [Value.int x]) := by
    refine ⟨nf_inA hl rfl, sgq_1981 ?_⟩
    · show MEN (w_fi ws (n_v (vs ++ [Value.int x]) 5) 5) (w_ei ws (w_ar ws (n_v (vs ++ [Value.int x]) 5) 2)) (v_iv (n_v (vs ++ [Value.int x]) 7)) (v_iv (n_v (vs ++ [Value.int x]) 8))
      simp only [e_5, e_7, e_8, q5, q7]
      exact vc_Mo_met_33_3 (v_iv (n_v vs 1)) (v_iv (n_v vs 2)) (v_iv (n_v vs 8)) (v_iv (n_v vs 15)) (v_iv (n_v vs 17)) (v_iv (n_v vs 18)) (v_iv (n_v vs 19)) (v_iv (n_v vs 21)) (v_iv (n_v vs 22)) (w_fi ws (n_v vs 0) 15) (w_fi ws (n_v vs 0) 11) (w_fi ws (n_v vs 0) 12) (w_fi w1 (n_v vs 0) 5) (w_fi w1 (n_v vs 0) 15) (w_fi w1 (n_v vs 0) 11) (w_fi w1 (n_v vs 0) 12) (w_fi w2 (n_v vs 0) 15) (w_fi w2 (n_v vs 0) 11) (w_fi w2 (n_v vs 0) 12) (w_ei w2 (w_ar ws (n_v vs 0) 2)) (w_fi w2 (n_v vs 0) 5) (w_ei w2 (w_ar ws (n_v vs 0) 3)) (w_ei w2 (w_ar ws (n_v vs 0) 4)) (w_fi ws (n_v vs 0) 5) (w_ei ws (w_ar ws (n_v vs 0) 2)) (w_ei w1 (w_ar ws (n_v vs 0) 2)) (w_ei ws (w_ar ws (n_v vs 0) 3)) (w_ei w1 (w_ar ws (n_v vs 0) 3)) (w_ei ws (w_ar ws (n_v vs 0) 4)) (w_ei w1 (w_ar ws (n_v vs 0) 4)) k1 k2 k8 k15 k17 k18 k19 k21 k22 d3 d7 f9 g11 f19 f32 f33 fe_0_5_1 fe_0_11_1 fe_0_12_1 fe_0_15_1 fe_0_5_2 fe_0_11_2 fe_0_12_2 fe_0_15_2 hE_0_2_1 hE_0_2_2 hE_0_3_1 hE_0_3_2 hE_0_4_1 hE_0_4_2 kz_0_11 kz_0_12 kz_0_15
  have nf4 : fc_1 PRD (20, [23, 5], [30, 0, 1, 0, 0, -1, 1, 11]) ws (vs ++ [Value.int x]) := by
    refine ⟨nf_inA hl rfl, sgq_1395 ?_⟩
    · show 1 * v_iv (n_v (vs ++ [Value.int x]) 23) + ((-1) * w_fi ws (n_v (vs ++ [Value.int x]) 5) 11 + 0) ≤ 0
      simp only [e_5, e_23, q5]
      exact vc_Mo_met_33_4 (v_iv (n_v vs 1)) (v_iv (n_v vs 18)) (v_iv (n_v vs 19)) (v_iv (n_v vs 22)) (w_fi ws (n_v vs 0) 15) (w_fi ws (n_v vs 0) 11) (w_fi ws (n_v vs 0) 12) (w_fi w1 (n_v vs 0) 5) (w_fi w1 (n_v vs 0) 15) (w_fi w1 (n_v vs 0) 11) (w_fi w1 (n_v vs 0) 12) (w_fi w2 (n_v vs 0) 15) (w_fi w2 (n_v vs 0) 11) (w_fi w2 (n_v vs 0) 12) (w_ei w2 (w_ar ws (n_v vs 0) 2)) (w_fi w2 (n_v vs 0) 5) (w_ei w2 (w_ar ws (n_v vs 0) 3)) (w_ei w2 (w_ar ws (n_v vs 0) 4)) (w_fi ws (n_v vs 0) 5) (w_ei ws (w_ar ws (n_v vs 0) 2)) (w_ei w1 (w_ar ws (n_v vs 0) 2)) (w_ei ws (w_ar ws (n_v vs 0) 3)) (w_ei w1 (w_ar ws (n_v vs 0) 3)) (w_ei ws (w_ar ws (n_v vs 0) 4)) (w_ei w1 (w_ar ws (n_v vs 0) 4)) (v_iv (Value.int x)) k1 k18 k19 k22 fe_0_5_1 fe_0_11_1 fe_0_12_1 fe_0_15_1 fe_0_5_2 fe_0_11_2 fe_0_12_2 fe_0_15_2 hE_0_2_1 hE_0_2_2 hE_0_3_1 hE_0_3_2 hE_0_4_1 hE_0_4_2 kz_0_11 kz_0_12 kz_0_15 ex2
  have nf5 : fc_1 PRD (23, [3, 23], [0, 1, -1]) ws (vs ++ [Value.int x]) := by
    refine ⟨nf_inA hl rfl, sgq_7 ?_⟩
    · show 1 * v_iv (n_v (vs ++ [Value.int x]) 3) + ((-1) * v_iv (n_v (vs ++ [Value.int x]) 23) + 0) ≤ 0
      simp only [e_3, e_23]
      exact vc_Mo_met_33_5 (v_iv (n_v vs 1)) (v_iv (n_v vs 3)) (v_iv (n_v vs 18)) (v_iv (n_v vs 19)) (v_iv (n_v vs 22)) (w_fi ws (n_v vs 0) 15) (w_fi ws (n_v vs 0) 11) (w_fi ws (n_v vs 0) 12) (w_fi w1 (n_v vs 0) 5) (w_fi w1 (n_v vs 0) 15) (w_fi w1 (n_v vs 0) 11) (w_fi w1 (n_v vs 0) 12) (w_fi w2 (n_v vs 0) 15) (w_fi w2 (n_v vs 0) 11) (w_fi w2 (n_v vs 0) 12) (w_ei w2 (w_ar ws (n_v vs 0) 2)) (w_fi w2 (n_v vs 0) 5) (w_ei w2 (w_ar ws (n_v vs 0) 3)) (w_ei w2 (w_ar ws (n_v vs 0) 4)) (w_fi ws (n_v vs 0) 5) (w_ei ws (w_ar ws (n_v vs 0) 2)) (w_ei w1 (w_ar ws (n_v vs 0) 2)) (w_ei ws (w_ar ws (n_v vs 0) 3)) (w_ei w1 (w_ar ws (n_v vs 0) 3)) (w_ei ws (w_ar ws (n_v vs 0) 4)) (w_ei w1 (w_ar ws (n_v vs 0) 4)) (v_iv (Value.int x)) k1 k3 k18 k19 k22 f2 fe_0_5_1 fe_0_11_1 fe_0_12_1 fe_0_15_1 fe_0_5_2 fe_0_11_2 fe_0_12_2 fe_0_15_2 hE_0_2_1 hE_0_2_2 hE_0_3_1 hE_0_3_2 hE_0_4_1 hE_0_4_2 kz_0_11 kz_0_12 kz_0_15 ex2
  have nf6 : fc_1 PRD (23, [4, 23], [-1, 1, -1]) ws (vs ++ [Value.int x]) := by
    refine ⟨nf_inA hl rfl, sgq_211 ?_⟩
    · show 1 * v_iv (n_v (vs ++ [Value.int x]) 4) + ((-1) * v_iv (n_v (vs ++ [Value.int x]) 23) + 0) ≤ (-1)
      simp only [e_4, e_23]
      exact vc_Mo_met_33_6 (v_iv (n_v vs 1)) (v_iv (n_v vs 4)) (v_iv (n_v vs 18)) (v_iv (n_v vs 19)) (v_iv (n_v vs 22)) (w_fi ws (n_v vs 0) 15) (w_fi ws (n_v vs 0) 11) (w_fi ws (n_v vs 0) 12) (w_fi w1 (n_v vs 0) 5) (w_fi w1 (n_v vs 0) 15) (w_fi w1 (n_v vs 0) 11) (w_fi w1 (n_v vs 0) 12) (w_fi w2 (n_v vs 0) 15) (w_fi w2 (n_v vs 0) 11) (w_fi w2 (n_v vs 0) 12) (w_ei w2 (w_ar ws (n_v vs 0) 2)) (w_fi w2 (n_v vs 0) 5) (w_ei w2 (w_ar ws (n_v vs 0) 3)) (w_ei w2 (w_ar ws (n_v vs 0) 4)) (w_fi ws (n_v vs 0) 5) (w_ei ws (w_ar ws (n_v vs 0) 2)) (w_ei w1 (w_ar ws (n_v vs 0) 2)) (w_ei ws (w_ar ws (n_v vs 0) 3)) (w_ei w1 (w_ar ws (n_v vs 0) 3)) (w_ei ws (w_ar ws (n_v vs 0) 4)) (w_ei w1 (w_ar ws (n_v vs 0) 4)) (v_iv (Value.int x)) k1 k4 k18 k19 k22 f3 fe_0_5_1 fe_0_11_1 fe_0_12_1 fe_0_15_1 fe_0_5_2 fe_0_11_2 fe_0_12_2 fe_0_15_2 hE_0_2_1 hE_0_2_2 hE_0_3_1 hE_0_3_2 hE_0_4_1 hE_0_4_2 kz_0_11 kz_0_12 kz_0_15 ex2
  exact ⟨(fun _ h => (by cases h)), [Value.int x], ag_one hx, List.forall_mem_cons.mpr ⟨⟨show (20 : Nat) < 100 from by decide, nf0⟩, List.forall_mem_cons.mpr ⟨⟨show (20 : Nat) < 100 from by decide, nf1⟩, List.forall_mem_cons.mpr ⟨⟨show (20 : Nat) < 100 from by decide, nf2⟩, List.forall_mem_cons.mpr ⟨⟨show (20 : Nat) < 100 from by decide, nf3⟩, List.forall_mem_cons.mpr ⟨⟨show (20 : Nat) < 100 from by decide, nf4⟩, List.forall_mem_cons.mpr ⟨⟨show (23 : Nat) < 100 from by decide, nf5⟩, List.forall_mem_cons.mpr ⟨⟨show (23 : Nat) < 100 from by decide, nf6⟩, (fun _ h => (by cases h))⟩⟩⟩⟩⟩⟩⟩, (fun _ h => (by cases h))⟩

set_option maxHeartbeats 4000000 in
theorem vc_Mo_met_34_0 (r_0 : Int) (from_0 : Int) (pos_0 : Int) (f9 : 1 * from_0 + ((-1) * pos_0 + 0) ≤ 0) (kz_0_11 : 0 ≤ pos_0 ∧ pos_0 ≤ 2000) (kz_0_15 : 0 ≤ from_0 ∧ from_0 ≤ 2000) : 1 * from_0 + ((-1) * pos_0 + 0) ≤ 0 := by
  first
    | omega
    | (have q1 := (hE_0_2_1 (r_0 + 2) (by omega)).2 (by omega)
       have q2 := (hE_0_2_2 (r_0 + 2) (by omega)).2 (by omega)
       omega)
    | (have q1 := (hE_0_2_1 (r_0 + 1) (by omega)).2 (by omega)
       have q2 := (hE_0_2_2 (r_0 + 1) (by omega)).2 (by omega)
       omega)
    | (have q1 := (hE_0_2_1 (r_0 + 2) (by omega)).2 (by omega)
       omega)
    | (have q1 := (hE_0_2_1 (r_0 + 1) (by omega)).2 (by omega)
       omega)
    | (have q1 := (hE_0_2_1 (r_0 + 2) (by omega)).2 (by omega)
       have q2 := (hE_0_2_2 (r_0 + 2) (by omega)).2 (by omega)
       have q3 := (hE_0_2_3 (r_0 + 2) (by omega)).1 (by omega)
       omega)
    | (have q1 := (hE_0_2_1 (r_0 + 2) (by omega)).2 (by omega)
       have q2 := (hE_0_2_2 (r_0 + 2) (by omega)).2 (by omega)
       have q3 := (hE_0_2_3 (r_0 + 2) (by omega)).2 (by omega)
       omega)
set_option maxHeartbeats 4000000 in
theorem vc_Mo_met_34_1 (r_0 : Int) (from_0 : Int) (pos_0 : Int) (kind_0 : Int) (f10 : ((kind_0 = 1) → (pos_0 ≤ (from_0 + 8))) ∧ ((kind_0 = 0) ∨ ((from_0 + 1) ≤ pos_0))) (kz_0_11 : 0 ≤ pos_0 ∧ pos_0 ≤ 2000) (kz_0_12 : 0 ≤ kind_0 ∧ kind_0 ≤ 4) (kz_0_15 : 0 ≤ from_0 ∧ from_0 ≤ 2000) : ((kind_0 = 1) → (pos_0 ≤ (from_0 + 8))) ∧ ((kind_0 = 0) ∨ ((from_0 + 1) ≤ pos_0)) := by
  first
    | omega
    | (have q1 := (hE_0_2_1 (r_0 + 2) (by omega)).2 (by omega)
       have q2 := (hE_0_2_2 (r_0 + 2) (by omega)).2 (by omega)
       omega)
    | (have q1 := (hE_0_2_1 (r_0 + 1) (by omega)).2 (by omega)
       have q2 := (hE_0_2_2 (r_0 + 1) (by omega)).2 (by omega)
       omega)
    | (have q1 := (hE_0_2_1 (r_0 + 2) (by omega)).2 (by omega)
       omega)
    | (have q1 := (hE_0_2_1 (r_0 + 1) (by omega)).2 (by omega)
       omega)
    | (have q1 := (hE_0_2_1 (r_0 + 2) (by omega)).2 (by omega)
       have q2 := (hE_0_2_2 (r_0 + 2) (by omega)).2 (by omega)
       have q3 := (hE_0_2_3 (r_0 + 2) (by omega)).1 (by omega)
       omega)
    | (have q1 := (hE_0_2_1 (r_0 + 2) (by omega)).2 (by omega)
       have q2 := (hE_0_2_2 (r_0 + 2) (by omega)).2 (by omega)
       have q3 := (hE_0_2_3 (r_0 + 2) (by omega)).2 (by omega)
       omega)
set_option maxHeartbeats 4000000 in
theorem vc_Mo_met_34_2 (x3 : Int) (x23 : Int) (r_0 : Int) (from_0 : Int) (pos_0 : Int) (k3 : 0 ≤ x3 ∧ x3 ≤ 2000) (k23 : 0 ≤ x23 ∧ x23 ≤ 2000) (f4 : 1 * x3 + ((-1) * x23 + 0) ≤ 0) (f9 : 1 * from_0 + ((-1) * pos_0 + 0) ≤ 0) (f11 : 1 * x23 + ((-1) * from_0 + 0) ≤ 0) (kz_0_11 : 0 ≤ pos_0 ∧ pos_0 ≤ 2000) (kz_0_15 : 0 ≤ from_0 ∧ from_0 ≤ 2000) : 1 * x3 + ((-1) * pos_0 + 0) ≤ 0 := by
  first
    | omega
    | (have q1 := (hE_0_2_1 (r_0 + 2) (by omega)).2 (by omega)
       have q2 := (hE_0_2_2 (r_0 + 2) (by omega)).2 (by omega)
       omega)
    | (have q1 := (hE_0_2_1 (r_0 + 1) (by omega)).2 (by omega)
       have q2 := (hE_0_2_2 (r_0 + 1) (by omega)).2 (by omega)
       omega)
    | (have q1 := (hE_0_2_1 (r_0 + 2) (by omega)).2 (by omega)
       omega)
    | (have q1 := (hE_0_2_1 (r_0 + 1) (by omega)).2 (by omega)
       omega)
    | (have q1 := (hE_0_2_1 (r_0 + 2) (by omega)).2 (by omega)
       have q2 := (hE_0_2_2 (r_0 + 2) (by omega)).2 (by omega)
       have q3 := (hE_0_2_3 (r_0 + 2) (by omega)).1 (by omega)
       omega)
    | (have q1 := (hE_0_2_1 (r_0 + 2) (by omega)).2 (by omega)
       have q2 := (hE_0_2_2 (r_0 + 2) (by omega)).2 (by omega)
       have q3 := (hE_0_2_3 (r_0 + 2) (by omega)).2 (by omega)
       omega)
set_option maxHeartbeats 4000000 in
theorem vc_Mo_met_34_3 (x3 : Int) (x23 : Int) (r_0 : Int) (from_0 : Int) (pos_0 : Int) (kind_0 : Int) (fault_0 : Int) (k3 : 0 ≤ x3 ∧ x3 ≤ 2000) (k23 : 0 ≤ x23 ∧ x23 ≤ 2000) (f4 : 1 * x3 + ((-1) * x23 + 0) ≤ 0) (f10 : ((kind_0 = 1) → (pos_0 ≤ (from_0 + 8))) ∧ ((kind_0 = 0) ∨ ((from_0 + 1) ≤ pos_0))) (f11 : 1 * x23 + ((-1) * from_0 + 0) ≤ 0) (kz_0_8 : 0 ≤ fault_0 ∧ fault_0 ≤ 5) (kz_0_11 : 0 ≤ pos_0 ∧ pos_0 ≤ 2000) (kz_0_12 : 0 ≤ kind_0 ∧ kind_0 ≤ 4) (kz_0_15 : 0 ≤ from_0 ∧ from_0 ≤ 2000) : (1 ≤ fault_0) ∨ ((kind_0 = 0) ∨ ((x3 + 1) ≤ pos_0)) := by
  first
    | omega
    | (have q1 := (hE_0_2_1 (r_0 + 2) (by omega)).2 (by omega)
       have q2 := (hE_0_2_2 (r_0 + 2) (by omega)).2 (by omega)
       omega)
    | (have q1 := (hE_0_2_1 (r_0 + 1) (by omega)).2 (by omega)
       have q2 := (hE_0_2_2 (r_0 + 1) (by omega)).2 (by omega)
       omega)
    | (have q1 := (hE_0_2_1 (r_0 + 2) (by omega)).2 (by omega)
       omega)
    | (have q1 := (hE_0_2_1 (r_0 + 1) (by omega)).2 (by omega)
       omega)
    | (have q1 := (hE_0_2_1 (r_0 + 2) (by omega)).2 (by omega)
       have q2 := (hE_0_2_2 (r_0 + 2) (by omega)).2 (by omega)
       have q3 := (hE_0_2_3 (r_0 + 2) (by omega)).1 (by omega)
       omega)
    | (have q1 := (hE_0_2_1 (r_0 + 2) (by omega)).2 (by omega)
       have q2 := (hE_0_2_2 (r_0 + 2) (by omega)).2 (by omega)
       have q3 := (hE_0_2_3 (r_0 + 2) (by omega)).2 (by omega)
       omega)
set_option maxHeartbeats 4000000 in
theorem vc_Mo_met_34_4 (x4 : Int) (x23 : Int) (r_0 : Int) (from_0 : Int) (pos_0 : Int) (fault_0 : Int) (k4 : 0 ≤ x4 ∧ x4 ≤ 2000) (k23 : 0 ≤ x23 ∧ x23 ≤ 2000) (f5 : 1 * x4 + ((-1) * x23 + 0) ≤ (-1)) (f9 : 1 * from_0 + ((-1) * pos_0 + 0) ≤ 0) (f11 : 1 * x23 + ((-1) * from_0 + 0) ≤ 0) (kz_0_8 : 0 ≤ fault_0 ∧ fault_0 ≤ 5) (kz_0_11 : 0 ≤ pos_0 ∧ pos_0 ≤ 2000) (kz_0_15 : 0 ≤ from_0 ∧ from_0 ≤ 2000) : (1 ≤ fault_0) ∨ ((x4 + 1) ≤ pos_0) := by
  first
    | omega
    | (have q1 := (hE_0_2_1 (r_0 + 2) (by omega)).2 (by omega)
       have q2 := (hE_0_2_2 (r_0 + 2) (by omega)).2 (by omega)
       omega)
    | (have q1 := (hE_0_2_1 (r_0 + 1) (by omega)).2 (by omega)
       have q2 := (hE_0_2_2 (r_0 + 1) (by omega)).2 (by omega)
       omega)
    | (have q1 := (hE_0_2_1 (r_0 + 2) (by omega)).2 (by omega)
       omega)
    | (have q1 := (hE_0_2_1 (r_0 + 1) (by omega)).2 (by omega)
       omega)
    | (have q1 := (hE_0_2_1 (r_0 + 2) (by omega)).2 (by omega)
       have q2 := (hE_0_2_2 (r_0 + 2) (by omega)).2 (by omega)
       have q3 := (hE_0_2_3 (r_0 + 2) (by omega)).1 (by omega)
       omega)
    | (have q1 := (hE_0_2_1 (r_0 + 2) (by omega)).2 (by omega)
       have q2 := (hE_0_2_2 (r_0 + 2) (by omega)).2 (by omega)
       have q3 := (hE_0_2_3 (r_0 + 2) (by omega)).2 (by omega)
       omega)
set_option maxHeartbeats 4000000 in
theorem vc_Mo_met_34_5 (x8 : Int) (r_0 : Int) (fault_0 : Int) (k8 : 0 ≤ x8 ∧ x8 ≤ 23) (kz_0_8 : 0 ≤ fault_0 ∧ fault_0 ≤ 5) : ((-1) * fault_0 + 0 ≤ (-1)) ∨ ((-1) * x8 + 0 ≤ 0) := by
  first
    | omega
    | (have q1 := (hE_0_2_1 (r_0 + 2) (by omega)).2 (by omega)
       have q2 := (hE_0_2_2 (r_0 + 2) (by omega)).2 (by omega)
       omega)
    | (have q1 := (hE_0_2_1 (r_0 + 1) (by omega)).2 (by omega)
       have q2 := (hE_0_2_2 (r_0 + 1) (by omega)).2 (by omega)
       omega)
    | (have q1 := (hE_0_2_1 (r_0 + 2) (by omega)).2 (by omega)
       omega)
    | (have q1 := (hE_0_2_1 (r_0 + 1) (by omega)).2 (by omega)
       omega)
    | (have q1 := (hE_0_2_1 (r_0 + 2) (by omega)).2 (by omega)
       have q2 := (hE_0_2_2 (r_0 + 2) (by omega)).2 (by omega)
       have q3 := (hE_0_2_3 (r_0 + 2) (by omega)).1 (by omega)
       omega)
    | (have q1 := (hE_0_2_1 (r_0 + 2) (by omega)).2 (by omega)
       have q2 := (hE_0_2_2 (r_0 + 2) (by omega)).2 (by omega)
       have q3 := (hE_0_2_3 (r_0 + 2) (by omega)).2 (by omega)
       omega)
set_option maxHeartbeats 4000000 in
theorem vc_Mo_met_34_6 (x2 : Int) (x7 : Int) (all_0 : Int → Int) (r_0 : Int) (from_0 : Int) (pos_0 : Int) (kind_0 : Int) (fault_0 : Int) (k2 : (-1) ≤ x2 ∧ x2 ≤ 23) (k7 : (-1) ≤ x7 ∧ x7 ≤ 23) (d1 : x7 + (-4294967296) ≤ x2 ∧ x2 ≤ x7 + 0) (d3 : x2 + (-4294967296) ≤ x7 ∧ x7 ≤ x2 + 0) (f0 : (x2 ≤ (-1)) ∨ (all_0 ((r_0 + 1)) ≤ 47)) (f10 : ((kind_0 = 1) → (pos_0 ≤ (from_0 + 8))) ∧ ((kind_0 = 0) ∨ ((from_0 + 1) ≤ pos_0))) (kz_0_8 : 0 ≤ fault_0 ∧ fault_0 ≤ 5) (kz_0_11 : 0 ≤ pos_0 ∧ pos_0 ≤ 2000) (kz_0_12 : 0 ≤ kind_0 ∧ kind_0 ≤ 4) (kz_0_15 : 0 ≤ from_0 ∧ from_0 ≤ 2000) : (1 ≤ fault_0) ∨ ((x2 ≤ (-1)) ∨ (all_0 ((r_0 + 1)) ≤ 47)) := by
  first
    | omega
    | (have q1 := (hE_0_2_1 (r_0 + 2) (by omega)).2 (by omega)
       have q2 := (hE_0_2_2 (r_0 + 2) (by omega)).2 (by omega)
       omega)
    | (have q1 := (hE_0_2_1 (r_0 + 1) (by omega)).2 (by omega)
       have q2 := (hE_0_2_2 (r_0 + 1) (by omega)).2 (by omega)
       omega)
    | (have q1 := (hE_0_2_1 (r_0 + 2) (by omega)).2 (by omega)
       omega)
    | (have q1 := (hE_0_2_1 (r_0 + 1) (by omega)).2 (by omega)
       omega)
    | (have q1 := (hE_0_2_1 (r_0 + 2) (by omega)).2 (by omega)
       have q2 := (hE_0_2_2 (r_0 + 2) (by omega)).2 (by omega)
       have q3 := (hE_0_2_3 (r_0 + 2) (by omega)).1 (by omega)
       omega)
    | (have q1 := (hE_0_2_1 (r_0 + 2) (by omega)).2 (by omega)
       have q2 := (hE_0_2_2 (r_0 + 2) (by omega)).2 (by omega)
       have q3 := (hE_0_2_3 (r_0 + 2) (by omega)).2 (by omega)
       omega)
set_option maxHeartbeats 4000000 in
theorem vc_Mo_met_34_7 (x1 : Int) (all_0 : Int → Int) (r_0 : Int) (k1 : 0 ≤ x1 ∧ x1 ≤ 7) (f1 : (x1 + 1) ≤ all_0 ((r_0 + 2))) : (x1 + 1) ≤ all_0 ((r_0 + 2)) := by
  first
    | omega
    | (have q1 := (hE_0_2_1 (r_0 + 2) (by omega)).2 (by omega)
       have q2 := (hE_0_2_2 (r_0 + 2) (by omega)).2 (by omega)
       omega)
    | (have q1 := (hE_0_2_1 (r_0 + 1) (by omega)).2 (by omega)
       have q2 := (hE_0_2_2 (r_0 + 1) (by omega)).2 (by omega)
       omega)
    | (have q1 := (hE_0_2_1 (r_0 + 2) (by omega)).2 (by omega)
       omega)
    | (have q1 := (hE_0_2_1 (r_0 + 1) (by omega)).2 (by omega)
       omega)
    | (have q1 := (hE_0_2_1 (r_0 + 2) (by omega)).2 (by omega)
       have q2 := (hE_0_2_2 (r_0 + 2) (by omega)).2 (by omega)
       have q3 := (hE_0_2_3 (r_0 + 2) (by omega)).1 (by omega)
       omega)
    | (have q1 := (hE_0_2_1 (r_0 + 2) (by omega)).2 (by omega)
       have q2 := (hE_0_2_2 (r_0 + 2) (by omega)).2 (by omega)
       have q3 := (hE_0_2_3 (r_0 + 2) (by omega)).2 (by omega)
       omega)
set_option maxHeartbeats 4000000 in
theorem vc_Mo_met_34_8 (all_0 : Int → Int) (r_0 : Int) (now_0 : Int → Int) (latest_0 : Int → Int) (f2 : RWS (r_0) (all_0) (now_0) (latest_0)) : RWS (r_0) (all_0) (now_0) (latest_0) := by
  assumption
set_option maxHeartbeats 4000000 in
theorem vc_Mo_met_34_9 (x2 : Int) (x8 : Int) (all_0 : Int → Int) (r_0 : Int) (fault_0 : Int) (k2 : (-1) ≤ x2 ∧ x2 ≤ 23) (k8 : 0 ≤ x8 ∧ x8 ≤ 23) (f3 : MEN (r_0) (all_0) (x2) (x8)) (kz_0_8 : 0 ≤ fault_0 ∧ fault_0 ≤ 5) : MET (r_0) (fault_0) (all_0) (x2) (x8) := by
  first
    | (intro q; exfalso; omega)
    | exact fun _ => ‹MEN _ _ _ _›
def o_Mo_met_34 : or_T := (258, 24, [(0, (2, 0, 0, [165])), (1, (0, 0, 7, [])), (2, (0, -1, 23, [])), (3, (0, 0, 2000, [])), (4, (0, 0, 2000, [])), (7, (0, -1, 23, [])), (8, (0, 0, 23, [])), (23, (0, 0, 2000, []))], [(20, [7, 5], [50, 1, 1, 1005, 1002, 3, 6, 0, 2, 1, 0, 0, -1, 0, 10, 3, 1, 2, 4, 3, 2, 1, 5, 0, 1, 0, 47]), (20, [6, 5], [50, 1, 1, 1005, 1002, 0, 6, 4, 2, 1, 0, 0, 1, 3, 1, 2, 4, 3, 2, 1, 5, 0, 2]), (20, [5], [60, 1, 3, 199, 5, 2, 3, 4]), (20, [5, 7, 8], [60, 1, 1, 243, 5, 2]), (23, [3, 23], [0, 1, -1]), (23, [4, 23], [-1, 1, -1]), (24, [0, 5], []), (24, [1, 6], []), (24, [2, 7], []), (20, [5, 5], [30, 0, 1, 1, 15, -1, 1, 11]), (20, [5], [50, 3, 0, 12, 11, 15, 2, 21, 4, 7, 1, 3, 2, 0, 12, 0, 1, 0, 3, 2, 0, 11, 4, 3, 2, 0, 15, 0, 8, 3, 7, 1, 3, 2, 0, 12, 0, 0, 0, 7, 4, 3, 2, 0, 15, 0, 1, 2, 0, 11]), (20, [23, 5], [30, 0, 1, 0, 0, -1, 1, 15])], [], [], [(20, [0, 0], [30, 0, 1, 1, 15, -1, 1, 11]), (20, [0], [50, 3, 0, 12, 11, 15, 2, 21, 4, 7, 1, 3, 2, 0, 12, 0, 1, 0, 3, 2, 0, 11, 4, 3, 2, 0, 15, 0, 8, 3, 7, 1, 3, 2, 0, 12, 0, 0, 0, 7, 4, 3, 2, 0, 15, 0, 1, 2, 0, 11]), (20, [3, 0], [30, 0, 1, 0, 0, -1, 1, 11]), (20, [0, 3], [50, 3, 0, 8, 12, 11, 3, 7, 0, 2, 0, 1, 2, 0, 8, 3, 7, 1, 3, 2, 0, 12, 0, 0, 0, 6, 4, 2, 1, 1, 0, 1, 2, 0, 11]), (20, [0, 4], [50, 2, 0, 8, 11, 3, 7, 0, 2, 0, 1, 2, 0, 8, 0, 6, 4, 2, 1, 1, 0, 1, 2, 0, 11]), (20, [0, 8], [31, 1, -1, -1, 1, 8, 0, -1, 0, 0]), (20, [0, 2], [50, 2, 1, 8, 5, 2, 3, 7, 0, 2, 0, 1, 2, 0, 8, 3, 6, 0, 2, 1, 1, 0, -1, 0, 10, 3, 0, 2, 4, 3, 2, 0, 5, 0, 1, 0, 47]), (20, [1, 0], [50, 1, 1, 1005, 1002, 0, 6, 4, 2, 1, 0, 0, 1, 3, 1, 2, 4, 3, 2, 1, 5, 0, 2]), (20, [0], [60, 1, 3, 199, 5, 2, 3, 4]), (20, [0, 2, 8], [60, 2, 1, 240, 5, 8, 2])], [], [(2, 7, -4294967296, 0), (7, 2, -4294967296, 0)])
theorem oo_Mo_met_34 {kA : Nat → ClassId} : or_ok PRD kA GG o_Mo_met_34 := by
  refine or_mk fun A ta ws vs hD hth hl => ?_
  intro t0 r0 t1 k1 t2 k2 t3 k3 t4 k4 t7 k7 t8 k8 t23 k23 d1 d3 f0 f1 f2 f3 f4 f5 f6 f7 f8 f9 f10 f11
  replace f0 := shm_1980 f0
  replace f1 := shm_981 f1
  replace f2 := shm_952 f2
  replace f3 := shm_1981 f3
  replace f6 := shm_5 f6
  replace f7 := shm_5 f7
  replace f8 := shm_5 f8
  replace f9 := shm_1397 f9
  replace f10 := shm_1398 f10
  replace f11 := shm_1396 f11
  have q5 : n_v vs 5 = n_v vs 0 := f6.symm
  have q6 : n_v vs 6 = n_v vs 1 := f7.symm
  have q7 : n_v vs 7 = n_v vs 2 := f8.symm
  simp only [q5, q7, q6] at f0 f1 f2 f3 f9 f10 f11
  have kz_0_8 := fdq_14 hD hth r0
  have kz_0_11 := fdq_273 hD hth r0
  have kz_0_12 := fdq_186 hD hth r0
  have kz_0_15 := fdq_274 hD hth r0
  have nf0 : fc_1 PRD (20, [0, 0], [30, 0, 1, 1, 15, -1, 1, 11]) ws (vs) := ⟨nf_in hl rfl, sgq_1397 (vc_Mo_met_34_0 (w_fi ws (n_v vs 0) 5) (w_fi ws (n_v vs 0) 15) (w_fi ws (n_v vs 0) 11) f9 kz_0_11 kz_0_15)⟩
  have nf1 : fc_1 PRD (20, [0], [50, 3, 0, 12, 11, 15, 2, 21, 4, 7, 1, 3, 2, 0, 12, 0, 1, 0, 3, 2, 0, 11, 4, 3, 2, 0, 15, 0, 8, 3, 7, 1, 3, 2, 0, 12, 0, 0, 0, 7, 4, 3, 2, 0, 15, 0, 1, 2, 0, 11]) ws (vs) := ⟨nf_in hl rfl, sgq_1398 (vc_Mo_met_34_1 (w_fi ws (n_v vs 0) 5) (w_fi ws (n_v vs 0) 15) (w_fi ws (n_v vs 0) 11) (w_fi ws (n_v vs 0) 12) f10 kz_0_11 kz_0_12 kz_0_15)⟩
  have nf2 : fc_1 PRD (20, [3, 0], [30, 0, 1, 0, 0, -1, 1, 11]) ws (vs) := ⟨nf_in hl rfl, sgq_1395 (vc_Mo_met_34_2 (v_iv (n_v vs 3)) (v_iv (n_v vs 23)) (w_fi ws (n_v vs 0) 5) (w_fi ws (n_v vs 0) 15) (w_fi ws (n_v vs 0) 11) k3 k23 (shm_7 f4) f9 f11 kz_0_11 kz_0_15)⟩
  have nf3 : fc_1 PRD (20, [0, 3], [50, 3, 0, 8, 12, 11, 3, 7, 0, 2, 0, 1, 2, 0, 8, 3, 7, 1, 3, 2, 0, 12, 0, 0, 0, 6, 4, 2, 1, 1, 0, 1, 2, 0, 11]) ws (vs) := ⟨nf_in hl rfl, sgq_1660 (vc_Mo_met_34_3 (v_iv (n_v vs 3)) (v_iv (n_v vs 23)) (w_fi ws (n_v vs 0) 5) (w_fi ws (n_v vs 0) 15) (w_fi ws (n_v vs 0) 11) (w_fi ws (n_v vs 0) 12) (w_fi ws (n_v vs 0) 8) k3 k23 (shm_7 f4) f10 f11 kz_0_8 kz_0_11 kz_0_12 kz_0_15)⟩
  have nf4 : fc_1 PRD (20, [0, 4], [50, 2, 0, 8, 11, 3, 7, 0, 2, 0, 1, 2, 0, 8, 0, 6, 4, 2, 1, 1, 0, 1, 2, 0, 11]) ws (vs) := ⟨nf_in hl rfl, sgq_1659 (vc_Mo_met_34_4 (v_iv (n_v vs 4)) (v_iv (n_v vs 23)) (w_fi ws (n_v vs 0) 5) (w_fi ws (n_v vs 0) 15) (w_fi ws (n_v vs 0) 11) (w_fi ws (n_v vs 0) 8) k4 k23 (shm_211 f5) f9 f11 kz_0_8 kz_0_11 kz_0_15)⟩
  have nf5 : fc_1 PRD (20, [0, 8], [31, 1, -1, -1, 1, 8, 0, -1, 0, 0]) ws (vs) := ⟨nf_in hl rfl, sgq_1982 (vc_Mo_met_34_5 (v_iv (n_v vs 8)) (w_fi ws (n_v vs 0) 5) (w_fi ws (n_v vs 0) 8) k8 kz_0_8)⟩
  have nf6 : fc_1 PRD (20, [0, 2], [50, 2, 1, 8, 5, 2, 3, 7, 0, 2, 0, 1, 2, 0, 8, 3, 6, 0, 2, 1, 1, 0, -1, 0, 10, 3, 0, 2, 4, 3, 2, 0, 5, 0, 1, 0, 47]) ws (vs) := ⟨nf_in hl rfl, sgq_1983 (vc_Mo_met_34_6 (v_iv (n_v vs 2)) (v_iv (n_v vs 7)) (w_ei ws (w_ar ws (n_v vs 0) 2)) (w_fi ws (n_v vs 0) 5) (w_fi ws (n_v vs 0) 15) (w_fi ws (n_v vs 0) 11) (w_fi ws (n_v vs 0) 12) (w_fi ws (n_v vs 0) 8) k2 k7 d1 d3 f0 f10 kz_0_8 kz_0_11 kz_0_12 kz_0_15)⟩
  have nf7 : fc_1 PRD (20, [1, 0], [50, 1, 1, 1005, 1002, 0, 6, 4, 2, 1, 0, 0, 1, 3, 1, 2, 4, 3, 2, 1, 5, 0, 2]) ws (vs) := ⟨nf_in hl rfl, sgq_981 (vc_Mo_met_34_7 (v_iv (n_v vs 1)) (w_ei ws (w_ar ws (n_v vs 0) 2)) (w_fi ws (n_v vs 0) 5) k1 f1)⟩
  have nf8 : fc_1 PRD (20, [0], [60, 1, 3, 199, 5, 2, 3, 4]) ws (vs) := ⟨nf_in hl rfl, sgq_952 (vc_Mo_met_34_8 (w_ei ws (w_ar ws (n_v vs 0) 2)) (w_fi ws (n_v vs 0) 5) (w_ei ws (w_ar ws (n_v vs 0) 3)) (w_ei ws (w_ar ws (n_v vs 0) 4)) f2)⟩
  have nf9 : fc_1 PRD (20, [0, 2, 8], [60, 2, 1, 240, 5, 8, 2]) ws (vs) := ⟨nf_in hl rfl, sgq_1984 (vc_Mo_met_34_9 (v_iv (n_v vs 2)) (v_iv (n_v vs 8)) (w_ei ws (w_ar ws (n_v vs 0) 2)) (w_fi ws (n_v vs 0) 5) (w_fi ws (n_v vs 0) 8) k2 k8 f3 kz_0_8)⟩
  refine ⟨(fun _ h => (by cases h)), [], trivial, ?_, (fun _ h => (by cases h))⟩
  rw [List.append_nil]
  exact List.forall_mem_cons.mpr ⟨⟨show (20 : Nat) < 100 from by decide, nf0⟩, List.forall_mem_cons.mpr ⟨⟨show (20 : Nat) < 100 from by decide, nf1⟩, List.forall_mem_cons.mpr ⟨⟨show (20 : Nat) < 100 from by decide, nf2⟩, List.forall_mem_cons.mpr ⟨⟨show (20 : Nat) < 100 from by decide, nf3⟩, List.forall_mem_cons.mpr ⟨⟨show (20 : Nat) < 100 from by decide, nf4⟩, List.forall_mem_cons.mpr ⟨⟨show (20 : Nat) < 100 from by decide, nf5⟩, List.forall_mem_cons.mpr ⟨⟨show (20 : Nat) < 100 from by decide, nf6⟩, List.forall_mem_cons.mpr ⟨⟨show (20 : Nat) < 100 from by decide, nf7⟩, List.forall_mem_cons.mpr ⟨⟨show (20 : Nat) < 100 from by decide, nf8⟩, List.forall_mem_cons.mpr ⟨⟨show (20 : Nat) < 100 from by decide, nf9⟩, (fun _ h => (by cases h))⟩⟩⟩⟩⟩⟩⟩⟩⟩⟩
set_option maxHeartbeats 4000000 in
theorem vc_Mo_met_35_r0 (x2 : Int) (x10 : Int) (x11 : Int) (x12 : Int) (x13 : Int) (r_0 : Int) (from_0 : Int) (pos_0 : Int) (kind_0 : Int) (all_0 : Int → Int) (k2 : (-1) ≤ x2 ∧ x2 ≤ 23) (k10 : 0 ≤ x10 ∧ x10 ≤ 8) (k11 : 1 ≤ x11 ∧ x11 ≤ 2000) (k12 : 0 ≤ x12 ∧ x12 ≤ 2000) (k13 : 1 ≤ x13 ∧ x13 ≤ 2000) (d1 : x13 + (-4294967296) ≤ x10 ∧ x10 ≤ x13 + (-1)) (f4 : x13 = x11 - x12) (g5 : x12 = from_0) (g6 : x11 = pos_0) (f8 : ((kind_0 = 1) → (pos_0 ≤ (from_0 + 8))) ∧ ((kind_0 = 0) ∨ ((from_0 + 1) ≤ pos_0))) (f11 : kind_0 = 1) (f12 : (x2 ≤ (-1)) ∨ (all_0 ((r_0 + 1)) ≤ 47)) (kz_0_11 : 0 ≤ pos_0 ∧ pos_0 ≤ 2000) (kz_0_12 : 0 ≤ kind_0 ∧ kind_0 ≤ 4) (kz_0_15 : 0 ≤ from_0 ∧ from_0 ≤ 2000) : 0 ≤ x10 ∧ x10 ≤ 7 := by
  first
    | omega
    | (have q1 := (hE_0_2_1 (r_0 + 2) (by omega)).2 (by omega)
       have q2 := (hE_0_2_2 (r_0 + 2) (by omega)).2 (by omega)
       omega)
    | (have q1 := (hE_0_2_1 (r_0 + 1) (by omega)).2 (by omega)
       have q2 := (hE_0_2_2 (r_0 + 1) (by omega)).2 (by omega)
       omega)
    | (have q1 := (hE_0_2_1 (r_0 + 2) (by omega)).2 (by omega)
       omega)
    | (have q1 := (hE_0_2_1 (r_0 + 1) (by omega)).2 (by omega)
       omega)
    | (have q1 := (hE_0_2_1 (r_0 + 2) (by omega)).2 (by omega)
       have q2 := (hE_0_2_2 (r_0 + 2) (by omega)).2 (by omega)
       have q3 := (hE_0_2_3 (r_0 + 2) (by omega)).1 (by omega)
       omega)
    | (have q1 := (hE_0_2_1 (r_0 + 2) (by omega)).2 (by omega)
       have q2 := (hE_0_2_2 (r_0 + 2) (by omega)).2 (by omega)
       have q3 := (hE_0_2_3 (r_0 + 2) (by omega)).2 (by omega)
       omega)
def o_Mo_met_35 : or_T := (202, 21, [(0, (2, 0, 0, [165])), (1, (0, 0, 7, [])), (2, (0, -1, 23, [])), (3, (0, 0, 2000, [])), (4, (0, 0, 2000, [])), (5, (2, 0, 0, [165])), (6, (0, 0, 7, [])), (7, (0, -1, 23, [])), (8, (0, 0, 23, [])), (10, (0, 0, 8, [])), (11, (0, 1, 2000, [])), (12, (0, 0, 2000, [])), (13, (0, 1, 2000, [])), (14, (2, 0, 0, [167])), (15, (0, 0, 66297, [])), (16, (0, 3, 3, [])), (17, (0, 3, 66300, []))], [(1, [17, 15, 16], []), (9, [15, 5], [5]), (9, [14, 5], [2]), (7, [10, 13], [2]), (2, [13, 11, 12], []), (9, [12, 5], [15]), (9, [11, 5], [11]), (20, [5, 5], [30, 0, 1, 1, 15, -1, 1, 11]), (20, [5], [50, 3, 0, 12, 11, 15, 2, 21, 4, 7, 1, 3, 2, 0, 12, 0, 1, 0, 3, 2, 0, 11, 4, 3, 2, 0, 15, 0, 8, 3, 7, 1, 3, 2, 0, 12, 0, 0, 0, 7, 4, 3, 2, 0, 15, 0, 1, 2, 0, 11]), (20, [3, 5], [30, 0, 1, 0, 0, -1, 1, 11]), (20, [4, 5], [30, -1, 1, 0, 0, -1, 1, 11]), (20, [5], [50, 1, 0, 12, 1, 3, 2, 0, 12, 0, 1]), (20, [7, 5], [50, 1, 1, 1005, 1002, 3, 6, 0, 2, 1, 0, 0, -1, 0, 10, 3, 1, 2, 4, 3, 2, 1, 5, 0, 1, 0, 47]), (20, [6, 5], [50, 1, 1, 1005, 1002, 0, 6, 4, 2, 1, 0, 0, 1, 3, 1, 2, 4, 3, 2, 1, 5, 0, 2]), (20, [5, 8], [60, 1, 3, 200, 5, 2, 3, 4]), (20, [5, 7, 8], [60, 1, 1, 243, 5, 2]), (24, [0, 5], []), (24, [1, 6], []), (24, [2, 7], [])], [(10, (0, 0, 7, []))], [], [], [], [(17, 15, 3, 3), (10, 13, -4294967296, -1), (13, 11, -2000, 0), (1, 6, -4294967296, 0), (2, 7, -4294967296, 0), (6, 1, -4294967296, 0), (7, 2, -4294967296, 0)])
theorem oo_Mo_met_35 {kA : Nat → ClassId} : or_ok PRD kA GG o_Mo_met_35 := by
  refine or_mk fun A ta ws vs hD hth hl => ?_
  intro t0 r0 t1 k1 t2 k2 t3 k3 t4 k4 t5 r5 t6 k6 t7 k7 t8 k8 t10 k10 t11 k11 t12 k12 t13 k13 t14 r14 t15 k15 t16 k16 t17 k17 d0 d1 d2 d3 d4 d5 d6 f0 f1 f2 f3 f4 f5 f6 f7 f8 f9 f10 f11 f12 f13 f14 f15 f16 f17 f18
  replace f5 := shm_189 f5
  replace f6 := shm_117 f6
  replace f8 := shm_1398 f8
  replace f11 := shm_1791 f11
  replace f12 := shm_1980 f12
  replace f16 := shm_5 f16
  replace f18 := shm_5 f18
  have q5 : n_v vs 5 = n_v vs 0 := f16.symm
  have q7 : n_v vs 7 = n_v vs 2 := f18.symm
  simp only [q5, q7] at f5 f6 f8 f11 f12
  have g5 : v_iv (n_v vs 12) = w_fi ws (n_v vs 0) 15 := congrArg v_iv f5
  have g6 : v_iv (n_v vs 11) = w_fi ws (n_v vs 0) 11 := congrArg v_iv f6
  have kz_0_11 := fdq_273 hD hth r0
  have kz_0_12 := fdq_186 hD hth r0
  have kz_0_15 := fdq_274 hD hth r0
  have hrf0 : 0 ≤ v_iv (n_v vs 10) ∧ v_iv (n_v vs 10) ≤ 7 := vc_Mo_met_35_r0 (v_iv (n_v vs 2)) (v_iv (n_v vs 10)) (v_iv (n_v vs 11)) (v_iv (n_v vs 12)) (v_iv (n_v vs 13)) (w_fi ws (n_v vs 0) 5) (w_fi ws (n_v vs 0) 15) (w_fi ws (n_v vs 0) 11) (w_fi ws (n_v vs 0) 12) (w_ei ws (w_ar ws (n_v vs 0) 2)) k2 k10 k11 k12 k13 d1 (shm_14 f4) g5 g6 f8 f11 f12 kz_0_11 kz_0_12 kz_0_15
  have rf10 : tv_ok ta (0, 0, 7, []) (n_v vs 10) := tv_in t10 (by first | omega | grind) (by first | omega | grind)
  refine ⟨List.forall_mem_cons.mpr ⟨rf10, (fun _ h => (by cases h))⟩, [], trivial, ?_, (fun _ h => (by cases h))⟩
  rw [List.append_nil]
  exact (fun _ h => (by cases h))
def o_Mo_met_36 : or_T := (214, 24, [(8, (0, 0, 23, [])), (10, (0, 0, 7, [])), (15, (5, 0, 66297, [539])), (16, (0, 3, 3, [])), (17, (0, 3, 66300, [])), (18, (0, 8, 8, [])), (19, (0, 0, 184, [])), (20, (0, 3, 66484, [])), (21, (0, 3, 66491, [])), (23, (0, -1, -1, []))], [(1, [21, 20, 10], []), (1, [20, 17, 19], []), (3, [19, 18, 8], []), (1, [17, 15, 16], [])], [], [], [(18, [21, 23], [1])], [], [(21, 10, 3, 66484), (21, 20, 0, 7), (21, 19, 3, 66307), (21, 17, 0, 191), (21, 15, 3, 194), (20, 19, 3, 66300), (20, 17, 0, 184), (20, 15, 3, 187), (17, 15, 3, 3)])
theorem oo_Mo_met_36 {kA : Nat → ClassId} : or_ok PRD kA GG o_Mo_met_36 := by
  refine or_mk fun A ta ws vs hD hth hl => ?_
  intro t8 k8 t10 k10 t15 t16 k16 t17 k17 t18 k18 t19 k19 t20 k20 t21 k21 t23 k23 d0 d1 d2 d3 d4 d5 d6 d7 d8 f0 f1 f2 f3
  obtain ⟨k15, q15_⟩ : (0 ≤ v_iv (n_v vs 15) ∧ v_iv (n_v vs 15) ≤ 66297) ∧ ∃ q : Int, v_iv (n_v vs 15) = 539 * q := tv_dvk t15
  obtain ⟨q15, hq15⟩ := q15_
  replace f0 := shm_12 f0
  replace f1 := shm_12 f1
  replace f2 := shm_38 f2
  rw [show v_iv (n_v vs 18) = 8 from by omega] at f2
  replace f3 := shm_12 f3
  have nf0 : fc_1 PRD (18, [21, 23], [1]) ws (vs) := by
    refine ⟨nf_in hl rfl, sgq_1268 ?_⟩
    · show pl_ok 1 (v_iv (n_v vs 21)).toNat (v_iv (n_v vs 23))
      exact pl_in pl_M1 (lo := 3) (hi := 194) (a := (-1)) (b := (-1)) (by decide +kernel) (by omega) (by omega) (by omega) (by omega)
  refine ⟨(fun _ h => (by cases h)), [], trivial, ?_, (fun _ h => (by cases h))⟩
  rw [List.append_nil]
  exact List.forall_mem_cons.mpr ⟨⟨show (18 : Nat) < 100 from by decide, nf0⟩, (fun _ h => (by cases h))⟩
set_option maxHeartbeats 4000000 in
theorem vc_Mo_met_37_0 (x2 : Int) (x7 : Int) (x8 : Int) (x10 : Int) (x12 : Int) (x15 : Int) (x17 : Int) (x19 : Int) (x20 : Int) (x21 : Int) (x22 : Int) (x23 : Int) (x24 : Int) (tape_0 : Int → Int) (limit_0 : Int) (from_0 : Int) (pos_0 : Int) (kind_0 : Int) (tape_1 : Int → Int) (limit_1 : Int) (from_1 : Int) (r_1 : Int) (pos_1 : Int) (kind_1 : Int) (all_1 : Int → Int) (now_1 : Int → Int) (latest_1 : Int → Int) (r_0 : Int) (all_0 : Int → Int) (now_0 : Int → Int) (latest_0 : Int → Int) (k2 : (-1) ≤ x2 ∧ x2 ≤ 23) (k7 : (-1) ≤ x7 ∧ x7 ≤ 23) (k8 : 0 ≤ x8 ∧ x8 ≤ 23) (k10 : 0 ≤ x10 ∧ x10 ≤ 7) (k12 : 0 ≤ x12 ∧ x12 ≤ 2000) (k15 : 0 ≤ x15 ∧ x15 ≤ 66297) (k17 : 3 ≤ x17 ∧ x17 ≤ 66300) (k19 : 0 ≤ x19 ∧ x19 ≤ 184) (k20 : 3 ≤ x20 ∧ x20 ≤ 66484) (k21 : 3 ≤ x21 ∧ x21 ≤ 66491) (k22 : 0 ≤ x22 ∧ x22 ≤ 2007) (k23 : (-1) ≤ x23 ∧ x23 ≤ (-1)) (k24 : 1 ≤ x24 ∧ x24 ≤ 8) (d0 : x10 + 1 ≤ x24 ∧ x24 ≤ x10 + 1) (d10 : x15 + 3 ≤ x21 ∧ x21 ≤ x15 + 194) (d11 : x19 + 3 ≤ x20 ∧ x20 ≤ x19 + 66300) (d14 : x15 + 3 ≤ x17 ∧ x17 ≤ x15 + 3) (d18 : x7 + (-4294967296) ≤ x2 ∧ x2 ≤ x7 + 0) (d20 : x2 + (-4294967296) ≤ x7 ∧ x7 ≤ x2 + 0) (f7 : kind_0 = 1) (f12 : ((x22 + 1) ≤ limit_1) → (x23 = (tape_1 (x22) % 256))) (f13 : (limit_1 ≤ x22) → (x23 = (-1))) (f14 : x22 = x12 + x10) (g15 : x12 = from_1) (f16 : x21 = x20 + x10) (f17 : x20 = x17 + x19) (f18 : x19 = 8 * x8) (g20 : x15 = r_1) (f26 : ((kind_1 = 1) → (pos_1 ≤ (from_1 + 8))) ∧ ((kind_1 = 0) ∨ ((from_1 + 1) ≤ pos_1))) (f30 : (x2 ≤ (-1)) ∨ (all_1 ((r_1 + 1)) ≤ 47)) (fe_0_5_1 : r_0 = r_1) (fe_0_10_1 : limit_0 = limit_1) (fe_0_11_1 : pos_0 = pos_1) (fe_0_12_1 : kind_0 = kind_1) (fe_0_15_1 : from_0 = from_1) (hE_0_1_1 : ∀ j : Int, tape_0 j = tape_1 j) (hE_0_2_1 : ∀ j : Int, 0 ≤ j → (j = x21 → all_0 j = x23) ∧ (j ≠ x21 → all_0 j = all_1 j)) (hE_0_3_1 : ∀ j : Int, now_0 j = now_1 j) (hE_0_4_1 : ∀ j : Int, latest_0 j = latest_1 j) (kz_0_10 : 0 ≤ limit_0 ∧ limit_0 ≤ 2000) (kz_0_11 : 0 ≤ pos_0 ∧ pos_0 ≤ 2000) (kz_0_12 : 0 ≤ kind_0 ∧ kind_0 ≤ 4) (kz_0_15 : 0 ≤ from_0 ∧ from_0 ≤ 2000) : (x2 ≤ (-1)) ∨ (all_0 ((r_0 + 1)) ≤ 47) := by
  subst fe_0_5_1
  subst fe_0_10_1
  subst fe_0_11_1
  subst fe_0_12_1
  subst fe_0_15_1
  have e_hE_0_1_1 := funext hE_0_1_1; subst e_hE_0_1_1
  have e_hE_0_3_1 := funext hE_0_3_1; subst e_hE_0_3_1
  have e_hE_0_4_1 := funext hE_0_4_1; subst e_hE_0_4_1
  first
    | omega
    | (have q1 := (hE_0_2_1 (r_0 + 2) (by omega)).2 (by omega)
       have q2 := (hE_0_2_2 (r_0 + 2) (by omega)).2 (by omega)
       omega)
    | (have q1 := (hE_0_2_1 (r_0 + 1) (by omega)).2 (by omega)
       have q2 := (hE_0_2_2 (r_0 + 1) (by omega)).2 (by omega)
       omega)
    | (have q1 := (hE_0_2_1 (r_0 + 2) (by omega)).2 (by omega)
       omega)
    | (have q1 := (hE_0_2_1 (r_0 + 1) (by omega)).2 (by omega)
       omega)
    | (have q1 := (hE_0_2_1 (r_0 + 2) (by omega)).2 (by omega)
       have q2 := (hE_0_2_2 (r_0 + 2) (by omega)).2 (by omega)
       have q3 := (hE_0_2_3 (r_0 + 2) (by omega)).1 (by omega)
       omega)
    | (have q1 := (hE_0_2_1 (r_0 + 2) (by omega)).2 (by omega)
       have q2 := (hE_0_2_2 (r_0 + 2) (by omega)).2 (by omega)
       have q3 := (hE_0_2_3 (r_0 + 2) (by omega)).2 (by omega)
       omega)
set_option maxHeartbeats 4000000 in
theorem vc_Mo_met_37_1 (x1 : Int) (x6 : Int) (x8 : Int) (x10 : Int) (x15 : Int) (x17 : Int) (x19 : Int) (x20 : Int) (x21 : Int) (x23 : Int) (x24 : Int) (tape_0 : Int → Int) (limit_0 : Int) (from_0 : Int) (pos_0 : Int) (kind_0 : Int) (tape_1 : Int → Int) (limit_1 : Int) (from_1 : Int) (r_1 : Int) (pos_1 : Int) (kind_1 : Int) (all_1 : Int → Int) (now_1 : Int → Int) (latest_1 : Int → Int) (r_0 : Int) (all_0 : Int → Int) (now_0 : Int → Int) (latest_0 : Int → Int) (k1 : 0 ≤ x1 ∧ x1 ≤ 7) (k6 : 0 ≤ x6 ∧ x6 ≤ 7) (k8 : 0 ≤ x8 ∧ x8 ≤ 23) (k10 : 0 ≤ x10 ∧ x10 ≤ 7) (k15 : 0 ≤ x15 ∧ x15 ≤ 66297) (k17 : 3 ≤ x17 ∧ x17 ≤ 66300) (k19 : 0 ≤ x19 ∧ x19 ≤ 184) (k20 : 3 ≤ x20 ∧ x20 ≤ 66484) (k21 : 3 ≤ x21 ∧ x21 ≤ 66491) (k23 : (-1) ≤ x23 ∧ x23 ≤ (-1)) (k24 : 1 ≤ x24 ∧ x24 ≤ 8) (d0 : x10 + 1 ≤ x24 ∧ x24 ≤ x10 + 1) (d10 : x15 + 3 ≤ x21 ∧ x21 ≤ x15 + 194) (d11 : x19 + 3 ≤ x20 ∧ x20 ≤ x19 + 66300) (d14 : x15 + 3 ≤ x17 ∧ x17 ≤ x15 + 3) (d17 : x6 + (-4294967296) ≤ x1 ∧ x1 ≤ x6 + 0) (d19 : x1 + (-4294967296) ≤ x6 ∧ x6 ≤ x1 + 0) (f16 : x21 = x20 + x10) (f17 : x20 = x17 + x19) (f18 : x19 = 8 * x8) (g20 : x15 = r_1) (f31 : (x1 + 1) ≤ all_1 ((r_1 + 2))) (fe_0_5_1 : r_0 = r_1) (fe_0_10_1 : limit_0 = limit_1) (fe_0_11_1 : pos_0 = pos_1) (fe_0_12_1 : kind_0 = kind_1) (fe_0_15_1 : from_0 = from_1) (hE_0_1_1 : ∀ j : Int, tape_0 j = tape_1 j) (hE_0_2_1 : ∀ j : Int, 0 ≤ j → (j = x21 → all_0 j = x23) ∧ (j ≠ x21 → all_0 j = all_1 j)) (hE_0_3_1 : ∀ j : Int, now_0 j = now_1 j) (hE_0_4_1 : ∀ j : Int, latest_0 j = latest_1 j) (kz_0_10 : 0 ≤ limit_0 ∧ limit_0 ≤ 2000) (kz_0_11 : 0 ≤ pos_0 ∧ pos_0 ≤ 2000) (kz_0_12 : 0 ≤ kind_0 ∧ kind_0 ≤ 4) (kz_0_15 : 0 ≤ from_0 ∧ from_0 ≤ 2000) : (x1 + 1) ≤ all_0 ((r_0 + 2)) := by
  subst fe_0_5_1
  subst fe_0_10_1
  subst fe_0_11_1
  subst fe_0_12_1
  subst fe_0_15_1
  have e_hE_0_1_1 := funext hE_0_1_1; subst e_hE_0_1_1
  have e_hE_0_3_1 := funext hE_0_3_1; subst e_hE_0_3_1
  have e_hE_0_4_1 := funext hE_0_4_1; subst e_hE_0_4_1
  first
    | omega
    | (have q1 := (hE_0_2_1 (r_0 + 2) (by omega)).2 (by omega)
       have q2 := (hE_0_2_2 (r_0 + 2) (by omega)).2 (by omega)
       omega)
    | (have q1 := (hE_0_2_1 (r_0 + 1) (by omega)).2 (by omega)
       have q2 := (hE_0_2_2 (r_0 + 1) (by omega)).2 (by omega)
       omega)
    | (have q1 := (hE_0_2_1 (r_0 + 2) (by omega)).2 (by omega)
       omega)
    | (have q1 := (hE_0_2_1 (r_0 + 1) (by omega)).2 (by omega)
       omega)
    | (have q1 := (hE_0_2_1 (r_0 + 2) (by omega)).2 (by omega)
       have q2 := (hE_0_2_2 (r_0 + 2) (by omega)).2 (by omega)
       have q3 := (hE_0_2_3 (r_0 + 2) (by omega)).1 (by omega)
       omega)
    | (have q1 := (hE_0_2_1 (r_0 + 2) (by omega)).2 (by omega)
       have q2 := (hE_0_2_2 (r_0 + 2) (by omega)).2 (by omega)
       have q3 := (hE_0_2_3 (r_0 + 2) (by omega)).2 (by omega)
       omega)
set_option maxHeartbeats 4000000 in
theorem vc_Mo_met_37_2 (x2 : Int) (x8 : Int) (x10 : Int) (x15 : Int) (x17 : Int) (x19 : Int) (x20 : Int) (x21 : Int) (x23 : Int) (x24 : Int) (tape_0 : Int → Int) (limit_0 : Int) (from_0 : Int) (pos_0 : Int) (kind_0 : Int) (tape_1 : Int → Int) (limit_1 : Int) (from_1 : Int) (r_1 : Int) (pos_1 : Int) (kind_1 : Int) (all_1 : Int → Int) (now_1 : Int → Int) (latest_1 : Int → Int) (r_0 : Int) (all_0 : Int → Int) (now_0 : Int → Int) (latest_0 : Int → Int) (k2 : (-1) ≤ x2 ∧ x2 ≤ 23) (k8 : 0 ≤ x8 ∧ x8 ≤ 23) (k10 : 0 ≤ x10 ∧ x10 ≤ 7) (k15 : 0 ≤ x15 ∧ x15 ≤ 66297) (k17 : 3 ≤ x17 ∧ x17 ≤ 66300) (k19 : 0 ≤ x19 ∧ x19 ≤ 184) (k20 : 3 ≤ x20 ∧ x20 ≤ 66484) (k21 : 3 ≤ x21 ∧ x21 ≤ 66491) (k23 : (-1) ≤ x23 ∧ x23 ≤ (-1)) (k24 : 1 ≤ x24 ∧ x24 ≤ 8) (d0 : x10 + 1 ≤ x24 ∧ x24 ≤ x10 + 1) (d10 : x15 + 3 ≤ x21 ∧ x21 ≤ x15 + 194) (d14 : x15 + 3 ≤ x17 ∧ x17 ≤ x15 + 3) (f16 : x21 = x20 + x10) (f17 : x20 = x17 + x19) (f18 : x19 = 8 * x8) (g20 : x15 = r_1) (f32 : RWN (r_1) (all_1) (now_1) (latest_1) (x8)) (f33 : MEN (r_1) (all_1) (x2) (x8)) (fe_0_5_1 : r_0 = r_1) (fe_0_10_1 : limit_0 = limit_1) (fe_0_11_1 : pos_0 = pos_1) (fe_0_12_1 : kind_0 = kind_1) (fe_0_15_1 : from_0 = from_1) (hE_0_1_1 : ∀ j : Int, tape_0 j = tape_1 j) (hE_0_2_1 : ∀ j : Int, 0 ≤ j → (j = x21 → all_0 j = x23) ∧ (j ≠ x21 → all_0 j = all_1 j)) (hE_0_3_1 : ∀ j : Int, now_0 j = now_1 j) (hE_0_4_1 : ∀ j : Int, latest_0 j = latest_1 j) (kz_0_10 : 0 ≤ limit_0 ∧ limit_0 ≤ 2000) (kz_0_11 : 0 ≤ pos_0 ∧ pos_0 ≤ 2000) (kz_0_12 : 0 ≤ kind_0 ∧ kind_0 ≤ 4) (kz_0_15 : 0 ≤ from_0 ∧ from_0 ≤ 2000) : RWN (r_0) (all_0) (now_0) (latest_0) (x8) := by
  subst fe_0_5_1
  subst fe_0_10_1
  subst fe_0_11_1
  subst fe_0_12_1
  subst fe_0_15_1
  have e_hE_0_1_1 := funext hE_0_1_1; subst e_hE_0_1_1
  have e_hE_0_3_1 := funext hE_0_3_1; subst e_hE_0_3_1
  have e_hE_0_4_1 := funext hE_0_4_1; subst e_hE_0_4_1
  try simp only [Int.add_zero] at *
  first
    | (exfalso; omega)
    | (have hr := rws_r ‹RWS _ _ _ _›
       have hb := (rws_sg ‹RWS _ _ _ _›).1
       exact rwn_off (rwn_start ‹RWS _ _ _ _› (by assumption) (by omega) (by omega) (by omega) (by omega)) (by assumption) (by omega))
    | (have hr := rwn_r ‹RWN _ _ _ _ _›
       have hb := ‹MEN _ _ _ _›.1
       exact rwn_off ‹RWN _ _ _ _ _› (by assumption) (by omega))
set_option maxHeartbeats 4000000 in
theorem vc_Mo_met_37_3 (x2 : Int) (x8 : Int) (x10 : Int) (x15 : Int) (x17 : Int) (x19 : Int) (x20 : Int) (x21 : Int) (x23 : Int) (x24 : Int) (tape_0 : Int → Int) (limit_0 : Int) (from_0 : Int) (pos_0 : Int) (kind_0 : Int) (tape_1 : Int → Int) (limit_1 : Int) (from_1 : Int) (r_1 : Int) (pos_1 : Int) (kind_1 : Int) (all_1 : Int → Int) (now_1 : Int → Int) (latest_1 : Int → Int) (r_0 : Int) (all_0 : Int → Int) (now_0 : Int → Int) (latest_0 : Int → Int) (k2 : (-1) ≤ x2 ∧ x2 ≤ 23) (k8 : 0 ≤ x8 ∧ x8 ≤ 23) (k10 : 0 ≤ x10 ∧ x10 ≤ 7) (k15 : 0 ≤ x15 ∧ x15 ≤ 66297) (k17 : 3 ≤ x17 ∧ x17 ≤ 66300) (k19 : 0 ≤ x19 ∧ x19 ≤ 184) (k20 : 3 ≤ x20 ∧ x20 ≤ 66484) (k21 : 3 ≤ x21 ∧ x21 ≤ 66491) (k23 : (-1) ≤ x23 ∧ x23 ≤ (-1)) (k24 : 1 ≤ x24 ∧ x24 ≤ 8) (d0 : x10 + 1 ≤ x24 ∧ x24 ≤ x10 + 1) (d10 : x15 + 3 ≤ x21 ∧ x21 ≤ x15 + 194) (d11 : x19 + 3 ≤ x20 ∧ x20 ≤ x19 + 66300) (d14 : x15 + 3 ≤ x17 ∧ x17 ≤ x15 + 3) (f16 : x21 = x20 + x10) (f17 : x20 = x17 + x19) (f18 : x19 = 8 * x8) (g20 : x15 = r_1) (f32 : RWN (r_1) (all_1) (now_1) (latest_1) (x8)) (f33 : MEN (r_1) (all_1) (x2) (x8)) (fe_0_5_1 : r_0 = r_1) (fe_0_10_1 : limit_0 = limit_1) (fe_0_11_1 : pos_0 = pos_1) (fe_0_12_1 : kind_0 = kind_1) (fe_0_15_1 : from_0 = from_1) (hE_0_1_1 : ∀ j : Int, tape_0 j = tape_1 j) (hE_0_2_1 : ∀ j : Int, 0 ≤ j → (j = x21 → all_0 j = x23) ∧ (j ≠ x21 → all_0 j = all_1 j)) (hE_0_3_1 : ∀ j : Int, now_0 j = now_1 j) (hE_0_4_1 : ∀ j : Int, latest_0 j = latest_1 j) (kz_0_10 : 0 ≤ limit_0 ∧ limit_0 ≤ 2000) (kz_0_11 : 0 ≤ pos_0 ∧ pos_0 ≤ 2000) (kz_0_12 : 0 ≤ kind_0 ∧ kind_0 ≤ 4) (kz_0_15 : 0 ≤ from_0 ∧ from_0 ≤ 2000) : MEN (r_0) (all_0) (x2) (x8) := by
  subst fe_0_5_1
  subst fe_0_10_1
  subst fe_0_11_1
  subst fe_0_12_1
  subst fe_0_15_1
  have e_hE_0_1_1 := funext hE_0_1_1; subst e_hE_0_1_1
  have e_hE_0_3_1 := funext hE_0_3_1; subst e_hE_0_3_1
  have e_hE_0_4_1 := funext hE_0_4_1; subst e_hE_0_4_1
  try simp only [Int.add_zero] at *
  first
    | (exfalso; omega)
    | (have hr := rws_r ‹RWS _ _ _ _›
       have hb := (rws_sg ‹RWS _ _ _ _›).1
       exact men_off (by omega) (men_new ‹RWS _ _ _ _› (by assumption) (by omega) (by omega) (by omega) ‹MEB _ _ _› (by omega)) (by assumption) (by omega))
    | (have hr := rwn_r ‹RWN _ _ _ _ _›
       have hb := ‹MEN _ _ _ _›.1
       exact men_off (by omega) ‹MEN _ _ _ _› (by assumption) (by omega))
def o_Mo_met_37 : or_T := (171, 25, [(0, (2, 0, 0, [165])), (1, (0, 0, 7, [])), (2, (0, -1, 23, [])), (3, (0, 0, 2000, [])), (4, (0, 0, 2000, [])), (5, (2, 0, 0, [165])), (6, (0, 0, 7, [])), (7, (0, -1, 23, [])), (8, (0, 0, 23, [])), (10, (0, 0, 7, [])), (11, (0, 1, 2000, [])), (12, (0, 0, 2000, [])), (13, (0, 1, 2000, [])), (14, (2, 0, 0, [167])), (15, (0, 0, 66297, [])), (16, (0, 3, 3, [])), (17, (0, 3, 66300, [])), (18, (0, 8, 8, [])), (19, (0, 0, 184, [])), (20, (0, 3, 66484, [])), (21, (0, 3, 66491, [])), (22, (0, 0, 2007, [])), (23, (0, -1, -1, [])), (24, (0, 1, 8, []))], [(6, [24, 10], [1]), (20, [22, 5, 23], [50, 1, 1, 1010, 1001, 4, 11, 0, 6, 4, 2, 1, 0, 0, 1, 2, 1, 10, 1, 2, 1, 2, 9, 5, 3, 1, 1, 1, 0, 0, 256]), (20, [5, 22, 23], [50, 1, 0, 10, 4, 7, 0, 3, 2, 0, 10, 1, 1, 1, 2, 1, 2, 0, -1]), (20, [5, 5], [30, 0, 1, 1, 15, -1, 1, 11]), (20, [5], [50, 3, 0, 12, 11, 15, 2, 21, 4, 7, 1, 3, 2, 0, 12, 0, 1, 0, 3, 2, 0, 11, 4, 3, 2, 0, 15, 0, 8, 3, 7, 1, 3, 2, 0, 12, 0, 0, 0, 7, 4, 3, 2, 0, 15, 0, 1, 2, 0, 11]), (20, [3, 5], [30, 0, 1, 0, 0, -1, 1, 11]), (20, [4, 5], [30, -1, 1, 0, 0, -1, 1, 11]), (20, [5], [50, 1, 0, 12, 1, 3, 2, 0, 12, 0, 1]), (24, [0, 5], []), (24, [1, 6], []), (24, [2, 7], []), (100, [14, 21, 23], []), (20, [22, 5, 23], [50, 1, 1, 1010, 1001, 4, 11, 0, 6, 4, 2, 1, 0, 0, 1, 2, 1, 10, 1, 2, 1, 2, 9, 5, 3, 1, 1, 1, 0, 0, 256]), (20, [5, 22, 23], [50, 1, 0, 10, 4, 7, 0, 3, 2, 0, 10, 1, 1, 1, 2, 1, 2, 0, -1]), (1, [22, 12, 10], []), (9, [12, 5], [15]), (1, [21, 20, 10], []), (1, [20, 17, 19], []), (3, [19, 18, 8], []), (1, [17, 15, 16], []), (9, [15, 5], [5]), (9, [14, 5], [2]), (7, [10, 13], [2]), (2, [13, 11, 12], []), (9, [11, 5], [11]), (20, [5, 5], [30, 0, 1, 1, 15, -1, 1, 11]), (20, [5], [50, 3, 0, 12, 11, 15, 2, 21, 4, 7, 1, 3, 2, 0, 12, 0, 1, 0, 3, 2, 0, 11, 4, 3, 2, 0, 15, 0, 8, 3, 7, 1, 3, 2, 0, 12, 0, 0, 0, 7, 4, 3, 2, 0, 15, 0, 1, 2, 0, 11]), (20, [3, 5], [30, 0, 1, 0, 0, -1, 1, 11]), (20, [4, 5], [30, -1, 1, 0, 0, -1, 1, 11]), (20, [5], [50, 1, 0, 12, 1, 3, 2, 0, 12, 0, 1]), (20, [7, 5], [50, 1, 1, 1005, 1002, 3, 6, 0, 2, 1, 0, 0, -1, 0, 10, 3, 1, 2, 4, 3, 2, 1, 5, 0, 1, 0, 47]), (20, [6, 5], [50, 1, 1, 1005, 1002, 0, 6, 4, 2, 1, 0, 0, 1, 3, 1, 2, 4, 3, 2, 1, 5, 0, 2]), (20, [5, 8], [60, 1, 3, 200, 5, 2, 3, 4]), (20, [5, 7, 8], [60, 1, 1, 243, 5, 2])], [], [], [(20, [7, 5], [50, 1, 1, 1005, 1002, 3, 6, 0, 2, 1, 0, 0, -1, 0, 10, 3, 1, 2, 4, 3, 2, 1, 5, 0, 1, 0, 47]), (20, [6, 5], [50, 1, 1, 1005, 1002, 0, 6, 4, 2, 1, 0, 0, 1, 3, 1, 2, 4, 3, 2, 1, 5, 0, 2]), (20, [5, 8], [60, 1, 3, 200, 5, 2, 3, 4]), (20, [5, 7, 8], [60, 1, 1, 243, 5, 2])], [], [(24, 10, 1, 1), (24, 13, -4294967296, 0), (22, 10, 0, 2000), (22, 13, -4294967296, 1999), (22, 12, 0, 7), (21, 10, 3, 66484), (21, 13, -4294967296, 66483), (21, 20, 0, 7), (21, 19, 3, 66307), (21, 17, 0, 191), (21, 15, 3, 194), (20, 19, 3, 66300), (20, 17, 0, 184), (20, 15, 3, 187), (17, 15, 3, 3), (10, 13, -4294967296, -1), (13, 11, -2000, 0), (1, 6, -4294967296, 0), (2, 7, -4294967296, 0), (6, 1, -4294967296, 0), (7, 2, -4294967296, 0)])
theorem oo_Mo_met_37 {kA : Nat → ClassId} : or_ok PRD kA GG o_Mo_met_37 := by
  refine or_mk fun A ta ws vs hD hth hl => ?_
  intro t0 r0 t1 k1 t2 k2 t3 k3 t4 k4 t5 r5 t6 k6 t7 k7 t8 k8 t10 k10 t11 k11 t12 k12 t13 k13 t14 r14 t15 k15 t16 k16 t17 k17 t18 k18 t19 k19 t20 k20 t21 k21 t22 k22 t23 k23 t24 k24 d0 d1 d2 d3 d4 d5 d6 d7 d8 d9 d10 d11 d12 d13 d14 d15 d16 d17 d18 d19 d20 f0 f1 f2 f3 f4 f5 f6 f7 f8 f9 f10 ta1 w1 le1 s1 f12 f13 f14 f15 f16 f17 f18 f19 f20 f21 f22 f23 f24 f25 f26 f27 f28 f29 f30 f31 f32 f33
  replace f0 := shm_4 f0
  replace f1 := shm_535 f1
  replace f2 := shm_536 f2
  replace f3 := shm_1397 f3
  replace f4 := shm_1398 f4
  replace f5 := shm_1395 f5
  replace f6 := shm_1891 f6
  replace f7 := shm_1791 f7
  replace f8 := shm_5 f8
  replace f9 := shm_5 f9
  replace f10 := shm_5 f10
  have s1 : (∀ b j, w_el ws b j = if b = v_ad (n_v vs 14) ∧ j = (v_iv (n_v vs 21)).toNat then v_iv (n_v vs 23) else w_el w1 b j) ∧ ∀ b k, w_fd ws b k = w_fd w1 b k := s1.2
  replace f12 := shm_535 f12
  replace f13 := shm_536 f13
  replace f14 := shm_12 f14
  replace f15 := shm_189 f15
  replace f16 := shm_12 f16
  replace f17 := shm_12 f17
  replace f18 := shm_38 f18
  rw [show v_iv (n_v vs 18) = 8 from by omega] at f18
  replace f19 := shm_12 f19
  replace f20 := shm_109 f20
  replace f21 := shm_129 f21
  replace f22 := shm_6 f22
  replace f23 := shm_14 f23
  replace f24 := shm_117 f24
  replace f25 := shm_1397 f25
  replace f26 := shm_1398 f26
  replace f27 := shm_1395 f27
  replace f28 := shm_1891 f28
  replace f29 := shm_1791 f29
  replace f30 := shm_1980 f30
  replace f31 := shm_981 f31
  replace f32 := shm_1718 f32
  replace f33 := shm_1981 f33
  have q5 : n_v vs 5 = n_v vs 0 := f8.symm
  have q6 : n_v vs 6 = n_v vs 1 := f9.symm
  have q7 : n_v vs 7 = n_v vs 2 := f10.symm
  simp only [q5, q7, q6] at f1 f2 f3 f4 f5 f6 f7 f12 f13 f15 f20 f21 f24 f25 f26 f27 f28 f29 f30 f31 f32 f33
  have ar_0_1_1 : w_ar w1 (n_v vs 0) 1 = w_ar ws (n_v vs 0) 1 := congrArg v_ad (s1.2 _ _).symm
  have cr_0_1 := fdq_46 hD hth r0
  have ar_0_2_1 : w_ar w1 (n_v vs 0) 2 = w_ar ws (n_v vs 0) 2 := congrArg v_ad (s1.2 _ _).symm
  have cr_0_2 := fdq_12 hD hth r0
  have ar_0_3_1 : w_ar w1 (n_v vs 0) 3 = w_ar ws (n_v vs 0) 3 := congrArg v_ad (s1.2 _ _).symm
  have cr_0_3 := fdq_141 hD hth r0
  have ar_0_4_1 : w_ar w1 (n_v vs 0) 4 = w_ar ws (n_v vs 0) 4 := congrArg v_ad (s1.2 _ _).symm
  have cr_0_4 := fdq_142 hD hth r0
  have ad_14 : v_ad (n_v vs 14) = w_ar ws (n_v vs 0) 2 := (congrArg v_ad f21).trans ar_0_2_1
  simp only [ar_0_1_1] at f12
  have g15 : v_iv (n_v vs 12) = w_fi w1 (n_v vs 0) 15 := congrArg v_iv f15
  have g20 : v_iv (n_v vs 15) = w_fi w1 (n_v vs 0) 5 := congrArg v_iv f20
  have g24 : v_iv (n_v vs 11) = w_fi w1 (n_v vs 0) 11 := congrArg v_iv f24
  simp only [ar_0_2_1, ar_0_3_1, ar_0_4_1] at f30 f31 f32 f33
  have fe_0_5_1 : w_fi ws (n_v vs 0) 5 = w_fi w1 (n_v vs 0) 5 := congrArg v_iv (s1.2 _ _)
  have fe_0_10_1 : w_fi ws (n_v vs 0) 10 = w_fi w1 (n_v vs 0) 10 := congrArg v_iv (s1.2 _ _)
  have fe_0_11_1 : w_fi ws (n_v vs 0) 11 = w_fi w1 (n_v vs 0) 11 := congrArg v_iv (s1.2 _ _)
  have fe_0_12_1 : w_fi ws (n_v vs 0) 12 = w_fi w1 (n_v vs 0) 12 := congrArg v_iv (s1.2 _ _)
  have fe_0_15_1 : w_fi ws (n_v vs 0) 15 = w_fi w1 (n_v vs 0) 15 := congrArg v_iv (s1.2 _ _)
  have hE_0_1_1 : ∀ j : Int, w_ei ws (w_ar ws (n_v vs 0) 1) j = w_ei w1 (w_ar ws (n_v vs 0) 1) j := el_kp s1.1 r14 cr_0_1 (by decide)
  have hK_0_1 := elq_6 hD hth cr_0_1
  have hE_0_2_1 : ∀ j : Int, 0 ≤ j → (j = v_iv (n_v vs 21) → w_ei ws (w_ar ws (n_v vs 0) 2) j = v_iv (n_v vs 23)) ∧ (j ≠ v_iv (n_v vs 21) → w_ei ws (w_ar ws (n_v vs 0) 2) j = w_ei w1 (w_ar ws (n_v vs 0) 2) j) := fun j hj => ⟨fun h => by unfold w_ei; rw [s1.1, if_pos ⟨ad_14.symm, by rw [h]⟩], fun h => by unfold w_ei; rw [s1.1, if_neg (fun e => h (by have := e.2; omega))]⟩
  have hE_0_3_1 : ∀ j : Int, w_ei ws (w_ar ws (n_v vs 0) 3) j = w_ei w1 (w_ar ws (n_v vs 0) 3) j := el_kp s1.1 r14 cr_0_3 (by decide)
  have hK_0_3 := elq_77 hD hth cr_0_3
  have hE_0_4_1 : ∀ j : Int, w_ei ws (w_ar ws (n_v vs 0) 4) j = w_ei w1 (w_ar ws (n_v vs 0) 4) j := el_kp s1.1 r14 cr_0_4 (by decide)
  have hK_0_4 := elq_78 hD hth cr_0_4
  have kz_0_10 := fdq_50 hD hth r0
  have kz_0_11 := fdq_273 hD hth r0
  have kz_0_12 := fdq_186 hD hth r0
  have kz_0_15 := fdq_274 hD hth r0
  first | have hJ0 : w_ei w1 (w_ar ws (n_v vs 0) 2) ((w_fi w1 (n_v vs 0) 5 + 1)) = w_ei w1 (w_ar ws (n_v vs 0) 2) ((w_fi ws (n_v vs 0) 5 + 1)) := congrArg _ (show ((w_fi w1 (n_v vs 0) 5 + 1) : Int) = (w_fi ws (n_v vs 0) 5 + 1) from by omega) | skip
  first | have hJ1 : w_ei w1 (w_ar ws (n_v vs 0) 2) ((w_fi w1 (n_v vs 0) 5 + 2)) = w_ei w1 (w_ar ws (n_v vs 0) 2) ((w_fi ws (n_v vs 0) 5 + 2)) := congrArg _ (show ((w_fi w1 (n_v vs 0) 5 + 2) : Int) = (w_fi ws (n_v vs 0) 5 + 2) from by omega) | skip
  have hI2 := hE_0_1_1 (v_iv (n_v vs 22))
  first | have hI3 := (hE_0_2_1 ((w_fi ws (n_v vs 0) 5 + 1)) (by omega)).2 (by omega) | have hI3 := (hE_0_2_1 ((w_fi ws (n_v vs 0) 5 + 1)) (by omega)).1 (by omega) | skip
  first | have hI4 := (hE_0_2_1 ((w_fi ws (n_v vs 0) 5 + 2)) (by omega)).2 (by omega) | have hI4 := (hE_0_2_1 ((w_fi ws (n_v vs 0) 5 + 2)) (by omega)).1 (by omega) | skip
  have nf0 : fc_1 PRD (20, [7, 5], [50, 1, 1, 1005, 1002, 3, 6, 0, 2, 1, 0, 0, -1, 0, 10, 3, 1, 2, 4, 3, 2, 1, 5, 0, 1, 0, 47]) ws (vs) := by
    refine ⟨nf_in hl rfl, sgq_1980 ?_⟩
    · show (v_iv (n_v vs 7) ≤ (-1)) ∨ (w_ei ws (w_ar ws (n_v vs 5) 2) ((w_fi ws (n_v vs 5) 5 + 1)) ≤ 47)
      simp only [q5, q7]
      exact vc_Mo_met_37_0 (v_iv (n_v vs 2)) (v_iv (n_v vs 7)) (v_iv (n_v vs 8)) (v_iv (n_v vs 10)) (v_iv (n_v vs 12)) (v_iv (n_v vs 15)) (v_iv (n_v vs 17)) (v_iv (n_v vs 19)) (v_iv (n_v vs 20)) (v_iv (n_v vs 21)) (v_iv (n_v vs 22)) (v_iv (n_v vs 23)) (v_iv (n_v vs 24)) (w_ei ws (w_ar ws (n_v vs 0) 1)) (w_fi ws (n_v vs 0) 10) (w_fi ws (n_v vs 0) 15) (w_fi ws (n_v vs 0) 11) (w_fi ws (n_v vs 0) 12) (w_ei w1 (w_ar ws (n_v vs 0) 1)) (w_fi w1 (n_v vs 0) 10) (w_fi w1 (n_v vs 0) 15) (w_fi w1 (n_v vs 0) 5) (w_fi w1 (n_v vs 0) 11) (w_fi w1 (n_v vs 0) 12) (w_ei w1 (w_ar ws (n_v vs 0) 2)) (w_ei w1 (w_ar ws (n_v vs 0) 3)) (w_ei w1 (w_ar ws (n_v vs 0) 4)) (w_fi ws (n_v vs 0) 5) (w_ei ws (w_ar ws (n_v vs 0) 2)) (w_ei ws (w_ar ws (n_v vs 0) 3)) (w_ei ws (w_ar ws (n_v vs 0) 4)) k2 k7 k8 k10 k12 k15 k17 k19 k20 k21 k22 k23 k24 d0 d10 d11 d14 d18 d20 f7 f12 f13 f14 g15 f16 f17 f18 g20 f26 f30 fe_0_5_1 fe_0_10_1 fe_0_11_1 fe_0_12_1 fe_0_15_1 hE_0_1_1 hE_0_2_1 hE_0_3_1 hE_0_4_1 kz_0_10 kz_0_11 kz_0_12 kz_0_15
  have nf1 : fc_1 PRD (20, [6, 5], [50, 1, 1, 1005, 1002, 0, 6, 4, 2, 1, 0, 0, 1, 3, 1, 2, 4, 3, 2, 1, 5, 0, 2]) ws (vs) := by
    refine ⟨nf_in hl rfl, sgq_981 ?_⟩
    · show (v_iv (n_v vs 6) + 1) ≤ w_ei ws (w_ar ws (n_v vs 5) 2) ((w_fi ws (n_v vs 5) 5 + 2))
      simp only [q5, q6]
      exact vc_Mo_met_37_1 (v_iv (n_v vs 1)) (v_iv (n_v vs 6)) (v_iv (n_v vs 8)) (v_iv (n_v vs 10)) (v_iv (n_v vs 15)) (v_iv (n_v vs 17)) (v_iv (n_v vs 19)) (v_iv (n_v vs 20)) (v_iv (n_v vs 21)) (v_iv (n_v vs 23)) (v_iv (n_v vs 24)) (w_ei ws (w_ar ws (n_v vs 0) 1)) (w_fi ws (n_v vs 0) 10) (w_fi ws (n_v vs 0) 15) (w_fi ws (n_v vs 0) 11) (w_fi ws (n_v vs 0) 12) (w_ei w1 (w_ar ws (n_v vs 0) 1)) (w_fi w1 (n_v vs 0) 10) (w_fi w1 (n_v vs 0) 15) (w_fi w1 (n_v vs 0) 5) (w_fi w1 (n_v vs 0) 11) (w_fi w1 (n_v vs 0) 12) (w_ei w1 (w_ar ws (n_v vs 0) 2)) (w_ei w1 (w_ar ws (n_v vs 0) 3)) (w_ei w1 (w_ar ws (n_v vs 0) 4)) (w_fi ws (n_v vs 0) 5) (w_ei ws (w_ar ws (n_v vs 0) 2)) (w_ei ws (w_ar ws (n_v vs 0) 3)) (w_ei ws (w_ar ws (n_v vs 0) 4)) k1 k6 k8 k10 k15 k17 k19 k20 k21 k23 k24 d0 d10 d11 d14 d17 d19 f16 f17 f18 g20 f31 fe_0_5_1 fe_0_10_1 fe_0_11_1 fe_0_12_1 fe_0_15_1 hE_0_1_1 hE_0_2_1 hE_0_3_1 hE_0_4_1 kz_0_10 kz_0_11 kz_0_12 kz_0_15
  have nf2 : fc_1 PRD (20, [5, 8], [60, 1, 3, 200, 5, 2, 3, 4]) ws (vs) := by
    refine ⟨nf_in hl rfl, sgq_1718 ?_⟩
    · show RWN (w_fi ws (n_v vs 5) 5) (w_ei ws (w_ar ws (n_v vs 5) 2)) (w_ei ws (w_ar ws (n_v vs 5) 3)) (w_ei ws (w_ar ws (n_v vs 5) 4)) (v_iv (n_v vs 8))
      rw [q5]
      exact vc_Mo_met_37_2 (v_iv (n_v vs 2)) (v_iv (n_v vs 8)) (v_iv (n_v vs 10)) (v_iv (n_v vs 15)) (v_iv (n_v vs 17)) (v_iv (n_v vs 19)) (v_iv (n_v vs 20)) (v_iv (n_v vs 21)) (v_iv (n_v vs 23)) (v_iv (n_v vs 24)) (w_ei ws (w_ar ws (n_v vs 0) 1)) (w_fi ws (n_v vs 0) 10) (w_fi ws (n_v vs 0) 15) (w_fi ws (n_v vs 0) 11) (w_fi ws (n_v vs 0) 12) (w_ei w1 (w_ar ws (n_v vs 0) 1)) (w_fi w1 (n_v vs 0) 10) (w_fi w1 (n_v vs 0) 15) (w_fi w1 (n_v vs 0) 5) (w_fi w1 (n_v vs 0) 11) (w_fi w1 (n_v vs 0) 12) (w_ei w1 (w_ar ws (n_v vs 0) 2)) (w_ei w1 (w_ar ws (n_v vs 0) 3)) (w_ei w1 (w_ar ws (n_v vs 0) 4)) (w_fi ws (n_v vs 0) 5) (w_ei ws (w_ar ws (n_v vs 0) 2)) (w_ei ws (w_ar ws (n_v vs 0) 3)) (w_ei ws (w_ar ws (n_v vs 0) 4)) k2 k8 k10 k15 k17 k19 k20 k21 k23 k24 d0 d10 d14 f16 f17 f18 g20 f32 f33 fe_0_5_1 fe_0_10_1 fe_0_11_1 fe_0_12_1 fe_0_15_1 hE_0_1_1 hE_0_2_1 hE_0_3_1 hE_0_4_1 kz_0_10 kz_0_11 kz_0_12 kz_0_15
  have nf3 : fc_1 PRD (20, [5, 7, 8], [60, 1, 1, 243, 5, 2]) ws (vs) := by
    refine ⟨nf_in hl rfl, sgq_1981 ?_⟩
    · show MEN (w_fi ws (n_v vs 5) 5) (w_ei ws (w_ar ws (n_v vs 5) 2)) (v_iv (n_v vs 7)) (v_iv (n_v vs 8))
      simp only [q5, q7]
      exact vc_Mo_met_37_3 (v_iv (n_v vs 2)) (v_iv (n_v vs 8)) (v_iv (n_v vs 10)) (v_iv (n_v vs 15)) (v_iv (n_v vs 17)) (v_iv (n_v vs 19)) (v_iv (n_v vs 20)) (v_iv (n_v vs 21)) (v_iv (n_v vs 23)) (v_iv (n_v vs 24)) (w_ei ws (w_ar ws (n_v vs 0) 1)) (w_fi ws (n_v vs 0) 10) (w_fi ws (n_v vs 0) 15) (w_fi ws (n_v vs 0) 11) (w_fi ws (n_v vs 0) 12) (w_ei w1 (w_ar ws (n_v vs 0) 1)) (w_fi w1 (n_v vs 0) 10) (w_fi w1 (n_v vs 0) 15) (w_fi w1 (n_v vs 0) 5) (w_fi w1 (n_v vs 0) 11) (w_fi w1 (n_v vs 0) 12) (w_ei w1 (w_ar ws (n_v vs 0) 2)) (w_ei w1 (w_ar ws (n_v vs 0) 3)) (w_ei w1 (w_ar ws (n_v vs 0) 4)) (w_fi ws (n_v vs 0) 5) (w_ei ws (w_ar ws (n_v vs 0) 2)) (w_ei ws (w_ar ws (n_v vs 0) 3)) (w_ei ws (w_ar ws (n_v vs 0) 4)) k2 k8 k10 k15 k17 k19 k20 k21 k23 k24 d0 d10 d11 d14 f16 f17 f18 g20 f32 f33 fe_0_5_1 fe_0_10_1 fe_0_11_1 fe_0_12_1 fe_0_15_1 hE_0_1_1 hE_0_2_1 hE_0_3_1 hE_0_4_1 kz_0_10 kz_0_11 kz_0_12 kz_0_15
  refine ⟨(fun _ h => (by cases h)), [], trivial, ?_, (fun _ h => (by cases h))⟩
  rw [List.append_nil]
  exact List.forall_mem_cons.mpr ⟨⟨show (20 : Nat) < 100 from by decide, nf0⟩, List.forall_mem_cons.mpr ⟨⟨show (20 : Nat) < 100 from by decide, nf1⟩, List.forall_mem_cons.mpr ⟨⟨show (20 : Nat) < 100 from by decide, nf2⟩, List.forall_mem_cons.mpr ⟨⟨show (20 : Nat) < 100 from by decide, nf3⟩, (fun _ h => (by cases h))⟩⟩⟩⟩
def o_Mo_met_38 : or_T := (214, 24, [(8, (0, 0, 23, [])), (10, (0, 0, 7, [])), (15, (5, 0, 66297, [539])), (16, (0, 3, 3, [])), (17, (0, 3, 66300, [])), (18, (0, 8, 8, [])), (19, (0, 0, 184, [])), (20, (0, 3, 66484, [])), (21, (0, 3, 66491, [])), (23, (0, 0, 255, []))], [(1, [21, 20, 10], []), (1, [20, 17, 19], []), (3, [19, 18, 8], []), (1, [17, 15, 16], [])], [], [], [(18, [21, 23], [1])], [], [(21, 10, 3, 66484), (21, 20, 0, 7), (21, 19, 3, 66307), (21, 17, 0, 191), (21, 15, 3, 194), (20, 19, 3, 66300), (20, 17, 0, 184), (20, 15, 3, 187), (17, 15, 3, 3)])
theorem oo_Mo_met_38 {kA : Nat → ClassId} : or_ok PRD kA GG o_Mo_met_38 := by
  refine or_mk fun A ta ws vs hD hth hl => ?_
  intro t8 k8 t10 k10 t15 t16 k16 t17 k17 t18 k18 t19 k19 t20 k20 t21 k21 t23 k23 d0 d1 d2 d3 d4 d5 d6 d7 d8 f0 f1 f2 f3
  obtain ⟨k15, q15_⟩ : (0 ≤ v_iv (n_v vs 15) ∧ v_iv (n_v vs 15) ≤ 66297) ∧ ∃ q : Int, v_iv (n_v vs 15) = 539 * q := tv_dvk t15
  obtain ⟨q15, hq15⟩ := q15_
  replace f0 := shm_12 f0
  replace f1 := shm_12 f1
  replace f2 := shm_38 f2
  rw [show v_iv (n_v vs 18) = 8 from by omega] at f2
  replace f3 := shm_12 f3
  have nf0 : fc_1 PRD (18, [21, 23], [1]) ws (vs) := by
    refine ⟨nf_in hl rfl, sgq_1268 ?_⟩
    · show pl_ok 1 (v_iv (n_v vs 21)).toNat (v_iv (n_v vs 23))
      exact pl_in pl_M1 (lo := 3) (hi := 194) (a := 0) (b := 255) (by decide +kernel) (by omega) (by omega) (by omega) (by omega)
  refine ⟨(fun _ h => (by cases h)), [], trivial, ?_, (fun _ h => (by cases h))⟩
  rw [List.append_nil]
  exact List.forall_mem_cons.mpr ⟨⟨show (18 : Nat) < 100 from by decide, nf0⟩, (fun _ h => (by cases h))⟩
set_option maxHeartbeats 4000000 in
theorem vc_Mo_met_39_0 (x2 : Int) (x7 : Int) (x8 : Int) (x10 : Int) (x12 : Int) (x15 : Int) (x17 : Int) (x19 : Int) (x20 : Int) (x21 : Int) (x22 : Int) (x23 : Int) (x24 : Int) (tape_0 : Int → Int) (limit_0 : Int) (from_0 : Int) (pos_0 : Int) (kind_0 : Int) (tape_1 : Int → Int) (limit_1 : Int) (from_1 : Int) (r_1 : Int) (pos_1 : Int) (kind_1 : Int) (all_1 : Int → Int) (now_1 : Int → Int) (latest_1 : Int → Int) (r_0 : Int) (all_0 : Int → Int) (now_0 : Int → Int) (latest_0 : Int → Int) (k2 : (-1) ≤ x2 ∧ x2 ≤ 23) (k7 : (-1) ≤ x7 ∧ x7 ≤ 23) (k8 : 0 ≤ x8 ∧ x8 ≤ 23) (k10 : 0 ≤ x10 ∧ x10 ≤ 7) (k12 : 0 ≤ x12 ∧ x12 ≤ 1999) (k15 : 0 ≤ x15 ∧ x15 ≤ 66297) (k17 : 3 ≤ x17 ∧ x17 ≤ 66300) (k19 : 0 ≤ x19 ∧ x19 ≤ 184) (k20 : 3 ≤ x20 ∧ x20 ≤ 66484) (k21 : 3 ≤ x21 ∧ x21 ≤ 66491) (k22 : 0 ≤ x22 ∧ x22 ≤ 1999) (k23 : 0 ≤ x23 ∧ x23 ≤ 255) (k24 : 1 ≤ x24 ∧ x24 ≤ 8) (d0 : x10 + 1 ≤ x24 ∧ x24 ≤ x10 + 1) (d9 : x15 + 3 ≤ x21 ∧ x21 ≤ x15 + 194) (d10 : x19 + 3 ≤ x20 ∧ x20 ≤ x19 + 66300) (d13 : x15 + 3 ≤ x17 ∧ x17 ≤ x15 + 3) (d17 : x7 + (-4294967296) ≤ x2 ∧ x2 ≤ x7 + 0) (d19 : x2 + (-4294967296) ≤ x7 ∧ x7 ≤ x2 + 0) (f7 : kind_0 = 1) (f12 : ((x22 + 1) ≤ limit_1) → (x23 = (tape_1 (x22) % 256))) (f13 : (limit_1 ≤ x22) → (x23 = (-1))) (f14 : x22 = x12 + x10) (g15 : x12 = from_1) (f16 : x21 = x20 + x10) (f17 : x20 = x17 + x19) (f18 : x19 = 8 * x8) (g20 : x15 = r_1) (f26 : ((kind_1 = 1) → (pos_1 ≤ (from_1 + 8))) ∧ ((kind_1 = 0) ∨ ((from_1 + 1) ≤ pos_1))) (f30 : (x2 ≤ (-1)) ∨ (all_1 ((r_1 + 1)) ≤ 47)) (fe_0_5_1 : r_0 = r_1) (fe_0_10_1 : limit_0 = limit_1) (fe_0_11_1 : pos_0 = pos_1) (fe_0_12_1 : kind_0 = kind_1) (fe_0_15_1 : from_0 = from_1) (hE_0_1_1 : ∀ j : Int, tape_0 j = tape_1 j) (hE_0_2_1 : ∀ j : Int, 0 ≤ j → (j = x21 → all_0 j = x23) ∧ (j ≠ x21 → all_0 j = all_1 j)) (hE_0_3_1 : ∀ j : Int, now_0 j = now_1 j) (hE_0_4_1 : ∀ j : Int, latest_0 j = latest_1 j) (kz_0_10 : 0 ≤ limit_0 ∧ limit_0 ≤ 2000) (kz_0_11 : 0 ≤ pos_0 ∧ pos_0 ≤ 2000) (kz_0_12 : 0 ≤ kind_0 ∧ kind_0 ≤ 4) (kz_0_15 : 0 ≤ from_0 ∧ from_0 ≤ 2000) : (x2 ≤ (-1)) ∨ (all_0 ((r_0 + 1)) ≤ 47) := by
  subst fe_0_5_1
  subst fe_0_10_1
  subst fe_0_11_1
  subst fe_0_12_1
  subst fe_0_15_1
  have e_hE_0_1_1 := funext hE_0_1_1; subst e_hE_0_1_1
  have e_hE_0_3_1 := funext hE_0_3_1; subst e_hE_0_3_1
  have e_hE_0_4_1 := funext hE_0_4_1; subst e_hE_0_4_1
  first
    | omega
    | (have q1 := (hE_0_2_1 (r_0 + 2) (by omega)).2 (by omega)
       have q2 := (hE_0_2_2 (r_0 + 2) (by omega)).2 (by omega)
       omega)
    | (have q1 := (hE_0_2_1 (r_0 + 1) (by omega)).2 (by omega)
       have q2 := (hE_0_2_2 (r_0 + 1) (by omega)).2 (by omega)
       omega)
    | (have q1 := (hE_0_2_1 (r_0 + 2) (by omega)).2 (by omega)
       omega)
    | (have q1 := (hE_0_2_1 (r_0 + 1) (by omega)).2 (by omega)
       omega)
    | (have q1 := (hE_0_2_1 (r_0 + 2) (by omega)).2 (by omega)
       have q2 := (hE_0_2_2 (r_0 + 2) (by omega)).2 (by omega)
       have q3 := (hE_0_2_3 (r_0 + 2) (by omega)).1 (by omega)
       omega)
    | (have q1 := (hE_0_2_1 (r_0 + 2) (by omega)).2 (by omega)
       have q2 := (hE_0_2_2 (r_0 + 2) (by omega)).2 (by omega)
       have q3 := (hE_0_2_3 (r_0 + 2) (by omega)).2 (by omega)
       omega)
set_option maxHeartbeats 4000000 in
theorem vc_Mo_met_39_1 (x1 : Int) (x6 : Int) (x8 : Int) (x10 : Int) (x15 : Int) (x17 : Int) (x19 : Int) (x20 : Int) (x21 : Int) (x23 : Int) (x24 : Int) (tape_0 : Int → Int) (limit_0 : Int) (from_0 : Int) (pos_0 : Int) (kind_0 : Int) (tape_1 : Int → Int) (limit_1 : Int) (from_1 : Int) (r_1 : Int) (pos_1 : Int) (kind_1 : Int) (all_1 : Int → Int) (now_1 : Int → Int) (latest_1 : Int → Int) (r_0 : Int) (all_0 : Int → Int) (now_0 : Int → Int) (latest_0 : Int → Int) (k1 : 0 ≤ x1 ∧ x1 ≤ 7) (k6 : 0 ≤ x6 ∧ x6 ≤ 7) (k8 : 0 ≤ x8 ∧ x8 ≤ 23) (k10 : 0 ≤ x10 ∧ x10 ≤ 7) (k15 : 0 ≤ x15 ∧ x15 ≤ 66297) (k17 : 3 ≤ x17 ∧ x17 ≤ 66300) (k19 : 0 ≤ x19 ∧ x19 ≤ 184) (k20 : 3 ≤ x20 ∧ x20 ≤ 66484) (k21 : 3 ≤ x21 ∧ x21 ≤ 66491) (k23 : 0 ≤ x23 ∧ x23 ≤ 255) (k24 : 1 ≤ x24 ∧ x24 ≤ 8) (d0 : x10 + 1 ≤ x24 ∧ x24 ≤ x10 + 1) (d9 : x15 + 3 ≤ x21 ∧ x21 ≤ x15 + 194) (d10 : x19 + 3 ≤ x20 ∧ x20 ≤ x19 + 66300) (d13 : x15 + 3 ≤ x17 ∧ x17 ≤ x15 + 3) (d16 : x6 + (-4294967296) ≤ x1 ∧ x1 ≤ x6 + 0) (d18 : x1 + (-4294967296) ≤ x6 ∧ x6 ≤ x1 + 0) (f16 : x21 = x20 + x10) (f17 : x20 = x17 + x19) (f18 : x19 = 8 * x8) (g20 : x15 = r_1) (f31 : (x1 + 1) ≤ all_1 ((r_1 + 2))) (fe_0_5_1 : r_0 = r_1) (fe_0_10_1 : limit_0 = limit_1) (fe_0_11_1 : pos_0 = pos_1) (fe_0_12_1 : kind_0 = kind_1) (fe_0_15_1 : from_0 = from_1) (hE_0_1_1 : ∀ j : Int, tape_0 j = tape_1 j) (hE_0_2_1 : ∀ j : Int, 0 ≤ j → (j = x21 → all_0 j = x23) ∧ (j ≠ x21 → all_0 j = all_1 j)) (hE_0_3_1 : ∀ j : Int, now_0 j = now_1 j) (hE_0_4_1 : ∀ j : Int, latest_0 j = latest_1 j) (kz_0_10 : 0 ≤ limit_0 ∧ limit_0 ≤ 2000) (kz_0_11 : 0 ≤ pos_0 ∧ pos_0 ≤ 2000) (kz_0_12 : 0 ≤ kind_0 ∧ kind_0 ≤ 4) (kz_0_15 : 0 ≤ from_0 ∧ from_0 ≤ 2000) : (x1 + 1) ≤ all_0 ((r_0 + 2)) := by
  subst fe_0_5_1
  subst fe_0_10_1
  subst fe_0_11_1
  subst fe_0_12_1
  subst fe_0_15_1
  have e_hE_0_1_1 := funext hE_0_1_1; subst e_hE_0_1_1
  have e_hE_0_3_1 := funext hE_0_3_1; subst e_hE_0_3_1
  have e_hE_0_4_1 := funext hE_0_4_1; subst e_hE_0_4_1
  first
    | omega
    | (have q1 := (hE_0_2_1 (r_0 + 2) (by omega)).2 (by omega)
       have q2 := (hE_0_2_2 (r_0 + 2) (by omega)).2 (by omega)
       omega)
    | (have q1 := (hE_0_2_1 (r_0 + 1) (by omega)).2 (by omega)
       have q2 := (hE_0_2_2 (r_0 + 1) (by omega)).2 (by omega)
       omega)
    | (have q1 := (hE_0_2_1 (r_0 + 2) (by omega)).2 (by omega)
       omega)
    | (have q1 := (hE_0_2_1 (r_0 + 1) (by omega)).2 (by omega)
       omega)
    | (have q1 := (hE_0_2_1 (r_0 + 2) (by omega)).2 (by omega)
       have q2 := (hE_0_2_2 (r_0 + 2) (by omega)).2 (by omega)
       have q3 := (hE_0_2_3 (r_0 + 2) (by omega)).1 (by omega)
       omega)
    | (have q1 := (hE_0_2_1 (r_0 + 2) (by omega)).2 (by omega)
       have q2 := (hE_0_2_2 (r_0 + 2) (by omega)).2 (by omega)
       have q3 := (hE_0_2_3 (r_0 + 2) (by omega)).2 (by omega)
       omega)
set_option maxHeartbeats 4000000 in
theorem vc_Mo_met_39_2 (x2 : Int) (x8 : Int) (x10 : Int) (x15 : Int) (x17 : Int) (x19 : Int) (x20 : Int) (x21 : Int) (x23 : Int) (x24 : Int) (tape_0 : Int → Int) (limit_0 : Int) (from_0 : Int) (pos_0 : Int) (kind_0 : Int) (tape_1 : Int → Int) (limit_1 : Int) (from_1 : Int) (r_1 : Int) (pos_1 : Int) (kind_1 : Int) (all_1 : Int → Int) (now_1 : Int → Int) (latest_1 : Int → Int) (r_0 : Int) (all_0 : Int → Int) (now_0 : Int → Int) (latest_0 : Int → Int) (k2 : (-1) ≤ x2 ∧ x2 ≤ 23) (k8 : 0 ≤ x8 ∧ x8 ≤ 23) (k10 : 0 ≤ x10 ∧ x10 ≤ 7) (k15 : 0 ≤ x15 ∧ x15 ≤ 66297) (k17 : 3 ≤ x17 ∧ x17 ≤ 66300) (k19 : 0 ≤ x19 ∧ x19 ≤ 184) (k20 : 3 ≤ x20 ∧ x20 ≤ 66484) (k21 : 3 ≤ x21 ∧ x21 ≤ 66491) (k23 : 0 ≤ x23 ∧ x23 ≤ 255) (k24 : 1 ≤ x24 ∧ x24 ≤ 8) (d0 : x10 + 1 ≤ x24 ∧ x24 ≤ x10 + 1) (d9 : x15 + 3 ≤ x21 ∧ x21 ≤ x15 + 194) (d13 : x15 + 3 ≤ x17 ∧ x17 ≤ x15 + 3) (f16 : x21 = x20 + x10) (f17 : x20 = x17 + x19) (f18 : x19 = 8 * x8) (g20 : x15 = r_1) (f32 : RWN (r_1) (all_1) (now_1) (latest_1) (x8)) (f33 : MEN (r_1) (all_1) (x2) (x8)) (fe_0_5_1 : r_0 = r_1) (fe_0_10_1 : limit_0 = limit_1) (fe_0_11_1 : pos_0 = pos_1) (fe_0_12_1 : kind_0 = kind_1) (fe_0_15_1 : from_0 = from_1) (hE_0_1_1 : ∀ j : Int, tape_0 j = tape_1 j) (hE_0_2_1 : ∀ j : Int, 0 ≤ j → (j = x21 → all_0 j = x23) ∧ (j ≠ x21 → all_0 j = all_1 j)) (hE_0_3_1 : ∀ j : Int, now_0 j = now_1 j) (hE_0_4_1 : ∀ j : Int, latest_0 j = latest_1 j) (kz_0_10 : 0 ≤ limit_0 ∧ limit_0 ≤ 2000) (kz_0_11 : 0 ≤ pos_0 ∧ pos_0 ≤ 2000) (kz_0_12 : 0 ≤ kind_0 ∧ kind_0 ≤ 4) (kz_0_15 : 0 ≤ from_0 ∧ from_0 ≤ 2000) : RWN (r_0) (all_0) (now_0) (latest_0) (x8) := by
  subst fe_0_5_1
  subst fe_0_10_1
  subst fe_0_11_1
  subst fe_0_12_1
  subst fe_0_15_1
  have e_hE_0_1_1 := funext hE_0_1_1; subst e_hE_0_1_1
  have e_hE_0_3_1 := funext hE_0_3_1; subst e_hE_0_3_1
  have e_hE_0_4_1 := funext hE_0_4_1; subst e_hE_0_4_1
  try simp only [Int.add_zero] at *
  first
    | (exfalso; omega)
    | (have hr := rws_r ‹RWS _ _ _ _›
       have hb := (rws_sg ‹RWS _ _ _ _›).1
       exact rwn_off (rwn_start ‹RWS _ _ _ _› (by assumption) (by omega) (by omega) (by omega) (by omega)) (by assumption) (by omega))
    | (have hr := rwn_r ‹RWN _ _ _ _ _›
       have hb := ‹MEN _ _ _ _›.1
       exact rwn_off ‹RWN _ _ _ _ _› (by assumption) (by omega))
set_option maxHeartbeats 4000000 in
theorem vc_Mo_met_39_3 (x2 : Int) (x8 : Int) (x10 : Int) (x15 : Int) (x17 : Int) (x19 : Int) (x20 : Int) (x21 : Int) (x23 : Int) (x24 : Int) (tape_0 : Int → Int) (limit_0 : Int) (from_0 : Int) (pos_0 : Int) (kind_0 : Int) (tape_1 : Int → Int) (limit_1 : Int) (from_1 : Int) (r_1 : Int) (pos_1 : Int) (kind_1 : Int) (all_1 : Int → Int) (now_1 : Int → Int) (latest_1 : Int → Int) (r_0 : Int) (all_0 : Int → Int) (now_0 : Int → Int) (latest_0 : Int → Int) (k2 : (-1) ≤ x2 ∧ x2 ≤ 23) (k8 : 0 ≤ x8 ∧ x8 ≤ 23) (k10 : 0 ≤ x10 ∧ x10 ≤ 7) (k15 : 0 ≤ x15 ∧ x15 ≤ 66297) (k17 : 3 ≤ x17 ∧ x17 ≤ 66300) (k19 : 0 ≤ x19 ∧ x19 ≤ 184) (k20 : 3 ≤ x20 ∧ x20 ≤ 66484) (k21 : 3 ≤ x21 ∧ x21 ≤ 66491) (k23 : 0 ≤ x23 ∧ x23 ≤ 255) (k24 : 1 ≤ x24 ∧ x24 ≤ 8) (d0 : x10 + 1 ≤ x24 ∧ x24 ≤ x10 + 1) (d9 : x15 + 3 ≤ x21 ∧ x21 ≤ x15 + 194) (d10 : x19 + 3 ≤ x20 ∧ x20 ≤ x19 + 66300) (d13 : x15 + 3 ≤ x17 ∧ x17 ≤ x15 + 3) (f16 : x21 = x20 + x10) (f17 : x20 = x17 + x19) (f18 : x19 = 8 * x8) (g20 : x15 = r_1) (f32 : RWN (r_1) (all_1) (now_1) (latest_1) (x8)) (f33 : MEN (r_1) (all_1) (x2) (x8)) (fe_0_5_1 : r_0 = r_1) (fe_0_10_1 : limit_0 = limit_1) (fe_0_11_1 : pos_0 = pos_1) (fe_0_12_1 : kind_0 = kind_1) (fe_0_15_1 : from_0 = from_1) (hE_0_1_1 : ∀ j : Int, tape_0 j = tape_1 j) (hE_0_2_1 : ∀ j : Int, 0 ≤ j → (j = x21 → all_0 j = x23) ∧ (j ≠ x21 → all_0 j = all_1 j)) (hE_0_3_1 : ∀ j : Int, now_0 j = now_1 j) (hE_0_4_1 : ∀ j : Int, latest_0 j = latest_1 j) (kz_0_10 : 0 ≤ limit_0 ∧ limit_0 ≤ 2000) (kz_0_11 : 0 ≤ pos_0 ∧ pos_0 ≤ 2000) (kz_0_12 : 0 ≤ kind_0 ∧ kind_0 ≤ 4) (kz_0_15 : 0 ≤ from_0 ∧ from_0 ≤ 2000) : MEN (r_0) (all_0) (x2) (x8) := by
  subst fe_0_5_1
  subst fe_0_10_1
  subst fe_0_11_1
  subst fe_0_12_1
  subst fe_0_15_1
  have e_hE_0_1_1 := funext hE_0_1_1; subst e_hE_0_1_1
  have e_hE_0_3_1 := funext hE_0_3_1; subst e_hE_0_3_1
  have e_hE_0_4_1 := funext hE_0_4_1; subst e_hE_0_4_1
  try simp only [Int.add_zero] at *
  first
    | (exfalso; omega)
    | (have hr := rws_r ‹RWS _ _ _ _›
       have hb := (rws_sg ‹RWS _ _ _ _›).1
       exact men_off (by omega) (men_new ‹RWS _ _ _ _› (by assumption) (by omega) (by omega) (by omega) ‹MEB _ _ _› (by omega)) (by assumption) (by omega))
    | (have hr := rwn_r ‹RWN _ _ _ _ _›
       have hb := ‹MEN _ _ _ _›.1
       exact men_off (by omega) ‹MEN _ _ _ _› (by assumption) (by omega))
def o_Mo_met_39 : or_T := (171, 25, [(0, (2, 0, 0, [165])), (1, (0, 0, 7, [])), (2, (0, -1, 23, [])), (3, (0, 0, 2000, [])), (4, (0, 0, 2000, [])), (5, (2, 0, 0, [165])), (6, (0, 0, 7, [])), (7, (0, -1, 23, [])), (8, (0, 0, 23, [])), (10, (0, 0, 7, [])), (11, (0, 1, 2000, [])), (12, (0, 0, 1999, [])), (13, (0, 1, 2000, [])), (14, (2, 0, 0, [167])), (15, (0, 0, 66297, [])), (16, (0, 3, 3, [])), (17, (0, 3, 66300, [])), (18, (0, 8, 8, [])), (19, (0, 0, 184, [])), (20, (0, 3, 66484, [])), (21, (0, 3, 66491, [])), (22, (0, 0, 1999, [])), (23, (0, 0, 255, [])), (24, (0, 1, 8, []))], [(6, [24, 10], [1]), (20, [22, 5, 23], [50, 1, 1, 1010, 1001, 4, 11, 0, 6, 4, 2, 1, 0, 0, 1, 2, 1, 10, 1, 2, 1, 2, 9, 5, 3, 1, 1, 1, 0, 0, 256]), (20, [5, 22, 23], [50, 1, 0, 10, 4, 7, 0, 3, 2, 0, 10, 1, 1, 1, 2, 1, 2, 0, -1]), (20, [5, 5], [30, 0, 1, 1, 15, -1, 1, 11]), (20, [5], [50, 3, 0, 12, 11, 15, 2, 21, 4, 7, 1, 3, 2, 0, 12, 0, 1, 0, 3, 2, 0, 11, 4, 3, 2, 0, 15, 0, 8, 3, 7, 1, 3, 2, 0, 12, 0, 0, 0, 7, 4, 3, 2, 0, 15, 0, 1, 2, 0, 11]), (20, [3, 5], [30, 0, 1, 0, 0, -1, 1, 11]), (20, [4, 5], [30, -1, 1, 0, 0, -1, 1, 11]), (20, [5], [50, 1, 0, 12, 1, 3, 2, 0, 12, 0, 1]), (24, [0, 5], []), (24, [1, 6], []), (24, [2, 7], []), (100, [14, 21, 23], []), (20, [22, 5, 23], [50, 1, 1, 1010, 1001, 4, 11, 0, 6, 4, 2, 1, 0, 0, 1, 2, 1, 10, 1, 2, 1, 2, 9, 5, 3, 1, 1, 1, 0, 0, 256]), (20, [5, 22, 23], [50, 1, 0, 10, 4, 7, 0, 3, 2, 0, 10, 1, 1, 1, 2, 1, 2, 0, -1]), (1, [22, 12, 10], []), (9, [12, 5], [15]), (1, [21, 20, 10], []), (1, [20, 17, 19], []), (3, [19, 18, 8], []), (1, [17, 15, 16], []), (9, [15, 5], [5]), (9, [14, 5], [2]), (7, [10, 13], [2]), (2, [13, 11, 12], []), (9, [11, 5], [11]), (20, [5, 5], [30, 0, 1, 1, 15, -1, 1, 11]), (20, [5], [50, 3, 0, 12, 11, 15, 2, 21, 4, 7, 1, 3, 2, 0, 12, 0, 1, 0, 3, 2, 0, 11, 4, 3, 2, 0, 15, 0, 8, 3, 7, 1, 3, 2, 0, 12, 0, 0, 0, 7, 4, 3, 2, 0, 15, 0, 1, 2, 0, 11]), (20, [3, 5], [30, 0, 1, 0, 0, -1, 1, 11]), (20, [4, 5], [30, -1, 1, 0, 0, -1, 1, 11]), (20, [5], [50, 1, 0, 12, 1, 3, 2, 0, 12, 0, 1]), (20, [7, 5], [50, 1, 1, 1005, 1002, 3, 6, 0, 2, 1, 0, 0, -1, 0, 10, 3, 1, 2, 4, 3, 2, 1, 5, 0, 1, 0, 47]), (20, [6, 5], [50, 1, 1, 1005, 1002, 0, 6, 4, 2, 1, 0, 0, 1, 3, 1, 2, 4, 3, 2, 1, 5, 0, 2]), (20, [5, 8], [60, 1, 3, 200, 5, 2, 3, 4]), (20, [5, 7, 8], [60, 1, 1, 243, 5, 2])], [], [], [(20, [7, 5], [50, 1, 1, 1005, 1002, 3, 6, 0, 2, 1, 0, 0, -1, 0, 10, 3, 1, 2, 4, 3, 2, 1, 5, 0, 1, 0, 47]), (20, [6, 5], [50, 1, 1, 1005, 1002, 0, 6, 4, 2, 1, 0, 0, 1, 3, 1, 2, 4, 3, 2, 1, 5, 0, 2]), (20, [5, 8], [60, 1, 3, 200, 5, 2, 3, 4]), (20, [5, 7, 8], [60, 1, 1, 243, 5, 2])], [], [(24, 10, 1, 1), (24, 13, -4294967296, 0), (22, 10, 0, 2000), (22, 12, 0, 7), (21, 10, 3, 66484), (21, 13, -4294967296, 66483), (21, 20, 0, 7), (21, 19, 3, 66307), (21, 17, 0, 191), (21, 15, 3, 194), (20, 19, 3, 66300), (20, 17, 0, 184), (20, 15, 3, 187), (17, 15, 3, 3), (10, 13, -4294967296, -1), (13, 11, -2000, 0), (1, 6, -4294967296, 0), (2, 7, -4294967296, 0), (6, 1, -4294967296, 0), (7, 2, -4294967296, 0)])
theorem oo_Mo_met_39 {kA : Nat → ClassId} : or_ok PRD kA GG o_Mo_met_39 := by
  refine or_mk fun A ta ws vs hD hth hl => ?_
  intro t0 r0 t1 k1 t2 k2 t3 k3 t4 k4 t5 r5 t6 k6 t7 k7 t8 k8 t10 k10 t11 k11 t12 k12 t13 k13 t14 r14 t15 k15 t16 k16 t17 k17 t18 k18 t19 k19 t20 k20 t21 k21 t22 k22 t23 k23 t24 k24 d0 d1 d2 d3 d4 d5 d6 d7 d8 d9 d10 d11 d12 d13 d14 d15 d16 d17 d18 d19 f0 f1 f2 f3 f4 f5 f6 f7 f8 f9 f10 ta1 w1 le1 s1 f12 f13 f14 f15 f16 f17 f18 f19 f20 f21 f22 f23 f24 f25 f26 f27 f28 f29 f30 f31 f32 f33
  replace f0 := shm_4 f0
  replace f1 := shm_535 f1
  replace f2 := shm_536 f2
  replace f3 := shm_1397 f3
  replace f4 := shm_1398 f4
  replace f5 := shm_1395 f5
  replace f6 := shm_1891 f6
  replace f7 := shm_1791 f7
  replace f8 := shm_5 f8
  replace f9 := shm_5 f9
  replace f10 := shm_5 f10
  have s1 : (∀ b j, w_el ws b j = if b = v_ad (n_v vs 14) ∧ j = (v_iv (n_v vs 21)).toNat then v_iv (n_v vs 23) else w_el w1 b j) ∧ ∀ b k, w_fd ws b k = w_fd w1 b k := s1.2
  replace f12 := shm_535 f12
  replace f13 := shm_536 f13
  replace f14 := shm_12 f14
  replace f15 := shm_189 f15
  replace f16 := shm_12 f16
  replace f17 := shm_12 f17
  replace f18 := shm_38 f18
  rw [show v_iv (n_v vs 18) = 8 from by omega] at f18
  replace f19 := shm_12 f19
  replace f20 := shm_109 f20
  replace f21 := shm_129 f21
  replace f22 := shm_6 f22
  replace f23 := shm_14 f23
  replace f24 := shm_117 f24
  replace f25 := shm_1397 f25
  replace f26 := shm_1398 f26
  replace f27 := shm_1395 f27
  replace f28 := shm_1891 f28
  replace f29 := shm_1791 f29
  replace f30 := shm_1980 f30
  replace f31 := shm_981 f31
  replace f32 := shm_1718 f32
  replace f33 := shm_1981 f33
  have q5 : n_v vs 5 = n_v vs 0 := f8.symm
  have q6 : n_v vs 6 = n_v vs 1 := f9.symm
  have q7 : n_v vs 7 = n_v vs 2 := f10.symm
  simp only [q5, q7, q6] at f1 f2 f3 f4 f5 f6 f7 f12 f13 f15 f20 f21 f24 f25 f26 f27 f28 f29 f30 f31 f32 f33
  have ar_0_1_1 : w_ar w1 (n_v vs 0) 1 = w_ar ws (n_v vs 0) 1 := congrArg v_ad (s1.2 _ _).symm
  have cr_0_1 := fdq_46 hD hth r0
  have ar_0_2_1 : w_ar w1 (n_v vs 0) 2 = w_ar ws (n_v vs 0) 2 := congrArg v_ad (s1.2 _ _).symm
  have cr_0_2 := fdq_12 hD hth r0
  have ar_0_3_1 : w_ar w1 (n_v vs 0) 3 = w_ar ws (n_v vs 0) 3 := congrArg v_ad (s1.2 _ _).symm
  have cr_0_3 := fdq_141 hD hth r0
  have ar_0_4_1 : w_ar w1 (n_v vs 0) 4 = w_ar ws (n_v vs 0) 4 := congrArg v_ad (s1.2 _ _).symm
  have cr_0_4 := fdq_142 hD hth r0
  have ad_14 : v_ad (n_v vs 14) = w_ar ws (n_v vs 0) 2 := (congrArg v_ad f21).trans ar_0_2_1
  simp only [ar_0_1_1] at f12
  have g15 : v_iv (n_v vs 12) = w_fi w1 (n_v vs 0) 15 := congrArg v_iv f15
  have g20 : v_iv (n_v vs 15) = w_fi w1 (n_v vs 0) 5 := congrArg v_iv f20
  have g24 : v_iv (n_v vs 11) = w_fi w1 (n_v vs 0) 11 := congrArg v_iv f24
  simp only [ar_0_2_1, ar_0_3_1, ar_0_4_1] at f30 f31 f32 f33
  have fe_0_5_1 : w_fi ws (n_v vs 0) 5 = w_fi w1 (n_v vs 0) 5 := congrArg v_iv (s1.2 _ _)
  have fe_0_10_1 : w_fi ws (n_v vs 0) 10 = w_fi w1 (n_v vs 0) 10 := congrArg v_iv (s1.2 _ _)
  have fe_0_11_1 : w_fi ws (n_v vs 0) 11 = w_fi w1 (n_v vs 0) 11 := congrArg v_iv (s1.2 _ _)
  have fe_0_12_1 : w_fi ws (n_v vs 0) 12 = w_fi w1 (n_v vs 0) 12 := congrArg v_iv (s1.2 _ _)
  have fe_0_15_1 : w_fi ws (n_v vs 0) 15 = w_fi w1 (n_v vs 0) 15 := congrArg v_iv (s1.2 _ _)
  have hE_0_1_1 : ∀ j : Int, w_ei ws (w_ar ws (n_v vs 0) 1) j = w_ei w1 (w_ar ws (n_v vs 0) 1) j := el_kp s1.1 r14 cr_0_1 (by decide)
  have hK_0_1 := elq_6 hD hth cr_0_1
  have hE_0_2_1 : ∀ j : Int, 0 ≤ j → (j = v_iv (n_v vs 21) → w_ei ws (w_ar ws (n_v vs 0) 2) j = v_iv (n_v vs 23)) ∧ (j ≠ v_iv (n_v vs 21) → w_ei ws (w_ar ws (n_v vs 0) 2) j = w_ei w1 (w_ar ws (n_v vs 0) 2) j) := fun j hj => ⟨fun h => by unfold w_ei; rw [s1.1, if_pos ⟨ad_14.symm, by rw [h]⟩], fun h => by unfold w_ei; rw [s1.1, if_neg (fun e => h (by have := e.2; omega))]⟩
  have hE_0_3_1 : ∀ j : Int, w_ei ws (w_ar ws (n_v vs 0) 3) j = w_ei w1 (w_ar ws (n_v vs 0) 3) j := el_kp s1.1 r14 cr_0_3 (by decide)
  have hK_0_3 := elq_77 hD hth cr_0_3
  have hE_0_4_1 : ∀ j : Int, w_ei ws (w_ar ws (n_v vs 0) 4) j = w_ei w1 (w_ar ws (n_v vs 0) 4) j := el_kp s1.1 r14 cr_0_4 (by decide)
  have hK_0_4 := elq_78 hD hth cr_0_4
  have kz_0_10 := fdq_50 hD hth r0
  have kz_0_11 := fdq_273 hD hth r0
  have kz_0_12 := fdq_186 hD hth r0
  have kz_0_15 := fdq_274 hD hth r0
  first | have hJ0 : w_ei w1 (w_ar ws (n_v vs 0) 2) ((w_fi w1 (n_v vs 0) 5 + 1)) = w_ei w1 (w_ar ws (n_v vs 0) 2) ((w_fi ws (n_v vs 0) 5 + 1)) := congrArg _ (show ((w_fi w1 (n_v vs 0) 5 + 1) : Int) = (w_fi ws (n_v vs 0) 5 + 1) from by omega) | skip
  first | have hJ1 : w_ei w1 (w_ar ws (n_v vs 0) 2) ((w_fi w1 (n_v vs 0) 5 + 2)) = w_ei w1 (w_ar ws (n_v vs 0) 2) ((w_fi ws (n_v vs 0) 5 + 2)) := congrArg _ (show ((w_fi w1 (n_v vs 0) 5 + 2) : Int) = (w_fi ws (n_v vs 0) 5 + 2) from by omega) | skip
  have hI2 := hE_0_1_1 (v_iv (n_v vs 22))
  first | have hI3 := (hE_0_2_1 ((w_fi ws (n_v vs 0) 5 + 1)) (by omega)).2 (by omega) | have hI3 := (hE_0_2_1 ((w_fi ws (n_v vs 0) 5 + 1)) (by omega)).1 (by omega) | skip
  first | have hI4 := (hE_0_2_1 ((w_fi ws (n_v vs 0) 5 + 2)) (by omega)).2 (by omega) | have hI4 := (hE_0_2_1 ((w_fi ws (n_v vs 0) 5 + 2)) (by omega)).1 (by omega) | skip
  have nf0 : fc_1 PRD (20, [7, 5], [50, 1, 1, 1005, 1002, 3, 6, 0, 2, 1, 0, 0, -1, 0, 10, 3, 1, 2, 4, 3, 2, 1, 5, 0, 1, 0, 47]) ws (vs) := by
    refine ⟨nf_in hl rfl, sgq_1980 ?_⟩
    · show (v_iv (n_v vs 7) ≤ (-1)) ∨ (w_ei ws (w_ar ws (n_v vs 5) 2) ((w_fi ws (n_v vs 5) 5 + 1)) ≤ 47)
      simp only [q5, q7]
      exact vc_Mo_met_39_0 (v_iv (n_v vs 2)) (v_iv (n_v vs 7)) (v_iv (n_v vs 8)) (v_iv (n_v vs 10)) (v_iv (n_v vs 12)) (v_iv (n_v vs 15)) (v_iv (n_v vs 17)) (v_iv (n_v vs 19)) (v_iv (n_v vs 20)) (v_iv (n_v vs 21)) (v_iv (n_v vs 22)) (v_iv (n_v vs 23)) (v_iv (n_v vs 24)) (w_ei ws (w_ar ws (n_v vs 0) 1)) (w_fi ws (n_v vs 0) 10) (w_fi ws (n_v vs 0) 15) (w_fi ws (n_v vs 0) 11) (w_fi ws (n_v vs 0) 12) (w_ei w1 (w_ar ws (n_v vs 0) 1)) (w_fi w1 (n_v vs 0) 10) (w_fi w1 (n_v vs 0) 15) (w_fi w1 (n_v vs 0) 5) (w_fi w1 (n_v vs 0) 11) (w_fi w1 (n_v vs 0) 12) (w_ei w1 (w_ar ws (n_v vs 0) 2)) (w_ei w1 (w_ar ws (n_v vs 0) 3)) (w_ei w1 (w_ar ws (n_v vs 0) 4)) (w_fi ws (n_v vs 0) 5) (w_ei ws (w_ar ws (n_v vs 0) 2)) (w_ei ws (w_ar ws (n_v vs 0) 3)) (w_ei ws (w_ar ws (n_v vs 0) 4)) k2 k7 k8 k10 k12 k15 k17 k19 k20 k21 k22 k23 k24 d0 d9 d10 d13 d17 d19 f7 f12 f13 f14 g15 f16 f17 f18 g20 f26 f30 fe_0_5_1 fe_0_10_1 fe_0_11_1 fe_0_12_1 fe_0_15_1 hE_0_1_1 hE_0_2_1 hE_0_3_1 hE_0_4_1 kz_0_10 kz_0_11 kz_0_12 kz_0_15
  have nf1 : fc_1 PRD (20, [6, 5], [50, 1, 1, 1005, 1002, 0, 6, 4, 2, 1, 0, 0, 1, 3, 1, 2, 4, 3, 2, 1, 5, 0, 2]) ws (vs) := by
    refine ⟨nf_in hl rfl, sgq_981 ?_⟩
    · show (v_iv (n_v vs 6) + 1) ≤ w_ei ws (w_ar ws (n_v vs 5) 2) ((w_fi ws (n_v vs 5) 5 + 2))
      simp only [q5, q6]
      exact vc_Mo_met_39_1 (v_iv (n_v vs 1)) (v_iv (n_v vs 6)) (v_iv (n_v vs 8)) (v_iv (n_v vs 10)) (v_iv (n_v vs 15)) (v_iv (n_v vs 17)) (v_iv (n_v vs 19)) (v_iv (n_v vs 20)) (v_iv (n_v vs 21)) (v_iv (n_v vs 23)) (v_iv (n_v vs 24)) (w_ei ws (w_ar ws (n_v vs 0) 1)) (w_fi ws (n_v vs 0) 10) (w_fi ws (n_v vs 0) 15) (w_fi ws (n_v vs 0) 11) (w_fi ws (n_v vs 0) 12) (w_ei w1 (w_ar ws (n_v vs 0) 1)) (w_fi w1 (n_v vs 0) 10) (w_fi w1 (n_v vs 0) 15) (w_fi w1 (n_v vs 0) 5) (w_fi w1 (n_v vs 0) 11) (w_fi w1 (n_v vs 0) 12) (w_ei w1 (w_ar ws (n_v vs 0) 2)) (w_ei w1 (w_ar ws (n_v vs 0) 3)) (w_ei w1 (w_ar ws (n_v vs 0) 4)) (w_fi ws (n_v vs 0) 5) (w_ei ws (w_ar ws (n_v vs 0) 2)) (w_ei ws (w_ar ws (n_v vs 0) 3)) (w_ei ws (w_ar ws (n_v vs 0) 4)) k1 k6 k8 k10 k15 k17 k19 k20 k21 k23 k24 d0 d9 d10 d13 d16 d18 f16 f17 f18 g20 f31 fe_0_5_1 fe_0_10_1 fe_0_11_1 fe_0_12_1 fe_0_15_1 hE_0_1_1 hE_0_2_1 hE_0_3_1 hE_0_4_1 kz_0_10 kz_0_11 kz_0_12 kz_0_15
  have nf2 : fc_1 PRD (20, [5, 8], [60, 1, 3, 200, 5, 2, 3, 4]) ws (vs) := by
    refine ⟨nf_in hl rfl, sgq_1718 ?_⟩
    · show RWN (w_fi ws (n_v vs 5) 5) (w_ei ws (w_ar ws (n_v vs 5) 2)) (w_ei ws (w_ar ws (n_v vs 5) 3)) (w_ei ws (w_ar ws (n_v vs 5) 4)) (v_iv (n_v vs 8))
      rw [q5]
      exact vc_Mo_met_39_2 (v_iv (n_v vs 2)) (v_iv (n_v vs 8)) (v_iv (n_v vs 10)) (v_iv (n_v vs 15)) (v_iv (n_v vs 17)) (v_iv (n_v vs 19)) (v_iv (n_v vs 20)) (v_iv (n_v vs 21)) (v_iv (n_v vs 23)) (v_iv (n_v vs 24)) (w_ei ws (w_ar ws (n_v vs 0) 1)) (w_fi ws (n_v vs 0) 10) (w_fi ws (n_v vs 0) 15) (w_fi ws (n_v vs 0) 11) (w_fi ws (n_v vs 0) 12) (w_ei w1 (w_ar ws (n_v vs 0) 1)) (w_fi w1 (n_v vs 0) 10) (w_fi w1 (n_v vs 0) 15) (w_fi w1 (n_v vs 0) 5) (w_fi w1 (n_v vs 0) 11) (w_fi w1 (n_v vs 0) 12) (w_ei w1 (w_ar ws (n_v vs 0) 2)) (w_ei w1 (w_ar ws (n_v vs 0) 3)) (w_ei w1 (w_ar ws (n_v vs 0) 4)) (w_fi ws (n_v vs 0) 5) (w_ei ws (w_ar ws (n_v vs 0) 2)) (w_ei ws (w_ar ws (n_v vs 0) 3)) (w_ei ws (w_ar ws (n_v vs 0) 4)) k2 k8 k10 k15 k17 k19 k20 k21 k23 k24 d0 d9 d13 f16 f17 f18 g20 f32 f33 fe_0_5_1 fe_0_10_1 fe_0_11_1 fe_0_12_1 fe_0_15_1 hE_0_1_1 hE_0_2_1 hE_0_3_1 hE_0_4_1 kz_0_10 kz_0_11 kz_0_12 kz_0_15
  have nf3 : fc_1 PRD (20, [5, 7, 8], [60, 1, 1, 243, 5, 2]) ws (vs) := by
    refine ⟨nf_in hl rfl, sgq_1981 ?_⟩
    · show MEN (w_fi ws (n_v vs 5) 5) (w_ei ws (w_ar ws (n_v vs 5) 2)) (v_iv (n_v vs 7)) (v_iv (n_v vs 8))
      simp only [q5, q7]
      exact vc_Mo_met_39_3 (v_iv (n_v vs 2)) (v_iv (n_v vs 8)) (v_iv (n_v vs 10)) (v_iv (n_v vs 15)) (v_iv (n_v vs 17)) (v_iv (n_v vs 19)) (v_iv (n_v vs 20)) (v_iv (n_v vs 21)) (v_iv (n_v vs 23)) (v_iv (n_v vs 24)) (w_ei ws (w_ar ws (n_v vs 0) 1)) (w_fi ws (n_v vs 0) 10) (w_fi ws (n_v vs 0) 15) (w_fi ws (n_v vs 0) 11) (w_fi ws (n_v vs 0) 12) (w_ei w1 (w_ar ws (n_v vs 0) 1)) (w_fi w1 (n_v vs 0) 10) (w_fi w1 (n_v vs 0) 15) (w_fi w1 (n_v vs 0) 5) (w_fi w1 (n_v vs 0) 11) (w_fi w1 (n_v vs 0) 12) (w_ei w1 (w_ar ws (n_v vs 0) 2)) (w_ei w1 (w_ar ws (n_v vs 0) 3)) (w_ei w1 (w_ar ws (n_v vs 0) 4)) (w_fi ws (n_v vs 0) 5) (w_ei ws (w_ar ws (n_v vs 0) 2)) (w_ei ws (w_ar ws (n_v vs 0) 3)) (w_ei ws (w_ar ws (n_v vs 0) 4)) k2 k8 k10 k15 k17 k19 k20 k21 k23 k24 d0 d9 d10 d13 f16 f17 f18 g20 f32 f33 fe_0_5_1 fe_0_10_1 fe_0_11_1 fe_0_12_1 fe_0_15_1 hE_0_1_1 hE_0_2_1 hE_0_3_1 hE_0_4_1 kz_0_10 kz_0_11 kz_0_12 kz_0_15
  refine ⟨(fun _ h => (by cases h)), [], trivial, ?_, (fun _ h => (by cases h))⟩
  rw [List.append_nil]
  exact List.forall_mem_cons.mpr ⟨⟨show (20 : Nat) < 100 from by decide, nf0⟩, List.forall_mem_cons.mpr ⟨⟨show (20 : Nat) < 100 from by decide, nf1⟩, List.forall_mem_cons.mpr ⟨⟨show (20 : Nat) < 100 from by decide, nf2⟩, List.forall_mem_cons.mpr ⟨⟨show (20 : Nat) < 100 from by decide, nf3⟩, (fun _ h => (by cases h))⟩⟩⟩⟩
def n_Mo_met_an : List an_T := [(171, [(0, (2, 0, 0, [165])), (1, (0, 0, 7, [])), (2, (0, (Int.negSucc 0), 23, [])), (3, (0, 0, 23, [])), (4, (0, 0, 0, [])), (5, (0, 0, 8, []))], [], (0, 0), [(0, 0, 99829), (1, 10, 8), (0, 0, 100000)], [(1, 6, (Int.negSucc 999999999999), 0), (2, 7, (Int.negSucc 999999999999), 0), (6, 1, (Int.negSucc 999999999999), 0), (7, 2, (Int.negSucc 999999999999), 0)], [], [(2, 0, 0, [165]), (0, 0, 7, []), (0, (Int.negSucc 0), 23, []), (0, 0, 2000, []), (0, 0, 2000, [])], 0, [], [(20, [5, 5], [30, 0, 1, 1, 15, (Int.negSucc 0), 1, 11]), (20, [5], [50, 3, 0, 12, 11, 15, 2, 21, 4, 7, 1, 3, 2, 0, 12, 0, 1, 0, 3, 2, 0, 11, 4, 3, 2, 0, 15, 0, 8, 3, 7, 1, 3, 2, 0, 12, 0, 0, 0, 7, 4, 3, 2, 0, 15, 0, 1, 2, 0, 11]), (20, [3, 5], [30, 0, 1, 0, 0, (Int.negSucc 0), 1, 11]), (20, [4, 5], [30, (Int.negSucc 0), 1, 0, 0, (Int.negSucc 0), 1, 11]), (20, [5], [50, 1, 0, 12, 1, 3, 2, 0, 12, 0, 1]), (20, [7, 5], [50, 1, 1, 1005, 1002, 3, 6, 0, 2, 1, 0, 0, (Int.negSucc 0), 0, 10, 3, 1, 2, 4, 3, 2, 1, 5, 0, 1, 0, 47]), (20, [6, 5], [50, 1, 1, 1005, 1002, 0, 6, 4, 2, 1, 0, 0, 1, 3, 1, 2, 4, 3, 2, 1, 5, 0, 2]), (20, [5, 8], [60, 1, 3, 200, 5, 2, 3, 4]), (20, [5, 7, 8], [60, 1, 1, 243, 5, 2]), (24, [0, 5], []), (24, [1, 6], []), (24, [2, 7], [])])]
def t_Mo_met_ct : ct_L := [(1, 401, e_Mo_edges), (1, 425, e_Mo_byteAt), (1, 460, e_Mo_next), (1, 463, e_Mo_wrong), (1, 475, e_Mo_nodes), (1, 481, e_Mo_isName), (1, 485, e_Mo_known), (1, 488, e_Mo_between)]
set_option maxRecDepth 100000 in
theorem c_Mo_met {l : Launch} {D : va_G} {kA : Nat → ClassId} (h_Mo_between : ct_ok PRD l D kA GG y_Mo_between z_Mo_between e_Mo_between) (h_Mo_byteAt : ct_ok PRD l D kA GG y_Mo_byteAt z_Mo_byteAt e_Mo_byteAt) (h_Mo_edges : ct_ok PRD l D kA GG y_Mo_edges z_Mo_edges e_Mo_edges) (h_Mo_isName : ct_ok PRD l D kA GG y_Mo_isName z_Mo_isName e_Mo_isName) (h_Mo_known : ct_ok PRD l D kA GG y_Mo_known z_Mo_known e_Mo_known) (h_Mo_next : ct_ok PRD l D kA GG y_Mo_next z_Mo_next e_Mo_next) (h_Mo_nodes : ct_ok PRD l D kA GG y_Mo_nodes z_Mo_nodes e_Mo_nodes) (h_Mo_wrong : ct_ok PRD l D kA GG y_Mo_wrong z_Mo_wrong e_Mo_wrong) : ct_ok PRD l D kA GG y_Mo_met z_Mo_met e_Mo_met := chk_all_ok (FT := [(16, 13, 2), (391, 13, 5), (413, 13, 8), (422, 13, 11), (428, 13, 13), (431, 13, 15)]) (PT := []) (CT := t_Mo_met_ct) (KT := []) (NT := []) (AN := n_Mo_met_an) (OT := [o_Mo_met_0, o_Mo_met_1, o_Mo_met_2, o_Mo_met_3, o_Mo_met_4, o_Mo_met_5, o_Mo_met_6, o_Mo_met_7, o_Mo_met_8, o_Mo_met_9, o_Mo_met_10, o_Mo_met_11, o_Mo_met_12, o_Mo_met_13, o_Mo_met_14, o_Mo_met_15, o_Mo_met_16, o_Mo_met_17, o_Mo_met_18, o_Mo_met_19, o_Mo_met_20, o_Mo_met_21, o_Mo_met_22, o_Mo_met_23, o_Mo_met_24, o_Mo_met_25, o_Mo_met_26, o_Mo_met_27, o_Mo_met_28, o_Mo_met_29, o_Mo_met_30, o_Mo_met_31, o_Mo_met_32, o_Mo_met_33, o_Mo_met_34, o_Mo_met_35, o_Mo_met_36, o_Mo_met_37, o_Mo_met_38, o_Mo_met_39]) 3 1380 (List.forall_mem_cons.mpr ⟨oo_Mo_met_0, List.forall_mem_cons.mpr ⟨oo_Mo_met_1, List.forall_mem_cons.mpr ⟨oo_Mo_met_2, List.forall_mem_cons.mpr ⟨oo_Mo_met_3, List.forall_mem_cons.mpr ⟨oo_Mo_met_4, List.forall_mem_cons.mpr ⟨oo_Mo_met_5, List.forall_mem_cons.mpr ⟨oo_Mo_met_6, List.forall_mem_cons.mpr ⟨oo_Mo_met_7, List.forall_mem_cons.mpr ⟨oo_Mo_met_8, List.forall_mem_cons.mpr ⟨oo_Mo_met_9, List.forall_mem_cons.mpr ⟨oo_Mo_met_10, List.forall_mem_cons.mpr ⟨oo_Mo_met_11, List.forall_mem_cons.mpr ⟨oo_Mo_met_12, List.forall_mem_cons.mpr ⟨oo_Mo_met_13, List.forall_mem_cons.mpr ⟨oo_Mo_met_14, List.forall_mem_cons.mpr ⟨oo_Mo_met_15, List.forall_mem_cons.mpr ⟨oo_Mo_met_16, List.forall_mem_cons.mpr ⟨oo_Mo_met_17, List.forall_mem_cons.mpr ⟨oo_Mo_met_18, List.forall_mem_cons.mpr ⟨oo_Mo_met_19, List.forall_mem_cons.mpr ⟨oo_Mo_met_20, List.forall_mem_cons.mpr ⟨oo_Mo_met_21, List.forall_mem_cons.mpr ⟨oo_Mo_met_22, List.forall_mem_cons.mpr ⟨oo_Mo_met_23, List.forall_mem_cons.mpr ⟨oo_Mo_met_24, List.forall_mem_cons.mpr ⟨oo_Mo_met_25, List.forall_mem_cons.mpr ⟨oo_Mo_met_26, List.forall_mem_cons.mpr ⟨oo_Mo_met_27, List.forall_mem_cons.mpr ⟨oo_Mo_met_28, List.forall_mem_cons.mpr ⟨oo_Mo_met_29, List.forall_mem_cons.mpr ⟨oo_Mo_met_30, List.forall_mem_cons.mpr ⟨oo_Mo_met_31, List.forall_mem_cons.mpr ⟨oo_Mo_met_32, List.forall_mem_cons.mpr ⟨oo_Mo_met_33, List.forall_mem_cons.mpr ⟨oo_Mo_met_34, List.forall_mem_cons.mpr ⟨oo_Mo_met_35, List.forall_mem_cons.mpr ⟨oo_Mo_met_36, List.forall_mem_cons.mpr ⟨oo_Mo_met_37, List.forall_mem_cons.mpr ⟨oo_Mo_met_38, List.forall_mem_cons.mpr ⟨oo_Mo_met_39, List.forall_mem_nil _⟩⟩⟩⟩⟩⟩⟩⟩⟩⟩⟩⟩⟩⟩⟩⟩⟩⟩⟩⟩⟩⟩⟩⟩⟩⟩⟩⟩⟩⟩⟩⟩⟩⟩⟩⟩⟩⟩⟩⟩) (by decide +kernel) ⟨List.forall_mem_cons.mpr ⟨gf_Mo_16, List.forall_mem_cons.mpr ⟨gf_Mo_391, List.forall_mem_cons.mpr ⟨gf_Mo_413, List.forall_mem_cons.mpr ⟨gf_Mo_422, List.forall_mem_cons.mpr ⟨gf_Mo_428, List.forall_mem_cons.mpr ⟨gf_Mo_431, List.forall_mem_nil _⟩⟩⟩⟩⟩⟩, List.forall_mem_nil _, List.forall_mem_cons.mpr ⟨cl_virtual (y := y_Mo_edges) (ci := 13) rfl rfl ⟨_, _, rfl⟩ (by decide +kernel) h_Mo_edges wm_3037 wm_9 wm_3034 wm_3036 wv_13_6 ⟨by decide, by decide, by decide +kernel⟩ (by decide), List.forall_mem_cons.mpr ⟨cl_virtual (y := y_Mo_byteAt) (ci := 13) rfl rfl ⟨_, _, rfl⟩ (by decide +kernel) h_Mo_byteAt wm_2986 wm_9 wm_2983 wm_2985 wv_12_12 ⟨by decide, by decide, by decide +kernel⟩ (by decide), List.forall_mem_cons.mpr ⟨cl_virtual (y := y_Mo_next) (ci := 13) rfl rfl ⟨_, _, rfl⟩ (by decide +kernel) h_Mo_next wm_2982 wm_9 wm_2979 wm_2981 wv_12_11 ⟨by decide, by decide, by decide +kernel⟩ (by decide), List.forall_mem_cons.mpr ⟨cl_virtual (y := y_Mo_wrong) (ci := 13) rfl rfl ⟨_, _, rfl⟩ (by decide +kernel) h_Mo_wrong wm_3017 wm_9 wm_3014 wm_3016 wv_13_1 ⟨by decide, by decide, by decide +kernel⟩ (by decide), List.forall_mem_cons.mpr ⟨cl_virtual (y := y_Mo_nodes) (ci := 13) rfl rfl ⟨_, _, rfl⟩ (by decide +kernel) h_Mo_nodes wm_3025 wm_9 wm_3022 wm_3024 wv_13_3 ⟨by decide, by decide, by decide +kernel⟩ (by decide), List.forall_mem_cons.mpr ⟨cl_virtual (y := y_Mo_isName) (ci := 13) rfl rfl ⟨_, _, rfl⟩ (by decide +kernel) h_Mo_isName wm_3012 wm_9 wm_3009 wm_3011 wv_13_0 ⟨by decide, by decide, by decide +kernel⟩ (by decide), List.forall_mem_cons.mpr ⟨cl_virtual (y := y_Mo_known) (ci := 13) rfl rfl ⟨_, _, rfl⟩ (by decide +kernel) h_Mo_known wm_3021 wm_9 wm_3018 wm_3020 wv_13_2 ⟨by decide, by decide, by decide +kernel⟩ (by decide), List.forall_mem_cons.mpr ⟨cl_virtual (y := y_Mo_between) (ci := 13) rfl rfl ⟨_, _, rfl⟩ (by decide +kernel) h_Mo_between wm_3033 wm_9 wm_3030 wm_3032 wv_13_5 ⟨by decide, by decide, by decide +kernel⟩ (by decide), List.forall_mem_nil _⟩⟩⟩⟩⟩⟩⟩⟩, List.forall_mem_nil _, List.forall_mem_nil _, GG_pl⟩ (by decide +kernel)
set_option maxHeartbeats 4000000 in
theorem vc_Fa_learn_0_0 (x2 : Int) (known_0 : Int) (tail_0o1 : Int → Int) (head_0o1 : Int → Int) (nodes_0o1 : Int) (edges_0o1 : Int) (near_0o1 : Int → Int) (tail_1o1 : Int → Int) (head_1o1 : Int → Int) (nodes_1o1 : Int) (edges_1o1 : Int) (near_1o1 : Int → Int) (k2 : 1 ≤ x2 ∧ x2 ≤ 1) (g0 : x2 = known_0) (fe_1_0_1 : nodes_0o1 = nodes_1o1) (fe_1_1_1 : edges_0o1 = edges_1o1) (hE_1_7_1 : ∀ j : Int, tail_0o1 j = tail_1o1 j) (hE_1_8_1 : ∀ j : Int, head_0o1 j = head_1o1 j) (hE_1_14_1 : ∀ j : Int, near_0o1 j = near_1o1 j) (kz_0_0 : 0 ≤ known_0 ∧ known_0 ≤ 1) (kz_1_0 : 0 ≤ nodes_0o1 ∧ nodes_0o1 ≤ 24) (kz_1_1 : 0 ≤ edges_0o1 ∧ edges_0o1 ≤ 48) : known_0 ≠ 0 := by
  subst fe_1_0_1
  subst fe_1_1_1
  have e_hE_1_7_1 := funext hE_1_7_1; subst e_hE_1_7_1
  have e_hE_1_8_1 := funext hE_1_8_1; subst e_hE_1_8_1
  have e_hE_1_14_1 := funext hE_1_14_1; subst e_hE_1_14_1
  first
    | omega
    | (have q := lbl_le ‹LBL _ _ _› (by omega); omega)
  
def o_Fa_learn_0 : or_T := (6, 3, [(0, (2, 0, 0, [2])), (1, (2, 0, 0, [3])), (2, (0, 1, 1, []))], [(9, [2, 0], [0]), (101, [0, 2], [0])], [], [], [(20, [0], [50, 1, 0, 0, 7, 3, 2, 0, 0, 0, 0])], [], [])
theorem oo_Fa_learn_0 {kA : Nat → ClassId} : or_ok PRD kA GG o_Fa_learn_0 := by
  refine or_mk fun A ta ws vs hD hth hl => ?_
  intro t0 r0 t1 r1 t2 k2 f0 ta1 w1 le1 s1
  replace f0 := shm_175 f0
  have s1 : (∀ b j, w_el ws b j = w_el w1 b j) ∧ ∀ b j, w_fd ws b j = if b = v_ad (n_v vs 0) ∧ j = 0 then n_v vs 2 else w_fd w1 b j := s1.2
  have g0 : v_iv (n_v vs 2) = w_fi ws (n_v vs 0) 0 := congrArg v_iv f0
  have fe_1_0_1 : w_fi ws (n_v vs 1) 0 = w_fi w1 (n_v vs 1) 0 := by show v_iv (w_fd _ _ _) = v_iv (w_fd _ _ _); rw [s1.2, if_neg (fun e => by have e1 := e.1; have e2 := r1; rw [e1, r0] at e2; exact absurd (Option.some.inj e2) (by decide))]
  have fe_1_1_1 : w_fi ws (n_v vs 1) 1 = w_fi w1 (n_v vs 1) 1 := by show v_iv (w_fd _ _ _) = v_iv (w_fd _ _ _); rw [s1.2, if_neg (fun e => absurd e.2 (by decide))]
  have hE_1_7_1 : ∀ j : Int, w_ei ws (w_ar ws (n_v vs 1) 7) j = w_ei w1 (w_ar ws (n_v vs 1) 7) j := fun j => s1.1 _ _
  have hE_1_8_1 : ∀ j : Int, w_ei ws (w_ar ws (n_v vs 1) 8) j = w_ei w1 (w_ar ws (n_v vs 1) 8) j := fun j => s1.1 _ _
  have hE_1_14_1 : ∀ j : Int, w_ei ws (w_ar ws (n_v vs 1) 14) j = w_ei w1 (w_ar ws (n_v vs 1) 14) j := fun j => s1.1 _ _
  have kz_0_0 := fdq_288 hD hth r0
  have kz_1_0 := fdq_23 hD hth r1
  have kz_1_1 := fdq_38 hD hth r1
  have nf0 : fc_1 PRD (20, [0], [50, 1, 0, 0, 7, 3, 2, 0, 0, 0, 0]) ws (vs) := ⟨nf_in hl rfl, sgq_1985 (vc_Fa_learn_0_0 (v_iv (n_v vs 2)) (w_fi ws (n_v vs 0) 0) (w_ei ws (w_ar ws (n_v vs 1) 7)) (w_ei ws (w_ar ws (n_v vs 1) 8)) (w_fi ws (n_v vs 1) 0) (w_fi ws (n_v vs 1) 1) (w_ei ws (w_ar ws (n_v vs 1) 14)) (w_ei w1 (w_ar ws (n_v vs 1) 7)) (w_ei w1 (w_ar ws (n_v vs 1) 8)) (w_fi w1 (n_v vs 1) 0) (w_fi w1 (n_v vs 1) 1) (w_ei w1 (w_ar ws (n_v vs 1) 14)) k2 g0 fe_1_0_1 fe_1_1_1 hE_1_7_1 hE_1_8_1 hE_1_14_1 kz_0_0 kz_1_0 kz_1_1)⟩
  refine ⟨(fun _ h => (by cases h)), [], trivial, ?_, (fun _ h => (by cases h))⟩
  rw [List.append_nil]
  exact List.forall_mem_cons.mpr ⟨⟨show (20 : Nat) < 100 from by decide, nf0⟩, (fun _ h => (by cases h))⟩
set_option maxHeartbeats 4000000 in
theorem vc_Fa_learn_1_0 (x3 : Int) (x4 : Int) (x9 : Int) (blocks_0 : Int) (edges_0o1 : Int) (nodes_0o1 : Int) (known_0 : Int) (tail_0o1 : Int → Int) (head_0o1 : Int → Int) (near_0o1 : Int → Int) (part_0 : Int → Int) (parts_0 : Int) (a8_0 : Int → Int) (known_1 : Int) (tail_1o1 : Int → Int) (head_1o1 : Int → Int) (nodes_1o1 : Int) (edges_1o1 : Int) (near_1o1 : Int → Int) (part_1 : Int → Int) (parts_1 : Int) (a8_1 : Int → Int) (k3 : 0 ≤ x3 ∧ x3 ≤ 24) (k4 : 0 ≤ x4 ∧ x4 ≤ 48) (k9 : 0 ≤ x9 ∧ x9 ≤ 48) (g0 : x9 = blocks_0) (g4 : x4 = edges_0o1) (g5 : x3 = nodes_0o1) (f17 : GKE (nodes_1o1) (edges_1o1) (tail_1o1) (head_1o1)) (f18 : GNB (nodes_1o1) (edges_1o1) (near_1o1) (tail_1o1) (head_1o1)) (f23 : BKL (tail_1o1) (head_1o1) (near_1o1) (x3) (x4) (x9)) (fe_0_0_1 : known_0 = known_1) (fe_0_1_1 : parts_0 = parts_1) (fe_1_0_1 : nodes_0o1 = nodes_1o1) (fe_1_1_1 : edges_0o1 = edges_1o1) (hE_0_4_1 : ∀ j : Int, part_0 j = part_1 j) (hE_1_7_1 : ∀ j : Int, tail_0o1 j = tail_1o1 j) (hE_1_8_1 : ∀ j : Int, head_0o1 j = head_1o1 j) (hE_1_14_1 : ∀ j : Int, near_0o1 j = near_1o1 j) (hE_8_999_1 : ∀ j : Int, a8_0 j = a8_1 j) (kz_0_0 : 0 ≤ known_0 ∧ known_0 ≤ 1) (kz_0_1 : 0 ≤ parts_0 ∧ parts_0 ≤ 24) (kz_0_2 : 0 ≤ blocks_0 ∧ blocks_0 ≤ 48) (kz_1_0 : 0 ≤ nodes_0o1 ∧ nodes_0o1 ≤ 24) (kz_1_1 : 0 ≤ edges_0o1 ∧ edges_0o1 ≤ 48) : BKS (nodes_0o1) (edges_0o1) (blocks_0) (near_0o1) (tail_0o1) (head_0o1) := by
  subst fe_0_0_1
  subst fe_0_1_1
  subst fe_1_0_1
  subst fe_1_1_1
  have e_hE_0_4_1 := funext hE_0_4_1; subst e_hE_0_4_1
  have e_hE_1_7_1 := funext hE_1_7_1; subst e_hE_1_7_1
  have e_hE_1_8_1 := funext hE_1_8_1; subst e_hE_1_8_1
  have e_hE_1_14_1 := funext hE_1_14_1; subst e_hE_1_14_1
  have e_hE_8_999_1 := funext hE_8_999_1; subst e_hE_8_999_1
  first
    | assumption
    | (have h := (‹BKL _ _ _ _ _ _›)
       rw [(by assumption : x3 = nodes_0o1), (by assumption : x4 = edges_0o1), (by assumption : x9 = blocks_0)] at h
       exact bks_of h ‹GNB _ _ _ _ _› ‹GKE _ _ _ _› (by omega))
  
def o_Fa_learn_1 : or_T := (41, 10, [(0, (2, 0, 0, [2])), (1, (2, 0, 0, [3])), (3, (0, 0, 24, [])), (4, (0, 0, 48, [])), (9, (0, 0, 48, []))], [(9, [9, 0], [2]), (9, [7, 1], [14]), (9, [6, 1], [8]), (9, [5, 1], [7]), (9, [4, 1], [1]), (9, [3, 1], [0]), (101, [0, 9], [2]), (20, [1], [60, 2, 2, 596, 0, 1, 7, 8]), (20, [1], [60, 2, 3, 670, 0, 1, 14, 7, 8]), (20, [5, 6, 7, 3, 4, 9], [61, 3, 594])], [], [], [(20, [1, 0], [60, 3, 3, 673, 0, 1, 1002, 14, 7, 8])], [], [])
theorem oo_Fa_learn_1 {kA : Nat → ClassId} : or_ok PRD kA GG o_Fa_learn_1 := by
  refine or_mk fun A ta ws vs hD hth hl => ?_
  intro t0 r0 t1 r1 t3 k3 t4 k4 t9 k9 f0 f1 f2 f3 f4 f5 ta1 w1 le1 s1 f17 f18 f23
  replace f0 := shm_129 f0
  replace f1 := shm_116 f1
  replace f2 := shm_143 f2
  replace f3 := shm_216 f3
  replace f4 := shm_127 f4
  replace f5 := shm_175 f5
  have s1 : (∀ b j, w_el ws b j = w_el w1 b j) ∧ ∀ b j, w_fd ws b j = if b = v_ad (n_v vs 0) ∧ j = 2 then n_v vs 9 else w_fd w1 b j := s1.2
  replace f17 := shm_401 f17
  replace f18 := shm_811 f18
  replace f23 := shm_1543 f23
  have ar_0_4_1 : w_ar w1 (n_v vs 0) 4 = w_ar ws (n_v vs 0) 4 := by show v_ad (w_fd w1 _ _) = v_ad (w_fd ws _ _); rw [s1.2, if_neg (fun e => absurd e.2 (by decide))]
  have ar_1_7_1 : w_ar w1 (n_v vs 1) 7 = w_ar ws (n_v vs 1) 7 := by show v_ad (w_fd w1 _ _) = v_ad (w_fd ws _ _); rw [s1.2, if_neg (fun e => absurd e.2 (by decide))]
  have ar_1_8_1 : w_ar w1 (n_v vs 1) 8 = w_ar ws (n_v vs 1) 8 := by show v_ad (w_fd w1 _ _) = v_ad (w_fd ws _ _); rw [s1.2, if_neg (fun e => absurd e.2 (by decide))]
  have ar_1_14_1 : w_ar w1 (n_v vs 1) 14 = w_ar ws (n_v vs 1) 14 := by show v_ad (w_fd w1 _ _) = v_ad (w_fd ws _ _); rw [s1.2, if_neg (fun e => absurd e.2 (by decide))]
  have ad_7 : v_ad (n_v vs 7) = w_ar ws (n_v vs 1) 14 := congrArg v_ad f1
  have ad_6 : v_ad (n_v vs 6) = w_ar ws (n_v vs 1) 8 := congrArg v_ad f2
  have ad_5 : v_ad (n_v vs 5) = w_ar ws (n_v vs 1) 7 := congrArg v_ad f3
  have g0 : v_iv (n_v vs 9) = w_fi ws (n_v vs 0) 2 := congrArg v_iv f0
  have g4 : v_iv (n_v vs 4) = w_fi ws (n_v vs 1) 1 := congrArg v_iv f4
  have g5 : v_iv (n_v vs 3) = w_fi ws (n_v vs 1) 0 := congrArg v_iv f5
  simp only [ad_5, ad_6, ad_7, ar_1_7_1, ar_1_8_1, ar_1_14_1, ar_0_4_1] at f17 f18 f23
  have fe_0_0_1 : w_fi ws (n_v vs 0) 0 = w_fi w1 (n_v vs 0) 0 := by show v_iv (w_fd _ _ _) = v_iv (w_fd _ _ _); rw [s1.2, if_neg (fun e => absurd e.2 (by decide))]
  have fe_0_1_1 : w_fi ws (n_v vs 0) 1 = w_fi w1 (n_v vs 0) 1 := by show v_iv (w_fd _ _ _) = v_iv (w_fd _ _ _); rw [s1.2, if_neg (fun e => absurd e.2 (by decide))]
  have fe_1_0_1 : w_fi ws (n_v vs 1) 0 = w_fi w1 (n_v vs 1) 0 := by show v_iv (w_fd _ _ _) = v_iv (w_fd _ _ _); rw [s1.2, if_neg (fun e => absurd e.2 (by decide))]
  have fe_1_1_1 : w_fi ws (n_v vs 1) 1 = w_fi w1 (n_v vs 1) 1 := by show v_iv (w_fd _ _ _) = v_iv (w_fd _ _ _); rw [s1.2, if_neg (fun e => absurd e.2 (by decide))]
  have hE_0_4_1 : ∀ j : Int, w_ei ws (w_ar ws (n_v vs 0) 4) j = w_ei w1 (w_ar ws (n_v vs 0) 4) j := fun j => s1.1 _ _
  have hE_1_7_1 : ∀ j : Int, w_ei ws (w_ar ws (n_v vs 1) 7) j = w_ei w1 (w_ar ws (n_v vs 1) 7) j := fun j => s1.1 _ _
  have hE_1_8_1 : ∀ j : Int, w_ei ws (w_ar ws (n_v vs 1) 8) j = w_ei w1 (w_ar ws (n_v vs 1) 8) j := fun j => s1.1 _ _
  have hE_1_14_1 : ∀ j : Int, w_ei ws (w_ar ws (n_v vs 1) 14) j = w_ei w1 (w_ar ws (n_v vs 1) 14) j := fun j => s1.1 _ _
  have hE_8_999_1 : ∀ j : Int, w_ei ws (v_ad (n_v vs 8)) j = w_ei w1 (v_ad (n_v vs 8)) j := fun j => s1.1 _ _
  have kz_0_0 := fdq_288 hD hth r0
  have kz_0_1 := fdq_270 hD hth r0
  have kz_0_2 := fdq_289 hD hth r0
  have kz_1_0 := fdq_23 hD hth r1
  have kz_1_1 := fdq_38 hD hth r1
  have nf0 : fc_1 PRD (20, [1, 0], [60, 3, 3, 673, 0, 1, 1002, 14, 7, 8]) ws (vs) := ⟨nf_in hl rfl, sgq_1986 (vc_Fa_learn_1_0 (v_iv (n_v vs 3)) (v_iv (n_v vs 4)) (v_iv (n_v vs 9)) (w_fi ws (n_v vs 0) 2) (w_fi ws (n_v vs 1) 1) (w_fi ws (n_v vs 1) 0) (w_fi ws (n_v vs 0) 0) (w_ei ws (w_ar ws (n_v vs 1) 7)) (w_ei ws (w_ar ws (n_v vs 1) 8)) (w_ei ws (w_ar ws (n_v vs 1) 14)) (w_ei ws (w_ar ws (n_v vs 0) 4)) (w_fi ws (n_v vs 0) 1) (w_ei ws (v_ad (n_v vs 8))) (w_fi w1 (n_v vs 0) 0) (w_ei w1 (w_ar ws (n_v vs 1) 7)) (w_ei w1 (w_ar ws (n_v vs 1) 8)) (w_fi w1 (n_v vs 1) 0) (w_fi w1 (n_v vs 1) 1) (w_ei w1 (w_ar ws (n_v vs 1) 14)) (w_ei w1 (w_ar ws (n_v vs 0) 4)) (w_fi w1 (n_v vs 0) 1) (w_ei w1 (v_ad (n_v vs 8))) k3 k4 k9 g0 g4 g5 f17 f18 f23 fe_0_0_1 fe_0_1_1 fe_1_0_1 fe_1_1_1 hE_0_4_1 hE_1_7_1 hE_1_8_1 hE_1_14_1 hE_8_999_1 kz_0_0 kz_0_1 kz_0_2 kz_1_0 kz_1_1)⟩
  refine ⟨(fun _ h => (by cases h)), [], trivial, ?_, (fun _ h => (by cases h))⟩
  rw [List.append_nil]
  exact List.forall_mem_cons.mpr ⟨⟨show (20 : Nat) < 100 from by decide, nf0⟩, (fun _ h => (by cases h))⟩
def n_Fa_learn_an : List an_T := []
def t_Fa_learn_ct : ct_L := [(1, 60, e_Fa_learnParts), (1, 85, e_Fa_learnBlocksAt), (1, 88, e_Fa_learnStrong), (1, 91, e_Fa_learnCore), (1, 94, e_Fa_learnTurned), (108, 81, e_Fa_blocksOf_at_Grtail_Grhead_Grnear_Fablock)]
set_option maxRecDepth 100000 in
theorem c_Fa_learn {l : Launch} {D : va_G} {kA : Nat → ClassId} (h_Fa_blocksOf_at_Grtail_Grhead_Grnear_Fablock : ct_ok PRD l D kA GG y_Fa_blocksOf_at_Grtail_Grhead_Grnear_Fablock z_Fa_blocksOf_at_Grtail_Grhead_Grnear_Fablock e_Fa_blocksOf_at_Grtail_Grhead_Grnear_Fablock) (h_Fa_learnBlocksAt : ct_ok PRD l D kA GG y_Fa_learnBlocksAt z_Fa_learnBlocksAt e_Fa_learnBlocksAt) (h_Fa_learnCore : ct_ok PRD l D kA GG y_Fa_learnCore z_Fa_learnCore e_Fa_learnCore) (h_Fa_learnParts : ct_ok PRD l D kA GG y_Fa_learnParts z_Fa_learnParts e_Fa_learnParts) (h_Fa_learnStrong : ct_ok PRD l D kA GG y_Fa_learnStrong z_Fa_learnStrong e_Fa_learnStrong) (h_Fa_learnTurned : ct_ok PRD l D kA GG y_Fa_learnTurned z_Fa_learnTurned e_Fa_learnTurned) : ct_ok PRD l D kA GG y_Fa_learn z_Fa_learn e_Fa_learn := chk_all_ok (FT := [(29, 2, 5), (64, 3, 0), (69, 3, 1), (72, 3, 7), (75, 3, 8), (78, 3, 14)]) (PT := [(9, 2, 0, .boolean), (19, 2, 2, .int)]) (CT := t_Fa_learn_ct) (KT := []) (NT := []) (AN := n_Fa_learn_an) (OT := [o_Fa_learn_0, o_Fa_learn_1]) 0 200 (List.forall_mem_cons.mpr ⟨oo_Fa_learn_0, List.forall_mem_cons.mpr ⟨oo_Fa_learn_1, List.forall_mem_nil _⟩⟩) (by decide +kernel) ⟨List.forall_mem_cons.mpr ⟨gf_Fa_29, List.forall_mem_cons.mpr ⟨gf_Fa_64, List.forall_mem_cons.mpr ⟨gf_Fa_69, List.forall_mem_cons.mpr ⟨gf_Fa_72, List.forall_mem_cons.mpr ⟨gf_Fa_75, List.forall_mem_cons.mpr ⟨gf_Fa_78, List.forall_mem_nil _⟩⟩⟩⟩⟩⟩, List.forall_mem_cons.mpr ⟨pf_Fa_9, List.forall_mem_cons.mpr ⟨pf_Fa_19, List.forall_mem_nil _⟩⟩, List.forall_mem_cons.mpr ⟨cl_virtual (y := y_Fa_learnParts) (ci := 2) rfl rfl ⟨_, _, rfl⟩ (by decide +kernel) h_Fa_learnParts wm_818 wm_7 wm_815 wm_817 wv_1_15 ⟨by decide, by decide, by decide +kernel⟩ (by decide), List.forall_mem_cons.mpr ⟨cl_virtual (y := y_Fa_learnBlocksAt) (ci := 2) rfl rfl ⟨_, _, rfl⟩ (by decide +kernel) h_Fa_learnBlocksAt wm_844 wm_7 wm_841 wm_843 wv_2_0 ⟨by decide, by decide, by decide +kernel⟩ (by decide), List.forall_mem_cons.mpr ⟨cl_virtual (y := y_Fa_learnStrong) (ci := 2) rfl rfl ⟨_, _, rfl⟩ (by decide +kernel) h_Fa_learnStrong wm_854 wm_7 wm_851 wm_853 wv_2_1 ⟨by decide, by decide, by decide +kernel⟩ (by decide), List.forall_mem_cons.mpr ⟨cl_virtual (y := y_Fa_learnCore) (ci := 2) rfl rfl ⟨_, _, rfl⟩ (by decide +kernel) h_Fa_learnCore wm_863 wm_7 wm_860 wm_862 wv_2_3 ⟨by decide, by decide, by decide +kernel⟩ (by decide), List.forall_mem_cons.mpr ⟨cl_virtual (y := y_Fa_learnTurned) (ci := 2) rfl rfl ⟨_, _, rfl⟩ (by decide +kernel) h_Fa_learnTurned wm_877 wm_7 wm_874 wm_876 wv_2_5 ⟨by decide, by decide, by decide +kernel⟩ (by decide), List.forall_mem_cons.mpr ⟨cl_static (y := y_Fa_blocksOf_at_Grtail_Grhead_Grnear_Fablock) h_Fa_blocksOf_at_Grtail_Grhead_Grnear_Fablock wm_830 wm_7 wm_828 wm_829 ⟨by decide, by decide, by decide +kernel⟩ (by decide), List.forall_mem_nil _⟩⟩⟩⟩⟩⟩, List.forall_mem_nil _, List.forall_mem_nil _, GG_pl⟩ (by decide +kernel)
def o_Ho_learned_0 : or_T := (33, 6, [(0, (2, 0, 0, [12])), (1, (0, 0, 3, [])), (2, (2, 0, 0, [132])), (3, (2, 0, 0, [2])), (5, (2, 0, 0, [2]))], [(14, [5, 2, 1], []), (9, [2, 0], [1]), (14, [3, 2, 1], [])], [], [], [(24, [3, 5], [])], [], [])
theorem oo_Ho_learned_0 {kA : Nat → ClassId} : or_ok PRD kA GG o_Ho_learned_0 := by
  refine or_mk fun A ta ws vs hD hth hl => ?_
  intro t0 r0 t1 k1 t2 r2 t3 r3 t5 r5 f0 f1 f2
  replace f0 := shm_779 f0
  replace f1 := shm_127 f1
  replace f2 := shm_779 f2
  have nf0 : fc_1 PRD (24, [3, 5], []) ws (vs) := by
    refine ⟨nf_in hl rfl, sgq_5 ?_⟩
    · show n_v vs 3 = n_v vs 5
      exact ref_same t3 t5 rfl rfl ((pO_of f1 f2).trans (pO_of f1 f0).symm)
  refine ⟨(fun _ h => (by cases h)), [], trivial, ?_, (fun _ h => (by cases h))⟩
  rw [List.append_nil]
  exact List.forall_mem_cons.mpr ⟨⟨show (24 : Nat) < 100 from by decide, nf0⟩, (fun _ h => (by cases h))⟩
set_option maxHeartbeats 4000000 in
theorem vc_Ho_learned_1_1 (x4 : Int) (known_0o3 : Int) (k4 : 1 ≤ x4 ∧ x4 ≤ 1) (g4 : x4 = known_0o3) (kz_3_0 : 0 ≤ known_0o3 ∧ known_0o3 ≤ 1) : known_0o3 ≠ 0 := by
  first
    | omega
  
def o_Ho_learned_1 : or_T := (33, 6, [(0, (2, 0, 0, [12])), (1, (0, 0, 3, [])), (2, (2, 0, 0, [132])), (3, (2, 0, 0, [2])), (4, (0, 1, 1, [])), (5, (2, 0, 0, [2]))], [(24, [3, 5], []), (14, [5, 2, 1], []), (9, [2, 0], [1]), (8, [4], [1]), (9, [4, 3], [0]), (20, [0], [62, 0])], [], [], [(20, [0, 1, 5], [62, 135]), (20, [5], [50, 1, 0, 0, 7, 3, 2, 0, 0, 0, 0])], [], [])
theorem oo_Ho_learned_1 {kA : Nat → ClassId} : or_ok PRD kA GG o_Ho_learned_1 := by
  refine or_mk fun A ta ws vs hD hth hl => ?_
  intro t0 r0 t1 k1 t2 r2 t3 r3 t4 k4 t5 r5 f0 f1 f2 f3 f4 f5
  replace f0 := shm_5 f0
  replace f1 := shm_779 f1
  replace f2 := shm_127 f2
  replace f3 := shm_154 f3
  replace f4 := shm_175 f4
  replace f5 := shm_1145 f5
  have q5 : n_v vs 5 = n_v vs 3 := f0.symm
  simp only [q5] at f1
  have cr_0_1 := fdq_318 hD hth r0
  have ad_2 : v_ad (n_v vs 2) = w_ar ws (n_v vs 0) 1 := congrArg v_ad f2
  have g4 : v_iv (n_v vs 4) = w_fi ws (n_v vs 3) 0 := congrArg v_iv f4
  have kz_3_0 := fdq_288 hD hth r3
  have nf0 : fc_1 PRD (20, [0, 1, 5], [62, 135]) ws (vs) := by
    refine ⟨nf_in hl rfl, sgq_1987 ?_⟩
    · show WQF 135 [n_v vs 0, n_v vs 1, n_v vs 5] ws
      first | rw [q5] | skip
      have zw := f5
      exact wq_in (zw) (by omega) (by omega) ⟨rfl, rfl⟩ ⟨Or.inr (pO_of f2 f1), trivial⟩
  have nf1 : fc_1 PRD (20, [5], [50, 1, 0, 0, 7, 3, 2, 0, 0, 0, 0]) ws (vs) := by
    refine ⟨nf_in hl rfl, sgq_1985 ?_⟩
    · show w_fi ws (n_v vs 5) 0 ≠ 0
      rw [q5]
      exact vc_Ho_learned_1_1 (v_iv (n_v vs 4)) (w_fi ws (n_v vs 3) 0) k4 g4 kz_3_0
  refine ⟨(fun _ h => (by cases h)), [], trivial, ?_, (fun _ h => (by cases h))⟩
  rw [List.append_nil]
  exact List.forall_mem_cons.mpr ⟨⟨show (20 : Nat) < 100 from by decide, nf0⟩, List.forall_mem_cons.mpr ⟨⟨show (20 : Nat) < 100 from by decide, nf1⟩, (fun _ h => (by cases h))⟩⟩
set_option maxHeartbeats 4000000 in
theorem vc_Ho_learned_2_1 (x1 : Int) (gy : Int) (k1 : 0 ≤ x1 ∧ x1 ≤ 3) (ey2 : gy = x1) : 1 * gy + ((-1) * x1 + 0) ≤ 0 := by
  first
    | omega
  
set_option maxHeartbeats 4000000 in
theorem vc_Ho_learned_2_2 (x1 : Int) (gy : Int) (k1 : 0 ≤ x1 ∧ x1 ≤ 3) (ey2 : gy = x1) : (-1) * gy + (1 * x1 + 0) ≤ 0 := by
  first
    | omega
  
def o_Ho_learned_2 : or_T := (24, 8, [(0, (2, 0, 0, [12])), (1, (0, 0, 3, [])), (2, (2, 0, 0, [132])), (5, (2, 0, 0, [2])), (6, (2, 0, 0, [131])), (7, (2, 0, 0, [3]))], [(14, [7, 6, 1], []), (9, [6, 0], [0]), (14, [5, 2, 1], []), (9, [2, 0], [1]), (20, [0], [62, 0])], [], [(2, 0, 0, [12]), (0, 0, 3, [])], [(24, [0, 8], []), (23, [9, 1], [0, 1, -1]), (23, [9, 1], [0, -1, 1]), (20, [8, 9, 5, 7], [62, 391])], [], [])
theorem oo_Ho_learned_2 {kA : Nat → ClassId} : or_ok PRD kA GG o_Ho_learned_2 := by
  refine or_mk fun A ta ws vs hD hth hl => ?_
  intro t0 r0 t1 k1 t2 r2 t5 r5 t6 r6 t7 r7 f0 f1 f2 f3 f4
  replace f0 := shm_779 f0
  replace f1 := shm_175 f1
  replace f2 := shm_779 f2
  replace f3 := shm_127 f3
  replace f4 := shm_1145 f4
  have cr_0_0 := fdq_303 hD hth r0
  have cr_0_1 := fdq_318 hD hth r0
  have ad_6 : v_ad (n_v vs 6) = w_ar ws (n_v vs 0) 0 := congrArg v_ad f1
  have ad_2 : v_ad (n_v vs 2) = w_ar ws (n_v vs 0) 1 := congrArg v_ad f3
  obtain ⟨y, ey, hy⟩ := iv_ex (ta := ta) (lo := 0) (hi := 3) (z := v_iv (n_v vs 1)) (by omega) (by omega) (by omega) (by omega)
  have ey2 : v_iv (Value.int y) = v_iv (n_v vs 1) := ey
  have ey3 : 0 ≤ v_iv (Value.int y) ∧ v_iv (Value.int y) ≤ 3 := tv_rng hy
  have e_0 : n_v (vs ++ [n_v vs 0, Value.int y]) 0 = n_v vs 0 := n_v_old (by rw [hl]; decide)
  have e_1 : n_v (vs ++ [n_v vs 0, Value.int y]) 1 = n_v vs 1 := n_v_old (by rw [hl]; decide)
  have e_5 : n_v (vs ++ [n_v vs 0, Value.int y]) 5 = n_v vs 5 := n_v_old (by rw [hl]; decide)
  have e_7 : n_v (vs ++ [n_v vs 0, Value.int y]) 7 = n_v vs 7 := n_v_old (by rw [hl]; decide)
  have e_8 : n_v (vs ++ [n_v vs 0, Value.int y]) 8 = n_v vs 0 := n_v_new0 hl
  have e_9 : n_v (vs ++ [n_v vs 0, Value.int y]) 9 = Value.int y := n_v_new1 hl
  have nf0 : fc_1 PRD (24, [0, 8], []) ws (vs ++ [n_v vs 0, Value.int y]) := by
    refine ⟨nf_inA hl rfl, sgq_5 ?_⟩
    · show n_v (vs ++ [n_v vs 0, Value.int y]) 0 = n_v (vs ++ [n_v vs 0, Value.int y]) 8
      first | rfl | simp only [e_0, e_8]
  have nf1 : fc_1 PRD (23, [9, 1], [0, 1, -1]) ws (vs ++ [n_v vs 0, Value.int y]) := by
    refine ⟨nf_inA hl rfl, sgq_7 ?_⟩
    · show 1 * v_iv (n_v (vs ++ [n_v vs 0, Value.int y]) 9) + ((-1) * v_iv (n_v (vs ++ [n_v vs 0, Value.int y]) 1) + 0) ≤ 0
      simp only [e_1, e_9]
      exact vc_Ho_learned_2_1 (v_iv (n_v vs 1)) (v_iv (Value.int y)) k1 ey2
  have nf2 : fc_1 PRD (23, [9, 1], [0, -1, 1]) ws (vs ++ [n_v vs 0, Value.int y]) := by
    refine ⟨nf_inA hl rfl, sgq_22 ?_⟩
    · show (-1) * v_iv (n_v (vs ++ [n_v vs 0, Value.int y]) 9) + (1 * v_iv (n_v (vs ++ [n_v vs 0, Value.int y]) 1) + 0) ≤ 0
      simp only [e_1, e_9]
      exact vc_Ho_learned_2_2 (v_iv (n_v vs 1)) (v_iv (Value.int y)) k1 ey2
  have nf3 : fc_1 PRD (20, [8, 9, 5, 7], [62, 391]) ws (vs ++ [n_v vs 0, Value.int y]) := by
    refine ⟨nf_inA hl rfl, sgq_1988 ?_⟩
    · show WQF 391 [n_v (vs ++ [n_v vs 0, Value.int y]) 8, n_v (vs ++ [n_v vs 0, Value.int y]) 9, n_v (vs ++ [n_v vs 0, Value.int y]) 5, n_v (vs ++ [n_v vs 0, Value.int y]) 7] ws
      simp only [e_5, e_7, e_8, e_9]
      have zw := f4
      exact WQF_int (wq_in (zw) (by omega) (by omega) ⟨rfl, rfl⟩ ⟨Or.inr (pO_of f3 f2), Or.inr (pO_of f1 f0), trivial⟩) ey2
  exact ⟨(fun _ h => (by cases h)), [n_v vs 0, Value.int y], ag_two t0 hy, List.forall_mem_cons.mpr ⟨⟨show (24 : Nat) < 100 from by decide, nf0⟩, List.forall_mem_cons.mpr ⟨⟨show (23 : Nat) < 100 from by decide, nf1⟩, List.forall_mem_cons.mpr ⟨⟨show (23 : Nat) < 100 from by decide, nf2⟩, List.forall_mem_cons.mpr ⟨⟨show (20 : Nat) < 100 from by decide, nf3⟩, (fun _ h => (by cases h))⟩⟩⟩⟩, (fun _ h => (by cases h))⟩
def o_Ho_learned_3 : or_T := (33, 11, [(1, (0, 0, 3, [])), (2, (2, 0, 0, [132])), (5, (2, 0, 0, [2])), (10, (2, 0, 0, [2]))], [(14, [10, 2, 1], []), (102, [9], [281337537757184, 2000, 2001, 2002, 2003]), (14, [5, 2, 1], [])], [], [], [(24, [5, 10], [])], [], [])
theorem oo_Ho_learned_3 {kA : Nat → ClassId} : or_ok PRD kA GG o_Ho_learned_3 := by
  refine or_mk fun A ta ws vs hD hth hl => ?_
  intro t1 k1 t2 r2 t5 r5 t10 r10 f0 ta1 w1 le1 s1 f2
  replace f0 := shm_779 f0
  replace s1 := s1.2
  replace f2 := shm_779 f2
  have nf0 : fc_1 PRD (24, [5, 10], []) ws (vs) := by
    refine ⟨nf_in hl rfl, sgq_5 ?_⟩
    · show n_v vs 5 = n_v vs 10
      obtain ⟨a7, _, e7, _⟩ := tv_ref t5 rfl
      obtain ⟨a9, _, e9, _⟩ := tv_ref t10 rfl
      obtain ⟨a6, _, e6, _⟩ := tv_ref t2 rfl
      obtain ⟨r1, hr1⟩ := Option.isSome_iff_exists.mp (s1.2.2.1 9 List.mem_cons_self 2 (by decide) a6 e6)
      have h6 : ta a6 = some 132 := by have z := r2; rw [e6] at z; exact z
      have er : r1 = 132 := by have z := le1 a6 r1 hr1; rw [h6] at z; exact (Option.some.inj z).symm
      subst er
      have hz := s1.1 a6 132 hr1 (by decide) (v_iv (n_v vs 1)).toNat
      have z9 := f0; have z7 := f2
      rw [e9, e6] at z9; rw [e7, e6] at z7
      have z9 : ((a9 : Nat) : Int) = w_el ws a6 (v_iv (n_v vs 1)).toNat := z9
      have z7 : ((a7 : Nat) : Int) = w_el w1 a6 (v_iv (n_v vs 1)).toNat := z7
      rw [hz, ← z7] at z9
      rw [e7, e9, show a7 = a9 from by omega]
  refine ⟨(fun _ h => (by cases h)), [], trivial, ?_, (fun _ h => (by cases h))⟩
  rw [List.append_nil]
  exact List.forall_mem_cons.mpr ⟨⟨show (24 : Nat) < 100 from by decide, nf0⟩, (fun _ h => (by cases h))⟩
set_option maxHeartbeats 4000000 in
theorem vc_Ho_learned_4_2 (known_0o5 : Int) (f7 : known_0o5 ≠ 0) (kz_5_0 : 0 ≤ known_0o5 ∧ known_0o5 ≤ 1) : known_0o5 ≠ 0 := by
  first
    | omega
  
def o_Ho_learned_4 : or_T := (33, 11, [(0, (2, 0, 0, [12])), (1, (0, 0, 3, [])), (2, (2, 0, 0, [132])), (5, (2, 0, 0, [2])), (8, (2, 0, 0, [12])), (9, (0, 0, 3, [])), (10, (2, 0, 0, [2]))], [(24, [5, 10], []), (14, [10, 2, 1], []), (9, [2, 0], [1]), (24, [0, 8], []), (23, [9, 1], [0, 1, -1]), (23, [9, 1], [0, -1, 1]), (20, [8], [62, 0]), (20, [5], [50, 1, 0, 0, 7, 3, 2, 0, 0, 0, 0]), (102, [9], [281337537757184, 2000, 2001, 2002, 2003]), (23, [9, 1], [0, 1, -1]), (23, [9, 1], [0, -1, 1])], [], [], [(20, [0], [62, 0]), (20, [0, 1, 10], [62, 135]), (20, [10], [50, 1, 0, 0, 7, 3, 2, 0, 0, 0, 0])], [], [])
theorem oo_Ho_learned_4 {kA : Nat → ClassId} : or_ok PRD kA GG o_Ho_learned_4 := by
  refine or_mk fun A ta ws vs hD hth hl => ?_
  intro t0 r0 t1 k1 t2 r2 t5 r5 t8 r8 t9 k9 t10 r10 f0 f1 f2 f3 f4 f5 f6 f7 ta1 w1 le1 s1 f9 f10
  replace f0 := shm_5 f0
  replace f1 := shm_779 f1
  replace f2 := shm_127 f2
  replace f3 := shm_5 f3
  replace f4 := shm_7 f4
  replace f5 := shm_22 f5
  replace f6 := shm_1145 f6
  replace f7 := shm_1985 f7
  replace f9 := shm_7 f9
  replace f10 := shm_22 f10
  have q10 : n_v vs 10 = n_v vs 5 := f0.symm
  have q8 : n_v vs 8 = n_v vs 0 := f3.symm
  simp only [q10, q8] at f1 f6
  have cr_0_1 := fdq_318 hD hth r0
  have ad_2 : v_ad (n_v vs 2) = w_ar ws (n_v vs 0) 1 := congrArg v_ad f2
  have kz_5_0 := fdq_288 hD hth r5
  have nf0 : fc_1 PRD (20, [0], [62, 0]) ws (vs) := by
    refine ⟨nf_in hl rfl, sgq_1145 ?_⟩
    · show WQF 0 [n_v vs 0] ws
      have zw := f6
      first | rw [show n_v vs 8 = n_v vs 0 from (by first | exact f3 | exact f3.symm)] at zw | skip
      exact zw
  have nf1 : fc_1 PRD (20, [0, 1, 10], [62, 135]) ws (vs) := by
    refine ⟨nf_in hl rfl, sgq_1987 ?_⟩
    · show WQF 135 [n_v vs 0, n_v vs 1, n_v vs 10] ws
      first | rw [q10] | skip
      have zw := f6
      first | rw [show n_v vs 8 = n_v vs 0 from (by first | exact f3 | exact f3.symm)] at zw | skip
      exact wq_in (zw) (by omega) (by omega) ⟨rfl, rfl⟩ ⟨Or.inr (pO_of f2 f1), trivial⟩
  have nf2 : fc_1 PRD (20, [10], [50, 1, 0, 0, 7, 3, 2, 0, 0, 0, 0]) ws (vs) := by
    refine ⟨nf_in hl rfl, sgq_1985 ?_⟩
    · show w_fi ws (n_v vs 10) 0 ≠ 0
      rw [q10]
      exact vc_Ho_learned_4_2 (w_fi ws (n_v vs 5) 0) f7 kz_5_0
  refine ⟨(fun _ h => (by cases h)), [], trivial, ?_, (fun _ h => (by cases h))⟩
  rw [List.append_nil]
  exact List.forall_mem_cons.mpr ⟨⟨show (20 : Nat) < 100 from by decide, nf0⟩, List.forall_mem_cons.mpr ⟨⟨show (20 : Nat) < 100 from by decide, nf1⟩, List.forall_mem_cons.mpr ⟨⟨show (20 : Nat) < 100 from by decide, nf2⟩, (fun _ h => (by cases h))⟩⟩⟩
def n_Ho_learned_an : List an_T := []
def t_Ho_learned_ct : ct_L := [(76, 416, e_Fa_learn_f)]
set_option maxRecDepth 100000 in
theorem c_Ho_learned {l : Launch} {D : va_G} {kA : Nat → ClassId} (h_Fa_learn : ct_ok PRD l D kA GG y_Fa_learn z_Fa_learn e_Fa_learn) : ct_ok PRD l D kA GG y_Ho_learned z_Ho_learned e_Ho_learned := chk_all_ok (FT := [(13, 12, 0), (19, 12, 1), (407, 2, 0)]) (PT := []) (CT := t_Ho_learned_ct) (KT := []) (NT := []) (AN := n_Ho_learned_an) (OT := [o_Ho_learned_0, o_Ho_learned_1, o_Ho_learned_2, o_Ho_learned_3, o_Ho_learned_4]) 0 200 (List.forall_mem_cons.mpr ⟨oo_Ho_learned_0, List.forall_mem_cons.mpr ⟨oo_Ho_learned_1, List.forall_mem_cons.mpr ⟨oo_Ho_learned_2, List.forall_mem_cons.mpr ⟨oo_Ho_learned_3, List.forall_mem_cons.mpr ⟨oo_Ho_learned_4, List.forall_mem_nil _⟩⟩⟩⟩⟩) (by decide +kernel) ⟨List.forall_mem_cons.mpr ⟨gf_Ho_13, List.forall_mem_cons.mpr ⟨gf_Ho_19, List.forall_mem_cons.mpr ⟨gf_Ho_407, List.forall_mem_nil _⟩⟩⟩, List.forall_mem_nil _, List.forall_mem_cons.mpr ⟨cl_virtual (y := y_Fa_learn) (ci := 2) rfl rfl ⟨_, _, rfl⟩ (by decide +kernel) (cf_Fa_learn h_Fa_learn) wm_814 wm_7 wm_811 wm_812 wm_813 ⟨by decide, by decide, by decide +kernel⟩ (by decide), List.forall_mem_nil _⟩, List.forall_mem_nil _, List.forall_mem_nil _, GG_pl⟩ (by decide +kernel)

set_option maxHeartbeats 4000000 in
theorem vc_Re_readEdges_0_0 (number_0 : Int) (gx : Int) (kz_0_9 : (-2147483648) ≤ number_0 ∧ number_0 ≤ 1000000) (ex2 : gx = number_0) : 1 * number_0 + ((-1) * gx + 0) ≤ 0 := by
  first
    | omega
  
set_option maxHeartbeats 4000000 in
theorem vc_Re_readEdges_0_1 (number_0 : Int) (gx : Int) (kz_0_9 : (-2147483648) ≤ number_0 ∧ number_0 ≤ 1000000) (ex2 : gx = number_0) : (-1) * number_0 + (1 * gx + 0) ≤ 0 := by
  first
    | omega
  
def o_Re_readEdges_0 : or_T := (25, 5, [(0, (2, 0, 0, [8]))], [], [], [(0, -2147483648, 1000000, [])], [(20, [0, 5], [30, 0, 1, 1, 9, -1, 0, 0]), (20, [0, 5], [30, 0, -1, 1, 9, 1, 0, 0])], [], [])
theorem oo_Re_readEdges_0 {kA : Nat → ClassId} : or_ok PRD kA GG o_Re_readEdges_0 := by
  refine or_mk fun A ta ws vs hD hth hl => ?_
  intro t0 r0
  have kz_0_9 := fdq_27 hD hth r0
  obtain ⟨x, ex, hx⟩ := iv_ex (ta := ta) (lo := (-2147483648)) (hi := 1000000) (z := w_fi ws (n_v vs 0) 9) (by omega) (by omega) (by omega) (by omega)
  have ex2 : v_iv (Value.int x) = w_fi ws (n_v vs 0) 9 := ex
  have ex3 : (-2147483648) ≤ v_iv (Value.int x) ∧ v_iv (Value.int x) ≤ 1000000 := tv_rng hx
  have e_0 : n_v (vs ++ [Value.int x]) 0 = n_v vs 0 := n_v_old (by rw [hl]; decide)
  have e_5 : n_v (vs ++ [Value.int x]) 5 = Value.int x := n_v_new hl
  have nf0 : fc_1 PRD (20, [0, 5], [30, 0, 1, 1, 9, -1, 0, 0]) ws (vs ++ [Value.int x]) := by
    refine ⟨nf_inA hl rfl, sgq_199 ?_⟩
    · show 1 * w_fi ws (n_v (vs ++ [Value.int x]) 0) 9 + ((-1) * v_iv (n_v (vs ++ [Value.int x]) 5) + 0) ≤ 0
      simp only [e_0, e_5]
      exact vc_Re_readEdges_0_0 (w_fi ws (n_v vs 0) 9) (v_iv (Value.int x)) kz_0_9 ex2
  have nf1 : fc_1 PRD (20, [0, 5], [30, 0, -1, 1, 9, 1, 0, 0]) ws (vs ++ [Value.int x]) := by
    refine ⟨nf_inA hl rfl, sgq_200 ?_⟩
    · show (-1) * w_fi ws (n_v (vs ++ [Value.int x]) 0) 9 + (1 * v_iv (n_v (vs ++ [Value.int x]) 5) + 0) ≤ 0
      simp only [e_0, e_5]
      exact vc_Re_readEdges_0_1 (w_fi ws (n_v vs 0) 9) (v_iv (Value.int x)) kz_0_9 ex2
  exact ⟨(fun _ h => (by cases h)), [Value.int x], ag_one hx, List.forall_mem_cons.mpr ⟨⟨show (20 : Nat) < 100 from by decide, nf0⟩, List.forall_mem_cons.mpr ⟨⟨show (20 : Nat) < 100 from by decide, nf1⟩, (fun _ h => (by cases h))⟩⟩, (fun _ h => (by cases h))⟩
set_option maxHeartbeats 4000000 in
theorem vc_Re_readEdges_1_1 (x2 : Int) (x3 : Int) (x5 : Int) (x6 : Int) (kind_0 : Int) (nodes_0o1 : Int) (number_0 : Int) (next_0 : Int) (begin_0 : Int) (k2 : 0 ≤ x2 ∧ x2 ≤ 23) (k3 : (-1) ≤ x3 ∧ x3 ≤ (-1)) (k5 : (-2147483648) ≤ x5 ∧ x5 ≤ 1000000) (k6 : 45 ≤ x6 ∧ x6 ≤ 45) (g2 : x6 = kind_0) (f5 : (x2 = (-1)) ∨ ((0 ≤ x2) ∧ ((x2 + 1) ≤ nodes_0o1))) (f6 : (1 * kind_0 + 0 ≤ 3) ∨ (1 * number_0 + ((-1) * x5 + 0) ≤ 0)) (f7 : (1 * kind_0 + 0 ≤ 3) ∨ ((-1) * number_0 + (1 * x5 + 0) ≤ 0)) (f8 : ((-1) * kind_0 + 0 ≤ (-3)) ∨ (1 * next_0 + ((-1) * begin_0 + (2000 * kind_0 + 0)) ≤ 4008)) (f9 : 1 * begin_0 + ((-1) * next_0 + 0) ≤ 0) (f11 : x2 ≠ x3) (kz_0_6 : 0 ≤ next_0 ∧ next_0 ≤ 2000) (kz_0_7 : (-128) ≤ kind_0 ∧ kind_0 ≤ 127) (kz_0_8 : 0 ≤ begin_0 ∧ begin_0 ≤ 2000) (kz_0_9 : (-2147483648) ≤ number_0 ∧ number_0 ≤ 1000000) (kz_1_0 : 0 ≤ nodes_0o1 ∧ nodes_0o1 ≤ 24) : (0 ≤ x2) ∧ ((x2 + 1) ≤ nodes_0o1) := by
  first
    | omega
  
def o_Re_readEdges_1 : or_T := (54, 9, [(0, (2, 0, 0, [8])), (1, (2, 0, 0, [164])), (2, (0, 0, 23, [])), (3, (0, -1, -1, [])), (5, (0, -2147483648, 1000000, [])), (6, (0, 45, 45, []))], [(9, [6, 0], [7]), (20, [2, 1], [50, 1, 0, 1000, 3, 6, 1, 2, 1, 0, 0, -1, 2, 6, 0, 2, 0, 0, 1, 0, 0, 6, 4, 2, 1, 0, 0, 1, 2, 1, 0]), (20, [0, 0, 5], [31, 1, 3, 1, 1, 7, 0, 1, 1, 9, -1, 0, 0]), (20, [0, 0, 5], [31, 1, 3, 1, 1, 7, 0, -1, 1, 9, 1, 0, 0]), (20, [0, 0, 0, 0], [31, 1, -3, -1, 1, 7, 4008, 1, 1, 6, -1, 1, 8, 2000, 1, 7]), (20, [0, 0], [30, 0, 1, 1, 8, -1, 1, 6]), (102, [5], [0, 8006, 8007, 8008, 8009]), (7, [2, 3], [1])], [], [], [(24, [1, 1], []), (20, [2, 1], [50, 1, 0, 1000, 2, 6, 0, 2, 0, 0, 1, 0, 0, 6, 4, 2, 1, 0, 0, 1, 2, 1, 0]), (24, [0, 0], [])], [], [])
theorem oo_Re_readEdges_1 {kA : Nat → ClassId} : or_ok PRD kA GG o_Re_readEdges_1 := by
  refine or_mk fun A ta ws vs hD hth hl => ?_
  intro t0 r0 t1 r1 t2 k2 t3 k3 t5 k5 t6 k6 f2 f5 f6 f7 f8 f9 ta1 w1 le1 s1 f11
  replace f2 := shm_216 f2
  have g2 : v_iv (n_v vs 6) = w_fi ws (n_v vs 0) 7 := congrArg v_iv f2
  have kz_0_6 := fdq_29 hD hth r0
  have kz_0_7 := fdq_30 hD hth r0
  have kz_0_8 := fdq_31 hD hth r0
  have kz_0_9 := fdq_27 hD hth r0
  have kz_1_0 := fdq_77 hD hth r1
  have nf0 : fc_1 PRD (24, [1, 1], []) ws (vs) := by
    refine ⟨nf_in hl rfl, sgq_1 ?_⟩
    · show n_v vs 1 = n_v vs 1
      first | rfl | simp only [true_and]
  have nf1 : fc_1 PRD (20, [2, 1], [50, 1, 0, 1000, 2, 6, 0, 2, 0, 0, 1, 0, 0, 6, 4, 2, 1, 0, 0, 1, 2, 1, 0]) ws (vs) := ⟨nf_in hl rfl, sgq_429 (vc_Re_readEdges_1_1 (v_iv (n_v vs 2)) (v_iv (n_v vs 3)) (v_iv (n_v vs 5)) (v_iv (n_v vs 6)) (w_fi ws (n_v vs 0) 7) (w_fi ws (n_v vs 1) 0) (w_fi ws (n_v vs 0) 9) (w_fi ws (n_v vs 0) 6) (w_fi ws (n_v vs 0) 8) k2 k3 k5 k6 g2 (shm_819 f5) (shm_201 f6) (shm_202 f7) (shm_203 f8) (shm_204 f9) (shm_40 f11) kz_0_6 kz_0_7 kz_0_8 kz_0_9 kz_1_0)⟩
  have nf2 : fc_1 PRD (24, [0, 0], []) ws (vs) := by
    refine ⟨nf_in hl rfl, sgq_1 ?_⟩
    · show n_v vs 0 = n_v vs 0
      first | rfl | simp only [true_and]
  refine ⟨(fun _ h => (by cases h)), [], trivial, ?_, (fun _ h => (by cases h))⟩
  rw [List.append_nil]
  exact List.forall_mem_cons.mpr ⟨⟨show (24 : Nat) < 100 from by decide, nf0⟩, List.forall_mem_cons.mpr ⟨⟨show (20 : Nat) < 100 from by decide, nf1⟩, List.forall_mem_cons.mpr ⟨⟨show (24 : Nat) < 100 from by decide, nf2⟩, (fun _ h => (by cases h))⟩⟩⟩
set_option maxHeartbeats 4000000 in
theorem vc_Re_readEdges_2_1 (x2 : Int) (x3 : Int) (x5 : Int) (x6 : Int) (kind_0 : Int) (nodes_0o1 : Int) (number_0 : Int) (next_0 : Int) (begin_0 : Int) (k2 : 0 ≤ x2 ∧ x2 ≤ 23) (k3 : (-1) ≤ x3 ∧ x3 ≤ (-1)) (k5 : (-2147483648) ≤ x5 ∧ x5 ≤ 1000000) (k6 : 62 ≤ x6 ∧ x6 ≤ 62) (g2 : x6 = kind_0) (f6 : (x2 = (-1)) ∨ ((0 ≤ x2) ∧ ((x2 + 1) ≤ nodes_0o1))) (f7 : (1 * kind_0 + 0 ≤ 3) ∨ (1 * number_0 + ((-1) * x5 + 0) ≤ 0)) (f8 : (1 * kind_0 + 0 ≤ 3) ∨ ((-1) * number_0 + (1 * x5 + 0) ≤ 0)) (f9 : ((-1) * kind_0 + 0 ≤ (-3)) ∨ (1 * next_0 + ((-1) * begin_0 + (2000 * kind_0 + 0)) ≤ 4008)) (f10 : 1 * begin_0 + ((-1) * next_0 + 0) ≤ 0) (f12 : x2 ≠ x3) (kz_0_6 : 0 ≤ next_0 ∧ next_0 ≤ 2000) (kz_0_7 : (-128) ≤ kind_0 ∧ kind_0 ≤ 127) (kz_0_8 : 0 ≤ begin_0 ∧ begin_0 ≤ 2000) (kz_0_9 : (-2147483648) ≤ number_0 ∧ number_0 ≤ 1000000) (kz_1_0 : 0 ≤ nodes_0o1 ∧ nodes_0o1 ≤ 24) : (0 ≤ x2) ∧ ((x2 + 1) ≤ nodes_0o1) := by
  first
    | omega
  
def o_Re_readEdges_2 : or_T := (54, 10, [(0, (2, 0, 0, [8])), (1, (2, 0, 0, [164])), (2, (0, 0, 23, [])), (3, (0, -1, -1, [])), (5, (0, -2147483648, 1000000, [])), (6, (0, 62, 62, []))], [(9, [6, 0], [7]), (20, [2, 1], [50, 1, 0, 1000, 3, 6, 1, 2, 1, 0, 0, -1, 2, 6, 0, 2, 0, 0, 1, 0, 0, 6, 4, 2, 1, 0, 0, 1, 2, 1, 0]), (20, [0, 0, 5], [31, 1, 3, 1, 1, 7, 0, 1, 1, 9, -1, 0, 0]), (20, [0, 0, 5], [31, 1, 3, 1, 1, 7, 0, -1, 1, 9, 1, 0, 0]), (20, [0, 0, 0, 0], [31, 1, -3, -1, 1, 7, 4008, 1, 1, 6, -1, 1, 8, 2000, 1, 7]), (20, [0, 0], [30, 0, 1, 1, 8, -1, 1, 6]), (102, [5], [0, 8006, 8007, 8008, 8009]), (7, [2, 3], [1])], [], [], [(24, [1, 1], []), (20, [2, 1], [50, 1, 0, 1000, 2, 6, 0, 2, 0, 0, 1, 0, 0, 6, 4, 2, 1, 0, 0, 1, 2, 1, 0]), (24, [0, 0], [])], [], [])
theorem oo_Re_readEdges_2 {kA : Nat → ClassId} : or_ok PRD kA GG o_Re_readEdges_2 := by
  refine or_mk fun A ta ws vs hD hth hl => ?_
  intro t0 r0 t1 r1 t2 k2 t3 k3 t5 k5 t6 k6 f2 f6 f7 f8 f9 f10 ta1 w1 le1 s1 f12
  replace f2 := shm_216 f2
  have g2 : v_iv (n_v vs 6) = w_fi ws (n_v vs 0) 7 := congrArg v_iv f2
  have kz_0_6 := fdq_29 hD hth r0
  have kz_0_7 := fdq_30 hD hth r0
  have kz_0_8 := fdq_31 hD hth r0
  have kz_0_9 := fdq_27 hD hth r0
  have kz_1_0 := fdq_77 hD hth r1
  have nf0 : fc_1 PRD (24, [1, 1], []) ws (vs) := by
    refine ⟨nf_in hl rfl, sgq_1 ?_⟩
    · show n_v vs 1 = n_v vs 1
      first | rfl | simp only [true_and]
  have nf1 : fc_1 PRD (20, [2, 1], [50, 1, 0, 1000, 2, 6, 0, 2, 0, 0, 1, 0, 0, 6, 4, 2, 1, 0, 0, 1, 2, 1, 0]) ws (vs) := ⟨nf_in hl rfl, sgq_429 (vc_Re_readEdges_2_1 (v_iv (n_v vs 2)) (v_iv (n_v vs 3)) (v_iv (n_v vs 5)) (v_iv (n_v vs 6)) (w_fi ws (n_v vs 0) 7) (w_fi ws (n_v vs 1) 0) (w_fi ws (n_v vs 0) 9) (w_fi ws (n_v vs 0) 6) (w_fi ws (n_v vs 0) 8) k2 k3 k5 k6 g2 (shm_819 f6) (shm_201 f7) (shm_202 f8) (shm_203 f9) (shm_204 f10) (shm_40 f12) kz_0_6 kz_0_7 kz_0_8 kz_0_9 kz_1_0)⟩
  have nf2 : fc_1 PRD (24, [0, 0], []) ws (vs) := by
    refine ⟨nf_in hl rfl, sgq_1 ?_⟩
    · show n_v vs 0 = n_v vs 0
      first | rfl | simp only [true_and]
  refine ⟨(fun _ h => (by cases h)), [], trivial, ?_, (fun _ h => (by cases h))⟩
  rw [List.append_nil]
  exact List.forall_mem_cons.mpr ⟨⟨show (24 : Nat) < 100 from by decide, nf0⟩, List.forall_mem_cons.mpr ⟨⟨show (20 : Nat) < 100 from by decide, nf1⟩, List.forall_mem_cons.mpr ⟨⟨show (24 : Nat) < 100 from by decide, nf2⟩, (fun _ h => (by cases h))⟩⟩⟩
set_option maxHeartbeats 4000000 in
theorem vc_Re_readEdges_3_0 (near_0o1 : Int → Int) (tail_0o1 : Int → Int) (head_0o1 : Int → Int) (nodes_0o1 : Int) (edges_0o1 : Int) (f0 : GNB (nodes_0o1) (edges_0o1) (near_0o1) (tail_0o1) (head_0o1)) (kz_1_0 : 0 ≤ nodes_0o1 ∧ nodes_0o1 ≤ 24) (kz_1_1 : 0 ≤ edges_0o1 ∧ edges_0o1 ≤ 48) : GNB (nodes_0o1) (edges_0o1) (near_0o1) (tail_0o1) (head_0o1) := by
  first
    | assumption
  
set_option maxHeartbeats 4000000 in
theorem vc_Re_readEdges_3_1 (tail_0o1 : Int → Int) (head_0o1 : Int → Int) (nodes_0o1 : Int) (edges_0o1 : Int) (f1 : GKE (nodes_0o1) (edges_0o1) (tail_0o1) (head_0o1)) (kz_1_0 : 0 ≤ nodes_0o1 ∧ nodes_0o1 ≤ 24) (kz_1_1 : 0 ≤ edges_0o1 ∧ edges_0o1 ≤ 48) : GKE (nodes_0o1) (edges_0o1) (tail_0o1) (head_0o1) := by
  first
    | assumption
  
def o_Re_readEdges_3 : or_T := (279, 12, [(0, (2, 0, 0, [8])), (1, (2, 0, 0, [164])), (2, (2, 0, 0, [8])), (3, (0, 0, 23, [])), (6, (2, 0, 0, [164]))], [(20, [6], [60, 2, 3, 670, 0, 1, 14, 7, 8]), (20, [6], [60, 2, 2, 596, 0, 1, 7, 8]), (24, [1, 6], []), (20, [3, 6], [50, 1, 0, 1000, 2, 6, 0, 2, 0, 0, 1, 0, 0, 6, 4, 2, 1, 0, 0, 1, 2, 1, 0]), (24, [0, 2], [])], [], [], [(20, [1], [60, 2, 3, 670, 0, 1, 14, 7, 8]), (20, [1], [60, 2, 2, 596, 0, 1, 7, 8])], [], [])
theorem oo_Re_readEdges_3 {kA : Nat → ClassId} : or_ok PRD kA GG o_Re_readEdges_3 := by
  refine or_mk fun A ta ws vs hD hth hl => ?_
  intro t0 r0 t1 r1 t2 r2 t3 k3 t6 r6 f0 f1 f2 f3 f4
  replace f0 := shm_811 f0
  replace f1 := shm_401 f1
  replace f2 := shm_5 f2
  have q6 : n_v vs 6 = n_v vs 1 := f2.symm
  simp only [q6] at f0 f1
  have kz_1_0 := fdq_77 hD hth r1
  have kz_1_1 := fdq_78 hD hth r1
  have nf0 : fc_1 PRD (20, [1], [60, 2, 3, 670, 0, 1, 14, 7, 8]) ws (vs) := ⟨nf_in hl rfl, sgq_811 (vc_Re_readEdges_3_0 (w_ei ws (w_ar ws (n_v vs 1) 14)) (w_ei ws (w_ar ws (n_v vs 1) 7)) (w_ei ws (w_ar ws (n_v vs 1) 8)) (w_fi ws (n_v vs 1) 0) (w_fi ws (n_v vs 1) 1) f0 kz_1_0 kz_1_1)⟩
  have nf1 : fc_1 PRD (20, [1], [60, 2, 2, 596, 0, 1, 7, 8]) ws (vs) := ⟨nf_in hl rfl, sgq_401 (vc_Re_readEdges_3_1 (w_ei ws (w_ar ws (n_v vs 1) 7)) (w_ei ws (w_ar ws (n_v vs 1) 8)) (w_fi ws (n_v vs 1) 0) (w_fi ws (n_v vs 1) 1) f1 kz_1_0 kz_1_1)⟩
  refine ⟨(fun _ h => (by cases h)), [], trivial, ?_, (fun _ h => (by cases h))⟩
  rw [List.append_nil]
  exact List.forall_mem_cons.mpr ⟨⟨show (20 : Nat) < 100 from by decide, nf0⟩, List.forall_mem_cons.mpr ⟨⟨show (20 : Nat) < 100 from by decide, nf1⟩, (fun _ h => (by cases h))⟩⟩
set_option maxHeartbeats 4000000 in
theorem vc_Re_readEdges_4_0 (near_0o1 : Int → Int) (tail_0o1 : Int → Int) (head_0o1 : Int → Int) (nodes_0o1 : Int) (edges_0o1 : Int) (f0 : GNB (nodes_0o1) (edges_0o1) (near_0o1) (tail_0o1) (head_0o1)) (kz_1_0 : 0 ≤ nodes_0o1 ∧ nodes_0o1 ≤ 24) (kz_1_1 : 0 ≤ edges_0o1 ∧ edges_0o1 ≤ 48) : GNB (nodes_0o1) (edges_0o1) (near_0o1) (tail_0o1) (head_0o1) := by
  first
    | assumption
  
set_option maxHeartbeats 4000000 in
theorem vc_Re_readEdges_4_1 (tail_0o1 : Int → Int) (head_0o1 : Int → Int) (nodes_0o1 : Int) (edges_0o1 : Int) (f1 : GKE (nodes_0o1) (edges_0o1) (tail_0o1) (head_0o1)) (kz_1_0 : 0 ≤ nodes_0o1 ∧ nodes_0o1 ≤ 24) (kz_1_1 : 0 ≤ edges_0o1 ∧ edges_0o1 ≤ 48) : GKE (nodes_0o1) (edges_0o1) (tail_0o1) (head_0o1) := by
  first
    | assumption
  
def o_Re_readEdges_4 : or_T := (279, 14, [(0, (2, 0, 0, [8])), (1, (2, 0, 0, [164])), (2, (2, 0, 0, [8])), (3, (0, 0, 23, [])), (6, (2, 0, 0, [164]))], [(20, [6], [60, 2, 3, 670, 0, 1, 14, 7, 8]), (20, [6], [60, 2, 2, 596, 0, 1, 7, 8]), (24, [1, 6], []), (20, [3, 6], [50, 1, 0, 1000, 2, 6, 0, 2, 0, 0, 1, 0, 0, 6, 4, 2, 1, 0, 0, 1, 2, 1, 0]), (24, [0, 2], [])], [], [], [(20, [1], [60, 2, 3, 670, 0, 1, 14, 7, 8]), (20, [1], [60, 2, 2, 596, 0, 1, 7, 8])], [], [])
theorem oo_Re_readEdges_4 {kA : Nat → ClassId} : or_ok PRD kA GG o_Re_readEdges_4 := by
  refine or_mk fun A ta ws vs hD hth hl => ?_
  intro t0 r0 t1 r1 t2 r2 t3 k3 t6 r6 f0 f1 f2 f3 f4
  replace f0 := shm_811 f0
  replace f1 := shm_401 f1
  replace f2 := shm_5 f2
  have q6 : n_v vs 6 = n_v vs 1 := f2.symm
  simp only [q6] at f0 f1
  have kz_1_0 := fdq_77 hD hth r1
  have kz_1_1 := fdq_78 hD hth r1
  have nf0 : fc_1 PRD (20, [1], [60, 2, 3, 670, 0, 1, 14, 7, 8]) ws (vs) := ⟨nf_in hl rfl, sgq_811 (vc_Re_readEdges_4_0 (w_ei ws (w_ar ws (n_v vs 1) 14)) (w_ei ws (w_ar ws (n_v vs 1) 7)) (w_ei ws (w_ar ws (n_v vs 1) 8)) (w_fi ws (n_v vs 1) 0) (w_fi ws (n_v vs 1) 1) f0 kz_1_0 kz_1_1)⟩
  have nf1 : fc_1 PRD (20, [1], [60, 2, 2, 596, 0, 1, 7, 8]) ws (vs) := ⟨nf_in hl rfl, sgq_401 (vc_Re_readEdges_4_1 (w_ei ws (w_ar ws (n_v vs 1) 7)) (w_ei ws (w_ar ws (n_v vs 1) 8)) (w_fi ws (n_v vs 1) 0) (w_fi ws (n_v vs 1) 1) f1 kz_1_0 kz_1_1)⟩
  refine ⟨(fun _ h => (by cases h)), [], trivial, ?_, (fun _ h => (by cases h))⟩
  rw [List.append_nil]
  exact List.forall_mem_cons.mpr ⟨⟨show (20 : Nat) < 100 from by decide, nf0⟩, List.forall_mem_cons.mpr ⟨⟨show (20 : Nat) < 100 from by decide, nf1⟩, (fun _ h => (by cases h))⟩⟩
set_option maxHeartbeats 4000000 in
theorem vc_Re_readEdges_5_0 (x11 : Int) (x12 : Int) (number_0 : Int) (k11 : 9 ≤ x11 ∧ x11 ≤ 9) (k12 : 1 ≤ x12 ∧ x12 ≤ 1) (f6 : (1 * x12 + 0 ≤ 0) ∨ (1 * number_0 + ((-1) * x11 + 0) ≤ 0)) (f7 : (1 * x12 + 0 ≤ 0) ∨ ((-1) * number_0 + 0 ≤ (-1))) (kz_0_9 : (-2147483648) ≤ number_0 ∧ number_0 ≤ 1000000) : 1 * number_0 + 0 ≤ 9 := by
  first
    | omega
  
set_option maxHeartbeats 4000000 in
theorem vc_Re_readEdges_5_1 (x12 : Int) (number_0 : Int) (k12 : 1 ≤ x12 ∧ x12 ≤ 1) (f7 : (1 * x12 + 0 ≤ 0) ∨ ((-1) * number_0 + 0 ≤ (-1))) (kz_0_9 : (-2147483648) ≤ number_0 ∧ number_0 ≤ 1000000) : (-1) * number_0 + 0 ≤ (-1) := by
  first
    | omega
  
def o_Re_readEdges_5 : or_T := (223, 13, [(0, (2, 0, 0, [8])), (11, (0, 9, 9, [])), (12, (0, 1, 1, []))], [(24, [0, 2], []), (20, [12, 2, 11], [31, 1, 0, 1, 0, 0, 0, 1, 1, 9, -1, 0, 0]), (20, [12, 2], [31, 1, 0, 1, 0, 0, -1, -1, 1, 9])], [], [], [(20, [2], [30, 9, 1, 1, 9]), (20, [2], [30, -1, -1, 1, 9])], [], [])
theorem oo_Re_readEdges_5 {kA : Nat → ClassId} : or_ok PRD kA GG o_Re_readEdges_5 := by
  refine or_mk fun A ta ws vs hD hth hl => ?_
  intro t0 r0 t11 k11 t12 k12 f5 f6 f7
  replace f5 := shm_5 f5
  replace f6 := shm_291 f6
  replace f7 := shm_292 f7
  have q2 : n_v vs 2 = n_v vs 0 := f5.symm
  simp only [q2] at f6 f7
  have kz_0_9 := fdq_27 hD hth r0
  have nf0 : fc_1 PRD (20, [2], [30, 9, 1, 1, 9]) ws (vs) := by
    refine ⟨nf_in hl rfl, sgq_1989 ?_⟩
    · show 1 * w_fi ws (n_v vs 2) 9 + 0 ≤ 9
      rw [q2]
      exact vc_Re_readEdges_5_0 (v_iv (n_v vs 11)) (v_iv (n_v vs 12)) (w_fi ws (n_v vs 0) 9) k11 k12 f6 f7 kz_0_9
  have nf1 : fc_1 PRD (20, [2], [30, -1, -1, 1, 9]) ws (vs) := by
    refine ⟨nf_in hl rfl, sgq_1990 ?_⟩
    · show (-1) * w_fi ws (n_v vs 2) 9 + 0 ≤ (-1)
      rw [q2]
      exact vc_Re_readEdges_5_1 (v_iv (n_v vs 12)) (w_fi ws (n_v vs 0) 9) k12 f7 kz_0_9
  refine ⟨(fun _ h => (by cases h)), [], trivial, ?_, (fun _ h => (by cases h))⟩
  rw [List.append_nil]
  exact List.forall_mem_cons.mpr ⟨⟨show (20 : Nat) < 100 from by decide, nf0⟩, List.forall_mem_cons.mpr ⟨⟨show (20 : Nat) < 100 from by decide, nf1⟩, (fun _ h => (by cases h))⟩⟩
set_option maxHeartbeats 4000000 in
theorem vc_Re_readEdges_6_0 (near_0o1 : Int → Int) (tail_0o1 : Int → Int) (head_0o1 : Int → Int) (nodes_0o1 : Int) (edges_0o1 : Int) (f1 : GNB (nodes_0o1) (edges_0o1) (near_0o1) (tail_0o1) (head_0o1)) (kz_1_0 : 0 ≤ nodes_0o1 ∧ nodes_0o1 ≤ 24) (kz_1_1 : 0 ≤ edges_0o1 ∧ edges_0o1 ≤ 48) : GNB (nodes_0o1) (edges_0o1) (near_0o1) (tail_0o1) (head_0o1) := by
  first
    | assumption
  
set_option maxHeartbeats 4000000 in
theorem vc_Re_readEdges_6_1 (tail_0o1 : Int → Int) (head_0o1 : Int → Int) (nodes_0o1 : Int) (edges_0o1 : Int) (f2 : GKE (nodes_0o1) (edges_0o1) (tail_0o1) (head_0o1)) (kz_1_0 : 0 ≤ nodes_0o1 ∧ nodes_0o1 ≤ 24) (kz_1_1 : 0 ≤ edges_0o1 ∧ edges_0o1 ≤ 48) : GKE (nodes_0o1) (edges_0o1) (tail_0o1) (head_0o1) := by
  first
    | assumption
  
def o_Re_readEdges_6 : or_T := (220, 14, [(1, (2, 0, 0, [164]))], [(20, [6], [60, 2, 3, 670, 0, 1, 14, 7, 8]), (20, [6], [60, 2, 2, 596, 0, 1, 7, 8]), (24, [1, 6], [])], [], [], [(20, [1], [60, 2, 3, 670, 0, 1, 14, 7, 8]), (20, [1], [60, 2, 2, 596, 0, 1, 7, 8])], [], [])
theorem oo_Re_readEdges_6 {kA : Nat → ClassId} : or_ok PRD kA GG o_Re_readEdges_6 := by
  refine or_mk fun A ta ws vs hD hth hl => ?_
  intro t1 r1 f1 f2 f3
  replace f1 := shm_811 f1
  replace f2 := shm_401 f2
  replace f3 := shm_5 f3
  have q6 : n_v vs 6 = n_v vs 1 := f3.symm
  simp only [q6] at f1 f2
  have kz_1_0 := fdq_77 hD hth r1
  have kz_1_1 := fdq_78 hD hth r1
  have nf0 : fc_1 PRD (20, [1], [60, 2, 3, 670, 0, 1, 14, 7, 8]) ws (vs) := ⟨nf_in hl rfl, sgq_811 (vc_Re_readEdges_6_0 (w_ei ws (w_ar ws (n_v vs 1) 14)) (w_ei ws (w_ar ws (n_v vs 1) 7)) (w_ei ws (w_ar ws (n_v vs 1) 8)) (w_fi ws (n_v vs 1) 0) (w_fi ws (n_v vs 1) 1) f1 kz_1_0 kz_1_1)⟩
  have nf1 : fc_1 PRD (20, [1], [60, 2, 2, 596, 0, 1, 7, 8]) ws (vs) := ⟨nf_in hl rfl, sgq_401 (vc_Re_readEdges_6_1 (w_ei ws (w_ar ws (n_v vs 1) 7)) (w_ei ws (w_ar ws (n_v vs 1) 8)) (w_fi ws (n_v vs 1) 0) (w_fi ws (n_v vs 1) 1) f2 kz_1_0 kz_1_1)⟩
  refine ⟨(fun _ h => (by cases h)), [], trivial, ?_, (fun _ h => (by cases h))⟩
  rw [List.append_nil]
  exact List.forall_mem_cons.mpr ⟨⟨show (20 : Nat) < 100 from by decide, nf0⟩, List.forall_mem_cons.mpr ⟨⟨show (20 : Nat) < 100 from by decide, nf1⟩, (fun _ h => (by cases h))⟩⟩
set_option maxHeartbeats 4000000 in
theorem vc_Re_readEdges_7_0 (number_0 : Int) (gx : Int) (kz_0_9 : (-2147483648) ≤ number_0 ∧ number_0 ≤ 1000000) (ex2 : gx = number_0) : 1 * number_0 + ((-1) * gx + 0) ≤ 0 := by
  first
    | omega
  
set_option maxHeartbeats 4000000 in
theorem vc_Re_readEdges_7_1 (number_0 : Int) (gx : Int) (kz_0_9 : (-2147483648) ≤ number_0 ∧ number_0 ≤ 1000000) (ex2 : gx = number_0) : (-1) * number_0 + (1 * gx + 0) ≤ 0 := by
  first
    | omega
  
def o_Re_readEdges_7 : or_T := (95, 12, [(0, (2, 0, 0, [8]))], [(24, [0, 2], [])], [], [(0, -2147483648, 1000000, [])], [(20, [2, 12], [30, 0, 1, 1, 9, -1, 0, 0]), (20, [2, 12], [30, 0, -1, 1, 9, 1, 0, 0])], [], [])
theorem oo_Re_readEdges_7 {kA : Nat → ClassId} : or_ok PRD kA GG o_Re_readEdges_7 := by
  refine or_mk fun A ta ws vs hD hth hl => ?_
  intro t0 r0 f4
  replace f4 := shm_5 f4
  have q2 : n_v vs 2 = n_v vs 0 := f4.symm
  have kz_0_9 := fdq_27 hD hth r0
  obtain ⟨x, ex, hx⟩ := iv_ex (ta := ta) (lo := (-2147483648)) (hi := 1000000) (z := w_fi ws (n_v vs 0) 9) (by omega) (by omega) (by omega) (by omega)
  have ex2 : v_iv (Value.int x) = w_fi ws (n_v vs 0) 9 := ex
  have ex3 : (-2147483648) ≤ v_iv (Value.int x) ∧ v_iv (Value.int x) ≤ 1000000 := tv_rng hx
  have e_2 : n_v (vs ++ [Value.int x]) 2 = n_v vs 2 := n_v_old (by rw [hl]; decide)
  have e_12 : n_v (vs ++ [Value.int x]) 12 = Value.int x := n_v_new hl
  have nf0 : fc_1 PRD (20, [2, 12], [30, 0, 1, 1, 9, -1, 0, 0]) ws (vs ++ [Value.int x]) := by
    refine ⟨nf_inA hl rfl, sgq_199 ?_⟩
    · show 1 * w_fi ws (n_v (vs ++ [Value.int x]) 2) 9 + ((-1) * v_iv (n_v (vs ++ [Value.int x]) 12) + 0) ≤ 0
      simp only [e_2, e_12, q2]
      exact vc_Re_readEdges_7_0 (w_fi ws (n_v vs 0) 9) (v_iv (Value.int x)) kz_0_9 ex2
  have nf1 : fc_1 PRD (20, [2, 12], [30, 0, -1, 1, 9, 1, 0, 0]) ws (vs ++ [Value.int x]) := by
    refine ⟨nf_inA hl rfl, sgq_200 ?_⟩
    · show (-1) * w_fi ws (n_v (vs ++ [Value.int x]) 2) 9 + (1 * v_iv (n_v (vs ++ [Value.int x]) 12) + 0) ≤ 0
      simp only [e_2, e_12, q2]
      exact vc_Re_readEdges_7_1 (w_fi ws (n_v vs 0) 9) (v_iv (Value.int x)) kz_0_9 ex2
  exact ⟨(fun _ h => (by cases h)), [Value.int x], ag_one hx, List.forall_mem_cons.mpr ⟨⟨show (20 : Nat) < 100 from by decide, nf0⟩, List.forall_mem_cons.mpr ⟨⟨show (20 : Nat) < 100 from by decide, nf1⟩, (fun _ h => (by cases h))⟩⟩, (fun _ h => (by cases h))⟩
set_option maxHeartbeats 4000000 in
theorem vc_Re_readEdges_8_0 (x3 : Int) (gx : Int) (k3 : 0 ≤ x3 ∧ x3 ≤ 23) (ex2 : gx = x3) : 1 * gx + ((-1) * x3 + 0) ≤ 0 := by
  first
    | omega
  
set_option maxHeartbeats 4000000 in
theorem vc_Re_readEdges_8_1 (x3 : Int) (gx : Int) (k3 : 0 ≤ x3 ∧ x3 ≤ 23) (ex2 : gx = x3) : (-1) * gx + (1 * x3 + 0) ≤ 0 := by
  first
    | omega
  
set_option maxHeartbeats 4000000 in
theorem vc_Re_readEdges_8_2 (x13 : Int) (next_0 : Int) (begin_0 : Int) (k13 : 1 ≤ x13 ∧ x13 ≤ 1) (f9 : 1 * begin_0 + ((-1) * next_0 + 0) ≤ 0) (f10 : 1 * next_0 + ((-1) * begin_0 + (2000 * x13 + 0)) ≤ 2008) (kz_0_6 : 0 ≤ next_0 ∧ next_0 ≤ 2000) (kz_0_8 : 0 ≤ begin_0 ∧ begin_0 ≤ 2000) : 1 * next_0 + ((-1) * begin_0 + 0) ≤ 8 := by
  first
    | omega
  
set_option maxHeartbeats 4000000 in
theorem vc_Re_readEdges_8_3 (x13 : Int) (next_0 : Int) (begin_0 : Int) (k13 : 1 ≤ x13 ∧ x13 ≤ 1) (f9 : 1 * begin_0 + ((-1) * next_0 + 0) ≤ 0) (f10 : 1 * next_0 + ((-1) * begin_0 + (2000 * x13 + 0)) ≤ 2008) (kz_0_6 : 0 ≤ next_0 ∧ next_0 ≤ 2000) (kz_0_8 : 0 ≤ begin_0 ∧ begin_0 ≤ 2000) : (-1) * next_0 + (1 * begin_0 + 0) ≤ 0 := by
  first
    | omega
  
set_option maxHeartbeats 4000000 in
theorem vc_Re_readEdges_8_4 (near_0o1 : Int → Int) (tail_0o1 : Int → Int) (head_0o1 : Int → Int) (nodes_0o1 : Int) (edges_0o1 : Int) (f1 : GNB (nodes_0o1) (edges_0o1) (near_0o1) (tail_0o1) (head_0o1)) (kz_1_0 : 0 ≤ nodes_0o1 ∧ nodes_0o1 ≤ 24) (kz_1_1 : 0 ≤ edges_0o1 ∧ edges_0o1 ≤ 48) : GNB (nodes_0o1) (edges_0o1) (near_0o1) (tail_0o1) (head_0o1) := by
  first
    | assumption
  
set_option maxHeartbeats 4000000 in
theorem vc_Re_readEdges_8_5 (tail_0o1 : Int → Int) (head_0o1 : Int → Int) (nodes_0o1 : Int) (edges_0o1 : Int) (f2 : GKE (nodes_0o1) (edges_0o1) (tail_0o1) (head_0o1)) (kz_1_0 : 0 ≤ nodes_0o1 ∧ nodes_0o1 ≤ 24) (kz_1_1 : 0 ≤ edges_0o1 ∧ edges_0o1 ≤ 48) : GKE (nodes_0o1) (edges_0o1) (tail_0o1) (head_0o1) := by
  first
    | assumption
  
set_option maxHeartbeats 4000000 in
theorem vc_Re_readEdges_8_6 (x3 : Int) (nodes_0o1 : Int) (gx : Int) (k3 : 0 ≤ x3 ∧ x3 ≤ 23) (f4 : (0 ≤ x3) ∧ ((x3 + 1) ≤ nodes_0o1)) (kz_1_0 : 0 ≤ nodes_0o1 ∧ nodes_0o1 ≤ 24) (ex2 : gx = x3) : (0 ≤ gx) ∧ ((gx + 1) ≤ nodes_0o1) := by
  first
    | omega
  
def o_Re_readEdges_8 : or_T := (112, 14, [(0, (2, 0, 0, [8])), (1, (2, 0, 0, [164])), (3, (0, 0, 23, [])), (13, (0, 1, 1, []))], [(20, [6], [60, 2, 3, 670, 0, 1, 14, 7, 8]), (20, [6], [60, 2, 2, 596, 0, 1, 7, 8]), (24, [1, 6], []), (20, [3, 6], [50, 1, 0, 1000, 2, 6, 0, 2, 0, 0, 1, 0, 0, 6, 4, 2, 1, 0, 0, 1, 2, 1, 0]), (24, [0, 2], []), (20, [2, 2], [30, 0, 1, 1, 8, -1, 1, 6]), (20, [2, 2, 13], [30, 2008, 1, 1, 6, -1, 1, 8, 2000, 0, 0])], [], [(0, 0, 23, [])], [(23, [14, 3], [0, 1, -1]), (23, [14, 3], [0, -1, 1]), (20, [2, 2], [30, 8, 1, 1, 6, -1, 1, 8]), (20, [2, 2], [30, 0, -1, 1, 6, 1, 1, 8]), (20, [6], [60, 2, 3, 670, 0, 1, 14, 7, 8]), (20, [6], [60, 2, 2, 596, 0, 1, 7, 8]), (20, [14, 6], [50, 1, 0, 1000, 2, 6, 0, 2, 0, 0, 1, 0, 0, 6, 4, 2, 1, 0, 0, 1, 2, 1, 0])], [], [])
theorem oo_Re_readEdges_8 {kA : Nat → ClassId} : or_ok PRD kA GG o_Re_readEdges_8 := by
  refine or_mk fun A ta ws vs hD hth hl => ?_
  intro t0 r0 t1 r1 t3 k3 t13 k13 f1 f2 f3 f4 f5 f9 f10
  replace f1 := shm_811 f1
  replace f2 := shm_401 f2
  replace f3 := shm_5 f3
  replace f4 := shm_429 f4
  replace f5 := shm_5 f5
  replace f9 := shm_204 f9
  replace f10 := shm_229 f10
  have q6 : n_v vs 6 = n_v vs 1 := f3.symm
  have q2 : n_v vs 2 = n_v vs 0 := f5.symm
  simp only [q6, q2] at f1 f2 f4 f9 f10
  have kz_0_6 := fdq_29 hD hth r0
  have kz_0_8 := fdq_31 hD hth r0
  have kz_1_0 := fdq_77 hD hth r1
  have kz_1_1 := fdq_78 hD hth r1
  obtain ⟨x, ex, hx⟩ := iv_ex (ta := ta) (lo := 0) (hi := 23) (z := v_iv (n_v vs 3)) (by omega) (by omega) (by omega) (by omega)
  have ex2 : v_iv (Value.int x) = v_iv (n_v vs 3) := ex
  have ex3 : 0 ≤ v_iv (Value.int x) ∧ v_iv (Value.int x) ≤ 23 := tv_rng hx
  have e_2 : n_v (vs ++ [Value.int x]) 2 = n_v vs 2 := n_v_old (by rw [hl]; decide)
  have e_3 : n_v (vs ++ [Value.int x]) 3 = n_v vs 3 := n_v_old (by rw [hl]; decide)
  have e_6 : n_v (vs ++ [Value.int x]) 6 = n_v vs 6 := n_v_old (by rw [hl]; decide)
  have e_14 : n_v (vs ++ [Value.int x]) 14 = Value.int x := n_v_new hl
  have nf0 : fc_1 PRD (23, [14, 3], [0, 1, -1]) ws (vs ++ [Value.int x]) := by
    refine ⟨nf_inA hl rfl, sgq_7 ?_⟩
    · show 1 * v_iv (n_v (vs ++ [Value.int x]) 14) + ((-1) * v_iv (n_v (vs ++ [Value.int x]) 3) + 0) ≤ 0
      simp only [e_3, e_14]
      exact vc_Re_readEdges_8_0 (v_iv (n_v vs 3)) (v_iv (Value.int x)) k3 ex2
  have nf1 : fc_1 PRD (23, [14, 3], [0, -1, 1]) ws (vs ++ [Value.int x]) := by
    refine ⟨nf_inA hl rfl, sgq_22 ?_⟩
    · show (-1) * v_iv (n_v (vs ++ [Value.int x]) 14) + (1 * v_iv (n_v (vs ++ [Value.int x]) 3) + 0) ≤ 0
      simp only [e_3, e_14]
      exact vc_Re_readEdges_8_1 (v_iv (n_v vs 3)) (v_iv (Value.int x)) k3 ex2
  have nf2 : fc_1 PRD (20, [2, 2], [30, 8, 1, 1, 6, -1, 1, 8]) ws (vs ++ [Value.int x]) := by
    refine ⟨nf_inA hl rfl, sgq_1370 ?_⟩
    · show 1 * w_fi ws (n_v (vs ++ [Value.int x]) 2) 6 + ((-1) * w_fi ws (n_v (vs ++ [Value.int x]) 2) 8 + 0) ≤ 8
      simp only [e_2, q2]
      exact vc_Re_readEdges_8_2 (v_iv (n_v vs 13)) (w_fi ws (n_v vs 0) 6) (w_fi ws (n_v vs 0) 8) k13 f9 f10 kz_0_6 kz_0_8
  have nf3 : fc_1 PRD (20, [2, 2], [30, 0, -1, 1, 6, 1, 1, 8]) ws (vs ++ [Value.int x]) := by
    refine ⟨nf_inA hl rfl, sgq_1371 ?_⟩
    · show (-1) * w_fi ws (n_v (vs ++ [Value.int x]) 2) 6 + (1 * w_fi ws (n_v (vs ++ [Value.int x]) 2) 8 + 0) ≤ 0
      simp only [e_2, q2]
      exact vc_Re_readEdges_8_3 (v_iv (n_v vs 13)) (w_fi ws (n_v vs 0) 6) (w_fi ws (n_v vs 0) 8) k13 f9 f10 kz_0_6 kz_0_8
  have nf4 : fc_1 PRD (20, [6], [60, 2, 3, 670, 0, 1, 14, 7, 8]) ws (vs ++ [Value.int x]) := by
    refine ⟨nf_inA hl rfl, sgq_811 ?_⟩
    · show GNB (w_fi ws (n_v (vs ++ [Value.int x]) 6) 0) (w_fi ws (n_v (vs ++ [Value.int x]) 6) 1) (w_ei ws (w_ar ws (n_v (vs ++ [Value.int x]) 6) 14)) (w_ei ws (w_ar ws (n_v (vs ++ [Value.int x]) 6) 7)) (w_ei ws (w_ar ws (n_v (vs ++ [Value.int x]) 6) 8))
      simp only [e_6, q6]
      exact vc_Re_readEdges_8_4 (w_ei ws (w_ar ws (n_v vs 1) 14)) (w_ei ws (w_ar ws (n_v vs 1) 7)) (w_ei ws (w_ar ws (n_v vs 1) 8)) (w_fi ws (n_v vs 1) 0) (w_fi ws (n_v vs 1) 1) f1 kz_1_0 kz_1_1
  have nf5 : fc_1 PRD (20, [6], [60, 2, 2, 596, 0, 1, 7, 8]) ws (vs ++ [Value.int x]) := by
    refine ⟨nf_inA hl rfl, sgq_401 ?_⟩
    · show GKE (w_fi ws (n_v (vs ++ [Value.int x]) 6) 0) (w_fi ws (n_v (vs ++ [Value.int x]) 6) 1) (w_ei ws (w_ar ws (n_v (vs ++ [Value.int x]) 6) 7)) (w_ei ws (w_ar ws (n_v (vs ++ [Value.int x]) 6) 8))
      simp only [e_6, q6]
      exact vc_Re_readEdges_8_5 (w_ei ws (w_ar ws (n_v vs 1) 7)) (w_ei ws (w_ar ws (n_v vs 1) 8)) (w_fi ws (n_v vs 1) 0) (w_fi ws (n_v vs 1) 1) f2 kz_1_0 kz_1_1
  have nf6 : fc_1 PRD (20, [14, 6], [50, 1, 0, 1000, 2, 6, 0, 2, 0, 0, 1, 0, 0, 6, 4, 2, 1, 0, 0, 1, 2, 1, 0]) ws (vs ++ [Value.int x]) := by
    refine ⟨nf_inA hl rfl, sgq_429 ?_⟩
    · show (0 ≤ v_iv (n_v (vs ++ [Value.int x]) 14)) ∧ ((v_iv (n_v (vs ++ [Value.int x]) 14) + 1) ≤ w_fi ws (n_v (vs ++ [Value.int x]) 6) 0)
      simp only [e_6, e_14, q6]
      exact vc_Re_readEdges_8_6 (v_iv (n_v vs 3)) (w_fi ws (n_v vs 1) 0) (v_iv (Value.int x)) k3 f4 kz_1_0 ex2
  exact ⟨(fun _ h => (by cases h)), [Value.int x], ag_one hx, List.forall_mem_cons.mpr ⟨⟨show (23 : Nat) < 100 from by decide, nf0⟩, List.forall_mem_cons.mpr ⟨⟨show (23 : Nat) < 100 from by decide, nf1⟩, List.forall_mem_cons.mpr ⟨⟨show (20 : Nat) < 100 from by decide, nf2⟩, List.forall_mem_cons.mpr ⟨⟨show (20 : Nat) < 100 from by decide, nf3⟩, List.forall_mem_cons.mpr ⟨⟨show (20 : Nat) < 100 from by decide, nf4⟩, List.forall_mem_cons.mpr ⟨⟨show (20 : Nat) < 100 from by decide, nf5⟩, List.forall_mem_cons.mpr ⟨⟨show (20 : Nat) < 100 from by decide, nf6⟩, (fun _ h => (by cases h))⟩⟩⟩⟩⟩⟩⟩, (fun _ h => (by cases h))⟩
set_option maxHeartbeats 4000000 in
theorem vc_Re_readEdges_9_0 (near_0o1 : Int → Int) (tail_0o1 : Int → Int) (head_0o1 : Int → Int) (nodes_0o1 : Int) (edges_0o1 : Int) (f11 : GNB (nodes_0o1) (edges_0o1) (near_0o1) (tail_0o1) (head_0o1)) (kz_1_0 : 0 ≤ nodes_0o1 ∧ nodes_0o1 ≤ 24) (kz_1_1 : 0 ≤ edges_0o1 ∧ edges_0o1 ≤ 48) : GNB (nodes_0o1) (edges_0o1) (near_0o1) (tail_0o1) (head_0o1) := by
  first
    | assumption
  
set_option maxHeartbeats 4000000 in
theorem vc_Re_readEdges_9_1 (tail_0o1 : Int → Int) (head_0o1 : Int → Int) (nodes_0o1 : Int) (edges_0o1 : Int) (f12 : GKE (nodes_0o1) (edges_0o1) (tail_0o1) (head_0o1)) (kz_1_0 : 0 ≤ nodes_0o1 ∧ nodes_0o1 ≤ 24) (kz_1_1 : 0 ≤ edges_0o1 ∧ edges_0o1 ≤ 48) : GKE (nodes_0o1) (edges_0o1) (tail_0o1) (head_0o1) := by
  first
    | assumption
  
def o_Re_readEdges_9 : or_T := (148, 19, [(1, (2, 0, 0, [164]))], [(24, [1, 6], []), (20, [6], [60, 2, 3, 670, 0, 1, 14, 7, 8]), (20, [6], [60, 2, 2, 596, 0, 1, 7, 8])], [], [], [(20, [1], [60, 2, 3, 670, 0, 1, 14, 7, 8]), (20, [1], [60, 2, 2, 596, 0, 1, 7, 8])], [], [])
theorem oo_Re_readEdges_9 {kA : Nat → ClassId} : or_ok PRD kA GG o_Re_readEdges_9 := by
  refine or_mk fun A ta ws vs hD hth hl => ?_
  intro t1 r1 f4 f11 f12
  replace f4 := shm_5 f4
  replace f11 := shm_811 f11
  replace f12 := shm_401 f12
  have q6 : n_v vs 6 = n_v vs 1 := f4.symm
  simp only [q6] at f11 f12
  have kz_1_0 := fdq_77 hD hth r1
  have kz_1_1 := fdq_78 hD hth r1
  have nf0 : fc_1 PRD (20, [1], [60, 2, 3, 670, 0, 1, 14, 7, 8]) ws (vs) := ⟨nf_in hl rfl, sgq_811 (vc_Re_readEdges_9_0 (w_ei ws (w_ar ws (n_v vs 1) 14)) (w_ei ws (w_ar ws (n_v vs 1) 7)) (w_ei ws (w_ar ws (n_v vs 1) 8)) (w_fi ws (n_v vs 1) 0) (w_fi ws (n_v vs 1) 1) f11 kz_1_0 kz_1_1)⟩
  have nf1 : fc_1 PRD (20, [1], [60, 2, 2, 596, 0, 1, 7, 8]) ws (vs) := ⟨nf_in hl rfl, sgq_401 (vc_Re_readEdges_9_1 (w_ei ws (w_ar ws (n_v vs 1) 7)) (w_ei ws (w_ar ws (n_v vs 1) 8)) (w_fi ws (n_v vs 1) 0) (w_fi ws (n_v vs 1) 1) f12 kz_1_0 kz_1_1)⟩
  refine ⟨(fun _ h => (by cases h)), [], trivial, ?_, (fun _ h => (by cases h))⟩
  rw [List.append_nil]
  exact List.forall_mem_cons.mpr ⟨⟨show (20 : Nat) < 100 from by decide, nf0⟩, List.forall_mem_cons.mpr ⟨⟨show (20 : Nat) < 100 from by decide, nf1⟩, (fun _ h => (by cases h))⟩⟩
set_option maxHeartbeats 4000000 in
theorem vc_Re_readEdges_10_0 (x3 : Int) (x12 : Int) (x13 : Int) (x14 : Int) (x15 : Int) (x16 : Int) (next_0 : Int) (begin_0 : Int) (kind_0 : Int) (number_0 : Int) (nodes_0o1 : Int) (k3 : 0 ≤ x3 ∧ x3 ≤ 23) (k12 : (-2147483648) ≤ x12 ∧ x12 ≤ 1000000) (k13 : 1 ≤ x13 ∧ x13 ≤ 1) (k14 : 0 ≤ x14 ∧ x14 ≤ 23) (k15 : 0 ≤ x15 ∧ x15 ≤ 23) (k16 : (-1) ≤ x16 ∧ x16 ≤ (-1)) (f5 : x3 ≠ x15) (f6 : x15 ≠ x16) (f7 : 1 * x14 + ((-1) * x3 + 0) ≤ 0) (f8 : (-1) * x14 + (1 * x3 + 0) ≤ 0) (f13 : (1 * kind_0 + 0 ≤ 3) ∨ (1 * number_0 + ((-1) * x12 + 0) ≤ 0)) (f14 : (1 * kind_0 + 0 ≤ 3) ∨ ((-1) * number_0 + (1 * x12 + 0) ≤ 0)) (f15 : ((-1) * kind_0 + 0 ≤ (-3)) ∨ (1 * next_0 + ((-1) * begin_0 + (2000 * kind_0 + 0)) ≤ 4008)) (f20 : (x15 = (-1)) ∨ ((0 ≤ x15) ∧ ((x15 + 1) ≤ nodes_0o1))) (f21 : (0 ≤ x14) ∧ ((x14 + 1) ≤ nodes_0o1)) (f25 : x13 ≠ 0) (kz_0_6 : 0 ≤ next_0 ∧ next_0 ≤ 2000) (kz_0_7 : (-128) ≤ kind_0 ∧ kind_0 ≤ 127) (kz_0_8 : 0 ≤ begin_0 ∧ begin_0 ≤ 2000) (kz_0_9 : (-2147483648) ≤ number_0 ∧ number_0 ≤ 1000000) (kz_1_0 : 0 ≤ nodes_0o1 ∧ nodes_0o1 ≤ 24) : (0 ≤ x3) ∧ (((x3 + 1) ≤ nodes_0o1) ∧ ((0 ≤ x15) ∧ (((x15 + 1) ≤ nodes_0o1) ∧ (((x3 + 1) ≤ x15) ∨ ((x15 + 1) ≤ x3))))) := by
  first
    | omega
  
def o_Re_readEdges_10 : or_T := (182, 22, [(0, (2, 0, 0, [8])), (1, (2, 0, 0, [164])), (3, (0, 0, 23, [])), (12, (0, -2147483648, 1000000, [])), (13, (0, 1, 1, [])), (14, (0, 0, 23, [])), (15, (0, 0, 23, [])), (16, (0, -1, -1, []))], [(7, [3, 15], [1]), (7, [15, 16], [1]), (23, [14, 3], [0, 1, -1]), (23, [14, 3], [0, -1, 1]), (24, [1, 6], []), (24, [0, 2], []), (20, [2, 2, 12], [31, 1, 3, 1, 1, 7, 0, 1, 1, 9, -1, 0, 0]), (20, [2, 2, 12], [31, 1, 3, 1, 1, 7, 0, -1, 1, 9, 1, 0, 0]), (20, [2, 2, 2, 2], [31, 1, -3, -1, 1, 7, 4008, 1, 1, 6, -1, 1, 8, 2000, 1, 7]), (20, [15, 6], [50, 1, 0, 1000, 3, 6, 1, 2, 1, 0, 0, -1, 2, 6, 0, 2, 0, 0, 1, 0, 0, 6, 4, 2, 1, 0, 0, 1, 2, 1, 0]), (20, [14, 6], [50, 1, 0, 1000, 2, 6, 0, 2, 0, 0, 1, 0, 0, 6, 4, 2, 1, 0, 0, 1, 2, 1, 0]), (102, [14], [2944411990052395234623243954974308466357606285312, 164000]), (8, [13], [1])], [], [], [(20, [3, 6, 15], [50, 1, 0, 1000, 2, 6, 0, 2, 0, 0, 1, 0, 2, 11, 0, 6, 4, 2, 1, 0, 0, 1, 2, 1, 0, 2, 6, 0, 2, 0, 0, 1, 2, 2, 11, 0, 6, 4, 2, 1, 2, 0, 1, 2, 1, 0, 3, 10, 0, 6, 4, 2, 1, 0, 0, 1, 1, 2, 0, 6, 4, 2, 1, 2, 0, 1, 1, 0])], [], [])
theorem oo_Re_readEdges_10 {kA : Nat → ClassId} : or_ok PRD kA GG o_Re_readEdges_10 := by
  refine or_mk fun A ta ws vs hD hth hl => ?_
  intro t0 r0 t1 r1 t3 k3 t12 k12 t13 k13 t14 k14 t15 k15 t16 k16 f5 f6 f7 f8 f11 f12 f13 f14 f15 f20 f21 ta1 w1 le1 s1 f25
  replace f5 := shm_40 f5
  replace f6 := shm_40 f6
  replace f7 := shm_7 f7
  replace f8 := shm_22 f8
  replace f11 := shm_5 f11
  replace f12 := shm_5 f12
  replace f13 := shm_201 f13
  replace f14 := shm_202 f14
  replace f15 := shm_203 f15
  replace f20 := shm_819 f20
  replace f21 := shm_429 f21
  replace f25 := shm_154 f25
  have q6 : n_v vs 6 = n_v vs 1 := f11.symm
  have q2 : n_v vs 2 = n_v vs 0 := f12.symm
  simp only [q6, q2] at f13 f14 f15 f20 f21
  have kz_0_6 := fdq_29 hD hth r0
  have kz_0_7 := fdq_30 hD hth r0
  have kz_0_8 := fdq_31 hD hth r0
  have kz_0_9 := fdq_27 hD hth r0
  have kz_1_0 := fdq_77 hD hth r1
  have nf0 : fc_1 PRD (20, [3, 6, 15], [50, 1, 0, 1000, 2, 6, 0, 2, 0, 0, 1, 0, 2, 11, 0, 6, 4, 2, 1, 0, 0, 1, 2, 1, 0, 2, 6, 0, 2, 0, 0, 1, 2, 2, 11, 0, 6, 4, 2, 1, 2, 0, 1, 2, 1, 0, 3, 10, 0, 6, 4, 2, 1, 0, 0, 1, 1, 2, 0, 6, 4, 2, 1, 2, 0, 1, 1, 0]) ws (vs) := by
    refine ⟨nf_in hl rfl, sgq_810 ?_⟩
    · show (0 ≤ v_iv (n_v vs 3)) ∧ (((v_iv (n_v vs 3) + 1) ≤ w_fi ws (n_v vs 6) 0) ∧ ((0 ≤ v_iv (n_v vs 15)) ∧ (((v_iv (n_v vs 15) + 1) ≤ w_fi ws (n_v vs 6) 0) ∧ (((v_iv (n_v vs 3) + 1) ≤ v_iv (n_v vs 15)) ∨ ((v_iv (n_v vs 15) + 1) ≤ v_iv (n_v vs 3))))))
      rw [q6]
      exact vc_Re_readEdges_10_0 (v_iv (n_v vs 3)) (v_iv (n_v vs 12)) (v_iv (n_v vs 13)) (v_iv (n_v vs 14)) (v_iv (n_v vs 15)) (v_iv (n_v vs 16)) (w_fi ws (n_v vs 0) 6) (w_fi ws (n_v vs 0) 8) (w_fi ws (n_v vs 0) 7) (w_fi ws (n_v vs 0) 9) (w_fi ws (n_v vs 1) 0) k3 k12 k13 k14 k15 k16 f5 f6 f7 f8 f13 f14 f15 f20 f21 f25 kz_0_6 kz_0_7 kz_0_8 kz_0_9 kz_1_0
  refine ⟨(fun _ h => (by cases h)), [], trivial, ?_, (fun _ h => (by cases h))⟩
  rw [List.append_nil]
  exact List.forall_mem_cons.mpr ⟨⟨show (20 : Nat) < 100 from by decide, nf0⟩, (fun _ h => (by cases h))⟩
set_option maxHeartbeats 4000000 in
theorem vc_Re_readEdges_11_0 (number_0 : Int) (gx : Int) (kz_0_9 : (-2147483648) ≤ number_0 ∧ number_0 ≤ 1000000) (ex2 : gx = number_0) : 1 * number_0 + ((-1) * gx + 0) ≤ 0 := by
  first
    | omega
  
set_option maxHeartbeats 4000000 in
theorem vc_Re_readEdges_11_1 (number_0 : Int) (gx : Int) (kz_0_9 : (-2147483648) ≤ number_0 ∧ number_0 ≤ 1000000) (ex2 : gx = number_0) : (-1) * number_0 + (1 * gx + 0) ≤ 0 := by
  first
    | omega
  
def o_Re_readEdges_11 : or_T := (190, 23, [(0, (2, 0, 0, [8]))], [(24, [0, 2], [])], [], [(0, -2147483648, 1000000, [])], [(20, [2, 23], [30, 0, 1, 1, 9, -1, 0, 0]), (20, [2, 23], [30, 0, -1, 1, 9, 1, 0, 0])], [], [])
theorem oo_Re_readEdges_11 {kA : Nat → ClassId} : or_ok PRD kA GG o_Re_readEdges_11 := by
  refine or_mk fun A ta ws vs hD hth hl => ?_
  intro t0 r0 f7
  replace f7 := shm_5 f7
  have q2 : n_v vs 2 = n_v vs 0 := f7.symm
  have kz_0_9 := fdq_27 hD hth r0
  obtain ⟨x, ex, hx⟩ := iv_ex (ta := ta) (lo := (-2147483648)) (hi := 1000000) (z := w_fi ws (n_v vs 0) 9) (by omega) (by omega) (by omega) (by omega)
  have ex2 : v_iv (Value.int x) = w_fi ws (n_v vs 0) 9 := ex
  have ex3 : (-2147483648) ≤ v_iv (Value.int x) ∧ v_iv (Value.int x) ≤ 1000000 := tv_rng hx
  have e_2 : n_v (vs ++ [Value.int x]) 2 = n_v vs 2 := n_v_old (by rw [hl]; decide)
  have e_23 : n_v (vs ++ [Value.int x]) 23 = Value.int x := n_v_new hl
  have nf0 : fc_1 PRD (20, [2, 23], [30, 0, 1, 1, 9, -1, 0, 0]) ws (vs ++ [Value.int x]) := by
    refine ⟨nf_inA hl rfl, sgq_199 ?_⟩
    · show 1 * w_fi ws (n_v (vs ++ [Value.int x]) 2) 9 + ((-1) * v_iv (n_v (vs ++ [Value.int x]) 23) + 0) ≤ 0
      simp only [e_2, e_23, q2]
      exact vc_Re_readEdges_11_0 (w_fi ws (n_v vs 0) 9) (v_iv (Value.int x)) kz_0_9 ex2
  have nf1 : fc_1 PRD (20, [2, 23], [30, 0, -1, 1, 9, 1, 0, 0]) ws (vs ++ [Value.int x]) := by
    refine ⟨nf_inA hl rfl, sgq_200 ?_⟩
    · show (-1) * w_fi ws (n_v (vs ++ [Value.int x]) 2) 9 + (1 * v_iv (n_v (vs ++ [Value.int x]) 23) + 0) ≤ 0
      simp only [e_2, e_23, q2]
      exact vc_Re_readEdges_11_1 (w_fi ws (n_v vs 0) 9) (v_iv (Value.int x)) kz_0_9 ex2
  exact ⟨(fun _ h => (by cases h)), [Value.int x], ag_one hx, List.forall_mem_cons.mpr ⟨⟨show (20 : Nat) < 100 from by decide, nf0⟩, List.forall_mem_cons.mpr ⟨⟨show (20 : Nat) < 100 from by decide, nf1⟩, (fun _ h => (by cases h))⟩⟩, (fun _ h => (by cases h))⟩
set_option maxHeartbeats 4000000 in
theorem vc_Re_readEdges_12_0 (x3 : Int) (x15 : Int) (nodes_0o1 : Int) (k3 : 0 ≤ x3 ∧ x3 ≤ 23) (k15 : 0 ≤ x15 ∧ x15 ≤ 23) (f1 : (0 ≤ x3) ∧ (((x3 + 1) ≤ nodes_0o1) ∧ ((0 ≤ x15) ∧ (((x15 + 1) ≤ nodes_0o1) ∧ (((x3 + 1) ≤ x15) ∨ ((x15 + 1) ≤ x3)))))) (kz_1_0 : 0 ≤ nodes_0o1 ∧ nodes_0o1 ≤ 24) : (0 ≤ x15) ∧ ((x15 + 1) ≤ nodes_0o1) := by
  first
    | omega
  
def o_Re_readEdges_12 : or_T := (54, 25, [(1, (2, 0, 0, [164])), (3, (0, 0, 23, [])), (15, (0, 0, 23, []))], [(20, [3, 6, 15], [50, 1, 0, 1000, 2, 6, 0, 2, 0, 0, 1, 0, 2, 11, 0, 6, 4, 2, 1, 0, 0, 1, 2, 1, 0, 2, 6, 0, 2, 0, 0, 1, 2, 2, 11, 0, 6, 4, 2, 1, 2, 0, 1, 2, 1, 0, 3, 10, 0, 6, 4, 2, 1, 0, 0, 1, 1, 2, 0, 6, 4, 2, 1, 2, 0, 1, 1, 0]), (24, [1, 6], [])], [], [], [(20, [15, 6], [50, 1, 0, 1000, 2, 6, 0, 2, 0, 0, 1, 0, 0, 6, 4, 2, 1, 0, 0, 1, 2, 1, 0])], [], [])
theorem oo_Re_readEdges_12 {kA : Nat → ClassId} : or_ok PRD kA GG o_Re_readEdges_12 := by
  refine or_mk fun A ta ws vs hD hth hl => ?_
  intro t1 r1 t3 k3 t15 k15 f1 f4
  replace f1 := shm_810 f1
  replace f4 := shm_5 f4
  have q6 : n_v vs 6 = n_v vs 1 := f4.symm
  simp only [q6] at f1
  have kz_1_0 := fdq_77 hD hth r1
  have nf0 : fc_1 PRD (20, [15, 6], [50, 1, 0, 1000, 2, 6, 0, 2, 0, 0, 1, 0, 0, 6, 4, 2, 1, 0, 0, 1, 2, 1, 0]) ws (vs) := by
    refine ⟨nf_in hl rfl, sgq_429 ?_⟩
    · show (0 ≤ v_iv (n_v vs 15)) ∧ ((v_iv (n_v vs 15) + 1) ≤ w_fi ws (n_v vs 6) 0)
      rw [q6]
      exact vc_Re_readEdges_12_0 (v_iv (n_v vs 3)) (v_iv (n_v vs 15)) (w_fi ws (n_v vs 1) 0) k3 k15 f1 kz_1_0
  refine ⟨(fun _ h => (by cases h)), [], trivial, ?_, (fun _ h => (by cases h))⟩
  rw [List.append_nil]
  exact List.forall_mem_cons.mpr ⟨⟨show (20 : Nat) < 100 from by decide, nf0⟩, (fun _ h => (by cases h))⟩
set_option maxHeartbeats 4000000 in
theorem vc_Re_readEdges_13_0 (edges_0o1 : Int) (near_0o1 : Int → Int) (tail_0o1 : Int → Int) (head_0o1 : Int → Int) (nodes_0o1 : Int) (f13 : GNB (nodes_0o1) (edges_0o1) (near_0o1) (tail_0o1) (head_0o1)) (kz_1_0 : 0 ≤ nodes_0o1 ∧ nodes_0o1 ≤ 24) (kz_1_1 : 0 ≤ edges_0o1 ∧ edges_0o1 ≤ 48) : GNB (nodes_0o1) (edges_0o1) (near_0o1) (tail_0o1) (head_0o1) := by
  first
    | assumption
  
set_option maxHeartbeats 4000000 in
theorem vc_Re_readEdges_13_1 (edges_0o1 : Int) (tail_0o1 : Int → Int) (head_0o1 : Int → Int) (nodes_0o1 : Int) (f14 : GKE (nodes_0o1) (edges_0o1) (tail_0o1) (head_0o1)) (kz_1_0 : 0 ≤ nodes_0o1 ∧ nodes_0o1 ≤ 24) (kz_1_1 : 0 ≤ edges_0o1 ∧ edges_0o1 ≤ 48) : GKE (nodes_0o1) (edges_0o1) (tail_0o1) (head_0o1) := by
  first
    | assumption
  
def o_Re_readEdges_13 : or_T := (172, 24, [(1, (2, 0, 0, [164]))], [(24, [1, 6], []), (20, [6], [60, 2, 3, 670, 0, 1, 14, 7, 8]), (20, [6], [60, 2, 2, 596, 0, 1, 7, 8])], [], [], [(20, [1], [60, 2, 3, 670, 0, 1, 14, 7, 8]), (20, [1], [60, 2, 2, 596, 0, 1, 7, 8])], [], [])
theorem oo_Re_readEdges_13 {kA : Nat → ClassId} : or_ok PRD kA GG o_Re_readEdges_13 := by
  refine or_mk fun A ta ws vs hD hth hl => ?_
  intro t1 r1 f6 f13 f14
  replace f6 := shm_5 f6
  replace f13 := shm_811 f13
  replace f14 := shm_401 f14
  have q6 : n_v vs 6 = n_v vs 1 := f6.symm
  simp only [q6] at f13 f14
  have kz_1_0 := fdq_77 hD hth r1
  have kz_1_1 := fdq_78 hD hth r1
  have nf0 : fc_1 PRD (20, [1], [60, 2, 3, 670, 0, 1, 14, 7, 8]) ws (vs) := ⟨nf_in hl rfl, sgq_811 (vc_Re_readEdges_13_0 (w_fi ws (n_v vs 1) 1) (w_ei ws (w_ar ws (n_v vs 1) 14)) (w_ei ws (w_ar ws (n_v vs 1) 7)) (w_ei ws (w_ar ws (n_v vs 1) 8)) (w_fi ws (n_v vs 1) 0) f13 kz_1_0 kz_1_1)⟩
  have nf1 : fc_1 PRD (20, [1], [60, 2, 2, 596, 0, 1, 7, 8]) ws (vs) := ⟨nf_in hl rfl, sgq_401 (vc_Re_readEdges_13_1 (w_fi ws (n_v vs 1) 1) (w_ei ws (w_ar ws (n_v vs 1) 7)) (w_ei ws (w_ar ws (n_v vs 1) 8)) (w_fi ws (n_v vs 1) 0) f14 kz_1_0 kz_1_1)⟩
  refine ⟨(fun _ h => (by cases h)), [], trivial, ?_, (fun _ h => (by cases h))⟩
  rw [List.append_nil]
  exact List.forall_mem_cons.mpr ⟨⟨show (20 : Nat) < 100 from by decide, nf0⟩, List.forall_mem_cons.mpr ⟨⟨show (20 : Nat) < 100 from by decide, nf1⟩, (fun _ h => (by cases h))⟩⟩
set_option maxHeartbeats 4000000 in
theorem vc_Re_readEdges_14_0 (near_0o1 : Int → Int) (tail_0o1 : Int → Int) (head_0o1 : Int → Int) (nodes_0o1 : Int) (edges_0o1 : Int) (f12 : GNB (nodes_0o1) (edges_0o1) (near_0o1) (tail_0o1) (head_0o1)) (kz_1_0 : 0 ≤ nodes_0o1 ∧ nodes_0o1 ≤ 24) (kz_1_1 : 0 ≤ edges_0o1 ∧ edges_0o1 ≤ 48) : GNB (nodes_0o1) (edges_0o1) (near_0o1) (tail_0o1) (head_0o1) := by
  first
    | assumption
  
set_option maxHeartbeats 4000000 in
theorem vc_Re_readEdges_14_1 (tail_0o1 : Int → Int) (head_0o1 : Int → Int) (nodes_0o1 : Int) (edges_0o1 : Int) (f13 : GKE (nodes_0o1) (edges_0o1) (tail_0o1) (head_0o1)) (kz_1_0 : 0 ≤ nodes_0o1 ∧ nodes_0o1 ≤ 24) (kz_1_1 : 0 ≤ edges_0o1 ∧ edges_0o1 ≤ 48) : GKE (nodes_0o1) (edges_0o1) (tail_0o1) (head_0o1) := by
  first
    | assumption
  
def o_Re_readEdges_14 : or_T := (148, 21, [(1, (2, 0, 0, [164]))], [(24, [1, 6], []), (20, [6], [60, 2, 3, 670, 0, 1, 14, 7, 8]), (20, [6], [60, 2, 2, 596, 0, 1, 7, 8])], [], [], [(20, [1], [60, 2, 3, 670, 0, 1, 14, 7, 8]), (20, [1], [60, 2, 2, 596, 0, 1, 7, 8])], [], [])
theorem oo_Re_readEdges_14 {kA : Nat → ClassId} : or_ok PRD kA GG o_Re_readEdges_14 := by
  refine or_mk fun A ta ws vs hD hth hl => ?_
  intro t1 r1 f5 f12 f13
  replace f5 := shm_5 f5
  replace f12 := shm_811 f12
  replace f13 := shm_401 f13
  have q6 : n_v vs 6 = n_v vs 1 := f5.symm
  simp only [q6] at f12 f13
  have kz_1_0 := fdq_77 hD hth r1
  have kz_1_1 := fdq_78 hD hth r1
  have nf0 : fc_1 PRD (20, [1], [60, 2, 3, 670, 0, 1, 14, 7, 8]) ws (vs) := ⟨nf_in hl rfl, sgq_811 (vc_Re_readEdges_14_0 (w_ei ws (w_ar ws (n_v vs 1) 14)) (w_ei ws (w_ar ws (n_v vs 1) 7)) (w_ei ws (w_ar ws (n_v vs 1) 8)) (w_fi ws (n_v vs 1) 0) (w_fi ws (n_v vs 1) 1) f12 kz_1_0 kz_1_1)⟩
  have nf1 : fc_1 PRD (20, [1], [60, 2, 2, 596, 0, 1, 7, 8]) ws (vs) := ⟨nf_in hl rfl, sgq_401 (vc_Re_readEdges_14_1 (w_ei ws (w_ar ws (n_v vs 1) 7)) (w_ei ws (w_ar ws (n_v vs 1) 8)) (w_fi ws (n_v vs 1) 0) (w_fi ws (n_v vs 1) 1) f13 kz_1_0 kz_1_1)⟩
  refine ⟨(fun _ h => (by cases h)), [], trivial, ?_, (fun _ h => (by cases h))⟩
  rw [List.append_nil]
  exact List.forall_mem_cons.mpr ⟨⟨show (20 : Nat) < 100 from by decide, nf0⟩, List.forall_mem_cons.mpr ⟨⟨show (20 : Nat) < 100 from by decide, nf1⟩, (fun _ h => (by cases h))⟩⟩
set_option maxHeartbeats 4000000 in
theorem vc_Re_readEdges_15_0 (near_0o1 : Int → Int) (tail_0o1 : Int → Int) (head_0o1 : Int → Int) (nodes_0o1 : Int) (edges_0o1 : Int) (f11 : GNB (nodes_0o1) (edges_0o1) (near_0o1) (tail_0o1) (head_0o1)) (kz_1_0 : 0 ≤ nodes_0o1 ∧ nodes_0o1 ≤ 24) (kz_1_1 : 0 ≤ edges_0o1 ∧ edges_0o1 ≤ 48) : GNB (nodes_0o1) (edges_0o1) (near_0o1) (tail_0o1) (head_0o1) := by
  first
    | assumption
  
set_option maxHeartbeats 4000000 in
theorem vc_Re_readEdges_15_1 (tail_0o1 : Int → Int) (head_0o1 : Int → Int) (nodes_0o1 : Int) (edges_0o1 : Int) (f12 : GKE (nodes_0o1) (edges_0o1) (tail_0o1) (head_0o1)) (kz_1_0 : 0 ≤ nodes_0o1 ∧ nodes_0o1 ≤ 24) (kz_1_1 : 0 ≤ edges_0o1 ∧ edges_0o1 ≤ 48) : GKE (nodes_0o1) (edges_0o1) (tail_0o1) (head_0o1) := by
  first
    | assumption
  
def o_Re_readEdges_15 : or_T := (172, 20, [(1, (2, 0, 0, [164]))], [(24, [1, 6], []), (20, [6], [60, 2, 3, 670, 0, 1, 14, 7, 8]), (20, [6], [60, 2, 2, 596, 0, 1, 7, 8])], [], [], [(20, [1], [60, 2, 3, 670, 0, 1, 14, 7, 8]), (20, [1], [60, 2, 2, 596, 0, 1, 7, 8])], [], [])
theorem oo_Re_readEdges_15 {kA : Nat → ClassId} : or_ok PRD kA GG o_Re_readEdges_15 := by
  refine or_mk fun A ta ws vs hD hth hl => ?_
  intro t1 r1 f4 f11 f12
  replace f4 := shm_5 f4
  replace f11 := shm_811 f11
  replace f12 := shm_401 f12
  have q6 : n_v vs 6 = n_v vs 1 := f4.symm
  simp only [q6] at f11 f12
  have kz_1_0 := fdq_77 hD hth r1
  have kz_1_1 := fdq_78 hD hth r1
  have nf0 : fc_1 PRD (20, [1], [60, 2, 3, 670, 0, 1, 14, 7, 8]) ws (vs) := ⟨nf_in hl rfl, sgq_811 (vc_Re_readEdges_15_0 (w_ei ws (w_ar ws (n_v vs 1) 14)) (w_ei ws (w_ar ws (n_v vs 1) 7)) (w_ei ws (w_ar ws (n_v vs 1) 8)) (w_fi ws (n_v vs 1) 0) (w_fi ws (n_v vs 1) 1) f11 kz_1_0 kz_1_1)⟩
  have nf1 : fc_1 PRD (20, [1], [60, 2, 2, 596, 0, 1, 7, 8]) ws (vs) := ⟨nf_in hl rfl, sgq_401 (vc_Re_readEdges_15_1 (w_ei ws (w_ar ws (n_v vs 1) 7)) (w_ei ws (w_ar ws (n_v vs 1) 8)) (w_fi ws (n_v vs 1) 0) (w_fi ws (n_v vs 1) 1) f12 kz_1_0 kz_1_1)⟩
  refine ⟨(fun _ h => (by cases h)), [], trivial, ?_, (fun _ h => (by cases h))⟩
  rw [List.append_nil]
  exact List.forall_mem_cons.mpr ⟨⟨show (20 : Nat) < 100 from by decide, nf0⟩, List.forall_mem_cons.mpr ⟨⟨show (20 : Nat) < 100 from by decide, nf1⟩, (fun _ h => (by cases h))⟩⟩
set_option maxHeartbeats 4000000 in
theorem vc_Re_readEdges_16_0 (near_0o1 : Int → Int) (tail_0o1 : Int → Int) (head_0o1 : Int → Int) (nodes_0o1 : Int) (edges_0o1 : Int) (f0 : GNB (nodes_0o1) (edges_0o1) (near_0o1) (tail_0o1) (head_0o1)) (kz_1_0 : 0 ≤ nodes_0o1 ∧ nodes_0o1 ≤ 24) (kz_1_1 : 0 ≤ edges_0o1 ∧ edges_0o1 ≤ 48) : GNB (nodes_0o1) (edges_0o1) (near_0o1) (tail_0o1) (head_0o1) := by
  first
    | assumption
  
set_option maxHeartbeats 4000000 in
theorem vc_Re_readEdges_16_1 (tail_0o1 : Int → Int) (head_0o1 : Int → Int) (nodes_0o1 : Int) (edges_0o1 : Int) (f1 : GKE (nodes_0o1) (edges_0o1) (tail_0o1) (head_0o1)) (kz_1_0 : 0 ≤ nodes_0o1 ∧ nodes_0o1 ≤ 24) (kz_1_1 : 0 ≤ edges_0o1 ∧ edges_0o1 ≤ 48) : GKE (nodes_0o1) (edges_0o1) (tail_0o1) (head_0o1) := by
  first
    | assumption
  
def o_Re_readEdges_16 : or_T := (110, 16, [(1, (2, 0, 0, [164]))], [(20, [6], [60, 2, 3, 670, 0, 1, 14, 7, 8]), (20, [6], [60, 2, 2, 596, 0, 1, 7, 8]), (24, [1, 6], [])], [], [], [(20, [1], [60, 2, 3, 670, 0, 1, 14, 7, 8]), (20, [1], [60, 2, 2, 596, 0, 1, 7, 8])], [], [])
theorem oo_Re_readEdges_16 {kA : Nat → ClassId} : or_ok PRD kA GG o_Re_readEdges_16 := by
  refine or_mk fun A ta ws vs hD hth hl => ?_
  intro t1 r1 f0 f1 f2
  replace f0 := shm_811 f0
  replace f1 := shm_401 f1
  replace f2 := shm_5 f2
  have q6 : n_v vs 6 = n_v vs 1 := f2.symm
  simp only [q6] at f0 f1
  have kz_1_0 := fdq_77 hD hth r1
  have kz_1_1 := fdq_78 hD hth r1
  have nf0 : fc_1 PRD (20, [1], [60, 2, 3, 670, 0, 1, 14, 7, 8]) ws (vs) := ⟨nf_in hl rfl, sgq_811 (vc_Re_readEdges_16_0 (w_ei ws (w_ar ws (n_v vs 1) 14)) (w_ei ws (w_ar ws (n_v vs 1) 7)) (w_ei ws (w_ar ws (n_v vs 1) 8)) (w_fi ws (n_v vs 1) 0) (w_fi ws (n_v vs 1) 1) f0 kz_1_0 kz_1_1)⟩
  have nf1 : fc_1 PRD (20, [1], [60, 2, 2, 596, 0, 1, 7, 8]) ws (vs) := ⟨nf_in hl rfl, sgq_401 (vc_Re_readEdges_16_1 (w_ei ws (w_ar ws (n_v vs 1) 7)) (w_ei ws (w_ar ws (n_v vs 1) 8)) (w_fi ws (n_v vs 1) 0) (w_fi ws (n_v vs 1) 1) f1 kz_1_0 kz_1_1)⟩
  refine ⟨(fun _ h => (by cases h)), [], trivial, ?_, (fun _ h => (by cases h))⟩
  rw [List.append_nil]
  exact List.forall_mem_cons.mpr ⟨⟨show (20 : Nat) < 100 from by decide, nf0⟩, List.forall_mem_cons.mpr ⟨⟨show (20 : Nat) < 100 from by decide, nf1⟩, (fun _ h => (by cases h))⟩⟩
set_option maxHeartbeats 4000000 in
theorem vc_Re_readEdges_17_0 (near_0o1 : Int → Int) (tail_0o1 : Int → Int) (head_0o1 : Int → Int) (nodes_0o1 : Int) (edges_0o1 : Int) (f0 : GNB (nodes_0o1) (edges_0o1) (near_0o1) (tail_0o1) (head_0o1)) (kz_1_0 : 0 ≤ nodes_0o1 ∧ nodes_0o1 ≤ 24) (kz_1_1 : 0 ≤ edges_0o1 ∧ edges_0o1 ≤ 48) : GNB (nodes_0o1) (edges_0o1) (near_0o1) (tail_0o1) (head_0o1) := by
  first
    | assumption
  
set_option maxHeartbeats 4000000 in
theorem vc_Re_readEdges_17_1 (tail_0o1 : Int → Int) (head_0o1 : Int → Int) (nodes_0o1 : Int) (edges_0o1 : Int) (f1 : GKE (nodes_0o1) (edges_0o1) (tail_0o1) (head_0o1)) (kz_1_0 : 0 ≤ nodes_0o1 ∧ nodes_0o1 ≤ 24) (kz_1_1 : 0 ≤ edges_0o1 ∧ edges_0o1 ≤ 48) : GKE (nodes_0o1) (edges_0o1) (tail_0o1) (head_0o1) := by
  first
    | assumption
  
def o_Re_readEdges_17 : or_T := (279, 16, [(1, (2, 0, 0, [164]))], [(20, [6], [60, 2, 3, 670, 0, 1, 14, 7, 8]), (20, [6], [60, 2, 2, 596, 0, 1, 7, 8]), (24, [1, 6], [])], [], [], [(20, [1], [60, 2, 3, 670, 0, 1, 14, 7, 8]), (20, [1], [60, 2, 2, 596, 0, 1, 7, 8])], [], [])
theorem oo_Re_readEdges_17 {kA : Nat → ClassId} : or_ok PRD kA GG o_Re_readEdges_17 := by
  refine or_mk fun A ta ws vs hD hth hl => ?_
  intro t1 r1 f0 f1 f2
  replace f0 := shm_811 f0
  replace f1 := shm_401 f1
  replace f2 := shm_5 f2
  have q6 : n_v vs 6 = n_v vs 1 := f2.symm
  simp only [q6] at f0 f1
  have kz_1_0 := fdq_77 hD hth r1
  have kz_1_1 := fdq_78 hD hth r1
  have nf0 : fc_1 PRD (20, [1], [60, 2, 3, 670, 0, 1, 14, 7, 8]) ws (vs) := ⟨nf_in hl rfl, sgq_811 (vc_Re_readEdges_17_0 (w_ei ws (w_ar ws (n_v vs 1) 14)) (w_ei ws (w_ar ws (n_v vs 1) 7)) (w_ei ws (w_ar ws (n_v vs 1) 8)) (w_fi ws (n_v vs 1) 0) (w_fi ws (n_v vs 1) 1) f0 kz_1_0 kz_1_1)⟩
  have nf1 : fc_1 PRD (20, [1], [60, 2, 2, 596, 0, 1, 7, 8]) ws (vs) := ⟨nf_in hl rfl, sgq_401 (vc_Re_readEdges_17_1 (w_ei ws (w_ar ws (n_v vs 1) 7)) (w_ei ws (w_ar ws (n_v vs 1) 8)) (w_fi ws (n_v vs 1) 0) (w_fi ws (n_v vs 1) 1) f1 kz_1_0 kz_1_1)⟩
  refine ⟨(fun _ h => (by cases h)), [], trivial, ?_, (fun _ h => (by cases h))⟩
  rw [List.append_nil]
  exact List.forall_mem_cons.mpr ⟨⟨show (20 : Nat) < 100 from by decide, nf0⟩, List.forall_mem_cons.mpr ⟨⟨show (20 : Nat) < 100 from by decide, nf1⟩, (fun _ h => (by cases h))⟩⟩
set_option maxHeartbeats 4000000 in
theorem vc_Re_readEdges_18_0 (x13 : Int) (x14 : Int) (number_0 : Int) (k13 : 9 ≤ x13 ∧ x13 ≤ 9) (k14 : 1 ≤ x14 ∧ x14 ≤ 1) (f6 : (1 * x14 + 0 ≤ 0) ∨ (1 * number_0 + ((-1) * x13 + 0) ≤ 0)) (f7 : (1 * x14 + 0 ≤ 0) ∨ ((-1) * number_0 + 0 ≤ (-1))) (kz_0_9 : (-2147483648) ≤ number_0 ∧ number_0 ≤ 1000000) : 1 * number_0 + 0 ≤ 9 := by
  first
    | omega
  
set_option maxHeartbeats 4000000 in
theorem vc_Re_readEdges_18_1 (x14 : Int) (number_0 : Int) (k14 : 1 ≤ x14 ∧ x14 ≤ 1) (f7 : (1 * x14 + 0 ≤ 0) ∨ ((-1) * number_0 + 0 ≤ (-1))) (kz_0_9 : (-2147483648) ≤ number_0 ∧ number_0 ≤ 1000000) : (-1) * number_0 + 0 ≤ (-1) := by
  first
    | omega
  
def o_Re_readEdges_18 : or_T := (223, 15, [(0, (2, 0, 0, [8])), (13, (0, 9, 9, [])), (14, (0, 1, 1, []))], [(24, [0, 2], []), (20, [14, 2, 13], [31, 1, 0, 1, 0, 0, 0, 1, 1, 9, -1, 0, 0]), (20, [14, 2], [31, 1, 0, 1, 0, 0, -1, -1, 1, 9])], [], [], [(20, [2], [30, 9, 1, 1, 9]), (20, [2], [30, -1, -1, 1, 9])], [], [])
theorem oo_Re_readEdges_18 {kA : Nat → ClassId} : or_ok PRD kA GG o_Re_readEdges_18 := by
  refine or_mk fun A ta ws vs hD hth hl => ?_
  intro t0 r0 t13 k13 t14 k14 f5 f6 f7
  replace f5 := shm_5 f5
  replace f6 := shm_291 f6
  replace f7 := shm_292 f7
  have q2 : n_v vs 2 = n_v vs 0 := f5.symm
  simp only [q2] at f6 f7
  have kz_0_9 := fdq_27 hD hth r0
  have nf0 : fc_1 PRD (20, [2], [30, 9, 1, 1, 9]) ws (vs) := by
    refine ⟨nf_in hl rfl, sgq_1989 ?_⟩
    · show 1 * w_fi ws (n_v vs 2) 9 + 0 ≤ 9
      rw [q2]
      exact vc_Re_readEdges_18_0 (v_iv (n_v vs 13)) (v_iv (n_v vs 14)) (w_fi ws (n_v vs 0) 9) k13 k14 f6 f7 kz_0_9
  have nf1 : fc_1 PRD (20, [2], [30, -1, -1, 1, 9]) ws (vs) := by
    refine ⟨nf_in hl rfl, sgq_1990 ?_⟩
    · show (-1) * w_fi ws (n_v vs 2) 9 + 0 ≤ (-1)
      rw [q2]
      exact vc_Re_readEdges_18_1 (v_iv (n_v vs 14)) (w_fi ws (n_v vs 0) 9) k14 f7 kz_0_9
  refine ⟨(fun _ h => (by cases h)), [], trivial, ?_, (fun _ h => (by cases h))⟩
  rw [List.append_nil]
  exact List.forall_mem_cons.mpr ⟨⟨show (20 : Nat) < 100 from by decide, nf0⟩, List.forall_mem_cons.mpr ⟨⟨show (20 : Nat) < 100 from by decide, nf1⟩, (fun _ h => (by cases h))⟩⟩
set_option maxHeartbeats 4000000 in
theorem vc_Re_readEdges_19_0 (near_0o1 : Int → Int) (tail_0o1 : Int → Int) (head_0o1 : Int → Int) (nodes_0o1 : Int) (edges_0o1 : Int) (f1 : GNB (nodes_0o1) (edges_0o1) (near_0o1) (tail_0o1) (head_0o1)) (kz_1_0 : 0 ≤ nodes_0o1 ∧ nodes_0o1 ≤ 24) (kz_1_1 : 0 ≤ edges_0o1 ∧ edges_0o1 ≤ 48) : GNB (nodes_0o1) (edges_0o1) (near_0o1) (tail_0o1) (head_0o1) := by
  first
    | assumption
  
set_option maxHeartbeats 4000000 in
theorem vc_Re_readEdges_19_1 (tail_0o1 : Int → Int) (head_0o1 : Int → Int) (nodes_0o1 : Int) (edges_0o1 : Int) (f2 : GKE (nodes_0o1) (edges_0o1) (tail_0o1) (head_0o1)) (kz_1_0 : 0 ≤ nodes_0o1 ∧ nodes_0o1 ≤ 24) (kz_1_1 : 0 ≤ edges_0o1 ∧ edges_0o1 ≤ 48) : GKE (nodes_0o1) (edges_0o1) (tail_0o1) (head_0o1) := by
  first
    | assumption
  
def o_Re_readEdges_19 : or_T := (220, 16, [(1, (2, 0, 0, [164]))], [(20, [6], [60, 2, 3, 670, 0, 1, 14, 7, 8]), (20, [6], [60, 2, 2, 596, 0, 1, 7, 8]), (24, [1, 6], [])], [], [], [(20, [1], [60, 2, 3, 670, 0, 1, 14, 7, 8]), (20, [1], [60, 2, 2, 596, 0, 1, 7, 8])], [], [])
theorem oo_Re_readEdges_19 {kA : Nat → ClassId} : or_ok PRD kA GG o_Re_readEdges_19 := by
  refine or_mk fun A ta ws vs hD hth hl => ?_
  intro t1 r1 f1 f2 f3
  replace f1 := shm_811 f1
  replace f2 := shm_401 f2
  replace f3 := shm_5 f3
  have q6 : n_v vs 6 = n_v vs 1 := f3.symm
  simp only [q6] at f1 f2
  have kz_1_0 := fdq_77 hD hth r1
  have kz_1_1 := fdq_78 hD hth r1
  have nf0 : fc_1 PRD (20, [1], [60, 2, 3, 670, 0, 1, 14, 7, 8]) ws (vs) := ⟨nf_in hl rfl, sgq_811 (vc_Re_readEdges_19_0 (w_ei ws (w_ar ws (n_v vs 1) 14)) (w_ei ws (w_ar ws (n_v vs 1) 7)) (w_ei ws (w_ar ws (n_v vs 1) 8)) (w_fi ws (n_v vs 1) 0) (w_fi ws (n_v vs 1) 1) f1 kz_1_0 kz_1_1)⟩
  have nf1 : fc_1 PRD (20, [1], [60, 2, 2, 596, 0, 1, 7, 8]) ws (vs) := ⟨nf_in hl rfl, sgq_401 (vc_Re_readEdges_19_1 (w_ei ws (w_ar ws (n_v vs 1) 7)) (w_ei ws (w_ar ws (n_v vs 1) 8)) (w_fi ws (n_v vs 1) 0) (w_fi ws (n_v vs 1) 1) f2 kz_1_0 kz_1_1)⟩
  refine ⟨(fun _ h => (by cases h)), [], trivial, ?_, (fun _ h => (by cases h))⟩
  rw [List.append_nil]
  exact List.forall_mem_cons.mpr ⟨⟨show (20 : Nat) < 100 from by decide, nf0⟩, List.forall_mem_cons.mpr ⟨⟨show (20 : Nat) < 100 from by decide, nf1⟩, (fun _ h => (by cases h))⟩⟩
set_option maxHeartbeats 4000000 in
theorem vc_Re_readEdges_20_0 (number_0 : Int) (gx : Int) (kz_0_9 : (-2147483648) ≤ number_0 ∧ number_0 ≤ 1000000) (ex2 : gx = number_0) : 1 * number_0 + ((-1) * gx + 0) ≤ 0 := by
  first
    | omega
  
set_option maxHeartbeats 4000000 in
theorem vc_Re_readEdges_20_1 (number_0 : Int) (gx : Int) (kz_0_9 : (-2147483648) ≤ number_0 ∧ number_0 ≤ 1000000) (ex2 : gx = number_0) : (-1) * number_0 + (1 * gx + 0) ≤ 0 := by
  first
    | omega
  
def o_Re_readEdges_20 : or_T := (95, 13, [(0, (2, 0, 0, [8]))], [(24, [0, 2], [])], [], [(0, -2147483648, 1000000, [])], [(20, [2, 13], [30, 0, 1, 1, 9, -1, 0, 0]), (20, [2, 13], [30, 0, -1, 1, 9, 1, 0, 0])], [], [])
theorem oo_Re_readEdges_20 {kA : Nat → ClassId} : or_ok PRD kA GG o_Re_readEdges_20 := by
  refine or_mk fun A ta ws vs hD hth hl => ?_
  intro t0 r0 f4
  replace f4 := shm_5 f4
  have q2 : n_v vs 2 = n_v vs 0 := f4.symm
  have kz_0_9 := fdq_27 hD hth r0
  obtain ⟨x, ex, hx⟩ := iv_ex (ta := ta) (lo := (-2147483648)) (hi := 1000000) (z := w_fi ws (n_v vs 0) 9) (by omega) (by omega) (by omega) (by omega)
  have ex2 : v_iv (Value.int x) = w_fi ws (n_v vs 0) 9 := ex
  have ex3 : (-2147483648) ≤ v_iv (Value.int x) ∧ v_iv (Value.int x) ≤ 1000000 := tv_rng hx
  have e_2 : n_v (vs ++ [Value.int x]) 2 = n_v vs 2 := n_v_old (by rw [hl]; decide)
  have e_13 : n_v (vs ++ [Value.int x]) 13 = Value.int x := n_v_new hl
  have nf0 : fc_1 PRD (20, [2, 13], [30, 0, 1, 1, 9, -1, 0, 0]) ws (vs ++ [Value.int x]) := by
    refine ⟨nf_inA hl rfl, sgq_199 ?_⟩
    · show 1 * w_fi ws (n_v (vs ++ [Value.int x]) 2) 9 + ((-1) * v_iv (n_v (vs ++ [Value.int x]) 13) + 0) ≤ 0
      simp only [e_2, e_13, q2]
      exact vc_Re_readEdges_20_0 (w_fi ws (n_v vs 0) 9) (v_iv (Value.int x)) kz_0_9 ex2
  have nf1 : fc_1 PRD (20, [2, 13], [30, 0, -1, 1, 9, 1, 0, 0]) ws (vs ++ [Value.int x]) := by
    refine ⟨nf_inA hl rfl, sgq_200 ?_⟩
    · show (-1) * w_fi ws (n_v (vs ++ [Value.int x]) 2) 9 + (1 * v_iv (n_v (vs ++ [Value.int x]) 13) + 0) ≤ 0
      simp only [e_2, e_13, q2]
      exact vc_Re_readEdges_20_1 (w_fi ws (n_v vs 0) 9) (v_iv (Value.int x)) kz_0_9 ex2
  exact ⟨(fun _ h => (by cases h)), [Value.int x], ag_one hx, List.forall_mem_cons.mpr ⟨⟨show (20 : Nat) < 100 from by decide, nf0⟩, List.forall_mem_cons.mpr ⟨⟨show (20 : Nat) < 100 from by decide, nf1⟩, (fun _ h => (by cases h))⟩⟩, (fun _ h => (by cases h))⟩
set_option maxHeartbeats 4000000 in
theorem vc_Re_readEdges_21_0 (x3 : Int) (gx : Int) (k3 : 0 ≤ x3 ∧ x3 ≤ 23) (ex2 : gx = x3) : 1 * gx + ((-1) * x3 + 0) ≤ 0 := by
  first
    | omega
  
set_option maxHeartbeats 4000000 in
theorem vc_Re_readEdges_21_1 (x3 : Int) (gx : Int) (k3 : 0 ≤ x3 ∧ x3 ≤ 23) (ex2 : gx = x3) : (-1) * gx + (1 * x3 + 0) ≤ 0 := by
  first
    | omega
  
set_option maxHeartbeats 4000000 in
theorem vc_Re_readEdges_21_2 (x14 : Int) (next_0 : Int) (begin_0 : Int) (k14 : 1 ≤ x14 ∧ x14 ≤ 1) (f9 : 1 * begin_0 + ((-1) * next_0 + 0) ≤ 0) (f10 : 1 * next_0 + ((-1) * begin_0 + (2000 * x14 + 0)) ≤ 2008) (kz_0_6 : 0 ≤ next_0 ∧ next_0 ≤ 2000) (kz_0_8 : 0 ≤ begin_0 ∧ begin_0 ≤ 2000) : 1 * next_0 + ((-1) * begin_0 + 0) ≤ 8 := by
  first
    | omega
  
set_option maxHeartbeats 4000000 in
theorem vc_Re_readEdges_21_3 (x14 : Int) (next_0 : Int) (begin_0 : Int) (k14 : 1 ≤ x14 ∧ x14 ≤ 1) (f9 : 1 * begin_0 + ((-1) * next_0 + 0) ≤ 0) (f10 : 1 * next_0 + ((-1) * begin_0 + (2000 * x14 + 0)) ≤ 2008) (kz_0_6 : 0 ≤ next_0 ∧ next_0 ≤ 2000) (kz_0_8 : 0 ≤ begin_0 ∧ begin_0 ≤ 2000) : (-1) * next_0 + (1 * begin_0 + 0) ≤ 0 := by
  first
    | omega
  
set_option maxHeartbeats 4000000 in
theorem vc_Re_readEdges_21_4 (near_0o1 : Int → Int) (tail_0o1 : Int → Int) (head_0o1 : Int → Int) (nodes_0o1 : Int) (edges_0o1 : Int) (f1 : GNB (nodes_0o1) (edges_0o1) (near_0o1) (tail_0o1) (head_0o1)) (kz_1_0 : 0 ≤ nodes_0o1 ∧ nodes_0o1 ≤ 24) (kz_1_1 : 0 ≤ edges_0o1 ∧ edges_0o1 ≤ 48) : GNB (nodes_0o1) (edges_0o1) (near_0o1) (tail_0o1) (head_0o1) := by
  first
    | assumption
  
set_option maxHeartbeats 4000000 in
theorem vc_Re_readEdges_21_5 (tail_0o1 : Int → Int) (head_0o1 : Int → Int) (nodes_0o1 : Int) (edges_0o1 : Int) (f2 : GKE (nodes_0o1) (edges_0o1) (tail_0o1) (head_0o1)) (kz_1_0 : 0 ≤ nodes_0o1 ∧ nodes_0o1 ≤ 24) (kz_1_1 : 0 ≤ edges_0o1 ∧ edges_0o1 ≤ 48) : GKE (nodes_0o1) (edges_0o1) (tail_0o1) (head_0o1) := by
  first
    | assumption
  
set_option maxHeartbeats 4000000 in
theorem vc_Re_readEdges_21_6 (x3 : Int) (nodes_0o1 : Int) (gx : Int) (k3 : 0 ≤ x3 ∧ x3 ≤ 23) (f4 : (0 ≤ x3) ∧ ((x3 + 1) ≤ nodes_0o1)) (kz_1_0 : 0 ≤ nodes_0o1 ∧ nodes_0o1 ≤ 24) (ex2 : gx = x3) : (0 ≤ gx) ∧ ((gx + 1) ≤ nodes_0o1) := by
  first
    | omega
  
def o_Re_readEdges_21 : or_T := (112, 15, [(0, (2, 0, 0, [8])), (1, (2, 0, 0, [164])), (3, (0, 0, 23, [])), (14, (0, 1, 1, []))], [(20, [6], [60, 2, 3, 670, 0, 1, 14, 7, 8]), (20, [6], [60, 2, 2, 596, 0, 1, 7, 8]), (24, [1, 6], []), (20, [3, 6], [50, 1, 0, 1000, 2, 6, 0, 2, 0, 0, 1, 0, 0, 6, 4, 2, 1, 0, 0, 1, 2, 1, 0]), (24, [0, 2], []), (20, [2, 2], [30, 0, 1, 1, 8, -1, 1, 6]), (20, [2, 2, 14], [30, 2008, 1, 1, 6, -1, 1, 8, 2000, 0, 0])], [], [(0, 0, 23, [])], [(23, [15, 3], [0, 1, -1]), (23, [15, 3], [0, -1, 1]), (20, [2, 2], [30, 8, 1, 1, 6, -1, 1, 8]), (20, [2, 2], [30, 0, -1, 1, 6, 1, 1, 8]), (20, [6], [60, 2, 3, 670, 0, 1, 14, 7, 8]), (20, [6], [60, 2, 2, 596, 0, 1, 7, 8]), (20, [15, 6], [50, 1, 0, 1000, 2, 6, 0, 2, 0, 0, 1, 0, 0, 6, 4, 2, 1, 0, 0, 1, 2, 1, 0])], [], [])
theorem oo_Re_readEdges_21 {kA : Nat → ClassId} : or_ok PRD kA GG o_Re_readEdges_21 := by
  refine or_mk fun A ta ws vs hD hth hl => ?_
  intro t0 r0 t1 r1 t3 k3 t14 k14 f1 f2 f3 f4 f5 f9 f10
  replace f1 := shm_811 f1
  replace f2 := shm_401 f2
  replace f3 := shm_5 f3
  replace f4 := shm_429 f4
  replace f5 := shm_5 f5
  replace f9 := shm_204 f9
  replace f10 := shm_229 f10
  have q6 : n_v vs 6 = n_v vs 1 := f3.symm
  have q2 : n_v vs 2 = n_v vs 0 := f5.symm
  simp only [q6, q2] at f1 f2 f4 f9 f10
  have kz_0_6 := fdq_29 hD hth r0
  have kz_0_8 := fdq_31 hD hth r0
  have kz_1_0 := fdq_77 hD hth r1
  have kz_1_1 := fdq_78 hD hth r1
  obtain ⟨x, ex, hx⟩ := iv_ex (ta := ta) (lo := 0) (hi := 23) (z := v_iv (n_v vs 3)) (by omega) (by omega) (by omega) (by omega)
  have ex2 : v_iv (Value.int x) = v_iv (n_v vs 3) := ex
  have ex3 : 0 ≤ v_iv (Value.int x) ∧ v_iv (Value.int x) ≤ 23 := tv_rng hx
  have e_2 : n_v (vs ++ [Value.int x]) 2 = n_v vs 2 := n_v_old (by rw [hl]; decide)
  have e_3 : n_v (vs ++ [Value.int x]) 3 = n_v vs 3 := n_v_old (by rw [hl]; decide)
  have e_6 : n_v (vs ++ [Value.int x]) 6 = n_v vs 6 := n_v_old (by rw [hl]; decide)
  have e_15 : n_v (vs ++ [Value.int x]) 15 = Value.int x := n_v_new hl
  have nf0 : fc_1 PRD (23, [15, 3], [0, 1, -1]) ws (vs ++ [Value.int x]) := by
    refine ⟨nf_inA hl rfl, sgq_7 ?_⟩
    · show 1 * v_iv (n_v (vs ++ [Value.int x]) 15) + ((-1) * v_iv (n_v (vs ++ [Value.int x]) 3) + 0) ≤ 0
      simp only [e_3, e_15]
      exact vc_Re_readEdges_21_0 (v_iv (n_v vs 3)) (v_iv (Value.int x)) k3 ex2
  have nf1 : fc_1 PRD (23, [15, 3], [0, -1, 1]) ws (vs ++ [Value.int x]) := by
    refine ⟨nf_inA hl rfl, sgq_22 ?_⟩
    · show (-1) * v_iv (n_v (vs ++ [Value.int x]) 15) + (1 * v_iv (n_v (vs ++ [Value.int x]) 3) + 0) ≤ 0
      simp only [e_3, e_15]
      exact vc_Re_readEdges_21_1 (v_iv (n_v vs 3)) (v_iv (Value.int x)) k3 ex2
  have nf2 : fc_1 PRD (20, [2, 2], [30, 8, 1, 1, 6, -1, 1, 8]) ws (vs ++ [Value.int x]) := by
    refine ⟨nf_inA hl rfl, sgq_1370 ?_⟩
    · show 1 * w_fi ws (n_v (vs ++ [Value.int x]) 2) 6 + ((-1) * w_fi ws (n_v (vs ++ [Value.int x]) 2) 8 + 0) ≤ 8
      simp only [e_2, q2]
      exact vc_Re_readEdges_21_2 (v_iv (n_v vs 14)) (w_fi ws (n_v vs 0) 6) (w_fi ws (n_v vs 0) 8) k14 f9 f10 kz_0_6 kz_0_8
  have nf3 : fc_1 PRD (20, [2, 2], [30, 0, -1, 1, 6, 1, 1, 8]) ws (vs ++ [Value.int x]) := by
    refine ⟨nf_inA hl rfl, sgq_1371 ?_⟩
    · show (-1) * w_fi ws (n_v (vs ++ [Value.int x]) 2) 6 + (1 * w_fi ws (n_v (vs ++ [Value.int x]) 2) 8 + 0) ≤ 0
      simp only [e_2, q2]
      exact vc_Re_readEdges_21_3 (v_iv (n_v vs 14)) (w_fi ws (n_v vs 0) 6) (w_fi ws (n_v vs 0) 8) k14 f9 f10 kz_0_6 kz_0_8
  have nf4 : fc_1 PRD (20, [6], [60, 2, 3, 670, 0, 1, 14, 7, 8]) ws (vs ++ [Value.int x]) := by
    refine ⟨nf_inA hl rfl, sgq_811 ?_⟩
    · show GNB (w_fi ws (n_v (vs ++ [Value.int x]) 6) 0) (w_fi ws (n_v (vs ++ [Value.int x]) 6) 1) (w_ei ws (w_ar ws (n_v (vs ++ [Value.int x]) 6) 14)) (w_ei ws (w_ar ws (n_v (vs ++ [Value.int x]) 6) 7)) (w_ei ws (w_ar ws (n_v (vs ++ [Value.int x]) 6) 8))
      simp only [e_6, q6]
      exact vc_Re_readEdges_21_4 (w_ei ws (w_ar ws (n_v vs 1) 14)) (w_ei ws (w_ar ws (n_v vs 1) 7)) (w_ei ws (w_ar ws (n_v vs 1) 8)) (w_fi ws (n_v vs 1) 0) (w_fi ws (n_v vs 1) 1) f1 kz_1_0 kz_1_1
  have nf5 : fc_1 PRD (20, [6], [60, 2, 2, 596, 0, 1, 7, 8]) ws (vs ++ [Value.int x]) := by
    refine ⟨nf_inA hl rfl, sgq_401 ?_⟩
    · show GKE (w_fi ws (n_v (vs ++ [Value.int x]) 6) 0) (w_fi ws (n_v (vs ++ [Value.int x]) 6) 1) (w_ei ws (w_ar ws (n_v (vs ++ [Value.int x]) 6) 7)) (w_ei ws (w_ar ws (n_v (vs ++ [Value.int x]) 6) 8))
      simp only [e_6, q6]
      exact vc_Re_readEdges_21_5 (w_ei ws (w_ar ws (n_v vs 1) 7)) (w_ei ws (w_ar ws (n_v vs 1) 8)) (w_fi ws (n_v vs 1) 0) (w_fi ws (n_v vs 1) 1) f2 kz_1_0 kz_1_1
  have nf6 : fc_1 PRD (20, [15, 6], [50, 1, 0, 1000, 2, 6, 0, 2, 0, 0, 1, 0, 0, 6, 4, 2, 1, 0, 0, 1, 2, 1, 0]) ws (vs ++ [Value.int x]) := by
    refine ⟨nf_inA hl rfl, sgq_429 ?_⟩
    · show (0 ≤ v_iv (n_v (vs ++ [Value.int x]) 15)) ∧ ((v_iv (n_v (vs ++ [Value.int x]) 15) + 1) ≤ w_fi ws (n_v (vs ++ [Value.int x]) 6) 0)
      simp only [e_6, e_15, q6]
      exact vc_Re_readEdges_21_6 (v_iv (n_v vs 3)) (w_fi ws (n_v vs 1) 0) (v_iv (Value.int x)) k3 f4 kz_1_0 ex2
  exact ⟨(fun _ h => (by cases h)), [Value.int x], ag_one hx, List.forall_mem_cons.mpr ⟨⟨show (23 : Nat) < 100 from by decide, nf0⟩, List.forall_mem_cons.mpr ⟨⟨show (23 : Nat) < 100 from by decide, nf1⟩, List.forall_mem_cons.mpr ⟨⟨show (20 : Nat) < 100 from by decide, nf2⟩, List.forall_mem_cons.mpr ⟨⟨show (20 : Nat) < 100 from by decide, nf3⟩, List.forall_mem_cons.mpr ⟨⟨show (20 : Nat) < 100 from by decide, nf4⟩, List.forall_mem_cons.mpr ⟨⟨show (20 : Nat) < 100 from by decide, nf5⟩, List.forall_mem_cons.mpr ⟨⟨show (20 : Nat) < 100 from by decide, nf6⟩, (fun _ h => (by cases h))⟩⟩⟩⟩⟩⟩⟩, (fun _ h => (by cases h))⟩
set_option maxHeartbeats 4000000 in
theorem vc_Re_readEdges_22_0 (near_0o1 : Int → Int) (tail_0o1 : Int → Int) (head_0o1 : Int → Int) (nodes_0o1 : Int) (edges_0o1 : Int) (f11 : GNB (nodes_0o1) (edges_0o1) (near_0o1) (tail_0o1) (head_0o1)) (kz_1_0 : 0 ≤ nodes_0o1 ∧ nodes_0o1 ≤ 24) (kz_1_1 : 0 ≤ edges_0o1 ∧ edges_0o1 ≤ 48) : GNB (nodes_0o1) (edges_0o1) (near_0o1) (tail_0o1) (head_0o1) := by
  first
    | assumption
  
set_option maxHeartbeats 4000000 in
theorem vc_Re_readEdges_22_1 (tail_0o1 : Int → Int) (head_0o1 : Int → Int) (nodes_0o1 : Int) (edges_0o1 : Int) (f12 : GKE (nodes_0o1) (edges_0o1) (tail_0o1) (head_0o1)) (kz_1_0 : 0 ≤ nodes_0o1 ∧ nodes_0o1 ≤ 24) (kz_1_1 : 0 ≤ edges_0o1 ∧ edges_0o1 ≤ 48) : GKE (nodes_0o1) (edges_0o1) (tail_0o1) (head_0o1) := by
  first
    | assumption
  
def o_Re_readEdges_22 : or_T := (148, 20, [(1, (2, 0, 0, [164]))], [(24, [1, 6], []), (20, [6], [60, 2, 3, 670, 0, 1, 14, 7, 8]), (20, [6], [60, 2, 2, 596, 0, 1, 7, 8])], [], [], [(20, [1], [60, 2, 3, 670, 0, 1, 14, 7, 8]), (20, [1], [60, 2, 2, 596, 0, 1, 7, 8])], [], [])
theorem oo_Re_readEdges_22 {kA : Nat → ClassId} : or_ok PRD kA GG o_Re_readEdges_22 := by
  refine or_mk fun A ta ws vs hD hth hl => ?_
  intro t1 r1 f4 f11 f12
  replace f4 := shm_5 f4
  replace f11 := shm_811 f11
  replace f12 := shm_401 f12
  have q6 : n_v vs 6 = n_v vs 1 := f4.symm
  simp only [q6] at f11 f12
  have kz_1_0 := fdq_77 hD hth r1
  have kz_1_1 := fdq_78 hD hth r1
  have nf0 : fc_1 PRD (20, [1], [60, 2, 3, 670, 0, 1, 14, 7, 8]) ws (vs) := ⟨nf_in hl rfl, sgq_811 (vc_Re_readEdges_22_0 (w_ei ws (w_ar ws (n_v vs 1) 14)) (w_ei ws (w_ar ws (n_v vs 1) 7)) (w_ei ws (w_ar ws (n_v vs 1) 8)) (w_fi ws (n_v vs 1) 0) (w_fi ws (n_v vs 1) 1) f11 kz_1_0 kz_1_1)⟩
  have nf1 : fc_1 PRD (20, [1], [60, 2, 2, 596, 0, 1, 7, 8]) ws (vs) := ⟨nf_in hl rfl, sgq_401 (vc_Re_readEdges_22_1 (w_ei ws (w_ar ws (n_v vs 1) 7)) (w_ei ws (w_ar ws (n_v vs 1) 8)) (w_fi ws (n_v vs 1) 0) (w_fi ws (n_v vs 1) 1) f12 kz_1_0 kz_1_1)⟩
  refine ⟨(fun _ h => (by cases h)), [], trivial, ?_, (fun _ h => (by cases h))⟩
  rw [List.append_nil]
  exact List.forall_mem_cons.mpr ⟨⟨show (20 : Nat) < 100 from by decide, nf0⟩, List.forall_mem_cons.mpr ⟨⟨show (20 : Nat) < 100 from by decide, nf1⟩, (fun _ h => (by cases h))⟩⟩
set_option maxHeartbeats 4000000 in
theorem vc_Re_readEdges_23_0 (x3 : Int) (x13 : Int) (x14 : Int) (x15 : Int) (x16 : Int) (x17 : Int) (next_0 : Int) (begin_0 : Int) (kind_0 : Int) (number_0 : Int) (nodes_0o1 : Int) (k3 : 0 ≤ x3 ∧ x3 ≤ 23) (k13 : (-2147483648) ≤ x13 ∧ x13 ≤ 1000000) (k14 : 1 ≤ x14 ∧ x14 ≤ 1) (k15 : 0 ≤ x15 ∧ x15 ≤ 23) (k16 : 0 ≤ x16 ∧ x16 ≤ 23) (k17 : (-1) ≤ x17 ∧ x17 ≤ (-1)) (f5 : x3 ≠ x16) (f6 : x16 ≠ x17) (f7 : 1 * x15 + ((-1) * x3 + 0) ≤ 0) (f8 : (-1) * x15 + (1 * x3 + 0) ≤ 0) (f13 : (1 * kind_0 + 0 ≤ 3) ∨ (1 * number_0 + ((-1) * x13 + 0) ≤ 0)) (f14 : (1 * kind_0 + 0 ≤ 3) ∨ ((-1) * number_0 + (1 * x13 + 0) ≤ 0)) (f15 : ((-1) * kind_0 + 0 ≤ (-3)) ∨ (1 * next_0 + ((-1) * begin_0 + (2000 * kind_0 + 0)) ≤ 4008)) (f20 : (x16 = (-1)) ∨ ((0 ≤ x16) ∧ ((x16 + 1) ≤ nodes_0o1))) (f21 : (0 ≤ x15) ∧ ((x15 + 1) ≤ nodes_0o1)) (f25 : x14 ≠ 0) (kz_0_6 : 0 ≤ next_0 ∧ next_0 ≤ 2000) (kz_0_7 : (-128) ≤ kind_0 ∧ kind_0 ≤ 127) (kz_0_8 : 0 ≤ begin_0 ∧ begin_0 ≤ 2000) (kz_0_9 : (-2147483648) ≤ number_0 ∧ number_0 ≤ 1000000) (kz_1_0 : 0 ≤ nodes_0o1 ∧ nodes_0o1 ≤ 24) : (0 ≤ x3) ∧ (((x3 + 1) ≤ nodes_0o1) ∧ ((0 ≤ x16) ∧ (((x16 + 1) ≤ nodes_0o1) ∧ (((x3 + 1) ≤ x16) ∨ ((x16 + 1) ≤ x3))))) := by
  first
    | omega
  
def o_Re_readEdges_23 : or_T := (182, 23, [(0, (2, 0, 0, [8])), (1, (2, 0, 0, [164])), (3, (0, 0, 23, [])), (13, (0, -2147483648, 1000000, [])), (14, (0, 1, 1, [])), (15, (0, 0, 23, [])), (16, (0, 0, 23, [])), (17, (0, -1, -1, []))], [(7, [3, 16], [1]), (7, [16, 17], [1]), (23, [15, 3], [0, 1, -1]), (23, [15, 3], [0, -1, 1]), (24, [1, 6], []), (24, [0, 2], []), (20, [2, 2, 13], [31, 1, 3, 1, 1, 7, 0, 1, 1, 9, -1, 0, 0]), (20, [2, 2, 13], [31, 1, 3, 1, 1, 7, 0, -1, 1, 9, 1, 0, 0]), (20, [2, 2, 2, 2], [31, 1, -3, -1, 1, 7, 4008, 1, 1, 6, -1, 1, 8, 2000, 1, 7]), (20, [16, 6], [50, 1, 0, 1000, 3, 6, 1, 2, 1, 0, 0, -1, 2, 6, 0, 2, 0, 0, 1, 0, 0, 6, 4, 2, 1, 0, 0, 1, 2, 1, 0]), (20, [15, 6], [50, 1, 0, 1000, 2, 6, 0, 2, 0, 0, 1, 0, 0, 6, 4, 2, 1, 0, 0, 1, 2, 1, 0]), (102, [15], [2944411990052395234623243954974308466357606285312, 164000]), (8, [14], [1])], [], [], [(20, [3, 6, 16], [50, 1, 0, 1000, 2, 6, 0, 2, 0, 0, 1, 0, 2, 11, 0, 6, 4, 2, 1, 0, 0, 1, 2, 1, 0, 2, 6, 0, 2, 0, 0, 1, 2, 2, 11, 0, 6, 4, 2, 1, 2, 0, 1, 2, 1, 0, 3, 10, 0, 6, 4, 2, 1, 0, 0, 1, 1, 2, 0, 6, 4, 2, 1, 2, 0, 1, 1, 0])], [], [])
theorem oo_Re_readEdges_23 {kA : Nat → ClassId} : or_ok PRD kA GG o_Re_readEdges_23 := by
  refine or_mk fun A ta ws vs hD hth hl => ?_
  intro t0 r0 t1 r1 t3 k3 t13 k13 t14 k14 t15 k15 t16 k16 t17 k17 f5 f6 f7 f8 f11 f12 f13 f14 f15 f20 f21 ta1 w1 le1 s1 f25
  replace f5 := shm_40 f5
  replace f6 := shm_40 f6
  replace f7 := shm_7 f7
  replace f8 := shm_22 f8
  replace f11 := shm_5 f11
  replace f12 := shm_5 f12
  replace f13 := shm_201 f13
  replace f14 := shm_202 f14
  replace f15 := shm_203 f15
  replace f20 := shm_819 f20
  replace f21 := shm_429 f21
  replace f25 := shm_154 f25
  have q6 : n_v vs 6 = n_v vs 1 := f11.symm
  have q2 : n_v vs 2 = n_v vs 0 := f12.symm
  simp only [q6, q2] at f13 f14 f15 f20 f21
  have kz_0_6 := fdq_29 hD hth r0
  have kz_0_7 := fdq_30 hD hth r0
  have kz_0_8 := fdq_31 hD hth r0
  have kz_0_9 := fdq_27 hD hth r0
  have kz_1_0 := fdq_77 hD hth r1
  have nf0 : fc_1 PRD (20, [3, 6, 16], [50, 1, 0, 1000, 2, 6, 0, 2, 0, 0, 1, 0, 2, 11, 0, 6, 4, 2, 1, 0, 0, 1, 2, 1, 0, 2, 6, 0, 2, 0, 0, 1, 2, 2, 11, 0, 6, 4, 2, 1, 2, 0, 1, 2, 1, 0, 3, 10, 0, 6, 4, 2, 1, 0, 0, 1, 1, 2, 0, 6, 4, 2, 1, 2, 0, 1, 1, 0]) ws (vs) := by
    refine ⟨nf_in hl rfl, sgq_810 ?_⟩
    · show (0 ≤ v_iv (n_v vs 3)) ∧ (((v_iv (n_v vs 3) + 1) ≤ w_fi ws (n_v vs 6) 0) ∧ ((0 ≤ v_iv (n_v vs 16)) ∧ (((v_iv (n_v vs 16) + 1) ≤ w_fi ws (n_v vs 6) 0) ∧ (((v_iv (n_v vs 3) + 1) ≤ v_iv (n_v vs 16)) ∨ ((v_iv (n_v vs 16) + 1) ≤ v_iv (n_v vs 3))))))
      rw [q6]
      exact vc_Re_readEdges_23_0 (v_iv (n_v vs 3)) (v_iv (n_v vs 13)) (v_iv (n_v vs 14)) (v_iv (n_v vs 15)) (v_iv (n_v vs 16)) (v_iv (n_v vs 17)) (w_fi ws (n_v vs 0) 6) (w_fi ws (n_v vs 0) 8) (w_fi ws (n_v vs 0) 7) (w_fi ws (n_v vs 0) 9) (w_fi ws (n_v vs 1) 0) k3 k13 k14 k15 k16 k17 f5 f6 f7 f8 f13 f14 f15 f20 f21 f25 kz_0_6 kz_0_7 kz_0_8 kz_0_9 kz_1_0
  refine ⟨(fun _ h => (by cases h)), [], trivial, ?_, (fun _ h => (by cases h))⟩
  rw [List.append_nil]
  exact List.forall_mem_cons.mpr ⟨⟨show (20 : Nat) < 100 from by decide, nf0⟩, (fun _ h => (by cases h))⟩
set_option maxHeartbeats 4000000 in
theorem vc_Re_readEdges_24_0 (number_0 : Int) (gx : Int) (kz_0_9 : (-2147483648) ≤ number_0 ∧ number_0 ≤ 1000000) (ex2 : gx = number_0) : 1 * number_0 + ((-1) * gx + 0) ≤ 0 := by
  first
    | omega
  
set_option maxHeartbeats 4000000 in
theorem vc_Re_readEdges_24_1 (number_0 : Int) (gx : Int) (kz_0_9 : (-2147483648) ≤ number_0 ∧ number_0 ≤ 1000000) (ex2 : gx = number_0) : (-1) * number_0 + (1 * gx + 0) ≤ 0 := by
  first
    | omega
  
def o_Re_readEdges_24 : or_T := (190, 24, [(0, (2, 0, 0, [8]))], [(24, [0, 2], [])], [], [(0, -2147483648, 1000000, [])], [(20, [2, 24], [30, 0, 1, 1, 9, -1, 0, 0]), (20, [2, 24], [30, 0, -1, 1, 9, 1, 0, 0])], [], [])
theorem oo_Re_readEdges_24 {kA : Nat → ClassId} : or_ok PRD kA GG o_Re_readEdges_24 := by
  refine or_mk fun A ta ws vs hD hth hl => ?_
  intro t0 r0 f7
  replace f7 := shm_5 f7
  have q2 : n_v vs 2 = n_v vs 0 := f7.symm
  have kz_0_9 := fdq_27 hD hth r0
  obtain ⟨x, ex, hx⟩ := iv_ex (ta := ta) (lo := (-2147483648)) (hi := 1000000) (z := w_fi ws (n_v vs 0) 9) (by omega) (by omega) (by omega) (by omega)
  have ex2 : v_iv (Value.int x) = w_fi ws (n_v vs 0) 9 := ex
  have ex3 : (-2147483648) ≤ v_iv (Value.int x) ∧ v_iv (Value.int x) ≤ 1000000 := tv_rng hx
  have e_2 : n_v (vs ++ [Value.int x]) 2 = n_v vs 2 := n_v_old (by rw [hl]; decide)
  have e_24 : n_v (vs ++ [Value.int x]) 24 = Value.int x := n_v_new hl
  have nf0 : fc_1 PRD (20, [2, 24], [30, 0, 1, 1, 9, -1, 0, 0]) ws (vs ++ [Value.int x]) := by
    refine ⟨nf_inA hl rfl, sgq_199 ?_⟩
    · show 1 * w_fi ws (n_v (vs ++ [Value.int x]) 2) 9 + ((-1) * v_iv (n_v (vs ++ [Value.int x]) 24) + 0) ≤ 0
      simp only [e_2, e_24, q2]
      exact vc_Re_readEdges_24_0 (w_fi ws (n_v vs 0) 9) (v_iv (Value.int x)) kz_0_9 ex2
  have nf1 : fc_1 PRD (20, [2, 24], [30, 0, -1, 1, 9, 1, 0, 0]) ws (vs ++ [Value.int x]) := by
    refine ⟨nf_inA hl rfl, sgq_200 ?_⟩
    · show (-1) * w_fi ws (n_v (vs ++ [Value.int x]) 2) 9 + (1 * v_iv (n_v (vs ++ [Value.int x]) 24) + 0) ≤ 0
      simp only [e_2, e_24, q2]
      exact vc_Re_readEdges_24_1 (w_fi ws (n_v vs 0) 9) (v_iv (Value.int x)) kz_0_9 ex2
  exact ⟨(fun _ h => (by cases h)), [Value.int x], ag_one hx, List.forall_mem_cons.mpr ⟨⟨show (20 : Nat) < 100 from by decide, nf0⟩, List.forall_mem_cons.mpr ⟨⟨show (20 : Nat) < 100 from by decide, nf1⟩, (fun _ h => (by cases h))⟩⟩, (fun _ h => (by cases h))⟩
set_option maxHeartbeats 4000000 in
theorem vc_Re_readEdges_25_0 (x3 : Int) (x16 : Int) (nodes_0o1 : Int) (k3 : 0 ≤ x3 ∧ x3 ≤ 23) (k16 : 0 ≤ x16 ∧ x16 ≤ 23) (f1 : (0 ≤ x3) ∧ (((x3 + 1) ≤ nodes_0o1) ∧ ((0 ≤ x16) ∧ (((x16 + 1) ≤ nodes_0o1) ∧ (((x3 + 1) ≤ x16) ∨ ((x16 + 1) ≤ x3)))))) (kz_1_0 : 0 ≤ nodes_0o1 ∧ nodes_0o1 ≤ 24) : (0 ≤ x16) ∧ ((x16 + 1) ≤ nodes_0o1) := by
  first
    | omega
  
def o_Re_readEdges_25 : or_T := (54, 26, [(1, (2, 0, 0, [164])), (3, (0, 0, 23, [])), (16, (0, 0, 23, []))], [(20, [3, 6, 16], [50, 1, 0, 1000, 2, 6, 0, 2, 0, 0, 1, 0, 2, 11, 0, 6, 4, 2, 1, 0, 0, 1, 2, 1, 0, 2, 6, 0, 2, 0, 0, 1, 2, 2, 11, 0, 6, 4, 2, 1, 2, 0, 1, 2, 1, 0, 3, 10, 0, 6, 4, 2, 1, 0, 0, 1, 1, 2, 0, 6, 4, 2, 1, 2, 0, 1, 1, 0]), (24, [1, 6], [])], [], [], [(20, [16, 6], [50, 1, 0, 1000, 2, 6, 0, 2, 0, 0, 1, 0, 0, 6, 4, 2, 1, 0, 0, 1, 2, 1, 0])], [], [])
theorem oo_Re_readEdges_25 {kA : Nat → ClassId} : or_ok PRD kA GG o_Re_readEdges_25 := by
  refine or_mk fun A ta ws vs hD hth hl => ?_
  intro t1 r1 t3 k3 t16 k16 f1 f4
  replace f1 := shm_810 f1
  replace f4 := shm_5 f4
  have q6 : n_v vs 6 = n_v vs 1 := f4.symm
  simp only [q6] at f1
  have kz_1_0 := fdq_77 hD hth r1
  have nf0 : fc_1 PRD (20, [16, 6], [50, 1, 0, 1000, 2, 6, 0, 2, 0, 0, 1, 0, 0, 6, 4, 2, 1, 0, 0, 1, 2, 1, 0]) ws (vs) := by
    refine ⟨nf_in hl rfl, sgq_429 ?_⟩
    · show (0 ≤ v_iv (n_v vs 16)) ∧ ((v_iv (n_v vs 16) + 1) ≤ w_fi ws (n_v vs 6) 0)
      rw [q6]
      exact vc_Re_readEdges_25_0 (v_iv (n_v vs 3)) (v_iv (n_v vs 16)) (w_fi ws (n_v vs 1) 0) k3 k16 f1 kz_1_0
  refine ⟨(fun _ h => (by cases h)), [], trivial, ?_, (fun _ h => (by cases h))⟩
  rw [List.append_nil]
  exact List.forall_mem_cons.mpr ⟨⟨show (20 : Nat) < 100 from by decide, nf0⟩, (fun _ h => (by cases h))⟩
set_option maxHeartbeats 4000000 in
theorem vc_Re_readEdges_26_0 (edges_0o1 : Int) (near_0o1 : Int → Int) (tail_0o1 : Int → Int) (head_0o1 : Int → Int) (nodes_0o1 : Int) (f13 : GNB (nodes_0o1) (edges_0o1) (near_0o1) (tail_0o1) (head_0o1)) (kz_1_0 : 0 ≤ nodes_0o1 ∧ nodes_0o1 ≤ 24) (kz_1_1 : 0 ≤ edges_0o1 ∧ edges_0o1 ≤ 48) : GNB (nodes_0o1) (edges_0o1) (near_0o1) (tail_0o1) (head_0o1) := by
  first
    | assumption
  
set_option maxHeartbeats 4000000 in
theorem vc_Re_readEdges_26_1 (edges_0o1 : Int) (tail_0o1 : Int → Int) (head_0o1 : Int → Int) (nodes_0o1 : Int) (f14 : GKE (nodes_0o1) (edges_0o1) (tail_0o1) (head_0o1)) (kz_1_0 : 0 ≤ nodes_0o1 ∧ nodes_0o1 ≤ 24) (kz_1_1 : 0 ≤ edges_0o1 ∧ edges_0o1 ≤ 48) : GKE (nodes_0o1) (edges_0o1) (tail_0o1) (head_0o1) := by
  first
    | assumption
  
def o_Re_readEdges_26 : or_T := (172, 25, [(1, (2, 0, 0, [164]))], [(24, [1, 6], []), (20, [6], [60, 2, 3, 670, 0, 1, 14, 7, 8]), (20, [6], [60, 2, 2, 596, 0, 1, 7, 8])], [], [], [(20, [1], [60, 2, 3, 670, 0, 1, 14, 7, 8]), (20, [1], [60, 2, 2, 596, 0, 1, 7, 8])], [], [])
theorem oo_Re_readEdges_26 {kA : Nat → ClassId} : or_ok PRD kA GG o_Re_readEdges_26 := by
  refine or_mk fun A ta ws vs hD hth hl => ?_
  intro t1 r1 f6 f13 f14
  replace f6 := shm_5 f6
  replace f13 := shm_811 f13
  replace f14 := shm_401 f14
  have q6 : n_v vs 6 = n_v vs 1 := f6.symm
  simp only [q6] at f13 f14
  have kz_1_0 := fdq_77 hD hth r1
  have kz_1_1 := fdq_78 hD hth r1
  have nf0 : fc_1 PRD (20, [1], [60, 2, 3, 670, 0, 1, 14, 7, 8]) ws (vs) := ⟨nf_in hl rfl, sgq_811 (vc_Re_readEdges_26_0 (w_fi ws (n_v vs 1) 1) (w_ei ws (w_ar ws (n_v vs 1) 14)) (w_ei ws (w_ar ws (n_v vs 1) 7)) (w_ei ws (w_ar ws (n_v vs 1) 8)) (w_fi ws (n_v vs 1) 0) f13 kz_1_0 kz_1_1)⟩
  have nf1 : fc_1 PRD (20, [1], [60, 2, 2, 596, 0, 1, 7, 8]) ws (vs) := ⟨nf_in hl rfl, sgq_401 (vc_Re_readEdges_26_1 (w_fi ws (n_v vs 1) 1) (w_ei ws (w_ar ws (n_v vs 1) 7)) (w_ei ws (w_ar ws (n_v vs 1) 8)) (w_fi ws (n_v vs 1) 0) f14 kz_1_0 kz_1_1)⟩
  refine ⟨(fun _ h => (by cases h)), [], trivial, ?_, (fun _ h => (by cases h))⟩
  rw [List.append_nil]
  exact List.forall_mem_cons.mpr ⟨⟨show (20 : Nat) < 100 from by decide, nf0⟩, List.forall_mem_cons.mpr ⟨⟨show (20 : Nat) < 100 from by decide, nf1⟩, (fun _ h => (by cases h))⟩⟩
set_option maxHeartbeats 4000000 in
theorem vc_Re_readEdges_27_0 (near_0o1 : Int → Int) (tail_0o1 : Int → Int) (head_0o1 : Int → Int) (nodes_0o1 : Int) (edges_0o1 : Int) (f12 : GNB (nodes_0o1) (edges_0o1) (near_0o1) (tail_0o1) (head_0o1)) (kz_1_0 : 0 ≤ nodes_0o1 ∧ nodes_0o1 ≤ 24) (kz_1_1 : 0 ≤ edges_0o1 ∧ edges_0o1 ≤ 48) : GNB (nodes_0o1) (edges_0o1) (near_0o1) (tail_0o1) (head_0o1) := by
  first
    | assumption
  
set_option maxHeartbeats 4000000 in
theorem vc_Re_readEdges_27_1 (tail_0o1 : Int → Int) (head_0o1 : Int → Int) (nodes_0o1 : Int) (edges_0o1 : Int) (f13 : GKE (nodes_0o1) (edges_0o1) (tail_0o1) (head_0o1)) (kz_1_0 : 0 ≤ nodes_0o1 ∧ nodes_0o1 ≤ 24) (kz_1_1 : 0 ≤ edges_0o1 ∧ edges_0o1 ≤ 48) : GKE (nodes_0o1) (edges_0o1) (tail_0o1) (head_0o1) := by
  first
    | assumption
  
def o_Re_readEdges_27 : or_T := (148, 22, [(1, (2, 0, 0, [164]))], [(24, [1, 6], []), (20, [6], [60, 2, 3, 670, 0, 1, 14, 7, 8]), (20, [6], [60, 2, 2, 596, 0, 1, 7, 8])], [], [], [(20, [1], [60, 2, 3, 670, 0, 1, 14, 7, 8]), (20, [1], [60, 2, 2, 596, 0, 1, 7, 8])], [], [])
theorem oo_Re_readEdges_27 {kA : Nat → ClassId} : or_ok PRD kA GG o_Re_readEdges_27 := by
  refine or_mk fun A ta ws vs hD hth hl => ?_
  intro t1 r1 f5 f12 f13
  replace f5 := shm_5 f5
  replace f12 := shm_811 f12
  replace f13 := shm_401 f13
  have q6 : n_v vs 6 = n_v vs 1 := f5.symm
  simp only [q6] at f12 f13
  have kz_1_0 := fdq_77 hD hth r1
  have kz_1_1 := fdq_78 hD hth r1
  have nf0 : fc_1 PRD (20, [1], [60, 2, 3, 670, 0, 1, 14, 7, 8]) ws (vs) := ⟨nf_in hl rfl, sgq_811 (vc_Re_readEdges_27_0 (w_ei ws (w_ar ws (n_v vs 1) 14)) (w_ei ws (w_ar ws (n_v vs 1) 7)) (w_ei ws (w_ar ws (n_v vs 1) 8)) (w_fi ws (n_v vs 1) 0) (w_fi ws (n_v vs 1) 1) f12 kz_1_0 kz_1_1)⟩
  have nf1 : fc_1 PRD (20, [1], [60, 2, 2, 596, 0, 1, 7, 8]) ws (vs) := ⟨nf_in hl rfl, sgq_401 (vc_Re_readEdges_27_1 (w_ei ws (w_ar ws (n_v vs 1) 7)) (w_ei ws (w_ar ws (n_v vs 1) 8)) (w_fi ws (n_v vs 1) 0) (w_fi ws (n_v vs 1) 1) f13 kz_1_0 kz_1_1)⟩
  refine ⟨(fun _ h => (by cases h)), [], trivial, ?_, (fun _ h => (by cases h))⟩
  rw [List.append_nil]
  exact List.forall_mem_cons.mpr ⟨⟨show (20 : Nat) < 100 from by decide, nf0⟩, List.forall_mem_cons.mpr ⟨⟨show (20 : Nat) < 100 from by decide, nf1⟩, (fun _ h => (by cases h))⟩⟩
set_option maxHeartbeats 4000000 in
theorem vc_Re_readEdges_28_0 (near_0o1 : Int → Int) (tail_0o1 : Int → Int) (head_0o1 : Int → Int) (nodes_0o1 : Int) (edges_0o1 : Int) (f11 : GNB (nodes_0o1) (edges_0o1) (near_0o1) (tail_0o1) (head_0o1)) (kz_1_0 : 0 ≤ nodes_0o1 ∧ nodes_0o1 ≤ 24) (kz_1_1 : 0 ≤ edges_0o1 ∧ edges_0o1 ≤ 48) : GNB (nodes_0o1) (edges_0o1) (near_0o1) (tail_0o1) (head_0o1) := by
  first
    | assumption
  
set_option maxHeartbeats 4000000 in
theorem vc_Re_readEdges_28_1 (tail_0o1 : Int → Int) (head_0o1 : Int → Int) (nodes_0o1 : Int) (edges_0o1 : Int) (f12 : GKE (nodes_0o1) (edges_0o1) (tail_0o1) (head_0o1)) (kz_1_0 : 0 ≤ nodes_0o1 ∧ nodes_0o1 ≤ 24) (kz_1_1 : 0 ≤ edges_0o1 ∧ edges_0o1 ≤ 48) : GKE (nodes_0o1) (edges_0o1) (tail_0o1) (head_0o1) := by
  first
    | assumption
  
def o_Re_readEdges_28 : or_T := (172, 21, [(1, (2, 0, 0, [164]))], [(24, [1, 6], []), (20, [6], [60, 2, 3, 670, 0, 1, 14, 7, 8]), (20, [6], [60, 2, 2, 596, 0, 1, 7, 8])], [], [], [(20, [1], [60, 2, 3, 670, 0, 1, 14, 7, 8]), (20, [1], [60, 2, 2, 596, 0, 1, 7, 8])], [], [])
theorem oo_Re_readEdges_28 {kA : Nat → ClassId} : or_ok PRD kA GG o_Re_readEdges_28 := by
  refine or_mk fun A ta ws vs hD hth hl => ?_
  intro t1 r1 f4 f11 f12
  replace f4 := shm_5 f4
  replace f11 := shm_811 f11
  replace f12 := shm_401 f12
  have q6 : n_v vs 6 = n_v vs 1 := f4.symm
  simp only [q6] at f11 f12
  have kz_1_0 := fdq_77 hD hth r1
  have kz_1_1 := fdq_78 hD hth r1
  have nf0 : fc_1 PRD (20, [1], [60, 2, 3, 670, 0, 1, 14, 7, 8]) ws (vs) := ⟨nf_in hl rfl, sgq_811 (vc_Re_readEdges_28_0 (w_ei ws (w_ar ws (n_v vs 1) 14)) (w_ei ws (w_ar ws (n_v vs 1) 7)) (w_ei ws (w_ar ws (n_v vs 1) 8)) (w_fi ws (n_v vs 1) 0) (w_fi ws (n_v vs 1) 1) f11 kz_1_0 kz_1_1)⟩
  have nf1 : fc_1 PRD (20, [1], [60, 2, 2, 596, 0, 1, 7, 8]) ws (vs) := ⟨nf_in hl rfl, sgq_401 (vc_Re_readEdges_28_1 (w_ei ws (w_ar ws (n_v vs 1) 7)) (w_ei ws (w_ar ws (n_v vs 1) 8)) (w_fi ws (n_v vs 1) 0) (w_fi ws (n_v vs 1) 1) f12 kz_1_0 kz_1_1)⟩
  refine ⟨(fun _ h => (by cases h)), [], trivial, ?_, (fun _ h => (by cases h))⟩
  rw [List.append_nil]
  exact List.forall_mem_cons.mpr ⟨⟨show (20 : Nat) < 100 from by decide, nf0⟩, List.forall_mem_cons.mpr ⟨⟨show (20 : Nat) < 100 from by decide, nf1⟩, (fun _ h => (by cases h))⟩⟩
set_option maxHeartbeats 4000000 in
theorem vc_Re_readEdges_29_0 (near_0o1 : Int → Int) (tail_0o1 : Int → Int) (head_0o1 : Int → Int) (nodes_0o1 : Int) (edges_0o1 : Int) (f0 : GNB (nodes_0o1) (edges_0o1) (near_0o1) (tail_0o1) (head_0o1)) (kz_1_0 : 0 ≤ nodes_0o1 ∧ nodes_0o1 ≤ 24) (kz_1_1 : 0 ≤ edges_0o1 ∧ edges_0o1 ≤ 48) : GNB (nodes_0o1) (edges_0o1) (near_0o1) (tail_0o1) (head_0o1) := by
  first
    | assumption
  
set_option maxHeartbeats 4000000 in
theorem vc_Re_readEdges_29_1 (tail_0o1 : Int → Int) (head_0o1 : Int → Int) (nodes_0o1 : Int) (edges_0o1 : Int) (f1 : GKE (nodes_0o1) (edges_0o1) (tail_0o1) (head_0o1)) (kz_1_0 : 0 ≤ nodes_0o1 ∧ nodes_0o1 ≤ 24) (kz_1_1 : 0 ≤ edges_0o1 ∧ edges_0o1 ≤ 48) : GKE (nodes_0o1) (edges_0o1) (tail_0o1) (head_0o1) := by
  first
    | assumption
  
def o_Re_readEdges_29 : or_T := (110, 17, [(1, (2, 0, 0, [164]))], [(20, [6], [60, 2, 3, 670, 0, 1, 14, 7, 8]), (20, [6], [60, 2, 2, 596, 0, 1, 7, 8]), (24, [1, 6], [])], [], [], [(20, [1], [60, 2, 3, 670, 0, 1, 14, 7, 8]), (20, [1], [60, 2, 2, 596, 0, 1, 7, 8])], [], [])
theorem oo_Re_readEdges_29 {kA : Nat → ClassId} : or_ok PRD kA GG o_Re_readEdges_29 := by
  refine or_mk fun A ta ws vs hD hth hl => ?_
  intro t1 r1 f0 f1 f2
  replace f0 := shm_811 f0
  replace f1 := shm_401 f1
  replace f2 := shm_5 f2
  have q6 : n_v vs 6 = n_v vs 1 := f2.symm
  simp only [q6] at f0 f1
  have kz_1_0 := fdq_77 hD hth r1
  have kz_1_1 := fdq_78 hD hth r1
  have nf0 : fc_1 PRD (20, [1], [60, 2, 3, 670, 0, 1, 14, 7, 8]) ws (vs) := ⟨nf_in hl rfl, sgq_811 (vc_Re_readEdges_29_0 (w_ei ws (w_ar ws (n_v vs 1) 14)) (w_ei ws (w_ar ws (n_v vs 1) 7)) (w_ei ws (w_ar ws (n_v vs 1) 8)) (w_fi ws (n_v vs 1) 0) (w_fi ws (n_v vs 1) 1) f0 kz_1_0 kz_1_1)⟩
  have nf1 : fc_1 PRD (20, [1], [60, 2, 2, 596, 0, 1, 7, 8]) ws (vs) := ⟨nf_in hl rfl, sgq_401 (vc_Re_readEdges_29_1 (w_ei ws (w_ar ws (n_v vs 1) 7)) (w_ei ws (w_ar ws (n_v vs 1) 8)) (w_fi ws (n_v vs 1) 0) (w_fi ws (n_v vs 1) 1) f1 kz_1_0 kz_1_1)⟩
  refine ⟨(fun _ h => (by cases h)), [], trivial, ?_, (fun _ h => (by cases h))⟩
  rw [List.append_nil]
  exact List.forall_mem_cons.mpr ⟨⟨show (20 : Nat) < 100 from by decide, nf0⟩, List.forall_mem_cons.mpr ⟨⟨show (20 : Nat) < 100 from by decide, nf1⟩, (fun _ h => (by cases h))⟩⟩
set_option maxHeartbeats 4000000 in
theorem vc_Re_readEdges_30_0 (number_0 : Int) (gx : Int) (kz_0_9 : (-2147483648) ≤ number_0 ∧ number_0 ≤ 1000000) (ex2 : gx = number_0) : 1 * number_0 + ((-1) * gx + 0) ≤ 0 := by
  first
    | omega
  
set_option maxHeartbeats 4000000 in
theorem vc_Re_readEdges_30_1 (number_0 : Int) (gx : Int) (kz_0_9 : (-2147483648) ≤ number_0 ∧ number_0 ≤ 1000000) (ex2 : gx = number_0) : (-1) * number_0 + (1 * gx + 0) ≤ 0 := by
  first
    | omega
  
def o_Re_readEdges_30 : or_T := (254, 8, [(0, (2, 0, 0, [8]))], [(24, [0, 2], [])], [], [(0, -2147483648, 1000000, [])], [(20, [2, 8], [30, 0, 1, 1, 9, -1, 0, 0]), (20, [2, 8], [30, 0, -1, 1, 9, 1, 0, 0])], [], [])
theorem oo_Re_readEdges_30 {kA : Nat → ClassId} : or_ok PRD kA GG o_Re_readEdges_30 := by
  refine or_mk fun A ta ws vs hD hth hl => ?_
  intro t0 r0 f7
  replace f7 := shm_5 f7
  have q2 : n_v vs 2 = n_v vs 0 := f7.symm
  have kz_0_9 := fdq_27 hD hth r0
  obtain ⟨x, ex, hx⟩ := iv_ex (ta := ta) (lo := (-2147483648)) (hi := 1000000) (z := w_fi ws (n_v vs 0) 9) (by omega) (by omega) (by omega) (by omega)
  have ex2 : v_iv (Value.int x) = w_fi ws (n_v vs 0) 9 := ex
  have ex3 : (-2147483648) ≤ v_iv (Value.int x) ∧ v_iv (Value.int x) ≤ 1000000 := tv_rng hx
  have e_2 : n_v (vs ++ [Value.int x]) 2 = n_v vs 2 := n_v_old (by rw [hl]; decide)
  have e_8 : n_v (vs ++ [Value.int x]) 8 = Value.int x := n_v_new hl
  have nf0 : fc_1 PRD (20, [2, 8], [30, 0, 1, 1, 9, -1, 0, 0]) ws (vs ++ [Value.int x]) := by
    refine ⟨nf_inA hl rfl, sgq_199 ?_⟩
    · show 1 * w_fi ws (n_v (vs ++ [Value.int x]) 2) 9 + ((-1) * v_iv (n_v (vs ++ [Value.int x]) 8) + 0) ≤ 0
      simp only [e_2, e_8, q2]
      exact vc_Re_readEdges_30_0 (w_fi ws (n_v vs 0) 9) (v_iv (Value.int x)) kz_0_9 ex2
  have nf1 : fc_1 PRD (20, [2, 8], [30, 0, -1, 1, 9, 1, 0, 0]) ws (vs ++ [Value.int x]) := by
    refine ⟨nf_inA hl rfl, sgq_200 ?_⟩
    · show (-1) * w_fi ws (n_v (vs ++ [Value.int x]) 2) 9 + (1 * v_iv (n_v (vs ++ [Value.int x]) 8) + 0) ≤ 0
      simp only [e_2, e_8, q2]
      exact vc_Re_readEdges_30_1 (w_fi ws (n_v vs 0) 9) (v_iv (Value.int x)) kz_0_9 ex2
  exact ⟨(fun _ h => (by cases h)), [Value.int x], ag_one hx, List.forall_mem_cons.mpr ⟨⟨show (20 : Nat) < 100 from by decide, nf0⟩, List.forall_mem_cons.mpr ⟨⟨show (20 : Nat) < 100 from by decide, nf1⟩, (fun _ h => (by cases h))⟩⟩, (fun _ h => (by cases h))⟩
set_option maxHeartbeats 4000000 in
theorem vc_Re_readEdges_31_0 (edges_0o1 : Int) (near_0o1 : Int → Int) (tail_0o1 : Int → Int) (head_0o1 : Int → Int) (nodes_0o1 : Int) (f3 : GNB (nodes_0o1) (edges_0o1) (near_0o1) (tail_0o1) (head_0o1)) (kz_1_0 : 0 ≤ nodes_0o1 ∧ nodes_0o1 ≤ 24) (kz_1_1 : 0 ≤ edges_0o1 ∧ edges_0o1 ≤ 48) : GNB (nodes_0o1) (edges_0o1) (near_0o1) (tail_0o1) (head_0o1) := by
  first
    | assumption
  
set_option maxHeartbeats 4000000 in
theorem vc_Re_readEdges_31_1 (edges_0o1 : Int) (tail_0o1 : Int → Int) (head_0o1 : Int → Int) (nodes_0o1 : Int) (f4 : GKE (nodes_0o1) (edges_0o1) (tail_0o1) (head_0o1)) (kz_1_0 : 0 ≤ nodes_0o1 ∧ nodes_0o1 ≤ 24) (kz_1_1 : 0 ≤ edges_0o1 ∧ edges_0o1 ≤ 48) : GKE (nodes_0o1) (edges_0o1) (tail_0o1) (head_0o1) := by
  first
    | assumption
  
def o_Re_readEdges_31 : or_T := (279, 12, [(0, (2, 0, 0, [8])), (1, (2, 0, 0, [164])), (2, (2, 0, 0, [8])), (5, (0, 0, 48, [])), (6, (2, 0, 0, [164])), (7, (0, 0, 48, [])), (8, (0, -2147483648, 1000000, [])), (9, (0, 59, 59, [])), (10, (0, 59, 59, []))], [(9, [7, 6], [1]), (7, [9, 10], [0]), (9, [9, 2], [7]), (20, [6], [60, 2, 3, 670, 0, 1, 14, 7, 8]), (20, [6], [60, 2, 2, 596, 0, 1, 7, 8]), (24, [1, 6], []), (24, [0, 2], []), (20, [2, 2, 8], [31, 1, 3, 1, 1, 7, 0, 1, 1, 9, -1, 0, 0]), (20, [2, 2, 8], [31, 1, 3, 1, 1, 7, 0, -1, 1, 9, 1, 0, 0]), (20, [2, 2, 2, 2], [31, 1, -3, -1, 1, 7, 4008, 1, 1, 6, -1, 1, 8, 2000, 1, 7]), (20, [2, 2], [30, 0, 1, 1, 8, -1, 1, 6]), (102, [8], [0, 8006, 8007, 8008, 8009]), (7, [5, 7], [3])], [], [], [(20, [1], [60, 2, 3, 670, 0, 1, 14, 7, 8]), (20, [1], [60, 2, 2, 596, 0, 1, 7, 8])], [], [(5, 7, 0, 4294967296)])
theorem oo_Re_readEdges_31 {kA : Nat → ClassId} : or_ok PRD kA GG o_Re_readEdges_31 := by
  refine or_mk fun A ta ws vs hD hth hl => ?_
  intro t0 r0 t1 r1 t2 r2 t5 k5 t6 r6 t7 k7 t8 k8 t9 k9 t10 k10 d0 f0 f1 f2 f3 f4 f5 f6 f7 f8 f9 f10 ta1 w1 le1 s1 f12
  replace f3 := shm_811 f3
  replace f4 := shm_401 f4
  replace f5 := shm_5 f5
  have q6 : n_v vs 6 = n_v vs 1 := f5.symm
  simp only [q6] at f3 f4
  have kz_1_0 := fdq_77 hD hth r1
  have kz_1_1 := fdq_78 hD hth r1
  have nf0 : fc_1 PRD (20, [1], [60, 2, 3, 670, 0, 1, 14, 7, 8]) ws (vs) := ⟨nf_in hl rfl, sgq_811 (vc_Re_readEdges_31_0 (w_fi ws (n_v vs 1) 1) (w_ei ws (w_ar ws (n_v vs 1) 14)) (w_ei ws (w_ar ws (n_v vs 1) 7)) (w_ei ws (w_ar ws (n_v vs 1) 8)) (w_fi ws (n_v vs 1) 0) f3 kz_1_0 kz_1_1)⟩
  have nf1 : fc_1 PRD (20, [1], [60, 2, 2, 596, 0, 1, 7, 8]) ws (vs) := ⟨nf_in hl rfl, sgq_401 (vc_Re_readEdges_31_1 (w_fi ws (n_v vs 1) 1) (w_ei ws (w_ar ws (n_v vs 1) 7)) (w_ei ws (w_ar ws (n_v vs 1) 8)) (w_fi ws (n_v vs 1) 0) f4 kz_1_0 kz_1_1)⟩
  refine ⟨(fun _ h => (by cases h)), [], trivial, ?_, (fun _ h => (by cases h))⟩
  rw [List.append_nil]
  exact List.forall_mem_cons.mpr ⟨⟨show (20 : Nat) < 100 from by decide, nf0⟩, List.forall_mem_cons.mpr ⟨⟨show (20 : Nat) < 100 from by decide, nf1⟩, (fun _ h => (by cases h))⟩⟩
set_option maxHeartbeats 4000000 in
theorem vc_Re_readEdges_32_0 (edges_0o1 : Int) (near_0o1 : Int → Int) (tail_0o1 : Int → Int) (head_0o1 : Int → Int) (nodes_0o1 : Int) (f2 : GNB (nodes_0o1) (edges_0o1) (near_0o1) (tail_0o1) (head_0o1)) (kz_1_0 : 0 ≤ nodes_0o1 ∧ nodes_0o1 ≤ 24) (kz_1_1 : 0 ≤ edges_0o1 ∧ edges_0o1 ≤ 48) : GNB (nodes_0o1) (edges_0o1) (near_0o1) (tail_0o1) (head_0o1) := by
  first
    | assumption
  
set_option maxHeartbeats 4000000 in
theorem vc_Re_readEdges_32_1 (edges_0o1 : Int) (tail_0o1 : Int → Int) (head_0o1 : Int → Int) (nodes_0o1 : Int) (f3 : GKE (nodes_0o1) (edges_0o1) (tail_0o1) (head_0o1)) (kz_1_0 : 0 ≤ nodes_0o1 ∧ nodes_0o1 ≤ 24) (kz_1_1 : 0 ≤ edges_0o1 ∧ edges_0o1 ≤ 48) : GKE (nodes_0o1) (edges_0o1) (tail_0o1) (head_0o1) := by
  first
    | assumption
  
def o_Re_readEdges_32 : or_T := (279, 14, [(0, (2, 0, 0, [8])), (1, (2, 0, 0, [164])), (2, (2, 0, 0, [8])), (5, (0, 0, 48, [])), (6, (2, 0, 0, [164])), (7, (0, 0, 48, [])), (8, (0, -2147483648, 1000000, [])), (9, (0, -128, 127, [])), (10, (0, 59, 59, []))], [(9, [9, 2], [7]), (9, [7, 6], [1]), (20, [6], [60, 2, 3, 670, 0, 1, 14, 7, 8]), (20, [6], [60, 2, 2, 596, 0, 1, 7, 8]), (24, [1, 6], []), (24, [0, 2], []), (20, [2, 2, 8], [31, 1, 3, 1, 1, 7, 0, 1, 1, 9, -1, 0, 0]), (20, [2, 2, 8], [31, 1, 3, 1, 1, 7, 0, -1, 1, 9, 1, 0, 0]), (20, [2, 2, 2, 2], [31, 1, -3, -1, 1, 7, 4008, 1, 1, 6, -1, 1, 8, 2000, 1, 7]), (20, [2, 2], [30, 0, 1, 1, 8, -1, 1, 6]), (102, [11], [0, 8002, 8003]), (7, [9, 10], [1]), (102, [8], [0, 8006, 8007, 8008, 8009]), (7, [5, 7], [3])], [], [], [(20, [1], [60, 2, 3, 670, 0, 1, 14, 7, 8]), (20, [1], [60, 2, 2, 596, 0, 1, 7, 8])], [], [(5, 7, 0, 4294967296)])
theorem oo_Re_readEdges_32 {kA : Nat → ClassId} : or_ok PRD kA GG o_Re_readEdges_32 := by
  refine or_mk fun A ta ws vs hD hth hl => ?_
  intro t0 r0 t1 r1 t2 r2 t5 k5 t6 r6 t7 k7 t8 k8 t9 k9 t10 k10 d0 f0 f1 f2 f3 f4 f5 f6 f7 f8 f9 ta1 w1 le1 s1 f11 ta2 w2 le2 s2 f13
  replace f2 := shm_811 f2
  replace f3 := shm_401 f3
  replace f4 := shm_5 f4
  have q6 : n_v vs 6 = n_v vs 1 := f4.symm
  simp only [q6] at f2 f3
  have kz_1_0 := fdq_77 hD hth r1
  have kz_1_1 := fdq_78 hD hth r1
  have nf0 : fc_1 PRD (20, [1], [60, 2, 3, 670, 0, 1, 14, 7, 8]) ws (vs) := ⟨nf_in hl rfl, sgq_811 (vc_Re_readEdges_32_0 (w_fi ws (n_v vs 1) 1) (w_ei ws (w_ar ws (n_v vs 1) 14)) (w_ei ws (w_ar ws (n_v vs 1) 7)) (w_ei ws (w_ar ws (n_v vs 1) 8)) (w_fi ws (n_v vs 1) 0) f2 kz_1_0 kz_1_1)⟩
  have nf1 : fc_1 PRD (20, [1], [60, 2, 2, 596, 0, 1, 7, 8]) ws (vs) := ⟨nf_in hl rfl, sgq_401 (vc_Re_readEdges_32_1 (w_fi ws (n_v vs 1) 1) (w_ei ws (w_ar ws (n_v vs 1) 7)) (w_ei ws (w_ar ws (n_v vs 1) 8)) (w_fi ws (n_v vs 1) 0) f3 kz_1_0 kz_1_1)⟩
  refine ⟨(fun _ h => (by cases h)), [], trivial, ?_, (fun _ h => (by cases h))⟩
  rw [List.append_nil]
  exact List.forall_mem_cons.mpr ⟨⟨show (20 : Nat) < 100 from by decide, nf0⟩, List.forall_mem_cons.mpr ⟨⟨show (20 : Nat) < 100 from by decide, nf1⟩, (fun _ h => (by cases h))⟩⟩
set_option maxHeartbeats 4000000 in
theorem vc_Re_readEdges_33_r0 (x9 : Int) (number_0 : Int) (k9 : (-2147483648) ≤ x9 ∧ x9 ≤ 1000000) (g0 : x9 = number_0) (f3 : 1 * number_0 + 0 ≤ 9) (f4 : (-1) * number_0 + 0 ≤ (-1)) (kz_0_9 : (-2147483648) ≤ number_0 ∧ number_0 ≤ 1000000) : 0 ≤ x9 ∧ x9 ≤ 9 := by
  first
    | omega
  

def o_Re_readEdges_33 : or_T := (246, 10, [(0, (2, 0, 0, [8])), (1, (2, 0, 0, [164])), (2, (2, 0, 0, [8])), (5, (0, 0, 47, [])), (6, (2, 0, 0, [164])), (7, (0, 1, 48, [])), (9, (0, -2147483648, 1000000, []))], [(9, [9, 2], [9]), (7, [5, 7], [2]), (9, [7, 6], [1]), (20, [2], [30, 9, 1, 1, 9]), (20, [2], [30, -1, -1, 1, 9]), (20, [6], [60, 2, 3, 670, 0, 1, 14, 7, 8]), (20, [6], [60, 2, 2, 596, 0, 1, 7, 8]), (24, [1, 6], []), (24, [0, 2], [])], [(9, (0, 0, 9, []))], [], [], [], [(5, 7, -4294967296, -1)])
theorem oo_Re_readEdges_33 {kA : Nat → ClassId} : or_ok PRD kA GG o_Re_readEdges_33 := by
  refine or_mk fun A ta ws vs hD hth hl => ?_
  intro t0 r0 t1 r1 t2 r2 t5 k5 t6 r6 t7 k7 t9 k9 d0 f0 f1 f2 f3 f4 f5 f6 f7 f8
  replace f0 := shm_120 f0
  replace f3 := shm_1989 f3
  replace f4 := shm_1990 f4
  replace f8 := shm_5 f8
  have q2 : n_v vs 2 = n_v vs 0 := f8.symm
  simp only [q2] at f0 f3 f4
  have g0 : v_iv (n_v vs 9) = w_fi ws (n_v vs 0) 9 := congrArg v_iv f0
  have kz_0_9 := fdq_27 hD hth r0
  have hrf0 : 0 ≤ v_iv (n_v vs 9) ∧ v_iv (n_v vs 9) ≤ 9 := vc_Re_readEdges_33_r0 (v_iv (n_v vs 9)) (w_fi ws (n_v vs 0) 9) k9 g0 f3 f4 kz_0_9
  have rf9 : tv_ok ta (0, 0, 9, []) (n_v vs 9) := tv_in t9 (by first | omega | grind) (by first | omega | grind)
  refine ⟨List.forall_mem_cons.mpr ⟨rf9, (fun _ h => (by cases h))⟩, [], trivial, ?_, (fun _ h => (by cases h))⟩
  rw [List.append_nil]
  exact (fun _ h => (by cases h))
def n_Re_readEdges_an : List an_T := [(54, [(0, (2, 0, 0, [8])), (1, (0, 0, 23, [])), (2, (0, 0, 48, [])), (3, (0, 0, 49, []))], [], (0, 0), [(0, 0, 99946), (1, 5, 49), (0, 0, 100000)], [], [((0, 4), (2, 0, 0, [164]))], [(2, 0, 0, [8]), (2, 0, 0, [164])], 0, [], [(20, [6], [60, 2, 3, 670, 0, 1, 14, 7, 8]), (20, [6], [60, 2, 2, 596, 0, 1, 7, 8]), (24, [1, 6], []), (20, [3, 6], [50, 1, 0, 1000, 2, 6, 0, 2, 0, 0, 1, 0, 0, 6, 4, 2, 1, 0, 0, 1, 2, 1, 0]), (24, [0, 2], [])]), (223, [(0, (2, 0, 0, [8])), (1, (0, 0, 23, [])), (2, (0, 0, 48, [])), (3, (0, 0, 48, []))], [], (0, 0), [(0, 0, 99777), (1, 5, 48), (0, 0, 100000)], [(4, 5, (Int.negSucc 999999999999), 0)], [((0, 4), (2, 0, 0, [164]))], [(2, 0, 0, [8]), (2, 0, 0, [164])], 0, [], [(20, [2], [30, 9, 1, 1, 9]), (20, [2], [30, (Int.negSucc 0), (Int.negSucc 0), 1, 9]), (20, [6], [60, 2, 3, 670, 0, 1, 14, 7, 8]), (20, [6], [60, 2, 2, 596, 0, 1, 7, 8]), (24, [1, 6], []), (24, [0, 2], [])])]
def t_Re_readEdges_ct : ct_L := [(1, 57, e_Re_advance), (1, 107, e_Re_isName), (1, 113, e_Re_fail), (7, 127, e_Re_meetNode_at_gx), (340, 127, e_Re_meetNode_at_ga), (412, 159, e_Gr_edgeBetween_at_Gq), (550, 162, e_Gr_addEdge_at_Gq), (643, 132, e_Re_readValue_at_s5003), (1000000, 166, en_ro [] (2, 0, 0, [5003]))]
set_option maxRecDepth 100000 in
theorem c_Re_readEdges {l : Launch} {D : va_G} {kA : Nat → ClassId} (h_Gr_addEdge_at_Gq : ct_ok PRD l D kA GG y_Gr_addEdge_at_Gq z_Gr_addEdge_at_Gq e_Gr_addEdge_at_Gq) (h_Gr_edgeBetween_at_Gq : ct_ok PRD l D kA GG y_Gr_edgeBetween_at_Gq z_Gr_edgeBetween_at_Gq e_Gr_edgeBetween_at_Gq) (h_Re_advance : ct_ok PRD l D kA GG y_Re_advance z_Re_advance e_Re_advance) (h_Re_fail : ct_ok PRD l D kA GG y_Re_fail z_Re_fail e_Re_fail) (h_Re_isName : ct_ok PRD l D kA GG y_Re_isName z_Re_isName e_Re_isName) (h_Re_meetNode_at_ga : ct_ok PRD l D kA GG y_Re_meetNode_at_ga z_Re_meetNode_at_ga e_Re_meetNode_at_ga) (h_Re_meetNode_at_gx : ct_ok PRD l D kA GG y_Re_meetNode_at_gx z_Re_meetNode_at_gx e_Re_meetNode_at_gx) (h_Re_readValue_at_s5003 : ct_ok PRD l D kA GG y_Re_readValue_at_s5003 z_Re_readValue_at_s5003 e_Re_readValue_at_s5003) : ct_ok PRD l D kA GG y_Re_readEdges z_Re_readEdges e_Re_readEdges := chk_all_ok (FT := [(28, 8, 4), (38, 8, 7), (44, 8, 9), (156, 3, 1), (168, 3, 9)]) (PT := []) (CT := t_Re_readEdges_ct) (KT := []) (NT := []) (AN := n_Re_readEdges_an) (OT := [o_Re_readEdges_0, o_Re_readEdges_1, o_Re_readEdges_2, o_Re_readEdges_3, o_Re_readEdges_4, o_Re_readEdges_5, o_Re_readEdges_6, o_Re_readEdges_7, o_Re_readEdges_8, o_Re_readEdges_9, o_Re_readEdges_10, o_Re_readEdges_11, o_Re_readEdges_12, o_Re_readEdges_13, o_Re_readEdges_14, o_Re_readEdges_15, o_Re_readEdges_16, o_Re_readEdges_17, o_Re_readEdges_18, o_Re_readEdges_19, o_Re_readEdges_20, o_Re_readEdges_21, o_Re_readEdges_22, o_Re_readEdges_23, o_Re_readEdges_24, o_Re_readEdges_25, o_Re_readEdges_26, o_Re_readEdges_27, o_Re_readEdges_28, o_Re_readEdges_29, o_Re_readEdges_30, o_Re_readEdges_31, o_Re_readEdges_32, o_Re_readEdges_33]) 3 1116 (List.forall_mem_cons.mpr ⟨oo_Re_readEdges_0, List.forall_mem_cons.mpr ⟨oo_Re_readEdges_1, List.forall_mem_cons.mpr ⟨oo_Re_readEdges_2, List.forall_mem_cons.mpr ⟨oo_Re_readEdges_3, List.forall_mem_cons.mpr ⟨oo_Re_readEdges_4, List.forall_mem_cons.mpr ⟨oo_Re_readEdges_5, List.forall_mem_cons.mpr ⟨oo_Re_readEdges_6, List.forall_mem_cons.mpr ⟨oo_Re_readEdges_7, List.forall_mem_cons.mpr ⟨oo_Re_readEdges_8, List.forall_mem_cons.mpr ⟨oo_Re_readEdges_9, List.forall_mem_cons.mpr ⟨oo_Re_readEdges_10, List.forall_mem_cons.mpr ⟨oo_Re_readEdges_11, List.forall_mem_cons.mpr ⟨oo_Re_readEdges_12, List.forall_mem_cons.mpr ⟨oo_Re_readEdges_13, List.forall_mem_cons.mpr ⟨oo_Re_readEdges_14, List.forall_mem_cons.mpr ⟨oo_Re_readEdges_15, List.forall_mem_cons.mpr ⟨oo_Re_readEdges_16, List.forall_mem_cons.mpr ⟨oo_Re_readEdges_17, List.forall_mem_cons.mpr ⟨oo_Re_readEdges_18, List.forall_mem_cons.mpr ⟨oo_Re_readEdges_19, List.forall_mem_cons.mpr ⟨oo_Re_readEdges_20, List.forall_mem_cons.mpr ⟨oo_Re_readEdges_21, List.forall_mem_cons.mpr ⟨oo_Re_readEdges_22, List.forall_mem_cons.mpr ⟨oo_Re_readEdges_23, List.forall_mem_cons.mpr ⟨oo_Re_readEdges_24, List.forall_mem_cons.mpr ⟨oo_Re_readEdges_25, List.forall_mem_cons.mpr ⟨oo_Re_readEdges_26, List.forall_mem_cons.mpr ⟨oo_Re_readEdges_27, List.forall_mem_cons.mpr ⟨oo_Re_readEdges_28, List.forall_mem_cons.mpr ⟨oo_Re_readEdges_29, List.forall_mem_cons.mpr ⟨oo_Re_readEdges_30, List.forall_mem_cons.mpr ⟨oo_Re_readEdges_31, List.forall_mem_cons.mpr ⟨oo_Re_readEdges_32, List.forall_mem_cons.mpr ⟨oo_Re_readEdges_33, List.forall_mem_nil _⟩⟩⟩⟩⟩⟩⟩⟩⟩⟩⟩⟩⟩⟩⟩⟩⟩⟩⟩⟩⟩⟩⟩⟩⟩⟩⟩⟩⟩⟩⟩⟩⟩⟩) (by decide +kernel) ⟨List.forall_mem_cons.mpr ⟨gf_Re_28, List.forall_mem_cons.mpr ⟨gf_Re_38, List.forall_mem_cons.mpr ⟨gf_Re_44, List.forall_mem_cons.mpr ⟨gf_Re_156, List.forall_mem_cons.mpr ⟨gf_Re_168, List.forall_mem_nil _⟩⟩⟩⟩⟩, List.forall_mem_nil _, List.forall_mem_cons.mpr ⟨cl_virtual (y := y_Re_advance) (ci := 8) rfl rfl ⟨_, _, rfl⟩ (by decide +kernel) h_Re_advance wm_645 wm_2 wm_642 wm_644 wv_1_0 ⟨by decide, by decide, by decide +kernel⟩ (by decide), List.forall_mem_cons.mpr ⟨cl_virtual (y := y_Re_isName) (ci := 8) rfl rfl ⟨_, _, rfl⟩ (by decide +kernel) h_Re_isName wm_726 wm_2 wm_723 wm_725 wv_1_4 ⟨by decide, by decide, by decide +kernel⟩ (by decide), List.forall_mem_cons.mpr ⟨cl_virtual (y := y_Re_fail) (ci := 8) rfl rfl ⟨_, _, rfl⟩ (by decide +kernel) h_Re_fail wm_731 wm_2 wm_728 wm_730 wv_1_5 ⟨by decide, by decide, by decide +kernel⟩ (by decide), List.forall_mem_cons.mpr ⟨cl_virtual (y := y_Re_meetNode_at_gx) (ci := 8) rfl rfl ⟨_, _, rfl⟩ (by decide +kernel) h_Re_meetNode_at_gx wm_735 wm_2 wm_732 wm_734 wv_1_6 ⟨by decide, by decide, by decide +kernel⟩ (by decide), List.forall_mem_cons.mpr ⟨cl_virtual (y := y_Re_meetNode_at_ga) (ci := 8) rfl rfl ⟨_, _, rfl⟩ (by decide +kernel) h_Re_meetNode_at_ga wm_735 wm_2 wm_732 wm_734 wv_1_6 ⟨by decide, by decide, by decide +kernel⟩ (by decide), List.forall_mem_cons.mpr ⟨cl_virtual (y := y_Gr_edgeBetween_at_Gq) (ci := 3) rfl rfl ⟨_, _, rfl⟩ (by decide +kernel) h_Gr_edgeBetween_at_Gq wm_768 wm_3 wm_765 wm_766 wm_767 ⟨by decide, by decide, by decide +kernel⟩ (by decide), List.forall_mem_cons.mpr ⟨cl_virtual (y := y_Gr_addEdge_at_Gq) (ci := 3) rfl rfl ⟨_, _, rfl⟩ (by decide +kernel) h_Gr_addEdge_at_Gq wm_772 wm_3 wm_769 wm_770 wm_771 ⟨by decide, by decide, by decide +kernel⟩ (by decide), List.forall_mem_cons.mpr ⟨cl_virtual (y := y_Re_readValue_at_s5003) (ci := 8) rfl rfl ⟨_, _, rfl⟩ (by decide +kernel) h_Re_readValue_at_s5003 wm_755 wm_2 wm_752 wm_754 wv_1_8 ⟨by decide, by decide, by decide +kernel⟩ (by decide), List.forall_mem_cons.mpr ⟨cl_ldc (own := "DrawingHouse$Reader") (idx := 166) (i := 3) (tx := "weight") (by decide +kernel) (by decide +kernel) (by decide +kernel), List.forall_mem_nil _⟩⟩⟩⟩⟩⟩⟩⟩⟩, List.forall_mem_nil _, List.forall_mem_nil _, GG_pl⟩ (by decide +kernel)
def o_Sy_compileProduct_at_k0_0 : or_T := (12, 5, [], [], [], [], [(24, [0, 0], [])], [], [])
theorem oo_Sy_compileProduct_at_k0_0 {kA : Nat → ClassId} : or_ok PRD kA GG o_Sy_compileProduct_at_k0_0 := by
  refine or_mk fun A ta ws vs hD hth hl => ?_
  have nf0 : fc_1 PRD (24, [0, 0], []) ws (vs) := by
    refine ⟨nf_in hl rfl, sgq_1 ?_⟩
    · show n_v vs 0 = n_v vs 0
      first | rfl | simp only [true_and]
  refine ⟨(fun _ h => (by cases h)), [], trivial, ?_, (fun _ h => (by cases h))⟩
  rw [List.append_nil]
  exact List.forall_mem_cons.mpr ⟨⟨show (24 : Nat) < 100 from by decide, nf0⟩, (fun _ h => (by cases h))⟩
set_option maxHeartbeats 4000000 in
theorem vc_Sy_compileProduct_at_k0_1_0 (kind_0 : Int) (number_0 : Int) (f0 : (kind_0 ≠ 3) ∨ (number_0 ≤ 9999)) (kz_0_6 : 0 ≤ kind_0 ∧ kind_0 ≤ 127) (kz_0_8 : 0 ≤ number_0 ∧ number_0 ≤ 1000000) : (kind_0 ≠ 3) ∨ (number_0 ≤ 9999) := by
  first
    | omega
  
def o_Sy_compileProduct_at_k0_1 : or_T := (79, 9, [(0, (2, 0, 0, [11]))], [(20, [3], [50, 2, 0, 6, 8, 3, 7, 7, 3, 2, 0, 6, 0, 3, 0, 3, 2, 0, 8, 0, 9999]), (24, [0, 3], [])], [], [], [(20, [0], [50, 2, 0, 6, 8, 3, 7, 7, 3, 2, 0, 6, 0, 3, 0, 3, 2, 0, 8, 0, 9999])], [], [])
theorem oo_Sy_compileProduct_at_k0_1 {kA : Nat → ClassId} : or_ok PRD kA GG o_Sy_compileProduct_at_k0_1 := by
  refine or_mk fun A ta ws vs hD hth hl => ?_
  intro t0 r0 f0 f1
  replace f0 := shm_1747 f0
  replace f1 := shm_5 f1
  have q3 : n_v vs 3 = n_v vs 0 := f1.symm
  simp only [q3] at f0
  have kz_0_6 := fdq_304 hD hth r0
  have kz_0_8 := fdq_305 hD hth r0
  have nf0 : fc_1 PRD (20, [0], [50, 2, 0, 6, 8, 3, 7, 7, 3, 2, 0, 6, 0, 3, 0, 3, 2, 0, 8, 0, 9999]) ws (vs) := ⟨nf_in hl rfl, sgq_1747 (vc_Sy_compileProduct_at_k0_1_0 (w_fi ws (n_v vs 0) 6) (w_fi ws (n_v vs 0) 8) f0 kz_0_6 kz_0_8)⟩
  refine ⟨(fun _ h => (by cases h)), [], trivial, ?_, (fun _ h => (by cases h))⟩
  rw [List.append_nil]
  exact List.forall_mem_cons.mpr ⟨⟨show (20 : Nat) < 100 from by decide, nf0⟩, (fun _ h => (by cases h))⟩
set_option maxHeartbeats 4000000 in
theorem vc_Sy_compileProduct_at_k0_2_0 (x11 : Int) (x13 : Int) (k11 : 4 ≤ x11 ∧ x11 ≤ 4) (k13 : 0 ≤ x13 ∧ x13 ≤ 0) : (0 ≤ x11) ∧ ((0 ≤ x13) ∧ (((x11 * 65536) + x13) ≤ 851970)) := by
  first
    | omega
  
def o_Sy_compileProduct_at_k0_2 : or_T := (69, 14, [(11, (0, 4, 4, [])), (13, (0, 0, 0, []))], [], [], [], [(20, [11, 13], [50, 0, 0, 2, 6, 0, 2, 0, 0, 1, 0, 2, 6, 0, 2, 0, 0, 1, 1, 0, 10, 4, 6, 6, 2, 1, 0, 0, 65536, 1, 1, 0, 851970])], [], [])
theorem oo_Sy_compileProduct_at_k0_2 {kA : Nat → ClassId} : or_ok PRD kA GG o_Sy_compileProduct_at_k0_2 := by
  refine or_mk fun A ta ws vs hD hth hl => ?_
  intro t11 k11 t13 k13
  have nf0 : fc_1 PRD (20, [11, 13], [50, 0, 0, 2, 6, 0, 2, 0, 0, 1, 0, 2, 6, 0, 2, 0, 0, 1, 1, 0, 10, 4, 6, 6, 2, 1, 0, 0, 65536, 1, 1, 0, 851970]) ws (vs) := ⟨nf_in hl rfl, sgq_487 (vc_Sy_compileProduct_at_k0_2_0 (v_iv (n_v vs 11)) (v_iv (n_v vs 13)) k11 k13)⟩
  refine ⟨(fun _ h => (by cases h)), [], trivial, ?_, (fun _ h => (by cases h))⟩
  rw [List.append_nil]
  exact List.forall_mem_cons.mpr ⟨⟨show (20 : Nat) < 100 from by decide, nf0⟩, (fun _ h => (by cases h))⟩
set_option maxHeartbeats 4000000 in
theorem vc_Sy_compileProduct_at_k0_3_0 (kind_0 : Int) (number_0 : Int) (f1 : (kind_0 ≠ 3) ∨ (number_0 ≤ 9999)) (kz_0_6 : 0 ≤ kind_0 ∧ kind_0 ≤ 127) (kz_0_8 : 0 ≤ number_0 ∧ number_0 ≤ 1000000) : (kind_0 ≠ 3) ∨ (number_0 ≤ 9999) := by
  first
    | omega
  
def o_Sy_compileProduct_at_k0_3 : or_T := (65, 14, [(0, (2, 0, 0, [11]))], [(24, [0, 3], []), (20, [3], [50, 2, 0, 6, 8, 3, 7, 7, 3, 2, 0, 6, 0, 3, 0, 3, 2, 0, 8, 0, 9999])], [], [], [(20, [0], [50, 2, 0, 6, 8, 3, 7, 7, 3, 2, 0, 6, 0, 3, 0, 3, 2, 0, 8, 0, 9999])], [], [])
theorem oo_Sy_compileProduct_at_k0_3 {kA : Nat → ClassId} : or_ok PRD kA GG o_Sy_compileProduct_at_k0_3 := by
  refine or_mk fun A ta ws vs hD hth hl => ?_
  intro t0 r0 f0 f1
  replace f0 := shm_5 f0
  replace f1 := shm_1747 f1
  have q3 : n_v vs 3 = n_v vs 0 := f0.symm
  simp only [q3] at f1
  have kz_0_6 := fdq_304 hD hth r0
  have kz_0_8 := fdq_305 hD hth r0
  have nf0 : fc_1 PRD (20, [0], [50, 2, 0, 6, 8, 3, 7, 7, 3, 2, 0, 6, 0, 3, 0, 3, 2, 0, 8, 0, 9999]) ws (vs) := ⟨nf_in hl rfl, sgq_1747 (vc_Sy_compileProduct_at_k0_3_0 (w_fi ws (n_v vs 0) 6) (w_fi ws (n_v vs 0) 8) f1 kz_0_6 kz_0_8)⟩
  refine ⟨(fun _ h => (by cases h)), [], trivial, ?_, (fun _ h => (by cases h))⟩
  rw [List.append_nil]
  exact List.forall_mem_cons.mpr ⟨⟨show (20 : Nat) < 100 from by decide, nf0⟩, (fun _ h => (by cases h))⟩
set_option maxHeartbeats 4000000 in
theorem vc_Sy_compileProduct_at_k0_4_0 (kind_0 : Int) (number_0 : Int) (f3 : (kind_0 ≠ 3) ∨ (number_0 ≤ 9999)) (kz_0_6 : 0 ≤ kind_0 ∧ kind_0 ≤ 127) (kz_0_8 : 0 ≤ number_0 ∧ number_0 ≤ 1000000) : (kind_0 ≠ 3) ∨ (number_0 ≤ 9999) := by
  first
    | omega
  
def o_Sy_compileProduct_at_k0_4 : or_T := (79, 12, [(0, (2, 0, 0, [11]))], [(20, [3], [50, 2, 0, 6, 8, 3, 7, 7, 3, 2, 0, 6, 0, 3, 0, 3, 2, 0, 8, 0, 9999]), (24, [0, 3], [])], [], [], [(20, [0], [50, 2, 0, 6, 8, 3, 7, 7, 3, 2, 0, 6, 0, 3, 0, 3, 2, 0, 8, 0, 9999])], [], [])
theorem oo_Sy_compileProduct_at_k0_4 {kA : Nat → ClassId} : or_ok PRD kA GG o_Sy_compileProduct_at_k0_4 := by
  refine or_mk fun A ta ws vs hD hth hl => ?_
  intro t0 r0 f3 f4
  replace f3 := shm_1747 f3
  replace f4 := shm_5 f4
  have q3 : n_v vs 3 = n_v vs 0 := f4.symm
  simp only [q3] at f3
  have kz_0_6 := fdq_304 hD hth r0
  have kz_0_8 := fdq_305 hD hth r0
  have nf0 : fc_1 PRD (20, [0], [50, 2, 0, 6, 8, 3, 7, 7, 3, 2, 0, 6, 0, 3, 0, 3, 2, 0, 8, 0, 9999]) ws (vs) := ⟨nf_in hl rfl, sgq_1747 (vc_Sy_compileProduct_at_k0_4_0 (w_fi ws (n_v vs 0) 6) (w_fi ws (n_v vs 0) 8) f3 kz_0_6 kz_0_8)⟩
  refine ⟨(fun _ h => (by cases h)), [], trivial, ?_, (fun _ h => (by cases h))⟩
  rw [List.append_nil]
  exact List.forall_mem_cons.mpr ⟨⟨show (20 : Nat) < 100 from by decide, nf0⟩, (fun _ h => (by cases h))⟩
set_option maxHeartbeats 4000000 in
theorem vc_Sy_compileProduct_at_k0_5_0 (x12 : Int) (x14 : Int) (k12 : 5 ≤ x12 ∧ x12 ≤ 5) (k14 : 0 ≤ x14 ∧ x14 ≤ 0) : (0 ≤ x12) ∧ ((0 ≤ x14) ∧ (((x12 * 65536) + x14) ≤ 851970)) := by
  first
    | omega
  
def o_Sy_compileProduct_at_k0_5 : or_T := (69, 15, [(12, (0, 5, 5, [])), (14, (0, 0, 0, []))], [], [], [], [(20, [12, 14], [50, 0, 0, 2, 6, 0, 2, 0, 0, 1, 0, 2, 6, 0, 2, 0, 0, 1, 1, 0, 10, 4, 6, 6, 2, 1, 0, 0, 65536, 1, 1, 0, 851970])], [], [])
theorem oo_Sy_compileProduct_at_k0_5 {kA : Nat → ClassId} : or_ok PRD kA GG o_Sy_compileProduct_at_k0_5 := by
  refine or_mk fun A ta ws vs hD hth hl => ?_
  intro t12 k12 t14 k14
  have nf0 : fc_1 PRD (20, [12, 14], [50, 0, 0, 2, 6, 0, 2, 0, 0, 1, 0, 2, 6, 0, 2, 0, 0, 1, 1, 0, 10, 4, 6, 6, 2, 1, 0, 0, 65536, 1, 1, 0, 851970]) ws (vs) := ⟨nf_in hl rfl, sgq_487 (vc_Sy_compileProduct_at_k0_5_0 (v_iv (n_v vs 12)) (v_iv (n_v vs 14)) k12 k14)⟩
  refine ⟨(fun _ h => (by cases h)), [], trivial, ?_, (fun _ h => (by cases h))⟩
  rw [List.append_nil]
  exact List.forall_mem_cons.mpr ⟨⟨show (20 : Nat) < 100 from by decide, nf0⟩, (fun _ h => (by cases h))⟩
set_option maxHeartbeats 4000000 in
theorem vc_Sy_compileProduct_at_k0_6_0 (kind_0 : Int) (number_0 : Int) (f1 : (kind_0 ≠ 3) ∨ (number_0 ≤ 9999)) (kz_0_6 : 0 ≤ kind_0 ∧ kind_0 ≤ 127) (kz_0_8 : 0 ≤ number_0 ∧ number_0 ≤ 1000000) : (kind_0 ≠ 3) ∨ (number_0 ≤ 9999) := by
  first
    | omega
  
def o_Sy_compileProduct_at_k0_6 : or_T := (65, 15, [(0, (2, 0, 0, [11]))], [(24, [0, 3], []), (20, [3], [50, 2, 0, 6, 8, 3, 7, 7, 3, 2, 0, 6, 0, 3, 0, 3, 2, 0, 8, 0, 9999])], [], [], [(20, [0], [50, 2, 0, 6, 8, 3, 7, 7, 3, 2, 0, 6, 0, 3, 0, 3, 2, 0, 8, 0, 9999])], [], [])
theorem oo_Sy_compileProduct_at_k0_6 {kA : Nat → ClassId} : or_ok PRD kA GG o_Sy_compileProduct_at_k0_6 := by
  refine or_mk fun A ta ws vs hD hth hl => ?_
  intro t0 r0 f0 f1
  replace f0 := shm_5 f0
  replace f1 := shm_1747 f1
  have q3 : n_v vs 3 = n_v vs 0 := f0.symm
  simp only [q3] at f1
  have kz_0_6 := fdq_304 hD hth r0
  have kz_0_8 := fdq_305 hD hth r0
  have nf0 : fc_1 PRD (20, [0], [50, 2, 0, 6, 8, 3, 7, 7, 3, 2, 0, 6, 0, 3, 0, 3, 2, 0, 8, 0, 9999]) ws (vs) := ⟨nf_in hl rfl, sgq_1747 (vc_Sy_compileProduct_at_k0_6_0 (w_fi ws (n_v vs 0) 6) (w_fi ws (n_v vs 0) 8) f1 kz_0_6 kz_0_8)⟩
  refine ⟨(fun _ h => (by cases h)), [], trivial, ?_, (fun _ h => (by cases h))⟩
  rw [List.append_nil]
  exact List.forall_mem_cons.mpr ⟨⟨show (20 : Nat) < 100 from by decide, nf0⟩, (fun _ h => (by cases h))⟩
def n_Sy_compileProduct_at_k0_an : List an_T := [(12, [(0, (2, 0, 0, [11])), (1, (0, 0, 0, [])), (2, (0, 0, 2000, []))], [], (0, 0), [(0, 0, 99988), (1, 5, 2000), (0, 0, 100000)], [], [((0, 3), (2, 0, 0, [109]))], [(2, 0, 0, [11]), (0, 0, 0, []), (2, 0, 0, [109])], 0, [], [(20, [3], [50, 2, 0, 6, 8, 3, 7, 7, 3, 2, 0, 6, 0, 3, 0, 3, 2, 0, 8, 0, 9999]), (24, [0, 3], [])])]
def t_Sy_compileProduct_at_k0_ct : ct_L := [(1, 69, e_Sy_advance), (1, 128, e_Sy_emit), (10, 158, e_Sy_compileValue_at_k0), (178, 158, e_Sy_compileValue_at_k0)]
set_option maxRecDepth 100000 in
theorem c_Sy_compileProduct_at_k0 {l : Launch} {D : va_G} {kA : Nat → ClassId} (h_Sy_advance : ct_ok PRD l D kA GG y_Sy_advance z_Sy_advance e_Sy_advance) (h_Sy_compileValue_at_k0 : ct_ok PRD l D kA GG y_Sy_compileValue_at_k0 z_Sy_compileValue_at_k0 e_Sy_compileValue_at_k0) (h_Sy_emit : ct_ok PRD l D kA GG y_Sy_emit z_Sy_emit e_Sy_emit) : ct_ok PRD l D kA GG y_Sy_compileProduct_at_k0 z_Sy_compileProduct_at_k0 e_Sy_compileProduct_at_k0 := chk_all_ok (FT := [(31, 11, 6)]) (PT := []) (CT := t_Sy_compileProduct_at_k0_ct) (KT := []) (NT := []) (AN := n_Sy_compileProduct_at_k0_an) (OT := [o_Sy_compileProduct_at_k0_0, o_Sy_compileProduct_at_k0_1, o_Sy_compileProduct_at_k0_2, o_Sy_compileProduct_at_k0_3, o_Sy_compileProduct_at_k0_4, o_Sy_compileProduct_at_k0_5, o_Sy_compileProduct_at_k0_6]) 3 268 (List.forall_mem_cons.mpr ⟨oo_Sy_compileProduct_at_k0_0, List.forall_mem_cons.mpr ⟨oo_Sy_compileProduct_at_k0_1, List.forall_mem_cons.mpr ⟨oo_Sy_compileProduct_at_k0_2, List.forall_mem_cons.mpr ⟨oo_Sy_compileProduct_at_k0_3, List.forall_mem_cons.mpr ⟨oo_Sy_compileProduct_at_k0_4, List.forall_mem_cons.mpr ⟨oo_Sy_compileProduct_at_k0_5, List.forall_mem_cons.mpr ⟨oo_Sy_compileProduct_at_k0_6, List.forall_mem_nil _⟩⟩⟩⟩⟩⟩⟩) (by decide +kernel) ⟨List.forall_mem_cons.mpr ⟨gf_Sy_31, List.forall_mem_nil _⟩, List.forall_mem_nil _, List.forall_mem_cons.mpr ⟨cl_virtual (y := y_Sy_advance) (ci := 11) rfl rfl ⟨_, _, rfl⟩ (by decide +kernel) h_Sy_advance wm_2158 wm_23 wm_2155 wm_2157 wv_10_10 ⟨by decide, by decide, by decide +kernel⟩ (by decide), List.forall_mem_cons.mpr ⟨cl_virtual (y := y_Sy_emit) (ci := 11) rfl rfl ⟨_, _, rfl⟩ (by decide +kernel) h_Sy_emit wm_2258 wm_23 wm_2255 wm_2257 wv_11_2 ⟨by decide, by decide, by decide +kernel⟩ (by decide), List.forall_mem_cons.mpr ⟨cl_virtual (y := y_Sy_compileValue_at_k0) (ci := 11) rfl rfl ⟨_, _, rfl⟩ (by decide +kernel) h_Sy_compileValue_at_k0 wm_2274 wm_23 wm_2271 wm_2273 wv_11_6 ⟨by decide, by decide, by decide +kernel⟩ (by decide), List.forall_mem_cons.mpr ⟨cl_virtual (y := y_Sy_compileValue_at_k0) (ci := 11) rfl rfl ⟨_, _, rfl⟩ (by decide +kernel) h_Sy_compileValue_at_k0 wm_2274 wm_23 wm_2271 wm_2273 wv_11_6 ⟨by decide, by decide, by decide +kernel⟩ (by decide), List.forall_mem_nil _⟩⟩⟩⟩, List.forall_mem_nil _, List.forall_mem_nil _, GG_pl⟩ (by decide +kernel)
def o_Sy_compileProduct_at_k1_0 : or_T := (12, 5, [], [], [], [], [(24, [0, 0], [])], [], [])
theorem oo_Sy_compileProduct_at_k1_0 {kA : Nat → ClassId} : or_ok PRD kA GG o_Sy_compileProduct_at_k1_0 := by
  refine or_mk fun A ta ws vs hD hth hl => ?_
  have nf0 : fc_1 PRD (24, [0, 0], []) ws (vs) := by
    refine ⟨nf_in hl rfl, sgq_1 ?_⟩
    · show n_v vs 0 = n_v vs 0
      first | rfl | simp only [true_and]
  refine ⟨(fun _ h => (by cases h)), [], trivial, ?_, (fun _ h => (by cases h))⟩
  rw [List.append_nil]
  exact List.forall_mem_cons.mpr ⟨⟨show (24 : Nat) < 100 from by decide, nf0⟩, (fun _ h => (by cases h))⟩
set_option maxHeartbeats 4000000 in
theorem vc_Sy_compileProduct_at_k1_1_0 (kind_0 : Int) (number_0 : Int) (f0 : (kind_0 ≠ 3) ∨ (number_0 ≤ 9999)) (kz_0_6 : 0 ≤ kind_0 ∧ kind_0 ≤ 127) (kz_0_8 : 0 ≤ number_0 ∧ number_0 ≤ 1000000) : (kind_0 ≠ 3) ∨ (number_0 ≤ 9999) := by
  first
    | omega
  
def o_Sy_compileProduct_at_k1_1 : or_T := (79, 9, [(0, (2, 0, 0, [11]))], [(20, [3], [50, 2, 0, 6, 8, 3, 7, 7, 3, 2, 0, 6, 0, 3, 0, 3, 2, 0, 8, 0, 9999]), (24, [0, 3], [])], [], [], [(20, [0], [50, 2, 0, 6, 8, 3, 7, 7, 3, 2, 0, 6, 0, 3, 0, 3, 2, 0, 8, 0, 9999])], [], [])
theorem oo_Sy_compileProduct_at_k1_1 {kA : Nat → ClassId} : or_ok PRD kA GG o_Sy_compileProduct_at_k1_1 := by
  refine or_mk fun A ta ws vs hD hth hl => ?_
  intro t0 r0 f0 f1
  replace f0 := shm_1747 f0
  replace f1 := shm_5 f1
  have q3 : n_v vs 3 = n_v vs 0 := f1.symm
  simp only [q3] at f0
  have kz_0_6 := fdq_304 hD hth r0
  have kz_0_8 := fdq_305 hD hth r0
  have nf0 : fc_1 PRD (20, [0], [50, 2, 0, 6, 8, 3, 7, 7, 3, 2, 0, 6, 0, 3, 0, 3, 2, 0, 8, 0, 9999]) ws (vs) := ⟨nf_in hl rfl, sgq_1747 (vc_Sy_compileProduct_at_k1_1_0 (w_fi ws (n_v vs 0) 6) (w_fi ws (n_v vs 0) 8) f0 kz_0_6 kz_0_8)⟩
  refine ⟨(fun _ h => (by cases h)), [], trivial, ?_, (fun _ h => (by cases h))⟩
  rw [List.append_nil]
  exact List.forall_mem_cons.mpr ⟨⟨show (20 : Nat) < 100 from by decide, nf0⟩, (fun _ h => (by cases h))⟩
set_option maxHeartbeats 4000000 in
theorem vc_Sy_compileProduct_at_k1_2_0 (x11 : Int) (x13 : Int) (k11 : 4 ≤ x11 ∧ x11 ≤ 4) (k13 : 0 ≤ x13 ∧ x13 ≤ 0) : (0 ≤ x11) ∧ ((0 ≤ x13) ∧ (((x11 * 65536) + x13) ≤ 851970)) := by
  first
    | omega
  
def o_Sy_compileProduct_at_k1_2 : or_T := (69, 14, [(11, (0, 4, 4, [])), (13, (0, 0, 0, []))], [], [], [], [(20, [11, 13], [50, 0, 0, 2, 6, 0, 2, 0, 0, 1, 0, 2, 6, 0, 2, 0, 0, 1, 1, 0, 10, 4, 6, 6, 2, 1, 0, 0, 65536, 1, 1, 0, 851970])], [], [])
theorem oo_Sy_compileProduct_at_k1_2 {kA : Nat → ClassId} : or_ok PRD kA GG o_Sy_compileProduct_at_k1_2 := by
  refine or_mk fun A ta ws vs hD hth hl => ?_
  intro t11 k11 t13 k13
  have nf0 : fc_1 PRD (20, [11, 13], [50, 0, 0, 2, 6, 0, 2, 0, 0, 1, 0, 2, 6, 0, 2, 0, 0, 1, 1, 0, 10, 4, 6, 6, 2, 1, 0, 0, 65536, 1, 1, 0, 851970]) ws (vs) := ⟨nf_in hl rfl, sgq_487 (vc_Sy_compileProduct_at_k1_2_0 (v_iv (n_v vs 11)) (v_iv (n_v vs 13)) k11 k13)⟩
  refine ⟨(fun _ h => (by cases h)), [], trivial, ?_, (fun _ h => (by cases h))⟩
  rw [List.append_nil]
  exact List.forall_mem_cons.mpr ⟨⟨show (20 : Nat) < 100 from by decide, nf0⟩, (fun _ h => (by cases h))⟩
set_option maxHeartbeats 4000000 in
theorem vc_Sy_compileProduct_at_k1_3_0 (kind_0 : Int) (number_0 : Int) (f1 : (kind_0 ≠ 3) ∨ (number_0 ≤ 9999)) (kz_0_6 : 0 ≤ kind_0 ∧ kind_0 ≤ 127) (kz_0_8 : 0 ≤ number_0 ∧ number_0 ≤ 1000000) : (kind_0 ≠ 3) ∨ (number_0 ≤ 9999) := by
  first
    | omega
  
def o_Sy_compileProduct_at_k1_3 : or_T := (65, 14, [(0, (2, 0, 0, [11]))], [(24, [0, 3], []), (20, [3], [50, 2, 0, 6, 8, 3, 7, 7, 3, 2, 0, 6, 0, 3, 0, 3, 2, 0, 8, 0, 9999])], [], [], [(20, [0], [50, 2, 0, 6, 8, 3, 7, 7, 3, 2, 0, 6, 0, 3, 0, 3, 2, 0, 8, 0, 9999])], [], [])
theorem oo_Sy_compileProduct_at_k1_3 {kA : Nat → ClassId} : or_ok PRD kA GG o_Sy_compileProduct_at_k1_3 := by
  refine or_mk fun A ta ws vs hD hth hl => ?_
  intro t0 r0 f0 f1
  replace f0 := shm_5 f0
  replace f1 := shm_1747 f1
  have q3 : n_v vs 3 = n_v vs 0 := f0.symm
  simp only [q3] at f1
  have kz_0_6 := fdq_304 hD hth r0
  have kz_0_8 := fdq_305 hD hth r0
  have nf0 : fc_1 PRD (20, [0], [50, 2, 0, 6, 8, 3, 7, 7, 3, 2, 0, 6, 0, 3, 0, 3, 2, 0, 8, 0, 9999]) ws (vs) := ⟨nf_in hl rfl, sgq_1747 (vc_Sy_compileProduct_at_k1_3_0 (w_fi ws (n_v vs 0) 6) (w_fi ws (n_v vs 0) 8) f1 kz_0_6 kz_0_8)⟩
  refine ⟨(fun _ h => (by cases h)), [], trivial, ?_, (fun _ h => (by cases h))⟩
  rw [List.append_nil]
  exact List.forall_mem_cons.mpr ⟨⟨show (20 : Nat) < 100 from by decide, nf0⟩, (fun _ h => (by cases h))⟩
set_option maxHeartbeats 4000000 in
theorem vc_Sy_compileProduct_at_k1_4_0 (kind_0 : Int) (number_0 : Int) (f3 : (kind_0 ≠ 3) ∨ (number_0 ≤ 9999)) (kz_0_6 : 0 ≤ kind_0 ∧ kind_0 ≤ 127) (kz_0_8 : 0 ≤ number_0 ∧ number_0 ≤ 1000000) : (kind_0 ≠ 3) ∨ (number_0 ≤ 9999) := by
  first
    | omega
  
def o_Sy_compileProduct_at_k1_4 : or_T := (79, 12, [(0, (2, 0, 0, [11]))], [(20, [3], [50, 2, 0, 6, 8, 3, 7, 7, 3, 2, 0, 6, 0, 3, 0, 3, 2, 0, 8, 0, 9999]), (24, [0, 3], [])], [], [], [(20, [0], [50, 2, 0, 6, 8, 3, 7, 7, 3, 2, 0, 6, 0, 3, 0, 3, 2, 0, 8, 0, 9999])], [], [])
theorem oo_Sy_compileProduct_at_k1_4 {kA : Nat → ClassId} : or_ok PRD kA GG o_Sy_compileProduct_at_k1_4 := by
  refine or_mk fun A ta ws vs hD hth hl => ?_
  intro t0 r0 f3 f4
  replace f3 := shm_1747 f3
  replace f4 := shm_5 f4
  have q3 : n_v vs 3 = n_v vs 0 := f4.symm
  simp only [q3] at f3
  have kz_0_6 := fdq_304 hD hth r0
  have kz_0_8 := fdq_305 hD hth r0
  have nf0 : fc_1 PRD (20, [0], [50, 2, 0, 6, 8, 3, 7, 7, 3, 2, 0, 6, 0, 3, 0, 3, 2, 0, 8, 0, 9999]) ws (vs) := ⟨nf_in hl rfl, sgq_1747 (vc_Sy_compileProduct_at_k1_4_0 (w_fi ws (n_v vs 0) 6) (w_fi ws (n_v vs 0) 8) f3 kz_0_6 kz_0_8)⟩
  refine ⟨(fun _ h => (by cases h)), [], trivial, ?_, (fun _ h => (by cases h))⟩
  rw [List.append_nil]
  exact List.forall_mem_cons.mpr ⟨⟨show (20 : Nat) < 100 from by decide, nf0⟩, (fun _ h => (by cases h))⟩
set_option maxHeartbeats 4000000 in
theorem vc_Sy_compileProduct_at_k1_5_0 (x12 : Int) (x14 : Int) (k12 : 5 ≤ x12 ∧ x12 ≤ 5) (k14 : 0 ≤ x14 ∧ x14 ≤ 0) : (0 ≤ x12) ∧ ((0 ≤ x14) ∧ (((x12 * 65536) + x14) ≤ 851970)) := by
  first
    | omega
  
def o_Sy_compileProduct_at_k1_5 : or_T := (69, 15, [(12, (0, 5, 5, [])), (14, (0, 0, 0, []))], [], [], [], [(20, [12, 14], [50, 0, 0, 2, 6, 0, 2, 0, 0, 1, 0, 2, 6, 0, 2, 0, 0, 1, 1, 0, 10, 4, 6, 6, 2, 1, 0, 0, 65536, 1, 1, 0, 851970])], [], [])
theorem oo_Sy_compileProduct_at_k1_5 {kA : Nat → ClassId} : or_ok PRD kA GG o_Sy_compileProduct_at_k1_5 := by
  refine or_mk fun A ta ws vs hD hth hl => ?_
  intro t12 k12 t14 k14
  have nf0 : fc_1 PRD (20, [12, 14], [50, 0, 0, 2, 6, 0, 2, 0, 0, 1, 0, 2, 6, 0, 2, 0, 0, 1, 1, 0, 10, 4, 6, 6, 2, 1, 0, 0, 65536, 1, 1, 0, 851970]) ws (vs) := ⟨nf_in hl rfl, sgq_487 (vc_Sy_compileProduct_at_k1_5_0 (v_iv (n_v vs 12)) (v_iv (n_v vs 14)) k12 k14)⟩
  refine ⟨(fun _ h => (by cases h)), [], trivial, ?_, (fun _ h => (by cases h))⟩
  rw [List.append_nil]
  exact List.forall_mem_cons.mpr ⟨⟨show (20 : Nat) < 100 from by decide, nf0⟩, (fun _ h => (by cases h))⟩
set_option maxHeartbeats 4000000 in
theorem vc_Sy_compileProduct_at_k1_6_0 (kind_0 : Int) (number_0 : Int) (f1 : (kind_0 ≠ 3) ∨ (number_0 ≤ 9999)) (kz_0_6 : 0 ≤ kind_0 ∧ kind_0 ≤ 127) (kz_0_8 : 0 ≤ number_0 ∧ number_0 ≤ 1000000) : (kind_0 ≠ 3) ∨ (number_0 ≤ 9999) := by
  first
    | omega
  
def o_Sy_compileProduct_at_k1_6 : or_T := (65, 15, [(0, (2, 0, 0, [11]))], [(24, [0, 3], []), (20, [3], [50, 2, 0, 6, 8, 3, 7, 7, 3, 2, 0, 6, 0, 3, 0, 3, 2, 0, 8, 0, 9999])], [], [], [(20, [0], [50, 2, 0, 6, 8, 3, 7, 7, 3, 2, 0, 6, 0, 3, 0, 3, 2, 0, 8, 0, 9999])], [], [])
theorem oo_Sy_compileProduct_at_k1_6 {kA : Nat → ClassId} : or_ok PRD kA GG o_Sy_compileProduct_at_k1_6 := by
  refine or_mk fun A ta ws vs hD hth hl => ?_
  intro t0 r0 f0 f1
  replace f0 := shm_5 f0
  replace f1 := shm_1747 f1
  have q3 : n_v vs 3 = n_v vs 0 := f0.symm
  simp only [q3] at f1
  have kz_0_6 := fdq_304 hD hth r0
  have kz_0_8 := fdq_305 hD hth r0
  have nf0 : fc_1 PRD (20, [0], [50, 2, 0, 6, 8, 3, 7, 7, 3, 2, 0, 6, 0, 3, 0, 3, 2, 0, 8, 0, 9999]) ws (vs) := ⟨nf_in hl rfl, sgq_1747 (vc_Sy_compileProduct_at_k1_6_0 (w_fi ws (n_v vs 0) 6) (w_fi ws (n_v vs 0) 8) f1 kz_0_6 kz_0_8)⟩
  refine ⟨(fun _ h => (by cases h)), [], trivial, ?_, (fun _ h => (by cases h))⟩
  rw [List.append_nil]
  exact List.forall_mem_cons.mpr ⟨⟨show (20 : Nat) < 100 from by decide, nf0⟩, (fun _ h => (by cases h))⟩
def n_Sy_compileProduct_at_k1_an : List an_T := [(12, [(0, (2, 0, 0, [11])), (1, (0, 1, 1, [])), (2, (0, 0, 2000, []))], [], (0, 0), [(0, 0, 99988), (1, 5, 2000), (0, 0, 100000)], [], [((0, 3), (2, 0, 0, [109]))], [(2, 0, 0, [11]), (0, 1, 1, []), (2, 0, 0, [109])], 0, [], [(20, [3], [50, 2, 0, 6, 8, 3, 7, 7, 3, 2, 0, 6, 0, 3, 0, 3, 2, 0, 8, 0, 9999]), (24, [0, 3], [])])]
def t_Sy_compileProduct_at_k1_ct : ct_L := [(1, 69, e_Sy_advance), (1, 128, e_Sy_emit), (10, 158, e_Sy_compileValue_at_k1), (178, 158, e_Sy_compileValue_at_k1)]
set_option maxRecDepth 100000 in
theorem c_Sy_compileProduct_at_k1 {l : Launch} {D : va_G} {kA : Nat → ClassId} (h_Sy_advance : ct_ok PRD l D kA GG y_Sy_advance z_Sy_advance e_Sy_advance) (h_Sy_compileValue_at_k1 : ct_ok PRD l D kA GG y_Sy_compileValue_at_k1 z_Sy_compileValue_at_k1 e_Sy_compileValue_at_k1) (h_Sy_emit : ct_ok PRD l D kA GG y_Sy_emit z_Sy_emit e_Sy_emit) : ct_ok PRD l D kA GG y_Sy_compileProduct_at_k1 z_Sy_compileProduct_at_k1 e_Sy_compileProduct_at_k1 := chk_all_ok (FT := [(31, 11, 6)]) (PT := []) (CT := t_Sy_compileProduct_at_k1_ct) (KT := []) (NT := []) (AN := n_Sy_compileProduct_at_k1_an) (OT := [o_Sy_compileProduct_at_k1_0, o_Sy_compileProduct_at_k1_1, o_Sy_compileProduct_at_k1_2, o_Sy_compileProduct_at_k1_3, o_Sy_compileProduct_at_k1_4, o_Sy_compileProduct_at_k1_5, o_Sy_compileProduct_at_k1_6]) 3 268 (List.forall_mem_cons.mpr ⟨oo_Sy_compileProduct_at_k1_0, List.forall_mem_cons.mpr ⟨oo_Sy_compileProduct_at_k1_1, List.forall_mem_cons.mpr ⟨oo_Sy_compileProduct_at_k1_2, List.forall_mem_cons.mpr ⟨oo_Sy_compileProduct_at_k1_3, List.forall_mem_cons.mpr ⟨oo_Sy_compileProduct_at_k1_4, List.forall_mem_cons.mpr ⟨oo_Sy_compileProduct_at_k1_5, List.forall_mem_cons.mpr ⟨oo_Sy_compileProduct_at_k1_6, List.forall_mem_nil _⟩⟩⟩⟩⟩⟩⟩) (by decide +kernel) ⟨List.forall_mem_cons.mpr ⟨gf_Sy_31, List.forall_mem_nil _⟩, List.forall_mem_nil _, List.forall_mem_cons.mpr ⟨cl_virtual (y := y_Sy_advance) (ci := 11) rfl rfl ⟨_, _, rfl⟩ (by decide +kernel) h_Sy_advance wm_2158 wm_23 wm_2155 wm_2157 wv_10_10 ⟨by decide, by decide, by decide +kernel⟩ (by decide), List.forall_mem_cons.mpr ⟨cl_virtual (y := y_Sy_emit) (ci := 11) rfl rfl ⟨_, _, rfl⟩ (by decide +kernel) h_Sy_emit wm_2258 wm_23 wm_2255 wm_2257 wv_11_2 ⟨by decide, by decide, by decide +kernel⟩ (by decide), List.forall_mem_cons.mpr ⟨cl_virtual (y := y_Sy_compileValue_at_k1) (ci := 11) rfl rfl ⟨_, _, rfl⟩ (by decide +kernel) h_Sy_compileValue_at_k1 wm_2274 wm_23 wm_2271 wm_2273 wv_11_6 ⟨by decide, by decide, by decide +kernel⟩ (by decide), List.forall_mem_cons.mpr ⟨cl_virtual (y := y_Sy_compileValue_at_k1) (ci := 11) rfl rfl ⟨_, _, rfl⟩ (by decide +kernel) h_Sy_compileValue_at_k1 wm_2274 wm_23 wm_2271 wm_2273 wv_11_6 ⟨by decide, by decide, by decide +kernel⟩ (by decide), List.forall_mem_nil _⟩⟩⟩⟩, List.forall_mem_nil _, List.forall_mem_nil _, GG_pl⟩ (by decide +kernel)
def o_Sy_compileProduct_at_k10_0 : or_T := (12, 5, [], [], [], [], [(24, [0, 0], [])], [], [])
theorem oo_Sy_compileProduct_at_k10_0 {kA : Nat → ClassId} : or_ok PRD kA GG o_Sy_compileProduct_at_k10_0 := by
  refine or_mk fun A ta ws vs hD hth hl => ?_
  have nf0 : fc_1 PRD (24, [0, 0], []) ws (vs) := by
    refine ⟨nf_in hl rfl, sgq_1 ?_⟩
    · show n_v vs 0 = n_v vs 0
      first | rfl | simp only [true_and]
  refine ⟨(fun _ h => (by cases h)), [], trivial, ?_, (fun _ h => (by cases h))⟩
  rw [List.append_nil]
  exact List.forall_mem_cons.mpr ⟨⟨show (24 : Nat) < 100 from by decide, nf0⟩, (fun _ h => (by cases h))⟩
set_option maxHeartbeats 4000000 in
theorem vc_Sy_compileProduct_at_k10_1_0 (kind_0 : Int) (number_0 : Int) (f0 : (kind_0 ≠ 3) ∨ (number_0 ≤ 9999)) (kz_0_6 : 0 ≤ kind_0 ∧ kind_0 ≤ 127) (kz_0_8 : 0 ≤ number_0 ∧ number_0 ≤ 1000000) : (kind_0 ≠ 3) ∨ (number_0 ≤ 9999) := by
  first
    | omega
  
def o_Sy_compileProduct_at_k10_1 : or_T := (79, 9, [(0, (2, 0, 0, [11]))], [(20, [3], [50, 2, 0, 6, 8, 3, 7, 7, 3, 2, 0, 6, 0, 3, 0, 3, 2, 0, 8, 0, 9999]), (24, [0, 3], [])], [], [], [(20, [0], [50, 2, 0, 6, 8, 3, 7, 7, 3, 2, 0, 6, 0, 3, 0, 3, 2, 0, 8, 0, 9999])], [], [])
theorem oo_Sy_compileProduct_at_k10_1 {kA : Nat → ClassId} : or_ok PRD kA GG o_Sy_compileProduct_at_k10_1 := by
  refine or_mk fun A ta ws vs hD hth hl => ?_
  intro t0 r0 f0 f1
  replace f0 := shm_1747 f0
  replace f1 := shm_5 f1
  have q3 : n_v vs 3 = n_v vs 0 := f1.symm
  simp only [q3] at f0
  have kz_0_6 := fdq_304 hD hth r0
  have kz_0_8 := fdq_305 hD hth r0
  have nf0 : fc_1 PRD (20, [0], [50, 2, 0, 6, 8, 3, 7, 7, 3, 2, 0, 6, 0, 3, 0, 3, 2, 0, 8, 0, 9999]) ws (vs) := ⟨nf_in hl rfl, sgq_1747 (vc_Sy_compileProduct_at_k10_1_0 (w_fi ws (n_v vs 0) 6) (w_fi ws (n_v vs 0) 8) f0 kz_0_6 kz_0_8)⟩
  refine ⟨(fun _ h => (by cases h)), [], trivial, ?_, (fun _ h => (by cases h))⟩
  rw [List.append_nil]
  exact List.forall_mem_cons.mpr ⟨⟨show (20 : Nat) < 100 from by decide, nf0⟩, (fun _ h => (by cases h))⟩
set_option maxHeartbeats 4000000 in
theorem vc_Sy_compileProduct_at_k10_2_0 (x11 : Int) (x13 : Int) (k11 : 4 ≤ x11 ∧ x11 ≤ 4) (k13 : 0 ≤ x13 ∧ x13 ≤ 0) : (0 ≤ x11) ∧ ((0 ≤ x13) ∧ (((x11 * 65536) + x13) ≤ 851970)) := by
  first
    | omega
  
def o_Sy_compileProduct_at_k10_2 : or_T := (69, 14, [(11, (0, 4, 4, [])), (13, (0, 0, 0, []))], [], [], [], [(20, [11, 13], [50, 0, 0, 2, 6, 0, 2, 0, 0, 1, 0, 2, 6, 0, 2, 0, 0, 1, 1, 0, 10, 4, 6, 6, 2, 1, 0, 0, 65536, 1, 1, 0, 851970])], [], [])
theorem oo_Sy_compileProduct_at_k10_2 {kA : Nat → ClassId} : or_ok PRD kA GG o_Sy_compileProduct_at_k10_2 := by
  refine or_mk fun A ta ws vs hD hth hl => ?_
  intro t11 k11 t13 k13
  have nf0 : fc_1 PRD (20, [11, 13], [50, 0, 0, 2, 6, 0, 2, 0, 0, 1, 0, 2, 6, 0, 2, 0, 0, 1, 1, 0, 10, 4, 6, 6, 2, 1, 0, 0, 65536, 1, 1, 0, 851970]) ws (vs) := ⟨nf_in hl rfl, sgq_487 (vc_Sy_compileProduct_at_k10_2_0 (v_iv (n_v vs 11)) (v_iv (n_v vs 13)) k11 k13)⟩
  refine ⟨(fun _ h => (by cases h)), [], trivial, ?_, (fun _ h => (by cases h))⟩
  rw [List.append_nil]
  exact List.forall_mem_cons.mpr ⟨⟨show (20 : Nat) < 100 from by decide, nf0⟩, (fun _ h => (by cases h))⟩
set_option maxHeartbeats 4000000 in
theorem vc_Sy_compileProduct_at_k10_3_0 (kind_0 : Int) (number_0 : Int) (f1 : (kind_0 ≠ 3) ∨ (number_0 ≤ 9999)) (kz_0_6 : 0 ≤ kind_0 ∧ kind_0 ≤ 127) (kz_0_8 : 0 ≤ number_0 ∧ number_0 ≤ 1000000) : (kind_0 ≠ 3) ∨ (number_0 ≤ 9999) := by
  first
    | omega
  
def o_Sy_compileProduct_at_k10_3 : or_T := (65, 14, [(0, (2, 0, 0, [11]))], [(24, [0, 3], []), (20, [3], [50, 2, 0, 6, 8, 3, 7, 7, 3, 2, 0, 6, 0, 3, 0, 3, 2, 0, 8, 0, 9999])], [], [], [(20, [0], [50, 2, 0, 6, 8, 3, 7, 7, 3, 2, 0, 6, 0, 3, 0, 3, 2, 0, 8, 0, 9999])], [], [])
theorem oo_Sy_compileProduct_at_k10_3 {kA : Nat → ClassId} : or_ok PRD kA GG o_Sy_compileProduct_at_k10_3 := by
  refine or_mk fun A ta ws vs hD hth hl => ?_
  intro t0 r0 f0 f1
  replace f0 := shm_5 f0
  replace f1 := shm_1747 f1
  have q3 : n_v vs 3 = n_v vs 0 := f0.symm
  simp only [q3] at f1
  have kz_0_6 := fdq_304 hD hth r0
  have kz_0_8 := fdq_305 hD hth r0
  have nf0 : fc_1 PRD (20, [0], [50, 2, 0, 6, 8, 3, 7, 7, 3, 2, 0, 6, 0, 3, 0, 3, 2, 0, 8, 0, 9999]) ws (vs) := ⟨nf_in hl rfl, sgq_1747 (vc_Sy_compileProduct_at_k10_3_0 (w_fi ws (n_v vs 0) 6) (w_fi ws (n_v vs 0) 8) f1 kz_0_6 kz_0_8)⟩
  refine ⟨(fun _ h => (by cases h)), [], trivial, ?_, (fun _ h => (by cases h))⟩
  rw [List.append_nil]
  exact List.forall_mem_cons.mpr ⟨⟨show (20 : Nat) < 100 from by decide, nf0⟩, (fun _ h => (by cases h))⟩
set_option maxHeartbeats 4000000 in
theorem vc_Sy_compileProduct_at_k10_4_0 (kind_0 : Int) (number_0 : Int) (f3 : (kind_0 ≠ 3) ∨ (number_0 ≤ 9999)) (kz_0_6 : 0 ≤ kind_0 ∧ kind_0 ≤ 127) (kz_0_8 : 0 ≤ number_0 ∧ number_0 ≤ 1000000) : (kind_0 ≠ 3) ∨ (number_0 ≤ 9999) := by
  first
    | omega
  
def o_Sy_compileProduct_at_k10_4 : or_T := (79, 12, [(0, (2, 0, 0, [11]))], [(20, [3], [50, 2, 0, 6, 8, 3, 7, 7, 3, 2, 0, 6, 0, 3, 0, 3, 2, 0, 8, 0, 9999]), (24, [0, 3], [])], [], [], [(20, [0], [50, 2, 0, 6, 8, 3, 7, 7, 3, 2, 0, 6, 0, 3, 0, 3, 2, 0, 8, 0, 9999])], [], [])
theorem oo_Sy_compileProduct_at_k10_4 {kA : Nat → ClassId} : or_ok PRD kA GG o_Sy_compileProduct_at_k10_4 := by
  refine or_mk fun A ta ws vs hD hth hl => ?_
  intro t0 r0 f3 f4
  replace f3 := shm_1747 f3
  replace f4 := shm_5 f4
  have q3 : n_v vs 3 = n_v vs 0 := f4.symm
  simp only [q3] at f3
  have kz_0_6 := fdq_304 hD hth r0
  have kz_0_8 := fdq_305 hD hth r0
  have nf0 : fc_1 PRD (20, [0], [50, 2, 0, 6, 8, 3, 7, 7, 3, 2, 0, 6, 0, 3, 0, 3, 2, 0, 8, 0, 9999]) ws (vs) := ⟨nf_in hl rfl, sgq_1747 (vc_Sy_compileProduct_at_k10_4_0 (w_fi ws (n_v vs 0) 6) (w_fi ws (n_v vs 0) 8) f3 kz_0_6 kz_0_8)⟩
  refine ⟨(fun _ h => (by cases h)), [], trivial, ?_, (fun _ h => (by cases h))⟩
  rw [List.append_nil]
  exact List.forall_mem_cons.mpr ⟨⟨show (20 : Nat) < 100 from by decide, nf0⟩, (fun _ h => (by cases h))⟩
set_option maxHeartbeats 4000000 in
theorem vc_Sy_compileProduct_at_k10_5_0 (x12 : Int) (x14 : Int) (k12 : 5 ≤ x12 ∧ x12 ≤ 5) (k14 : 0 ≤ x14 ∧ x14 ≤ 0) : (0 ≤ x12) ∧ ((0 ≤ x14) ∧ (((x12 * 65536) + x14) ≤ 851970)) := by
  first
    | omega
  
def o_Sy_compileProduct_at_k10_5 : or_T := (69, 15, [(12, (0, 5, 5, [])), (14, (0, 0, 0, []))], [], [], [], [(20, [12, 14], [50, 0, 0, 2, 6, 0, 2, 0, 0, 1, 0, 2, 6, 0, 2, 0, 0, 1, 1, 0, 10, 4, 6, 6, 2, 1, 0, 0, 65536, 1, 1, 0, 851970])], [], [])
theorem oo_Sy_compileProduct_at_k10_5 {kA : Nat → ClassId} : or_ok PRD kA GG o_Sy_compileProduct_at_k10_5 := by
  refine or_mk fun A ta ws vs hD hth hl => ?_
  intro t12 k12 t14 k14
  have nf0 : fc_1 PRD (20, [12, 14], [50, 0, 0, 2, 6, 0, 2, 0, 0, 1, 0, 2, 6, 0, 2, 0, 0, 1, 1, 0, 10, 4, 6, 6, 2, 1, 0, 0, 65536, 1, 1, 0, 851970]) ws (vs) := ⟨nf_in hl rfl, sgq_487 (vc_Sy_compileProduct_at_k10_5_0 (v_iv (n_v vs 12)) (v_iv (n_v vs 14)) k12 k14)⟩
  refine ⟨(fun _ h => (by cases h)), [], trivial, ?_, (fun _ h => (by cases h))⟩
  rw [List.append_nil]
  exact List.forall_mem_cons.mpr ⟨⟨show (20 : Nat) < 100 from by decide, nf0⟩, (fun _ h => (by cases h))⟩
set_option maxHeartbeats 4000000 in
theorem vc_Sy_compileProduct_at_k10_6_0 (kind_0 : Int) (number_0 : Int) (f1 : (kind_0 ≠ 3) ∨ (number_0 ≤ 9999)) (kz_0_6 : 0 ≤ kind_0 ∧ kind_0 ≤ 127) (kz_0_8 : 0 ≤ number_0 ∧ number_0 ≤ 1000000) : (kind_0 ≠ 3) ∨ (number_0 ≤ 9999) := by
  first
    | omega
  
def o_Sy_compileProduct_at_k10_6 : or_T := (65, 15, [(0, (2, 0, 0, [11]))], [(24, [0, 3], []), (20, [3], [50, 2, 0, 6, 8, 3, 7, 7, 3, 2, 0, 6, 0, 3, 0, 3, 2, 0, 8, 0, 9999])], [], [], [(20, [0], [50, 2, 0, 6, 8, 3, 7, 7, 3, 2, 0, 6, 0, 3, 0, 3, 2, 0, 8, 0, 9999])], [], [])
theorem oo_Sy_compileProduct_at_k10_6 {kA : Nat → ClassId} : or_ok PRD kA GG o_Sy_compileProduct_at_k10_6 := by
  refine or_mk fun A ta ws vs hD hth hl => ?_
  intro t0 r0 f0 f1
  replace f0 := shm_5 f0
  replace f1 := shm_1747 f1
  have q3 : n_v vs 3 = n_v vs 0 := f0.symm
  simp only [q3] at f1
  have kz_0_6 := fdq_304 hD hth r0
  have kz_0_8 := fdq_305 hD hth r0
  have nf0 : fc_1 PRD (20, [0], [50, 2, 0, 6, 8, 3, 7, 7, 3, 2, 0, 6, 0, 3, 0, 3, 2, 0, 8, 0, 9999]) ws (vs) := ⟨nf_in hl rfl, sgq_1747 (vc_Sy_compileProduct_at_k10_6_0 (w_fi ws (n_v vs 0) 6) (w_fi ws (n_v vs 0) 8) f1 kz_0_6 kz_0_8)⟩
  refine ⟨(fun _ h => (by cases h)), [], trivial, ?_, (fun _ h => (by cases h))⟩
  rw [List.append_nil]
  exact List.forall_mem_cons.mpr ⟨⟨show (20 : Nat) < 100 from by decide, nf0⟩, (fun _ h => (by cases h))⟩
def n_Sy_compileProduct_at_k10_an : List an_T := [(12, [(0, (2, 0, 0, [11])), (1, (0, 10, 10, [])), (2, (0, 0, 2000, []))], [], (0, 0), [(0, 0, 99988), (1, 5, 2000), (0, 0, 100000)], [], [((0, 3), (2, 0, 0, [109]))], [(2, 0, 0, [11]), (0, 10, 10, []), (2, 0, 0, [109])], 0, [], [(20, [3], [50, 2, 0, 6, 8, 3, 7, 7, 3, 2, 0, 6, 0, 3, 0, 3, 2, 0, 8, 0, 9999]), (24, [0, 3], [])])]
def t_Sy_compileProduct_at_k10_ct : ct_L := [(1, 69, e_Sy_advance), (1, 128, e_Sy_emit), (10, 158, e_Sy_compileValue_at_k10), (178, 158, e_Sy_compileValue_at_k10)]
set_option maxRecDepth 100000 in
theorem c_Sy_compileProduct_at_k10 {l : Launch} {D : va_G} {kA : Nat → ClassId} (h_Sy_advance : ct_ok PRD l D kA GG y_Sy_advance z_Sy_advance e_Sy_advance) (h_Sy_compileValue_at_k10 : ct_ok PRD l D kA GG y_Sy_compileValue_at_k10 z_Sy_compileValue_at_k10 e_Sy_compileValue_at_k10) (h_Sy_emit : ct_ok PRD l D kA GG y_Sy_emit z_Sy_emit e_Sy_emit) : ct_ok PRD l D kA GG y_Sy_compileProduct_at_k10 z_Sy_compileProduct_at_k10 e_Sy_compileProduct_at_k10 := chk_all_ok (FT := [(31, 11, 6)]) (PT := []) (CT := t_Sy_compileProduct_at_k10_ct) (KT := []) (NT := []) (AN := n_Sy_compileProduct_at_k10_an) (OT := [o_Sy_compileProduct_at_k10_0, o_Sy_compileProduct_at_k10_1, o_Sy_compileProduct_at_k10_2, o_Sy_compileProduct_at_k10_3, o_Sy_compileProduct_at_k10_4, o_Sy_compileProduct_at_k10_5, o_Sy_compileProduct_at_k10_6]) 3 268 (List.forall_mem_cons.mpr ⟨oo_Sy_compileProduct_at_k10_0, List.forall_mem_cons.mpr ⟨oo_Sy_compileProduct_at_k10_1, List.forall_mem_cons.mpr ⟨oo_Sy_compileProduct_at_k10_2, List.forall_mem_cons.mpr ⟨oo_Sy_compileProduct_at_k10_3, List.forall_mem_cons.mpr ⟨oo_Sy_compileProduct_at_k10_4, List.forall_mem_cons.mpr ⟨oo_Sy_compileProduct_at_k10_5, List.forall_mem_cons.mpr ⟨oo_Sy_compileProduct_at_k10_6, List.forall_mem_nil _⟩⟩⟩⟩⟩⟩⟩) (by decide +kernel) ⟨List.forall_mem_cons.mpr ⟨gf_Sy_31, List.forall_mem_nil _⟩, List.forall_mem_nil _, List.forall_mem_cons.mpr ⟨cl_virtual (y := y_Sy_advance) (ci := 11) rfl rfl ⟨_, _, rfl⟩ (by decide +kernel) h_Sy_advance wm_2158 wm_23 wm_2155 wm_2157 wv_10_10 ⟨by decide, by decide, by decide +kernel⟩ (by decide), List.forall_mem_cons.mpr ⟨cl_virtual (y := y_Sy_emit) (ci := 11) rfl rfl ⟨_, _, rfl⟩ (by decide +kernel) h_Sy_emit wm_2258 wm_23 wm_2255 wm_2257 wv_11_2 ⟨by decide, by decide, by decide +kernel⟩ (by decide), List.forall_mem_cons.mpr ⟨cl_virtual (y := y_Sy_compileValue_at_k10) (ci := 11) rfl rfl ⟨_, _, rfl⟩ (by decide +kernel) h_Sy_compileValue_at_k10 wm_2274 wm_23 wm_2271 wm_2273 wv_11_6 ⟨by decide, by decide, by decide +kernel⟩ (by decide), List.forall_mem_cons.mpr ⟨cl_virtual (y := y_Sy_compileValue_at_k10) (ci := 11) rfl rfl ⟨_, _, rfl⟩ (by decide +kernel) h_Sy_compileValue_at_k10 wm_2274 wm_23 wm_2271 wm_2273 wv_11_6 ⟨by decide, by decide, by decide +kernel⟩ (by decide), List.forall_mem_nil _⟩⟩⟩⟩, List.forall_mem_nil _, List.forall_mem_nil _, GG_pl⟩ (by decide +kernel)
def o_Sy_compileProduct_at_k11_0 : or_T := (12, 5, [], [], [], [], [(24, [0, 0], [])], [], [])
theorem oo_Sy_compileProduct_at_k11_0 {kA : Nat → ClassId} : or_ok PRD kA GG o_Sy_compileProduct_at_k11_0 := by
  refine or_mk fun A ta ws vs hD hth hl => ?_
  have nf0 : fc_1 PRD (24, [0, 0], []) ws (vs) := by
    refine ⟨nf_in hl rfl, sgq_1 ?_⟩
    · show n_v vs 0 = n_v vs 0
      first | rfl | simp only [true_and]
  refine ⟨(fun _ h => (by cases h)), [], trivial, ?_, (fun _ h => (by cases h))⟩
  rw [List.append_nil]
  exact List.forall_mem_cons.mpr ⟨⟨show (24 : Nat) < 100 from by decide, nf0⟩, (fun _ h => (by cases h))⟩
set_option maxHeartbeats 4000000 in
theorem vc_Sy_compileProduct_at_k11_1_0 (kind_0 : Int) (number_0 : Int) (f0 : (kind_0 ≠ 3) ∨ (number_0 ≤ 9999)) (kz_0_6 : 0 ≤ kind_0 ∧ kind_0 ≤ 127) (kz_0_8 : 0 ≤ number_0 ∧ number_0 ≤ 1000000) : (kind_0 ≠ 3) ∨ (number_0 ≤ 9999) := by
  first
    | omega
  
def o_Sy_compileProduct_at_k11_1 : or_T := (79, 9, [(0, (2, 0, 0, [11]))], [(20, [3], [50, 2, 0, 6, 8, 3, 7, 7, 3, 2, 0, 6, 0, 3, 0, 3, 2, 0, 8, 0, 9999]), (24, [0, 3], [])], [], [], [(20, [0], [50, 2, 0, 6, 8, 3, 7, 7, 3, 2, 0, 6, 0, 3, 0, 3, 2, 0, 8, 0, 9999])], [], [])
theorem oo_Sy_compileProduct_at_k11_1 {kA : Nat → ClassId} : or_ok PRD kA GG o_Sy_compileProduct_at_k11_1 := by
  refine or_mk fun A ta ws vs hD hth hl => ?_
  intro t0 r0 f0 f1
  replace f0 := shm_1747 f0
  replace f1 := shm_5 f1
  have q3 : n_v vs 3 = n_v vs 0 := f1.symm
  simp only [q3] at f0
  have kz_0_6 := fdq_304 hD hth r0
  have kz_0_8 := fdq_305 hD hth r0
  have nf0 : fc_1 PRD (20, [0], [50, 2, 0, 6, 8, 3, 7, 7, 3, 2, 0, 6, 0, 3, 0, 3, 2, 0, 8, 0, 9999]) ws (vs) := ⟨nf_in hl rfl, sgq_1747 (vc_Sy_compileProduct_at_k11_1_0 (w_fi ws (n_v vs 0) 6) (w_fi ws (n_v vs 0) 8) f0 kz_0_6 kz_0_8)⟩
  refine ⟨(fun _ h => (by cases h)), [], trivial, ?_, (fun _ h => (by cases h))⟩
  rw [List.append_nil]
  exact List.forall_mem_cons.mpr ⟨⟨show (20 : Nat) < 100 from by decide, nf0⟩, (fun _ h => (by cases h))⟩
set_option maxHeartbeats 4000000 in
theorem vc_Sy_compileProduct_at_k11_2_0 (x11 : Int) (x13 : Int) (k11 : 4 ≤ x11 ∧ x11 ≤ 4) (k13 : 0 ≤ x13 ∧ x13 ≤ 0) : (0 ≤ x11) ∧ ((0 ≤ x13) ∧ (((x11 * 65536) + x13) ≤ 851970)) := by
  first
    | omega
  
def o_Sy_compileProduct_at_k11_2 : or_T := (69, 14, [(11, (0, 4, 4, [])), (13, (0, 0, 0, []))], [], [], [], [(20, [11, 13], [50, 0, 0, 2, 6, 0, 2, 0, 0, 1, 0, 2, 6, 0, 2, 0, 0, 1, 1, 0, 10, 4, 6, 6, 2, 1, 0, 0, 65536, 1, 1, 0, 851970])], [], [])
theorem oo_Sy_compileProduct_at_k11_2 {kA : Nat → ClassId} : or_ok PRD kA GG o_Sy_compileProduct_at_k11_2 := by
  refine or_mk fun A ta ws vs hD hth hl => ?_
  intro t11 k11 t13 k13
  have nf0 : fc_1 PRD (20, [11, 13], [50, 0, 0, 2, 6, 0, 2, 0, 0, 1, 0, 2, 6, 0, 2, 0, 0, 1, 1, 0, 10, 4, 6, 6, 2, 1, 0, 0, 65536, 1, 1, 0, 851970]) ws (vs) := ⟨nf_in hl rfl, sgq_487 (vc_Sy_compileProduct_at_k11_2_0 (v_iv (n_v vs 11)) (v_iv (n_v vs 13)) k11 k13)⟩
  refine ⟨(fun _ h => (by cases h)), [], trivial, ?_, (fun _ h => (by cases h))⟩
  rw [List.append_nil]
  exact List.forall_mem_cons.mpr ⟨⟨show (20 : Nat) < 100 from by decide, nf0⟩, (fun _ h => (by cases h))⟩
set_option maxHeartbeats 4000000 in
theorem vc_Sy_compileProduct_at_k11_3_0 (kind_0 : Int) (number_0 : Int) (f1 : (kind_0 ≠ 3) ∨ (number_0 ≤ 9999)) (kz_0_6 : 0 ≤ kind_0 ∧ kind_0 ≤ 127) (kz_0_8 : 0 ≤ number_0 ∧ number_0 ≤ 1000000) : (kind_0 ≠ 3) ∨ (number_0 ≤ 9999) := by
  first
    | omega
  
def o_Sy_compileProduct_at_k11_3 : or_T := (65, 14, [(0, (2, 0, 0, [11]))], [(24, [0, 3], []), (20, [3], [50, 2, 0, 6, 8, 3, 7, 7, 3, 2, 0, 6, 0, 3, 0, 3, 2, 0, 8, 0, 9999])], [], [], [(20, [0], [50, 2, 0, 6, 8, 3, 7, 7, 3, 2, 0, 6, 0, 3, 0, 3, 2, 0, 8, 0, 9999])], [], [])
theorem oo_Sy_compileProduct_at_k11_3 {kA : Nat → ClassId} : or_ok PRD kA GG o_Sy_compileProduct_at_k11_3 := by
  refine or_mk fun A ta ws vs hD hth hl => ?_
  intro t0 r0 f0 f1
  replace f0 := shm_5 f0
  replace f1 := shm_1747 f1
  have q3 : n_v vs 3 = n_v vs 0 := f0.symm
  simp only [q3] at f1
  have kz_0_6 := fdq_304 hD hth r0
  have kz_0_8 := fdq_305 hD hth r0
  have nf0 : fc_1 PRD (20, [0], [50, 2, 0, 6, 8, 3, 7, 7, 3, 2, 0, 6, 0, 3, 0, 3, 2, 0, 8, 0, 9999]) ws (vs) := ⟨nf_in hl rfl, sgq_1747 (vc_Sy_compileProduct_at_k11_3_0 (w_fi ws (n_v vs 0) 6) (w_fi ws (n_v vs 0) 8) f1 kz_0_6 kz_0_8)⟩
  refine ⟨(fun _ h => (by cases h)), [], trivial, ?_, (fun _ h => (by cases h))⟩
  rw [List.append_nil]
  exact List.forall_mem_cons.mpr ⟨⟨show (20 : Nat) < 100 from by decide, nf0⟩, (fun _ h => (by cases h))⟩
set_option maxHeartbeats 4000000 in
theorem vc_Sy_compileProduct_at_k11_4_0 (kind_0 : Int) (number_0 : Int) (f3 : (kind_0 ≠ 3) ∨ (number_0 ≤ 9999)) (kz_0_6 : 0 ≤ kind_0 ∧ kind_0 ≤ 127) (kz_0_8 : 0 ≤ number_0 ∧ number_0 ≤ 1000000) : (kind_0 ≠ 3) ∨ (number_0 ≤ 9999) := by
  first
    | omega
  
def o_Sy_compileProduct_at_k11_4 : or_T := (79, 12, [(0, (2, 0, 0, [11]))], [(20, [3], [50, 2, 0, 6, 8, 3, 7, 7, 3, 2, 0, 6, 0, 3, 0, 3, 2, 0, 8, 0, 9999]), (24, [0, 3], [])], [], [], [(20, [0], [50, 2, 0, 6, 8, 3, 7, 7, 3, 2, 0, 6, 0, 3, 0, 3, 2, 0, 8, 0, 9999])], [], [])
theorem oo_Sy_compileProduct_at_k11_4 {kA : Nat → ClassId} : or_ok PRD kA GG o_Sy_compileProduct_at_k11_4 := by
  refine or_mk fun A ta ws vs hD hth hl => ?_
  intro t0 r0 f3 f4
  replace f3 := shm_1747 f3
  replace f4 := shm_5 f4
  have q3 : n_v vs 3 = n_v vs 0 := f4.symm
  simp only [q3] at f3
  have kz_0_6 := fdq_304 hD hth r0
  have kz_0_8 := fdq_305 hD hth r0
  have nf0 : fc_1 PRD (20, [0], [50, 2, 0, 6, 8, 3, 7, 7, 3, 2, 0, 6, 0, 3, 0, 3, 2, 0, 8, 0, 9999]) ws (vs) := ⟨nf_in hl rfl, sgq_1747 (vc_Sy_compileProduct_at_k11_4_0 (w_fi ws (n_v vs 0) 6) (w_fi ws (n_v vs 0) 8) f3 kz_0_6 kz_0_8)⟩
  refine ⟨(fun _ h => (by cases h)), [], trivial, ?_, (fun _ h => (by cases h))⟩
  rw [List.append_nil]
  exact List.forall_mem_cons.mpr ⟨⟨show (20 : Nat) < 100 from by decide, nf0⟩, (fun _ h => (by cases h))⟩
set_option maxHeartbeats 4000000 in
theorem vc_Sy_compileProduct_at_k11_5_0 (x12 : Int) (x14 : Int) (k12 : 5 ≤ x12 ∧ x12 ≤ 5) (k14 : 0 ≤ x14 ∧ x14 ≤ 0) : (0 ≤ x12) ∧ ((0 ≤ x14) ∧ (((x12 * 65536) + x14) ≤ 851970)) := by
  first
    | omega
  
def o_Sy_compileProduct_at_k11_5 : or_T := (69, 15, [(12, (0, 5, 5, [])), (14, (0, 0, 0, []))], [], [], [], [(20, [12, 14], [50, 0, 0, 2, 6, 0, 2, 0, 0, 1, 0, 2, 6, 0, 2, 0, 0, 1, 1, 0, 10, 4, 6, 6, 2, 1, 0, 0, 65536, 1, 1, 0, 851970])], [], [])
theorem oo_Sy_compileProduct_at_k11_5 {kA : Nat → ClassId} : or_ok PRD kA GG o_Sy_compileProduct_at_k11_5 := by
  refine or_mk fun A ta ws vs hD hth hl => ?_
  intro t12 k12 t14 k14
  have nf0 : fc_1 PRD (20, [12, 14], [50, 0, 0, 2, 6, 0, 2, 0, 0, 1, 0, 2, 6, 0, 2, 0, 0, 1, 1, 0, 10, 4, 6, 6, 2, 1, 0, 0, 65536, 1, 1, 0, 851970]) ws (vs) := ⟨nf_in hl rfl, sgq_487 (vc_Sy_compileProduct_at_k11_5_0 (v_iv (n_v vs 12)) (v_iv (n_v vs 14)) k12 k14)⟩
  refine ⟨(fun _ h => (by cases h)), [], trivial, ?_, (fun _ h => (by cases h))⟩
  rw [List.append_nil]
  exact List.forall_mem_cons.mpr ⟨⟨show (20 : Nat) < 100 from by decide, nf0⟩, (fun _ h => (by cases h))⟩
set_option maxHeartbeats 4000000 in
theorem vc_Sy_compileProduct_at_k11_6_0 (kind_0 : Int) (number_0 : Int) (f1 : (kind_0 ≠ 3) ∨ (number_0 ≤ 9999)) (kz_0_6 : 0 ≤ kind_0 ∧ kind_0 ≤ 127) (kz_0_8 : 0 ≤ number_0 ∧ number_0 ≤ 1000000) : (kind_0 ≠ 3) ∨ (number_0 ≤ 9999) := by
  first
    | omega
  
def o_Sy_compileProduct_at_k11_6 : or_T := (65, 15, [(0, (2, 0, 0, [11]))], [(24, [0, 3], []), (20, [3], [50, 2, 0, 6, 8, 3, 7, 7, 3, 2, 0, 6, 0, 3, 0, 3, 2, 0, 8, 0, 9999])], [], [], [(20, [0], [50, 2, 0, 6, 8, 3, 7, 7, 3, 2, 0, 6, 0, 3, 0, 3, 2, 0, 8, 0, 9999])], [], [])
theorem oo_Sy_compileProduct_at_k11_6 {kA : Nat → ClassId} : or_ok PRD kA GG o_Sy_compileProduct_at_k11_6 := by
  refine or_mk fun A ta ws vs hD hth hl => ?_
  intro t0 r0 f0 f1
  replace f0 := shm_5 f0
  replace f1 := shm_1747 f1
  have q3 : n_v vs 3 = n_v vs 0 := f0.symm
  simp only [q3] at f1
  have kz_0_6 := fdq_304 hD hth r0
  have kz_0_8 := fdq_305 hD hth r0
  have nf0 : fc_1 PRD (20, [0], [50, 2, 0, 6, 8, 3, 7, 7, 3, 2, 0, 6, 0, 3, 0, 3, 2, 0, 8, 0, 9999]) ws (vs) := ⟨nf_in hl rfl, sgq_1747 (vc_Sy_compileProduct_at_k11_6_0 (w_fi ws (n_v vs 0) 6) (w_fi ws (n_v vs 0) 8) f1 kz_0_6 kz_0_8)⟩
  refine ⟨(fun _ h => (by cases h)), [], trivial, ?_, (fun _ h => (by cases h))⟩
  rw [List.append_nil]
  exact List.forall_mem_cons.mpr ⟨⟨show (20 : Nat) < 100 from by decide, nf0⟩, (fun _ h => (by cases h))⟩
def n_Sy_compileProduct_at_k11_an : List an_T := [(12, [(0, (2, 0, 0, [11])), (1, (0, 11, 11, [])), (2, (0, 0, 2000, []))], [], (0, 0), [(0, 0, 99988), (1, 5, 2000), (0, 0, 100000)], [], [((0, 3), (2, 0, 0, [109]))], [(2, 0, 0, [11]), (0, 11, 11, []), (2, 0, 0, [109])], 0, [], [(20, [3], [50, 2, 0, 6, 8, 3, 7, 7, 3, 2, 0, 6, 0, 3, 0, 3, 2, 0, 8, 0, 9999]), (24, [0, 3], [])])]
def t_Sy_compileProduct_at_k11_ct : ct_L := [(1, 69, e_Sy_advance), (1, 128, e_Sy_emit), (10, 158, e_Sy_compileValue_at_k11), (178, 158, e_Sy_compileValue_at_k11)]
set_option maxRecDepth 100000 in
theorem c_Sy_compileProduct_at_k11 {l : Launch} {D : va_G} {kA : Nat → ClassId} (h_Sy_advance : ct_ok PRD l D kA GG y_Sy_advance z_Sy_advance e_Sy_advance) (h_Sy_compileValue_at_k11 : ct_ok PRD l D kA GG y_Sy_compileValue_at_k11 z_Sy_compileValue_at_k11 e_Sy_compileValue_at_k11) (h_Sy_emit : ct_ok PRD l D kA GG y_Sy_emit z_Sy_emit e_Sy_emit) : ct_ok PRD l D kA GG y_Sy_compileProduct_at_k11 z_Sy_compileProduct_at_k11 e_Sy_compileProduct_at_k11 := chk_all_ok (FT := [(31, 11, 6)]) (PT := []) (CT := t_Sy_compileProduct_at_k11_ct) (KT := []) (NT := []) (AN := n_Sy_compileProduct_at_k11_an) (OT := [o_Sy_compileProduct_at_k11_0, o_Sy_compileProduct_at_k11_1, o_Sy_compileProduct_at_k11_2, o_Sy_compileProduct_at_k11_3, o_Sy_compileProduct_at_k11_4, o_Sy_compileProduct_at_k11_5, o_Sy_compileProduct_at_k11_6]) 3 268 (List.forall_mem_cons.mpr ⟨oo_Sy_compileProduct_at_k11_0, List.forall_mem_cons.mpr ⟨oo_Sy_compileProduct_at_k11_1, List.forall_mem_cons.mpr ⟨oo_Sy_compileProduct_at_k11_2, List.forall_mem_cons.mpr ⟨oo_Sy_compileProduct_at_k11_3, List.forall_mem_cons.mpr ⟨oo_Sy_compileProduct_at_k11_4, List.forall_mem_cons.mpr ⟨oo_Sy_compileProduct_at_k11_5, List.forall_mem_cons.mpr ⟨oo_Sy_compileProduct_at_k11_6, List.forall_mem_nil _⟩⟩⟩⟩⟩⟩⟩) (by decide +kernel) ⟨List.forall_mem_cons.mpr ⟨gf_Sy_31, List.forall_mem_nil _⟩, List.forall_mem_nil _, List.forall_mem_cons.mpr ⟨cl_virtual (y := y_Sy_advance) (ci := 11) rfl rfl ⟨_, _, rfl⟩ (by decide +kernel) h_Sy_advance wm_2158 wm_23 wm_2155 wm_2157 wv_10_10 ⟨by decide, by decide, by decide +kernel⟩ (by decide), List.forall_mem_cons.mpr ⟨cl_virtual (y := y_Sy_emit) (ci := 11) rfl rfl ⟨_, _, rfl⟩ (by decide +kernel) h_Sy_emit wm_2258 wm_23 wm_2255 wm_2257 wv_11_2 ⟨by decide, by decide, by decide +kernel⟩ (by decide), List.forall_mem_cons.mpr ⟨cl_virtual (y := y_Sy_compileValue_at_k11) (ci := 11) rfl rfl ⟨_, _, rfl⟩ (by decide +kernel) h_Sy_compileValue_at_k11 wm_2274 wm_23 wm_2271 wm_2273 wv_11_6 ⟨by decide, by decide, by decide +kernel⟩ (by decide), List.forall_mem_cons.mpr ⟨cl_virtual (y := y_Sy_compileValue_at_k11) (ci := 11) rfl rfl ⟨_, _, rfl⟩ (by decide +kernel) h_Sy_compileValue_at_k11 wm_2274 wm_23 wm_2271 wm_2273 wv_11_6 ⟨by decide, by decide, by decide +kernel⟩ (by decide), List.forall_mem_nil _⟩⟩⟩⟩, List.forall_mem_nil _, List.forall_mem_nil _, GG_pl⟩ (by decide +kernel)
def o_Sy_compileProduct_at_k12_0 : or_T := (12, 5, [], [], [], [], [(24, [0, 0], [])], [], [])
theorem oo_Sy_compileProduct_at_k12_0 {kA : Nat → ClassId} : or_ok PRD kA GG o_Sy_compileProduct_at_k12_0 := by
  refine or_mk fun A ta ws vs hD hth hl => ?_
  have nf0 : fc_1 PRD (24, [0, 0], []) ws (vs) := by
    refine ⟨nf_in hl rfl, sgq_1 ?_⟩
    · show n_v vs 0 = n_v vs 0
      first | rfl | simp only [true_and]
  refine ⟨(fun _ h => (by cases h)), [], trivial, ?_, (fun _ h => (by cases h))⟩
  rw [List.append_nil]
  exact List.forall_mem_cons.mpr ⟨⟨show (24 : Nat) < 100 from by decide, nf0⟩, (fun _ h => (by cases h))⟩
set_option maxHeartbeats 4000000 in
theorem vc_Sy_compileProduct_at_k12_1_0 (kind_0 : Int) (number_0 : Int) (f0 : (kind_0 ≠ 3) ∨ (number_0 ≤ 9999)) (kz_0_6 : 0 ≤ kind_0 ∧ kind_0 ≤ 127) (kz_0_8 : 0 ≤ number_0 ∧ number_0 ≤ 1000000) : (kind_0 ≠ 3) ∨ (number_0 ≤ 9999) := by
  first
    | omega
  
def o_Sy_compileProduct_at_k12_1 : or_T := (79, 9, [(0, (2, 0, 0, [11]))], [(20, [3], [50, 2, 0, 6, 8, 3, 7, 7, 3, 2, 0, 6, 0, 3, 0, 3, 2, 0, 8, 0, 9999]), (24, [0, 3], [])], [], [], [(20, [0], [50, 2, 0, 6, 8, 3, 7, 7, 3, 2, 0, 6, 0, 3, 0, 3, 2, 0, 8, 0, 9999])], [], [])
theorem oo_Sy_compileProduct_at_k12_1 {kA : Nat → ClassId} : or_ok PRD kA GG o_Sy_compileProduct_at_k12_1 := by
  refine or_mk fun A ta ws vs hD hth hl => ?_
  intro t0 r0 f0 f1
  replace f0 := shm_1747 f0
  replace f1 := shm_5 f1
  have q3 : n_v vs 3 = n_v vs 0 := f1.symm
  simp only [q3] at f0
  have kz_0_6 := fdq_304 hD hth r0
  have kz_0_8 := fdq_305 hD hth r0
  have nf0 : fc_1 PRD (20, [0], [50, 2, 0, 6, 8, 3, 7, 7, 3, 2, 0, 6, 0, 3, 0, 3, 2, 0, 8, 0, 9999]) ws (vs) := ⟨nf_in hl rfl, sgq_1747 (vc_Sy_compileProduct_at_k12_1_0 (w_fi ws (n_v vs 0) 6) (w_fi ws (n_v vs 0) 8) f0 kz_0_6 kz_0_8)⟩
  refine ⟨(fun _ h => (by cases h)), [], trivial, ?_, (fun _ h => (by cases h))⟩
  rw [List.append_nil]
  exact List.forall_mem_cons.mpr ⟨⟨show (20 : Nat) < 100 from by decide, nf0⟩, (fun _ h => (by cases h))⟩
set_option maxHeartbeats 4000000 in
theorem vc_Sy_compileProduct_at_k12_2_0 (x11 : Int) (x13 : Int) (k11 : 4 ≤ x11 ∧ x11 ≤ 4) (k13 : 0 ≤ x13 ∧ x13 ≤ 0) : (0 ≤ x11) ∧ ((0 ≤ x13) ∧ (((x11 * 65536) + x13) ≤ 851970)) := by
  first
    | omega
  
def o_Sy_compileProduct_at_k12_2 : or_T := (69, 14, [(11, (0, 4, 4, [])), (13, (0, 0, 0, []))], [], [], [], [(20, [11, 13], [50, 0, 0, 2, 6, 0, 2, 0, 0, 1, 0, 2, 6, 0, 2, 0, 0, 1, 1, 0, 10, 4, 6, 6, 2, 1, 0, 0, 65536, 1, 1, 0, 851970])], [], [])
theorem oo_Sy_compileProduct_at_k12_2 {kA : Nat → ClassId} : or_ok PRD kA GG o_Sy_compileProduct_at_k12_2 := by
  refine or_mk fun A ta ws vs hD hth hl => ?_
  intro t11 k11 t13 k13
  have nf0 : fc_1 PRD (20, [11, 13], [50, 0, 0, 2, 6, 0, 2, 0, 0, 1, 0, 2, 6, 0, 2, 0, 0, 1, 1, 0, 10, 4, 6, 6, 2, 1, 0, 0, 65536, 1, 1, 0, 851970]) ws (vs) := ⟨nf_in hl rfl, sgq_487 (vc_Sy_compileProduct_at_k12_2_0 (v_iv (n_v vs 11)) (v_iv (n_v vs 13)) k11 k13)⟩
  refine ⟨(fun _ h => (by cases h)), [], trivial, ?_, (fun _ h => (by cases h))⟩
  rw [List.append_nil]
  exact List.forall_mem_cons.mpr ⟨⟨show (20 : Nat) < 100 from by decide, nf0⟩, (fun _ h => (by cases h))⟩
set_option maxHeartbeats 4000000 in
theorem vc_Sy_compileProduct_at_k12_3_0 (kind_0 : Int) (number_0 : Int) (f1 : (kind_0 ≠ 3) ∨ (number_0 ≤ 9999)) (kz_0_6 : 0 ≤ kind_0 ∧ kind_0 ≤ 127) (kz_0_8 : 0 ≤ number_0 ∧ number_0 ≤ 1000000) : (kind_0 ≠ 3) ∨ (number_0 ≤ 9999) := by
  first
    | omega
  
def o_Sy_compileProduct_at_k12_3 : or_T := (65, 14, [(0, (2, 0, 0, [11]))], [(24, [0, 3], []), (20, [3], [50, 2, 0, 6, 8, 3, 7, 7, 3, 2, 0, 6, 0, 3, 0, 3, 2, 0, 8, 0, 9999])], [], [], [(20, [0], [50, 2, 0, 6, 8, 3, 7, 7, 3, 2, 0, 6, 0, 3, 0, 3, 2, 0, 8, 0, 9999])], [], [])
theorem oo_Sy_compileProduct_at_k12_3 {kA : Nat → ClassId} : or_ok PRD kA GG o_Sy_compileProduct_at_k12_3 := by
  refine or_mk fun A ta ws vs hD hth hl => ?_
  intro t0 r0 f0 f1
  replace f0 := shm_5 f0
  replace f1 := shm_1747 f1
  have q3 : n_v vs 3 = n_v vs 0 := f0.symm
  simp only [q3] at f1
  have kz_0_6 := fdq_304 hD hth r0
  have kz_0_8 := fdq_305 hD hth r0
  have nf0 : fc_1 PRD (20, [0], [50, 2, 0, 6, 8, 3, 7, 7, 3, 2, 0, 6, 0, 3, 0, 3, 2, 0, 8, 0, 9999]) ws (vs) := ⟨nf_in hl rfl, sgq_1747 (vc_Sy_compileProduct_at_k12_3_0 (w_fi ws (n_v vs 0) 6) (w_fi ws (n_v vs 0) 8) f1 kz_0_6 kz_0_8)⟩
  refine ⟨(fun _ h => (by cases h)), [], trivial, ?_, (fun _ h => (by cases h))⟩
  rw [List.append_nil]
  exact List.forall_mem_cons.mpr ⟨⟨show (20 : Nat) < 100 from by decide, nf0⟩, (fun _ h => (by cases h))⟩
set_option maxHeartbeats 4000000 in
theorem vc_Sy_compileProduct_at_k12_4_0 (kind_0 : Int) (number_0 : Int) (f3 : (kind_0 ≠ 3) ∨ (number_0 ≤ 9999)) (kz_0_6 : 0 ≤ kind_0 ∧ kind_0 ≤ 127) (kz_0_8 : 0 ≤ number_0 ∧ number_0 ≤ 1000000) : (kind_0 ≠ 3) ∨ (number_0 ≤ 9999) := by
  first
    | omega
  
def o_Sy_compileProduct_at_k12_4 : or_T := (79, 12, [(0, (2, 0, 0, [11]))], [(20, [3], [50, 2, 0, 6, 8, 3, 7, 7, 3, 2, 0, 6, 0, 3, 0, 3, 2, 0, 8, 0, 9999]), (24, [0, 3], [])], [], [], [(20, [0], [50, 2, 0, 6, 8, 3, 7, 7, 3, 2, 0, 6, 0, 3, 0, 3, 2, 0, 8, 0, 9999])], [], [])
theorem oo_Sy_compileProduct_at_k12_4 {kA : Nat → ClassId} : or_ok PRD kA GG o_Sy_compileProduct_at_k12_4 := by
  refine or_mk fun A ta ws vs hD hth hl => ?_
  intro t0 r0 f3 f4
  replace f3 := shm_1747 f3
  replace f4 := shm_5 f4
  have q3 : n_v vs 3 = n_v vs 0 := f4.symm
  simp only [q3] at f3
  have kz_0_6 := fdq_304 hD hth r0
  have kz_0_8 := fdq_305 hD hth r0
  have nf0 : fc_1 PRD (20, [0], [50, 2, 0, 6, 8, 3, 7, 7, 3, 2, 0, 6, 0, 3, 0, 3, 2, 0, 8, 0, 9999]) ws (vs) := ⟨nf_in hl rfl, sgq_1747 (vc_Sy_compileProduct_at_k12_4_0 (w_fi ws (n_v vs 0) 6) (w_fi ws (n_v vs 0) 8) f3 kz_0_6 kz_0_8)⟩
  refine ⟨(fun _ h => (by cases h)), [], trivial, ?_, (fun _ h => (by cases h))⟩
  rw [List.append_nil]
  exact List.forall_mem_cons.mpr ⟨⟨show (20 : Nat) < 100 from by decide, nf0⟩, (fun _ h => (by cases h))⟩
set_option maxHeartbeats 4000000 in
theorem vc_Sy_compileProduct_at_k12_5_0 (x12 : Int) (x14 : Int) (k12 : 5 ≤ x12 ∧ x12 ≤ 5) (k14 : 0 ≤ x14 ∧ x14 ≤ 0) : (0 ≤ x12) ∧ ((0 ≤ x14) ∧ (((x12 * 65536) + x14) ≤ 851970)) := by
  first
    | omega
  
def o_Sy_compileProduct_at_k12_5 : or_T := (69, 15, [(12, (0, 5, 5, [])), (14, (0, 0, 0, []))], [], [], [], [(20, [12, 14], [50, 0, 0, 2, 6, 0, 2, 0, 0, 1, 0, 2, 6, 0, 2, 0, 0, 1, 1, 0, 10, 4, 6, 6, 2, 1, 0, 0, 65536, 1, 1, 0, 851970])], [], [])
theorem oo_Sy_compileProduct_at_k12_5 {kA : Nat → ClassId} : or_ok PRD kA GG o_Sy_compileProduct_at_k12_5 := by
  refine or_mk fun A ta ws vs hD hth hl => ?_
  intro t12 k12 t14 k14
  have nf0 : fc_1 PRD (20, [12, 14], [50, 0, 0, 2, 6, 0, 2, 0, 0, 1, 0, 2, 6, 0, 2, 0, 0, 1, 1, 0, 10, 4, 6, 6, 2, 1, 0, 0, 65536, 1, 1, 0, 851970]) ws (vs) := ⟨nf_in hl rfl, sgq_487 (vc_Sy_compileProduct_at_k12_5_0 (v_iv (n_v vs 12)) (v_iv (n_v vs 14)) k12 k14)⟩
  refine ⟨(fun _ h => (by cases h)), [], trivial, ?_, (fun _ h => (by cases h))⟩
  rw [List.append_nil]
  exact List.forall_mem_cons.mpr ⟨⟨show (20 : Nat) < 100 from by decide, nf0⟩, (fun _ h => (by cases h))⟩
set_option maxHeartbeats 4000000 in
theorem vc_Sy_compileProduct_at_k12_6_0 (kind_0 : Int) (number_0 : Int) (f1 : (kind_0 ≠ 3) ∨ (number_0 ≤ 9999)) (kz_0_6 : 0 ≤ kind_0 ∧ kind_0 ≤ 127) (kz_0_8 : 0 ≤ number_0 ∧ number_0 ≤ 1000000) : (kind_0 ≠ 3) ∨ (number_0 ≤ 9999) := by
  first
    | omega
  
def o_Sy_compileProduct_at_k12_6 : or_T := (65, 15, [(0, (2, 0, 0, [11]))], [(24, [0, 3], []), (20, [3], [50, 2, 0, 6, 8, 3, 7, 7, 3, 2, 0, 6, 0, 3, 0, 3, 2, 0, 8, 0, 9999])], [], [], [(20, [0], [50, 2, 0, 6, 8, 3, 7, 7, 3, 2, 0, 6, 0, 3, 0, 3, 2, 0, 8, 0, 9999])], [], [])
theorem oo_Sy_compileProduct_at_k12_6 {kA : Nat → ClassId} : or_ok PRD kA GG o_Sy_compileProduct_at_k12_6 := by
  refine or_mk fun A ta ws vs hD hth hl => ?_
  intro t0 r0 f0 f1
  replace f0 := shm_5 f0
  replace f1 := shm_1747 f1
  have q3 : n_v vs 3 = n_v vs 0 := f0.symm
  simp only [q3] at f1
  have kz_0_6 := fdq_304 hD hth r0
  have kz_0_8 := fdq_305 hD hth r0
  have nf0 : fc_1 PRD (20, [0], [50, 2, 0, 6, 8, 3, 7, 7, 3, 2, 0, 6, 0, 3, 0, 3, 2, 0, 8, 0, 9999]) ws (vs) := ⟨nf_in hl rfl, sgq_1747 (vc_Sy_compileProduct_at_k12_6_0 (w_fi ws (n_v vs 0) 6) (w_fi ws (n_v vs 0) 8) f1 kz_0_6 kz_0_8)⟩
  refine ⟨(fun _ h => (by cases h)), [], trivial, ?_, (fun _ h => (by cases h))⟩
  rw [List.append_nil]
  exact List.forall_mem_cons.mpr ⟨⟨show (20 : Nat) < 100 from by decide, nf0⟩, (fun _ h => (by cases h))⟩
def n_Sy_compileProduct_at_k12_an : List an_T := [(12, [(0, (2, 0, 0, [11])), (1, (0, 12, 12, [])), (2, (0, 0, 2000, []))], [], (0, 0), [(0, 0, 99988), (1, 5, 2000), (0, 0, 100000)], [], [((0, 3), (2, 0, 0, [109]))], [(2, 0, 0, [11]), (0, 12, 12, []), (2, 0, 0, [109])], 0, [], [(20, [3], [50, 2, 0, 6, 8, 3, 7, 7, 3, 2, 0, 6, 0, 3, 0, 3, 2, 0, 8, 0, 9999]), (24, [0, 3], [])])]
def t_Sy_compileProduct_at_k12_ct : ct_L := [(1, 69, e_Sy_advance), (1, 128, e_Sy_emit), (10, 158, e_Sy_compileValue_at_k12), (178, 158, e_Sy_compileValue_at_k12)]
set_option maxRecDepth 100000 in
theorem c_Sy_compileProduct_at_k12 {l : Launch} {D : va_G} {kA : Nat → ClassId} (h_Sy_advance : ct_ok PRD l D kA GG y_Sy_advance z_Sy_advance e_Sy_advance) (h_Sy_compileValue_at_k12 : ct_ok PRD l D kA GG y_Sy_compileValue_at_k12 z_Sy_compileValue_at_k12 e_Sy_compileValue_at_k12) (h_Sy_emit : ct_ok PRD l D kA GG y_Sy_emit z_Sy_emit e_Sy_emit) : ct_ok PRD l D kA GG y_Sy_compileProduct_at_k12 z_Sy_compileProduct_at_k12 e_Sy_compileProduct_at_k12 := chk_all_ok (FT := [(31, 11, 6)]) (PT := []) (CT := t_Sy_compileProduct_at_k12_ct) (KT := []) (NT := []) (AN := n_Sy_compileProduct_at_k12_an) (OT := [o_Sy_compileProduct_at_k12_0, o_Sy_compileProduct_at_k12_1, o_Sy_compileProduct_at_k12_2, o_Sy_compileProduct_at_k12_3, o_Sy_compileProduct_at_k12_4, o_Sy_compileProduct_at_k12_5, o_Sy_compileProduct_at_k12_6]) 3 268 (List.forall_mem_cons.mpr ⟨oo_Sy_compileProduct_at_k12_0, List.forall_mem_cons.mpr ⟨oo_Sy_compileProduct_at_k12_1, List.forall_mem_cons.mpr ⟨oo_Sy_compileProduct_at_k12_2, List.forall_mem_cons.mpr ⟨oo_Sy_compileProduct_at_k12_3, List.forall_mem_cons.mpr ⟨oo_Sy_compileProduct_at_k12_4, List.forall_mem_cons.mpr ⟨oo_Sy_compileProduct_at_k12_5, List.forall_mem_cons.mpr ⟨oo_Sy_compileProduct_at_k12_6, List.forall_mem_nil _⟩⟩⟩⟩⟩⟩⟩) (by decide +kernel) ⟨List.forall_mem_cons.mpr ⟨gf_Sy_31, List.forall_mem_nil _⟩, List.forall_mem_nil _, List.forall_mem_cons.mpr ⟨cl_virtual (y := y_Sy_advance) (ci := 11) rfl rfl ⟨_, _, rfl⟩ (by decide +kernel) h_Sy_advance wm_2158 wm_23 wm_2155 wm_2157 wv_10_10 ⟨by decide, by decide, by decide +kernel⟩ (by decide), List.forall_mem_cons.mpr ⟨cl_virtual (y := y_Sy_emit) (ci := 11) rfl rfl ⟨_, _, rfl⟩ (by decide +kernel) h_Sy_emit wm_2258 wm_23 wm_2255 wm_2257 wv_11_2 ⟨by decide, by decide, by decide +kernel⟩ (by decide), List.forall_mem_cons.mpr ⟨cl_virtual (y := y_Sy_compileValue_at_k12) (ci := 11) rfl rfl ⟨_, _, rfl⟩ (by decide +kernel) h_Sy_compileValue_at_k12 wm_2274 wm_23 wm_2271 wm_2273 wv_11_6 ⟨by decide, by decide, by decide +kernel⟩ (by decide), List.forall_mem_cons.mpr ⟨cl_virtual (y := y_Sy_compileValue_at_k12) (ci := 11) rfl rfl ⟨_, _, rfl⟩ (by decide +kernel) h_Sy_compileValue_at_k12 wm_2274 wm_23 wm_2271 wm_2273 wv_11_6 ⟨by decide, by decide, by decide +kernel⟩ (by decide), List.forall_mem_nil _⟩⟩⟩⟩, List.forall_mem_nil _, List.forall_mem_nil _, GG_pl⟩ (by decide +kernel)
def o_Sy_compileProduct_at_k2_0 : or_T := (12, 5, [], [], [], [], [(24, [0, 0], [])], [], [])
theorem oo_Sy_compileProduct_at_k2_0 {kA : Nat → ClassId} : or_ok PRD kA GG o_Sy_compileProduct_at_k2_0 := by
  refine or_mk fun A ta ws vs hD hth hl => ?_
  have nf0 : fc_1 PRD (24, [0, 0], []) ws (vs) := by
    refine ⟨nf_in hl rfl, sgq_1 ?_⟩
    · show n_v vs 0 = n_v vs 0
      first | rfl | simp only [true_and]
  refine ⟨(fun _ h => (by cases h)), [], trivial, ?_, (fun _ h => (by cases h))⟩
  rw [List.append_nil]
  exact List.forall_mem_cons.mpr ⟨⟨show (24 : Nat) < 100 from by decide, nf0⟩, (fun _ h => (by cases h))⟩
set_option maxHeartbeats 4000000 in
theorem vc_Sy_compileProduct_at_k2_1_0 (kind_0 : Int) (number_0 : Int) (f0 : (kind_0 ≠ 3) ∨ (number_0 ≤ 9999)) (kz_0_6 : 0 ≤ kind_0 ∧ kind_0 ≤ 127) (kz_0_8 : 0 ≤ number_0 ∧ number_0 ≤ 1000000) : (kind_0 ≠ 3) ∨ (number_0 ≤ 9999) := by
  first
    | omega
  
def o_Sy_compileProduct_at_k2_1 : or_T := (79, 9, [(0, (2, 0, 0, [11]))], [(20, [3], [50, 2, 0, 6, 8, 3, 7, 7, 3, 2, 0, 6, 0, 3, 0, 3, 2, 0, 8, 0, 9999]), (24, [0, 3], [])], [], [], [(20, [0], [50, 2, 0, 6, 8, 3, 7, 7, 3, 2, 0, 6, 0, 3, 0, 3, 2, 0, 8, 0, 9999])], [], [])
theorem oo_Sy_compileProduct_at_k2_1 {kA : Nat → ClassId} : or_ok PRD kA GG o_Sy_compileProduct_at_k2_1 := by
  refine or_mk fun A ta ws vs hD hth hl => ?_
  intro t0 r0 f0 f1
  replace f0 := shm_1747 f0
  replace f1 := shm_5 f1
  have q3 : n_v vs 3 = n_v vs 0 := f1.symm
  simp only [q3] at f0
  have kz_0_6 := fdq_304 hD hth r0
  have kz_0_8 := fdq_305 hD hth r0
  have nf0 : fc_1 PRD (20, [0], [50, 2, 0, 6, 8, 3, 7, 7, 3, 2, 0, 6, 0, 3, 0, 3, 2, 0, 8, 0, 9999]) ws (vs) := ⟨nf_in hl rfl, sgq_1747 (vc_Sy_compileProduct_at_k2_1_0 (w_fi ws (n_v vs 0) 6) (w_fi ws (n_v vs 0) 8) f0 kz_0_6 kz_0_8)⟩
  refine ⟨(fun _ h => (by cases h)), [], trivial, ?_, (fun _ h => (by cases h))⟩
  rw [List.append_nil]
  exact List.forall_mem_cons.mpr ⟨⟨show (20 : Nat) < 100 from by decide, nf0⟩, (fun _ h => (by cases h))⟩
set_option maxHeartbeats 4000000 in
theorem vc_Sy_compileProduct_at_k2_2_0 (x11 : Int) (x13 : Int) (k11 : 4 ≤ x11 ∧ x11 ≤ 4) (k13 : 0 ≤ x13 ∧ x13 ≤ 0) : (0 ≤ x11) ∧ ((0 ≤ x13) ∧ (((x11 * 65536) + x13) ≤ 851970)) := by
  first
    | omega
  
def o_Sy_compileProduct_at_k2_2 : or_T := (69, 14, [(11, (0, 4, 4, [])), (13, (0, 0, 0, []))], [], [], [], [(20, [11, 13], [50, 0, 0, 2, 6, 0, 2, 0, 0, 1, 0, 2, 6, 0, 2, 0, 0, 1, 1, 0, 10, 4, 6, 6, 2, 1, 0, 0, 65536, 1, 1, 0, 851970])], [], [])
theorem oo_Sy_compileProduct_at_k2_2 {kA : Nat → ClassId} : or_ok PRD kA GG o_Sy_compileProduct_at_k2_2 := by
  refine or_mk fun A ta ws vs hD hth hl => ?_
  intro t11 k11 t13 k13
  have nf0 : fc_1 PRD (20, [11, 13], [50, 0, 0, 2, 6, 0, 2, 0, 0, 1, 0, 2, 6, 0, 2, 0, 0, 1, 1, 0, 10, 4, 6, 6, 2, 1, 0, 0, 65536, 1, 1, 0, 851970]) ws (vs) := ⟨nf_in hl rfl, sgq_487 (vc_Sy_compileProduct_at_k2_2_0 (v_iv (n_v vs 11)) (v_iv (n_v vs 13)) k11 k13)⟩
  refine ⟨(fun _ h => (by cases h)), [], trivial, ?_, (fun _ h => (by cases h))⟩
  rw [List.append_nil]
  exact List.forall_mem_cons.mpr ⟨⟨show (20 : Nat) < 100 from by decide, nf0⟩, (fun _ h => (by cases h))⟩
set_option maxHeartbeats 4000000 in
theorem vc_Sy_compileProduct_at_k2_3_0 (kind_0 : Int) (number_0 : Int) (f1 : (kind_0 ≠ 3) ∨ (number_0 ≤ 9999)) (kz_0_6 : 0 ≤ kind_0 ∧ kind_0 ≤ 127) (kz_0_8 : 0 ≤ number_0 ∧ number_0 ≤ 1000000) : (kind_0 ≠ 3) ∨ (number_0 ≤ 9999) := by
  first
    | omega
  
def o_Sy_compileProduct_at_k2_3 : or_T := (65, 14, [(0, (2, 0, 0, [11]))], [(24, [0, 3], []), (20, [3], [50, 2, 0, 6, 8, 3, 7, 7, 3, 2, 0, 6, 0, 3, 0, 3, 2, 0, 8, 0, 9999])], [], [], [(20, [0], [50, 2, 0, 6, 8, 3, 7, 7, 3, 2, 0, 6, 0, 3, 0, 3, 2, 0, 8, 0, 9999])], [], [])
theorem oo_Sy_compileProduct_at_k2_3 {kA : Nat → ClassId} : or_ok PRD kA GG o_Sy_compileProduct_at_k2_3 := by
  refine or_mk fun A ta ws vs hD hth hl => ?_
  intro t0 r0 f0 f1
  replace f0 := shm_5 f0
  replace f1 := shm_1747 f1
  have q3 : n_v vs 3 = n_v vs 0 := f0.symm
  simp only [q3] at f1
  have kz_0_6 := fdq_304 hD hth r0
  have kz_0_8 := fdq_305 hD hth r0
  have nf0 : fc_1 PRD (20, [0], [50, 2, 0, 6, 8, 3, 7, 7, 3, 2, 0, 6, 0, 3, 0, 3, 2, 0, 8, 0, 9999]) ws (vs) := ⟨nf_in hl rfl, sgq_1747 (vc_Sy_compileProduct_at_k2_3_0 (w_fi ws (n_v vs 0) 6) (w_fi ws (n_v vs 0) 8) f1 kz_0_6 kz_0_8)⟩
  refine ⟨(fun _ h => (by cases h)), [], trivial, ?_, (fun _ h => (by cases h))⟩
  rw [List.append_nil]
  exact List.forall_mem_cons.mpr ⟨⟨show (20 : Nat) < 100 from by decide, nf0⟩, (fun _ h => (by cases h))⟩
set_option maxHeartbeats 4000000 in
theorem vc_Sy_compileProduct_at_k2_4_0 (kind_0 : Int) (number_0 : Int) (f3 : (kind_0 ≠ 3) ∨ (number_0 ≤ 9999)) (kz_0_6 : 0 ≤ kind_0 ∧ kind_0 ≤ 127) (kz_0_8 : 0 ≤ number_0 ∧ number_0 ≤ 1000000) : (kind_0 ≠ 3) ∨ (number_0 ≤ 9999) := by
  first
    | omega
  
def o_Sy_compileProduct_at_k2_4 : or_T := (79, 12, [(0, (2, 0, 0, [11]))], [(20, [3], [50, 2, 0, 6, 8, 3, 7, 7, 3, 2, 0, 6, 0, 3, 0, 3, 2, 0, 8, 0, 9999]), (24, [0, 3], [])], [], [], [(20, [0], [50, 2, 0, 6, 8, 3, 7, 7, 3, 2, 0, 6, 0, 3, 0, 3, 2, 0, 8, 0, 9999])], [], [])
theorem oo_Sy_compileProduct_at_k2_4 {kA : Nat → ClassId} : or_ok PRD kA GG o_Sy_compileProduct_at_k2_4 := by
  refine or_mk fun A ta ws vs hD hth hl => ?_
  intro t0 r0 f3 f4
  replace f3 := shm_1747 f3
  replace f4 := shm_5 f4
  have q3 : n_v vs 3 = n_v vs 0 := f4.symm
  simp only [q3] at f3
  have kz_0_6 := fdq_304 hD hth r0
  have kz_0_8 := fdq_305 hD hth r0
  have nf0 : fc_1 PRD (20, [0], [50, 2, 0, 6, 8, 3, 7, 7, 3, 2, 0, 6, 0, 3, 0, 3, 2, 0, 8, 0, 9999]) ws (vs) := ⟨nf_in hl rfl, sgq_1747 (vc_Sy_compileProduct_at_k2_4_0 (w_fi ws (n_v vs 0) 6) (w_fi ws (n_v vs 0) 8) f3 kz_0_6 kz_0_8)⟩
  refine ⟨(fun _ h => (by cases h)), [], trivial, ?_, (fun _ h => (by cases h))⟩
  rw [List.append_nil]
  exact List.forall_mem_cons.mpr ⟨⟨show (20 : Nat) < 100 from by decide, nf0⟩, (fun _ h => (by cases h))⟩
set_option maxHeartbeats 4000000 in
theorem vc_Sy_compileProduct_at_k2_5_0 (x12 : Int) (x14 : Int) (k12 : 5 ≤ x12 ∧ x12 ≤ 5) (k14 : 0 ≤ x14 ∧ x14 ≤ 0) : (0 ≤ x12) ∧ ((0 ≤ x14) ∧ (((x12 * 65536) + x14) ≤ 851970)) := by
  first
    | omega
  
def o_Sy_compileProduct_at_k2_5 : or_T := (69, 15, [(12, (0, 5, 5, [])), (14, (0, 0, 0, []))], [], [], [], [(20, [12, 14], [50, 0, 0, 2, 6, 0, 2, 0, 0, 1, 0, 2, 6, 0, 2, 0, 0, 1, 1, 0, 10, 4, 6, 6, 2, 1, 0, 0, 65536, 1, 1, 0, 851970])], [], [])
theorem oo_Sy_compileProduct_at_k2_5 {kA : Nat → ClassId} : or_ok PRD kA GG o_Sy_compileProduct_at_k2_5 := by
  refine or_mk fun A ta ws vs hD hth hl => ?_
  intro t12 k12 t14 k14
  have nf0 : fc_1 PRD (20, [12, 14], [50, 0, 0, 2, 6, 0, 2, 0, 0, 1, 0, 2, 6, 0, 2, 0, 0, 1, 1, 0, 10, 4, 6, 6, 2, 1, 0, 0, 65536, 1, 1, 0, 851970]) ws (vs) := ⟨nf_in hl rfl, sgq_487 (vc_Sy_compileProduct_at_k2_5_0 (v_iv (n_v vs 12)) (v_iv (n_v vs 14)) k12 k14)⟩
  refine ⟨(fun _ h => (by cases h)), [], trivial, ?_, (fun _ h => (by cases h))⟩
  rw [List.append_nil]
  exact List.forall_mem_cons.mpr ⟨⟨show (20 : Nat) < 100 from by decide, nf0⟩, (fun _ h => (by cases h))⟩
set_option maxHeartbeats 4000000 in
theorem vc_Sy_compileProduct_at_k2_6_0 (kind_0 : Int) (number_0 : Int) (f1 : (kind_0 ≠ 3) ∨ (number_0 ≤ 9999)) (kz_0_6 : 0 ≤ kind_0 ∧ kind_0 ≤ 127) (kz_0_8 : 0 ≤ number_0 ∧ number_0 ≤ 1000000) : (kind_0 ≠ 3) ∨ (number_0 ≤ 9999) := by
  first
    | omega
  
def o_Sy_compileProduct_at_k2_6 : or_T := (65, 15, [(0, (2, 0, 0, [11]))], [(24, [0, 3], []), (20, [3], [50, 2, 0, 6, 8, 3, 7, 7, 3, 2, 0, 6, 0, 3, 0, 3, 2, 0, 8, 0, 9999])], [], [], [(20, [0], [50, 2, 0, 6, 8, 3, 7, 7, 3, 2, 0, 6, 0, 3, 0, 3, 2, 0, 8, 0, 9999])], [], [])
theorem oo_Sy_compileProduct_at_k2_6 {kA : Nat → ClassId} : or_ok PRD kA GG o_Sy_compileProduct_at_k2_6 := by
  refine or_mk fun A ta ws vs hD hth hl => ?_
  intro t0 r0 f0 f1
  replace f0 := shm_5 f0
  replace f1 := shm_1747 f1
  have q3 : n_v vs 3 = n_v vs 0 := f0.symm
  simp only [q3] at f1
  have kz_0_6 := fdq_304 hD hth r0
  have kz_0_8 := fdq_305 hD hth r0
  have nf0 : fc_1 PRD (20, [0], [50, 2, 0, 6, 8, 3, 7, 7, 3, 2, 0, 6, 0, 3, 0, 3, 2, 0, 8, 0, 9999]) ws (vs) := ⟨nf_in hl rfl, sgq_1747 (vc_Sy_compileProduct_at_k2_6_0 (w_fi ws (n_v vs 0) 6) (w_fi ws (n_v vs 0) 8) f1 kz_0_6 kz_0_8)⟩
  refine ⟨(fun _ h => (by cases h)), [], trivial, ?_, (fun _ h => (by cases h))⟩
  rw [List.append_nil]
  exact List.forall_mem_cons.mpr ⟨⟨show (20 : Nat) < 100 from by decide, nf0⟩, (fun _ h => (by cases h))⟩
def n_Sy_compileProduct_at_k2_an : List an_T := [(12, [(0, (2, 0, 0, [11])), (1, (0, 2, 2, [])), (2, (0, 0, 2000, []))], [], (0, 0), [(0, 0, 99988), (1, 5, 2000), (0, 0, 100000)], [], [((0, 3), (2, 0, 0, [109]))], [(2, 0, 0, [11]), (0, 2, 2, []), (2, 0, 0, [109])], 0, [], [(20, [3], [50, 2, 0, 6, 8, 3, 7, 7, 3, 2, 0, 6, 0, 3, 0, 3, 2, 0, 8, 0, 9999]), (24, [0, 3], [])])]
def t_Sy_compileProduct_at_k2_ct : ct_L := [(1, 69, e_Sy_advance), (1, 128, e_Sy_emit), (10, 158, e_Sy_compileValue_at_k2), (178, 158, e_Sy_compileValue_at_k2)]
set_option maxRecDepth 100000 in
theorem c_Sy_compileProduct_at_k2 {l : Launch} {D : va_G} {kA : Nat → ClassId} (h_Sy_advance : ct_ok PRD l D kA GG y_Sy_advance z_Sy_advance e_Sy_advance) (h_Sy_compileValue_at_k2 : ct_ok PRD l D kA GG y_Sy_compileValue_at_k2 z_Sy_compileValue_at_k2 e_Sy_compileValue_at_k2) (h_Sy_emit : ct_ok PRD l D kA GG y_Sy_emit z_Sy_emit e_Sy_emit) : ct_ok PRD l D kA GG y_Sy_compileProduct_at_k2 z_Sy_compileProduct_at_k2 e_Sy_compileProduct_at_k2 := chk_all_ok (FT := [(31, 11, 6)]) (PT := []) (CT := t_Sy_compileProduct_at_k2_ct) (KT := []) (NT := []) (AN := n_Sy_compileProduct_at_k2_an) (OT := [o_Sy_compileProduct_at_k2_0, o_Sy_compileProduct_at_k2_1, o_Sy_compileProduct_at_k2_2, o_Sy_compileProduct_at_k2_3, o_Sy_compileProduct_at_k2_4, o_Sy_compileProduct_at_k2_5, o_Sy_compileProduct_at_k2_6]) 3 268 (List.forall_mem_cons.mpr ⟨oo_Sy_compileProduct_at_k2_0, List.forall_mem_cons.mpr ⟨oo_Sy_compileProduct_at_k2_1, List.forall_mem_cons.mpr ⟨oo_Sy_compileProduct_at_k2_2, List.forall_mem_cons.mpr ⟨oo_Sy_compileProduct_at_k2_3, List.forall_mem_cons.mpr ⟨oo_Sy_compileProduct_at_k2_4, List.forall_mem_cons.mpr ⟨oo_Sy_compileProduct_at_k2_5, List.forall_mem_cons.mpr ⟨oo_Sy_compileProduct_at_k2_6, List.forall_mem_nil _⟩⟩⟩⟩⟩⟩⟩) (by decide +kernel) ⟨List.forall_mem_cons.mpr ⟨gf_Sy_31, List.forall_mem_nil _⟩, List.forall_mem_nil _, List.forall_mem_cons.mpr ⟨cl_virtual (y := y_Sy_advance) (ci := 11) rfl rfl ⟨_, _, rfl⟩ (by decide +kernel) h_Sy_advance wm_2158 wm_23 wm_2155 wm_2157 wv_10_10 ⟨by decide, by decide, by decide +kernel⟩ (by decide), List.forall_mem_cons.mpr ⟨cl_virtual (y := y_Sy_emit) (ci := 11) rfl rfl ⟨_, _, rfl⟩ (by decide +kernel) h_Sy_emit wm_2258 wm_23 wm_2255 wm_2257 wv_11_2 ⟨by decide, by decide, by decide +kernel⟩ (by decide), List.forall_mem_cons.mpr ⟨cl_virtual (y := y_Sy_compileValue_at_k2) (ci := 11) rfl rfl ⟨_, _, rfl⟩ (by decide +kernel) h_Sy_compileValue_at_k2 wm_2274 wm_23 wm_2271 wm_2273 wv_11_6 ⟨by decide, by decide, by decide +kernel⟩ (by decide), List.forall_mem_cons.mpr ⟨cl_virtual (y := y_Sy_compileValue_at_k2) (ci := 11) rfl rfl ⟨_, _, rfl⟩ (by decide +kernel) h_Sy_compileValue_at_k2 wm_2274 wm_23 wm_2271 wm_2273 wv_11_6 ⟨by decide, by decide, by decide +kernel⟩ (by decide), List.forall_mem_nil _⟩⟩⟩⟩, List.forall_mem_nil _, List.forall_mem_nil _, GG_pl⟩ (by decide +kernel)
def o_Sy_compileProduct_at_k3_0 : or_T := (12, 5, [], [], [], [], [(24, [0, 0], [])], [], [])
theorem oo_Sy_compileProduct_at_k3_0 {kA : Nat → ClassId} : or_ok PRD kA GG o_Sy_compileProduct_at_k3_0 := by
  refine or_mk fun A ta ws vs hD hth hl => ?_
  have nf0 : fc_1 PRD (24, [0, 0], []) ws (vs) := by
    refine ⟨nf_in hl rfl, sgq_1 ?_⟩
    · show n_v vs 0 = n_v vs 0
      first | rfl | simp only [true_and]
  refine ⟨(fun _ h => (by cases h)), [], trivial, ?_, (fun _ h => (by cases h))⟩
  rw [List.append_nil]
  exact List.forall_mem_cons.mpr ⟨⟨show (24 : Nat) < 100 from by decide, nf0⟩, (fun _ h => (by cases h))⟩
set_option maxHeartbeats 4000000 in
theorem vc_Sy_compileProduct_at_k3_1_0 (kind_0 : Int) (number_0 : Int) (f0 : (kind_0 ≠ 3) ∨ (number_0 ≤ 9999)) (kz_0_6 : 0 ≤ kind_0 ∧ kind_0 ≤ 127) (kz_0_8 : 0 ≤ number_0 ∧ number_0 ≤ 1000000) : (kind_0 ≠ 3) ∨ (number_0 ≤ 9999) := by
  first
    | omega
  
def o_Sy_compileProduct_at_k3_1 : or_T := (79, 9, [(0, (2, 0, 0, [11]))], [(20, [3], [50, 2, 0, 6, 8, 3, 7, 7, 3, 2, 0, 6, 0, 3, 0, 3, 2, 0, 8, 0, 9999]), (24, [0, 3], [])], [], [], [(20, [0], [50, 2, 0, 6, 8, 3, 7, 7, 3, 2, 0, 6, 0, 3, 0, 3, 2, 0, 8, 0, 9999])], [], [])
theorem oo_Sy_compileProduct_at_k3_1 {kA : Nat → ClassId} : or_ok PRD kA GG o_Sy_compileProduct_at_k3_1 := by
  refine or_mk fun A ta ws vs hD hth hl => ?_
  intro t0 r0 f0 f1
  replace f0 := shm_1747 f0
  replace f1 := shm_5 f1
  have q3 : n_v vs 3 = n_v vs 0 := f1.symm
  simp only [q3] at f0
  have kz_0_6 := fdq_304 hD hth r0
  have kz_0_8 := fdq_305 hD hth r0
  have nf0 : fc_1 PRD (20, [0], [50, 2, 0, 6, 8, 3, 7, 7, 3, 2, 0, 6, 0, 3, 0, 3, 2, 0, 8, 0, 9999]) ws (vs) := ⟨nf_in hl rfl, sgq_1747 (vc_Sy_compileProduct_at_k3_1_0 (w_fi ws (n_v vs 0) 6) (w_fi ws (n_v vs 0) 8) f0 kz_0_6 kz_0_8)⟩
  refine ⟨(fun _ h => (by cases h)), [], trivial, ?_, (fun _ h => (by cases h))⟩
  rw [List.append_nil]
  exact List.forall_mem_cons.mpr ⟨⟨show (20 : Nat) < 100 from by decide, nf0⟩, (fun _ h => (by cases h))⟩
set_option maxHeartbeats 4000000 in
theorem vc_Sy_compileProduct_at_k3_2_0 (x11 : Int) (x13 : Int) (k11 : 4 ≤ x11 ∧ x11 ≤ 4) (k13 : 0 ≤ x13 ∧ x13 ≤ 0) : (0 ≤ x11) ∧ ((0 ≤ x13) ∧ (((x11 * 65536) + x13) ≤ 851970)) := by
  first
    | omega
  
def o_Sy_compileProduct_at_k3_2 : or_T := (69, 14, [(11, (0, 4, 4, [])), (13, (0, 0, 0, []))], [], [], [], [(20, [11, 13], [50, 0, 0, 2, 6, 0, 2, 0, 0, 1, 0, 2, 6, 0, 2, 0, 0, 1, 1, 0, 10, 4, 6, 6, 2, 1, 0, 0, 65536, 1, 1, 0, 851970])], [], [])
theorem oo_Sy_compileProduct_at_k3_2 {kA : Nat → ClassId} : or_ok PRD kA GG o_Sy_compileProduct_at_k3_2 := by
  refine or_mk fun A ta ws vs hD hth hl => ?_
  intro t11 k11 t13 k13
  have nf0 : fc_1 PRD (20, [11, 13], [50, 0, 0, 2, 6, 0, 2, 0, 0, 1, 0, 2, 6, 0, 2, 0, 0, 1, 1, 0, 10, 4, 6, 6, 2, 1, 0, 0, 65536, 1, 1, 0, 851970]) ws (vs) := ⟨nf_in hl rfl, sgq_487 (vc_Sy_compileProduct_at_k3_2_0 (v_iv (n_v vs 11)) (v_iv (n_v vs 13)) k11 k13)⟩
  refine ⟨(fun _ h => (by cases h)), [], trivial, ?_, (fun _ h => (by cases h))⟩
  rw [List.append_nil]
  exact List.forall_mem_cons.mpr ⟨⟨show (20 : Nat) < 100 from by decide, nf0⟩, (fun _ h => (by cases h))⟩
set_option maxHeartbeats 4000000 in
theorem vc_Sy_compileProduct_at_k3_3_0 (kind_0 : Int) (number_0 : Int) (f1 : (kind_0 ≠ 3) ∨ (number_0 ≤ 9999)) (kz_0_6 : 0 ≤ kind_0 ∧ kind_0 ≤ 127) (kz_0_8 : 0 ≤ number_0 ∧ number_0 ≤ 1000000) : (kind_0 ≠ 3) ∨ (number_0 ≤ 9999) := by
  first
    | omega
  
def o_Sy_compileProduct_at_k3_3 : or_T := (65, 14, [(0, (2, 0, 0, [11]))], [(24, [0, 3], []), (20, [3], [50, 2, 0, 6, 8, 3, 7, 7, 3, 2, 0, 6, 0, 3, 0, 3, 2, 0, 8, 0, 9999])], [], [], [(20, [0], [50, 2, 0, 6, 8, 3, 7, 7, 3, 2, 0, 6, 0, 3, 0, 3, 2, 0, 8, 0, 9999])], [], [])
theorem oo_Sy_compileProduct_at_k3_3 {kA : Nat → ClassId} : or_ok PRD kA GG o_Sy_compileProduct_at_k3_3 := by
  refine or_mk fun A ta ws vs hD hth hl => ?_
  intro t0 r0 f0 f1
  replace f0 := shm_5 f0
  replace f1 := shm_1747 f1
  have q3 : n_v vs 3 = n_v vs 0 := f0.symm
  simp only [q3] at f1
  have kz_0_6 := fdq_304 hD hth r0
  have kz_0_8 := fdq_305 hD hth r0
  have nf0 : fc_1 PRD (20, [0], [50, 2, 0, 6, 8, 3, 7, 7, 3, 2, 0, 6, 0, 3, 0, 3, 2, 0, 8, 0, 9999]) ws (vs) := ⟨nf_in hl rfl, sgq_1747 (vc_Sy_compileProduct_at_k3_3_0 (w_fi ws (n_v vs 0) 6) (w_fi ws (n_v vs 0) 8) f1 kz_0_6 kz_0_8)⟩
  refine ⟨(fun _ h => (by cases h)), [], trivial, ?_, (fun _ h => (by cases h))⟩
  rw [List.append_nil]
  exact List.forall_mem_cons.mpr ⟨⟨show (20 : Nat) < 100 from by decide, nf0⟩, (fun _ h => (by cases h))⟩
set_option maxHeartbeats 4000000 in
theorem vc_Sy_compileProduct_at_k3_4_0 (kind_0 : Int) (number_0 : Int) (f3 : (kind_0 ≠ 3) ∨ (number_0 ≤ 9999)) (kz_0_6 : 0 ≤ kind_0 ∧ kind_0 ≤ 127) (kz_0_8 : 0 ≤ number_0 ∧ number_0 ≤ 1000000) : (kind_0 ≠ 3) ∨ (number_0 ≤ 9999) := by
  first
    | omega
  
def o_Sy_compileProduct_at_k3_4 : or_T := (79, 12, [(0, (2, 0, 0, [11]))], [(20, [3], [50, 2, 0, 6, 8, 3, 7, 7, 3, 2, 0, 6, 0, 3, 0, 3, 2, 0, 8, 0, 9999]), (24, [0, 3], [])], [], [], [(20, [0], [50, 2, 0, 6, 8, 3, 7, 7, 3, 2, 0, 6, 0, 3, 0, 3, 2, 0, 8, 0, 9999])], [], [])
theorem oo_Sy_compileProduct_at_k3_4 {kA : Nat → ClassId} : or_ok PRD kA GG o_Sy_compileProduct_at_k3_4 := by
  refine or_mk fun A ta ws vs hD hth hl => ?_
  intro t0 r0 f3 f4
  replace f3 := shm_1747 f3
  replace f4 := shm_5 f4
  have q3 : n_v vs 3 = n_v vs 0 := f4.symm
  simp only [q3] at f3
  have kz_0_6 := fdq_304 hD hth r0
  have kz_0_8 := fdq_305 hD hth r0
  have nf0 : fc_1 PRD (20, [0], [50, 2, 0, 6, 8, 3, 7, 7, 3, 2, 0, 6, 0, 3, 0, 3, 2, 0, 8, 0, 9999]) ws (vs) := ⟨nf_in hl rfl, sgq_1747 (vc_Sy_compileProduct_at_k3_4_0 (w_fi ws (n_v vs 0) 6) (w_fi ws (n_v vs 0) 8) f3 kz_0_6 kz_0_8)⟩
  refine ⟨(fun _ h => (by cases h)), [], trivial, ?_, (fun _ h => (by cases h))⟩
  rw [List.append_nil]
  exact List.forall_mem_cons.mpr ⟨⟨show (20 : Nat) < 100 from by decide, nf0⟩, (fun _ h => (by cases h))⟩
set_option maxHeartbeats 4000000 in
theorem vc_Sy_compileProduct_at_k3_5_0 (x12 : Int) (x14 : Int) (k12 : 5 ≤ x12 ∧ x12 ≤ 5) (k14 : 0 ≤ x14 ∧ x14 ≤ 0) : (0 ≤ x12) ∧ ((0 ≤ x14) ∧ (((x12 * 65536) + x14) ≤ 851970)) := by
  first
    | omega
  
def o_Sy_compileProduct_at_k3_5 : or_T := (69, 15, [(12, (0, 5, 5, [])), (14, (0, 0, 0, []))], [], [], [], [(20, [12, 14], [50, 0, 0, 2, 6, 0, 2, 0, 0, 1, 0, 2, 6, 0, 2, 0, 0, 1, 1, 0, 10, 4, 6, 6, 2, 1, 0, 0, 65536, 1, 1, 0, 851970])], [], [])
theorem oo_Sy_compileProduct_at_k3_5 {kA : Nat → ClassId} : or_ok PRD kA GG o_Sy_compileProduct_at_k3_5 := by
  refine or_mk fun A ta ws vs hD hth hl => ?_
  intro t12 k12 t14 k14
  have nf0 : fc_1 PRD (20, [12, 14], [50, 0, 0, 2, 6, 0, 2, 0, 0, 1, 0, 2, 6, 0, 2, 0, 0, 1, 1, 0, 10, 4, 6, 6, 2, 1, 0, 0, 65536, 1, 1, 0, 851970]) ws (vs) := ⟨nf_in hl rfl, sgq_487 (vc_Sy_compileProduct_at_k3_5_0 (v_iv (n_v vs 12)) (v_iv (n_v vs 14)) k12 k14)⟩
  refine ⟨(fun _ h => (by cases h)), [], trivial, ?_, (fun _ h => (by cases h))⟩
  rw [List.append_nil]
  exact List.forall_mem_cons.mpr ⟨⟨show (20 : Nat) < 100 from by decide, nf0⟩, (fun _ h => (by cases h))⟩
set_option maxHeartbeats 4000000 in
theorem vc_Sy_compileProduct_at_k3_6_0 (kind_0 : Int) (number_0 : Int) (f1 : (kind_0 ≠ 3) ∨ (number_0 ≤ 9999)) (kz_0_6 : 0 ≤ kind_0 ∧ kind_0 ≤ 127) (kz_0_8 : 0 ≤ number_0 ∧ number_0 ≤ 1000000) : (kind_0 ≠ 3) ∨ (number_0 ≤ 9999) := by
  first
    | omega
  
def o_Sy_compileProduct_at_k3_6 : or_T := (65, 15, [(0, (2, 0, 0, [11]))], [(24, [0, 3], []), (20, [3], [50, 2, 0, 6, 8, 3, 7, 7, 3, 2, 0, 6, 0, 3, 0, 3, 2, 0, 8, 0, 9999])], [], [], [(20, [0], [50, 2, 0, 6, 8, 3, 7, 7, 3, 2, 0, 6, 0, 3, 0, 3, 2, 0, 8, 0, 9999])], [], [])
theorem oo_Sy_compileProduct_at_k3_6 {kA : Nat → ClassId} : or_ok PRD kA GG o_Sy_compileProduct_at_k3_6 := by
  refine or_mk fun A ta ws vs hD hth hl => ?_
  intro t0 r0 f0 f1
  replace f0 := shm_5 f0
  replace f1 := shm_1747 f1
  have q3 : n_v vs 3 = n_v vs 0 := f0.symm
  simp only [q3] at f1
  have kz_0_6 := fdq_304 hD hth r0
  have kz_0_8 := fdq_305 hD hth r0
  have nf0 : fc_1 PRD (20, [0], [50, 2, 0, 6, 8, 3, 7, 7, 3, 2, 0, 6, 0, 3, 0, 3, 2, 0, 8, 0, 9999]) ws (vs) := ⟨nf_in hl rfl, sgq_1747 (vc_Sy_compileProduct_at_k3_6_0 (w_fi ws (n_v vs 0) 6) (w_fi ws (n_v vs 0) 8) f1 kz_0_6 kz_0_8)⟩
  refine ⟨(fun _ h => (by cases h)), [], trivial, ?_, (fun _ h => (by cases h))⟩
  rw [List.append_nil]
  exact List.forall_mem_cons.mpr ⟨⟨show (20 : Nat) < 100 from by decide, nf0⟩, (fun _ h => (by cases h))⟩
def n_Sy_compileProduct_at_k3_an : List an_T := [(12, [(0, (2, 0, 0, [11])), (1, (0, 3, 3, [])), (2, (0, 0, 2000, []))], [], (0, 0), [(0, 0, 99988), (1, 5, 2000), (0, 0, 100000)], [], [((0, 3), (2, 0, 0, [109]))], [(2, 0, 0, [11]), (0, 3, 3, []), (2, 0, 0, [109])], 0, [], [(20, [3], [50, 2, 0, 6, 8, 3, 7, 7, 3, 2, 0, 6, 0, 3, 0, 3, 2, 0, 8, 0, 9999]), (24, [0, 3], [])])]
def t_Sy_compileProduct_at_k3_ct : ct_L := [(1, 69, e_Sy_advance), (1, 128, e_Sy_emit), (10, 158, e_Sy_compileValue_at_k3), (178, 158, e_Sy_compileValue_at_k3)]
set_option maxRecDepth 100000 in
theorem c_Sy_compileProduct_at_k3 {l : Launch} {D : va_G} {kA : Nat → ClassId} (h_Sy_advance : ct_ok PRD l D kA GG y_Sy_advance z_Sy_advance e_Sy_advance) (h_Sy_compileValue_at_k3 : ct_ok PRD l D kA GG y_Sy_compileValue_at_k3 z_Sy_compileValue_at_k3 e_Sy_compileValue_at_k3) (h_Sy_emit : ct_ok PRD l D kA GG y_Sy_emit z_Sy_emit e_Sy_emit) : ct_ok PRD l D kA GG y_Sy_compileProduct_at_k3 z_Sy_compileProduct_at_k3 e_Sy_compileProduct_at_k3 := chk_all_ok (FT := [(31, 11, 6)]) (PT := []) (CT := t_Sy_compileProduct_at_k3_ct) (KT := []) (NT := []) (AN := n_Sy_compileProduct_at_k3_an) (OT := [o_Sy_compileProduct_at_k3_0, o_Sy_compileProduct_at_k3_1, o_Sy_compileProduct_at_k3_2, o_Sy_compileProduct_at_k3_3, o_Sy_compileProduct_at_k3_4, o_Sy_compileProduct_at_k3_5, o_Sy_compileProduct_at_k3_6]) 3 268 (List.forall_mem_cons.mpr ⟨oo_Sy_compileProduct_at_k3_0, List.forall_mem_cons.mpr ⟨oo_Sy_compileProduct_at_k3_1, List.forall_mem_cons.mpr ⟨oo_Sy_compileProduct_at_k3_2, List.forall_mem_cons.mpr ⟨oo_Sy_compileProduct_at_k3_3, List.forall_mem_cons.mpr ⟨oo_Sy_compileProduct_at_k3_4, List.forall_mem_cons.mpr ⟨oo_Sy_compileProduct_at_k3_5, List.forall_mem_cons.mpr ⟨oo_Sy_compileProduct_at_k3_6, List.forall_mem_nil _⟩⟩⟩⟩⟩⟩⟩) (by decide +kernel) ⟨List.forall_mem_cons.mpr ⟨gf_Sy_31, List.forall_mem_nil _⟩, List.forall_mem_nil _, List.forall_mem_cons.mpr ⟨cl_virtual (y := y_Sy_advance) (ci := 11) rfl rfl ⟨_, _, rfl⟩ (by decide +kernel) h_Sy_advance wm_2158 wm_23 wm_2155 wm_2157 wv_10_10 ⟨by decide, by decide, by decide +kernel⟩ (by decide), List.forall_mem_cons.mpr ⟨cl_virtual (y := y_Sy_emit) (ci := 11) rfl rfl ⟨_, _, rfl⟩ (by decide +kernel) h_Sy_emit wm_2258 wm_23 wm_2255 wm_2257 wv_11_2 ⟨by decide, by decide, by decide +kernel⟩ (by decide), List.forall_mem_cons.mpr ⟨cl_virtual (y := y_Sy_compileValue_at_k3) (ci := 11) rfl rfl ⟨_, _, rfl⟩ (by decide +kernel) h_Sy_compileValue_at_k3 wm_2274 wm_23 wm_2271 wm_2273 wv_11_6 ⟨by decide, by decide, by decide +kernel⟩ (by decide), List.forall_mem_cons.mpr ⟨cl_virtual (y := y_Sy_compileValue_at_k3) (ci := 11) rfl rfl ⟨_, _, rfl⟩ (by decide +kernel) h_Sy_compileValue_at_k3 wm_2274 wm_23 wm_2271 wm_2273 wv_11_6 ⟨by decide, by decide, by decide +kernel⟩ (by decide), List.forall_mem_nil _⟩⟩⟩⟩, List.forall_mem_nil _, List.forall_mem_nil _, GG_pl⟩ (by decide +kernel)
def o_Sy_compileProduct_at_k4_0 : or_T := (12, 5, [], [], [], [], [(24, [0, 0], [])], [], [])
theorem oo_Sy_compileProduct_at_k4_0 {kA : Nat → ClassId} : or_ok PRD kA GG o_Sy_compileProduct_at_k4_0 := by
  refine or_mk fun A ta ws vs hD hth hl => ?_
  have nf0 : fc_1 PRD (24, [0, 0], []) ws (vs) := by
    refine ⟨nf_in hl rfl, sgq_1 ?_⟩
    · show n_v vs 0 = n_v vs 0
      first | rfl | simp only [true_and]
  refine ⟨(fun _ h => (by cases h)), [], trivial, ?_, (fun _ h => (by cases h))⟩
  rw [List.append_nil]
  exact List.forall_mem_cons.mpr ⟨⟨show (24 : Nat) < 100 from by decide, nf0⟩, (fun _ h => (by cases h))⟩
set_option maxHeartbeats 4000000 in
theorem vc_Sy_compileProduct_at_k4_1_0 (kind_0 : Int) (number_0 : Int) (f0 : (kind_0 ≠ 3) ∨ (number_0 ≤ 9999)) (kz_0_6 : 0 ≤ kind_0 ∧ kind_0 ≤ 127) (kz_0_8 : 0 ≤ number_0 ∧ number_0 ≤ 1000000) : (kind_0 ≠ 3) ∨ (number_0 ≤ 9999) := by
  first
    | omega
  
def o_Sy_compileProduct_at_k4_1 : or_T := (79, 9, [(0, (2, 0, 0, [11]))], [(20, [3], [50, 2, 0, 6, 8, 3, 7, 7, 3, 2, 0, 6, 0, 3, 0, 3, 2, 0, 8, 0, 9999]), (24, [0, 3], [])], [], [], [(20, [0], [50, 2, 0, 6, 8, 3, 7, 7, 3, 2, 0, 6, 0, 3, 0, 3, 2, 0, 8, 0, 9999])], [], [])
theorem oo_Sy_compileProduct_at_k4_1 {kA : Nat → ClassId} : or_ok PRD kA GG o_Sy_compileProduct_at_k4_1 := by
  refine or_mk fun A ta ws vs hD hth hl => ?_
  intro t0 r0 f0 f1
  replace f0 := shm_1747 f0
  replace f1 := shm_5 f1
  have q3 : n_v vs 3 = n_v vs 0 := f1.symm
  simp only [q3] at f0
  have kz_0_6 := fdq_304 hD hth r0
  have kz_0_8 := fdq_305 hD hth r0
  have nf0 : fc_1 PRD (20, [0], [50, 2, 0, 6, 8, 3, 7, 7, 3, 2, 0, 6, 0, 3, 0, 3, 2, 0, 8, 0, 9999]) ws (vs) := ⟨nf_in hl rfl, sgq_1747 (vc_Sy_compileProduct_at_k4_1_0 (w_fi ws (n_v vs 0) 6) (w_fi ws (n_v vs 0) 8) f0 kz_0_6 kz_0_8)⟩
  refine ⟨(fun _ h => (by cases h)), [], trivial, ?_, (fun _ h => (by cases h))⟩
  rw [List.append_nil]
  exact List.forall_mem_cons.mpr ⟨⟨show (20 : Nat) < 100 from by decide, nf0⟩, (fun _ h => (by cases h))⟩
set_option maxHeartbeats 4000000 in
theorem vc_Sy_compileProduct_at_k4_2_0 (x11 : Int) (x13 : Int) (k11 : 4 ≤ x11 ∧ x11 ≤ 4) (k13 : 0 ≤ x13 ∧ x13 ≤ 0) : (0 ≤ x11) ∧ ((0 ≤ x13) ∧ (((x11 * 65536) + x13) ≤ 851970)) := by
  first
    | omega
  
def o_Sy_compileProduct_at_k4_2 : or_T := (69, 14, [(11, (0, 4, 4, [])), (13, (0, 0, 0, []))], [], [], [], [(20, [11, 13], [50, 0, 0, 2, 6, 0, 2, 0, 0, 1, 0, 2, 6, 0, 2, 0, 0, 1, 1, 0, 10, 4, 6, 6, 2, 1, 0, 0, 65536, 1, 1, 0, 851970])], [], [])
theorem oo_Sy_compileProduct_at_k4_2 {kA : Nat → ClassId} : or_ok PRD kA GG o_Sy_compileProduct_at_k4_2 := by
  refine or_mk fun A ta ws vs hD hth hl => ?_
  intro t11 k11 t13 k13
  have nf0 : fc_1 PRD (20, [11, 13], [50, 0, 0, 2, 6, 0, 2, 0, 0, 1, 0, 2, 6, 0, 2, 0, 0, 1, 1, 0, 10, 4, 6, 6, 2, 1, 0, 0, 65536, 1, 1, 0, 851970]) ws (vs) := ⟨nf_in hl rfl, sgq_487 (vc_Sy_compileProduct_at_k4_2_0 (v_iv (n_v vs 11)) (v_iv (n_v vs 13)) k11 k13)⟩
  refine ⟨(fun _ h => (by cases h)), [], trivial, ?_, (fun _ h => (by cases h))⟩
  rw [List.append_nil]
  exact List.forall_mem_cons.mpr ⟨⟨show (20 : Nat) < 100 from by decide, nf0⟩, (fun _ h => (by cases h))⟩
set_option maxHeartbeats 4000000 in
theorem vc_Sy_compileProduct_at_k4_3_0 (kind_0 : Int) (number_0 : Int) (f1 : (kind_0 ≠ 3) ∨ (number_0 ≤ 9999)) (kz_0_6 : 0 ≤ kind_0 ∧ kind_0 ≤ 127) (kz_0_8 : 0 ≤ number_0 ∧ number_0 ≤ 1000000) : (kind_0 ≠ 3) ∨ (number_0 ≤ 9999) := by
  first
    | omega
  
def o_Sy_compileProduct_at_k4_3 : or_T := (65, 14, [(0, (2, 0, 0, [11]))], [(24, [0, 3], []), (20, [3], [50, 2, 0, 6, 8, 3, 7, 7, 3, 2, 0, 6, 0, 3, 0, 3, 2, 0, 8, 0, 9999])], [], [], [(20, [0], [50, 2, 0, 6, 8, 3, 7, 7, 3, 2, 0, 6, 0, 3, 0, 3, 2, 0, 8, 0, 9999])], [], [])
theorem oo_Sy_compileProduct_at_k4_3 {kA : Nat → ClassId} : or_ok PRD kA GG o_Sy_compileProduct_at_k4_3 := by
  refine or_mk fun A ta ws vs hD hth hl => ?_
  intro t0 r0 f0 f1
  replace f0 := shm_5 f0
  replace f1 := shm_1747 f1
  have q3 : n_v vs 3 = n_v vs 0 := f0.symm
  simp only [q3] at f1
  have kz_0_6 := fdq_304 hD hth r0
  have kz_0_8 := fdq_305 hD hth r0
  have nf0 : fc_1 PRD (20, [0], [50, 2, 0, 6, 8, 3, 7, 7, 3, 2, 0, 6, 0, 3, 0, 3, 2, 0, 8, 0, 9999]) ws (vs) := ⟨nf_in hl rfl, sgq_1747 (vc_Sy_compileProduct_at_k4_3_0 (w_fi ws (n_v vs 0) 6) (w_fi ws (n_v vs 0) 8) f1 kz_0_6 kz_0_8)⟩
  refine ⟨(fun _ h => (by cases h)), [], trivial, ?_, (fun _ h => (by cases h))⟩
  rw [List.append_nil]
  exact List.forall_mem_cons.mpr ⟨⟨show (20 : Nat) < 100 from by decide, nf0⟩, (fun _ h => (by cases h))⟩
set_option maxHeartbeats 4000000 in
theorem vc_Sy_compileProduct_at_k4_4_0 (kind_0 : Int) (number_0 : Int) (f3 : (kind_0 ≠ 3) ∨ (number_0 ≤ 9999)) (kz_0_6 : 0 ≤ kind_0 ∧ kind_0 ≤ 127) (kz_0_8 : 0 ≤ number_0 ∧ number_0 ≤ 1000000) : (kind_0 ≠ 3) ∨ (number_0 ≤ 9999) := by
  first
    | omega
  
def o_Sy_compileProduct_at_k4_4 : or_T := (79, 12, [(0, (2, 0, 0, [11]))], [(20, [3], [50, 2, 0, 6, 8, 3, 7, 7, 3, 2, 0, 6, 0, 3, 0, 3, 2, 0, 8, 0, 9999]), (24, [0, 3], [])], [], [], [(20, [0], [50, 2, 0, 6, 8, 3, 7, 7, 3, 2, 0, 6, 0, 3, 0, 3, 2, 0, 8, 0, 9999])], [], [])
theorem oo_Sy_compileProduct_at_k4_4 {kA : Nat → ClassId} : or_ok PRD kA GG o_Sy_compileProduct_at_k4_4 := by
  refine or_mk fun A ta ws vs hD hth hl => ?_
  intro t0 r0 f3 f4
  replace f3 := shm_1747 f3
  replace f4 := shm_5 f4
  have q3 : n_v vs 3 = n_v vs 0 := f4.symm
  simp only [q3] at f3
  have kz_0_6 := fdq_304 hD hth r0
  have kz_0_8 := fdq_305 hD hth r0
  have nf0 : fc_1 PRD (20, [0], [50, 2, 0, 6, 8, 3, 7, 7, 3, 2, 0, 6, 0, 3, 0, 3, 2, 0, 8, 0, 9999]) ws (vs) := ⟨nf_in hl rfl, sgq_1747 (vc_Sy_compileProduct_at_k4_4_0 (w_fi ws (n_v vs 0) 6) (w_fi ws (n_v vs 0) 8) f3 kz_0_6 kz_0_8)⟩
  refine ⟨(fun _ h => (by cases h)), [], trivial, ?_, (fun _ h => (by cases h))⟩
  rw [List.append_nil]
  exact List.forall_mem_cons.mpr ⟨⟨show (20 : Nat) < 100 from by decide, nf0⟩, (fun _ h => (by cases h))⟩
set_option maxHeartbeats 4000000 in
theorem vc_Sy_compileProduct_at_k4_5_0 (x12 : Int) (x14 : Int) (k12 : 5 ≤ x12 ∧ x12 ≤ 5) (k14 : 0 ≤ x14 ∧ x14 ≤ 0) : (0 ≤ x12) ∧ ((0 ≤ x14) ∧ (((x12 * 65536) + x14) ≤ 851970)) := by
  first
    | omega
  
def o_Sy_compileProduct_at_k4_5 : or_T := (69, 15, [(12, (0, 5, 5, [])), (14, (0, 0, 0, []))], [], [], [], [(20, [12, 14], [50, 0, 0, 2, 6, 0, 2, 0, 0, 1, 0, 2, 6, 0, 2, 0, 0, 1, 1, 0, 10, 4, 6, 6, 2, 1, 0, 0, 65536, 1, 1, 0, 851970])], [], [])
theorem oo_Sy_compileProduct_at_k4_5 {kA : Nat → ClassId} : or_ok PRD kA GG o_Sy_compileProduct_at_k4_5 := by
  refine or_mk fun A ta ws vs hD hth hl => ?_
  intro t12 k12 t14 k14
  have nf0 : fc_1 PRD (20, [12, 14], [50, 0, 0, 2, 6, 0, 2, 0, 0, 1, 0, 2, 6, 0, 2, 0, 0, 1, 1, 0, 10, 4, 6, 6, 2, 1, 0, 0, 65536, 1, 1, 0, 851970]) ws (vs) := ⟨nf_in hl rfl, sgq_487 (vc_Sy_compileProduct_at_k4_5_0 (v_iv (n_v vs 12)) (v_iv (n_v vs 14)) k12 k14)⟩
  refine ⟨(fun _ h => (by cases h)), [], trivial, ?_, (fun _ h => (by cases h))⟩
  rw [List.append_nil]
  exact List.forall_mem_cons.mpr ⟨⟨show (20 : Nat) < 100 from by decide, nf0⟩, (fun _ h => (by cases h))⟩
set_option maxHeartbeats 4000000 in
theorem vc_Sy_compileProduct_at_k4_6_0 (kind_0 : Int) (number_0 : Int) (f1 : (kind_0 ≠ 3) ∨ (number_0 ≤ 9999)) (kz_0_6 : 0 ≤ kind_0 ∧ kind_0 ≤ 127) (kz_0_8 : 0 ≤ number_0 ∧ number_0 ≤ 1000000) : (kind_0 ≠ 3) ∨ (number_0 ≤ 9999) := by
  first
    | omega
  
def o_Sy_compileProduct_at_k4_6 : or_T := (65, 15, [(0, (2, 0, 0, [11]))], [(24, [0, 3], []), (20, [3], [50, 2, 0, 6, 8, 3, 7, 7, 3, 2, 0, 6, 0, 3, 0, 3, 2, 0, 8, 0, 9999])], [], [], [(20, [0], [50, 2, 0, 6, 8, 3, 7, 7, 3, 2, 0, 6, 0, 3, 0, 3, 2, 0, 8, 0, 9999])], [], [])
theorem oo_Sy_compileProduct_at_k4_6 {kA : Nat → ClassId} : or_ok PRD kA GG o_Sy_compileProduct_at_k4_6 := by
  refine or_mk fun A ta ws vs hD hth hl => ?_
  intro t0 r0 f0 f1
  replace f0 := shm_5 f0
  replace f1 := shm_1747 f1
  have q3 : n_v vs 3 = n_v vs 0 := f0.symm
  simp only [q3] at f1
  have kz_0_6 := fdq_304 hD hth r0
  have kz_0_8 := fdq_305 hD hth r0
  have nf0 : fc_1 PRD (20, [0], [50, 2, 0, 6, 8, 3, 7, 7, 3, 2, 0, 6, 0, 3, 0, 3, 2, 0, 8, 0, 9999]) ws (vs) := ⟨nf_in hl rfl, sgq_1747 (vc_Sy_compileProduct_at_k4_6_0 (w_fi ws (n_v vs 0) 6) (w_fi ws (n_v vs 0) 8) f1 kz_0_6 kz_0_8)⟩
  refine ⟨(fun _ h => (by cases h)), [], trivial, ?_, (fun _ h => (by cases h))⟩
  rw [List.append_nil]
  exact List.forall_mem_cons.mpr ⟨⟨show (20 : Nat) < 100 from by decide, nf0⟩, (fun _ h => (by cases h))⟩
def n_Sy_compileProduct_at_k4_an : List an_T := [(12, [(0, (2, 0, 0, [11])), (1, (0, 4, 4, [])), (2, (0, 0, 2000, []))], [], (0, 0), [(0, 0, 99988), (1, 5, 2000), (0, 0, 100000)], [], [((0, 3), (2, 0, 0, [109]))], [(2, 0, 0, [11]), (0, 4, 4, []), (2, 0, 0, [109])], 0, [], [(20, [3], [50, 2, 0, 6, 8, 3, 7, 7, 3, 2, 0, 6, 0, 3, 0, 3, 2, 0, 8, 0, 9999]), (24, [0, 3], [])])]
def t_Sy_compileProduct_at_k4_ct : ct_L := [(1, 69, e_Sy_advance), (1, 128, e_Sy_emit), (10, 158, e_Sy_compileValue_at_k4), (178, 158, e_Sy_compileValue_at_k4)]
set_option maxRecDepth 100000 in
theorem c_Sy_compileProduct_at_k4 {l : Launch} {D : va_G} {kA : Nat → ClassId} (h_Sy_advance : ct_ok PRD l D kA GG y_Sy_advance z_Sy_advance e_Sy_advance) (h_Sy_compileValue_at_k4 : ct_ok PRD l D kA GG y_Sy_compileValue_at_k4 z_Sy_compileValue_at_k4 e_Sy_compileValue_at_k4) (h_Sy_emit : ct_ok PRD l D kA GG y_Sy_emit z_Sy_emit e_Sy_emit) : ct_ok PRD l D kA GG y_Sy_compileProduct_at_k4 z_Sy_compileProduct_at_k4 e_Sy_compileProduct_at_k4 := chk_all_ok (FT := [(31, 11, 6)]) (PT := []) (CT := t_Sy_compileProduct_at_k4_ct) (KT := []) (NT := []) (AN := n_Sy_compileProduct_at_k4_an) (OT := [o_Sy_compileProduct_at_k4_0, o_Sy_compileProduct_at_k4_1, o_Sy_compileProduct_at_k4_2, o_Sy_compileProduct_at_k4_3, o_Sy_compileProduct_at_k4_4, o_Sy_compileProduct_at_k4_5, o_Sy_compileProduct_at_k4_6]) 3 268 (List.forall_mem_cons.mpr ⟨oo_Sy_compileProduct_at_k4_0, List.forall_mem_cons.mpr ⟨oo_Sy_compileProduct_at_k4_1, List.forall_mem_cons.mpr ⟨oo_Sy_compileProduct_at_k4_2, List.forall_mem_cons.mpr ⟨oo_Sy_compileProduct_at_k4_3, List.forall_mem_cons.mpr ⟨oo_Sy_compileProduct_at_k4_4, List.forall_mem_cons.mpr ⟨oo_Sy_compileProduct_at_k4_5, List.forall_mem_cons.mpr ⟨oo_Sy_compileProduct_at_k4_6, List.forall_mem_nil _⟩⟩⟩⟩⟩⟩⟩) (by decide +kernel) ⟨List.forall_mem_cons.mpr ⟨gf_Sy_31, List.forall_mem_nil _⟩, List.forall_mem_nil _, List.forall_mem_cons.mpr ⟨cl_virtual (y := y_Sy_advance) (ci := 11) rfl rfl ⟨_, _, rfl⟩ (by decide +kernel) h_Sy_advance wm_2158 wm_23 wm_2155 wm_2157 wv_10_10 ⟨by decide, by decide, by decide +kernel⟩ (by decide), List.forall_mem_cons.mpr ⟨cl_virtual (y := y_Sy_emit) (ci := 11) rfl rfl ⟨_, _, rfl⟩ (by decide +kernel) h_Sy_emit wm_2258 wm_23 wm_2255 wm_2257 wv_11_2 ⟨by decide, by decide, by decide +kernel⟩ (by decide), List.forall_mem_cons.mpr ⟨cl_virtual (y := y_Sy_compileValue_at_k4) (ci := 11) rfl rfl ⟨_, _, rfl⟩ (by decide +kernel) h_Sy_compileValue_at_k4 wm_2274 wm_23 wm_2271 wm_2273 wv_11_6 ⟨by decide, by decide, by decide +kernel⟩ (by decide), List.forall_mem_cons.mpr ⟨cl_virtual (y := y_Sy_compileValue_at_k4) (ci := 11) rfl rfl ⟨_, _, rfl⟩ (by decide +kernel) h_Sy_compileValue_at_k4 wm_2274 wm_23 wm_2271 wm_2273 wv_11_6 ⟨by decide, by decide, by decide +kernel⟩ (by decide), List.forall_mem_nil _⟩⟩⟩⟩, List.forall_mem_nil _, List.forall_mem_nil _, GG_pl⟩ (by decide +kernel)
def o_Sy_compileProduct_at_k5_0 : or_T := (12, 5, [], [], [], [], [(24, [0, 0], [])], [], [])
theorem oo_Sy_compileProduct_at_k5_0 {kA : Nat → ClassId} : or_ok PRD kA GG o_Sy_compileProduct_at_k5_0 := by
  refine or_mk fun A ta ws vs hD hth hl => ?_
  have nf0 : fc_1 PRD (24, [0, 0], []) ws (vs) := by
    refine ⟨nf_in hl rfl, sgq_1 ?_⟩
    · show n_v vs 0 = n_v vs 0
      first | rfl | simp only [true_and]
  refine ⟨(fun _ h => (by cases h)), [], trivial, ?_, (fun _ h => (by cases h))⟩
  rw [List.append_nil]
  exact List.forall_mem_cons.mpr ⟨⟨show (24 : Nat) < 100 from by decide, nf0⟩, (fun _ h => (by cases h))⟩
set_option maxHeartbeats 4000000 in
theorem vc_Sy_compileProduct_at_k5_1_0 (kind_0 : Int) (number_0 : Int) (f0 : (kind_0 ≠ 3) ∨ (number_0 ≤ 9999)) (kz_0_6 : 0 ≤ kind_0 ∧ kind_0 ≤ 127) (kz_0_8 : 0 ≤ number_0 ∧ number_0 ≤ 1000000) : (kind_0 ≠ 3) ∨ (number_0 ≤ 9999) := by
  first
    | omega
  
def o_Sy_compileProduct_at_k5_1 : or_T := (79, 9, [(0, (2, 0, 0, [11]))], [(20, [3], [50, 2, 0, 6, 8, 3, 7, 7, 3, 2, 0, 6, 0, 3, 0, 3, 2, 0, 8, 0, 9999]), (24, [0, 3], [])], [], [], [(20, [0], [50, 2, 0, 6, 8, 3, 7, 7, 3, 2, 0, 6, 0, 3, 0, 3, 2, 0, 8, 0, 9999])], [], [])
theorem oo_Sy_compileProduct_at_k5_1 {kA : Nat → ClassId} : or_ok PRD kA GG o_Sy_compileProduct_at_k5_1 := by
  refine or_mk fun A ta ws vs hD hth hl => ?_
  intro t0 r0 f0 f1
  replace f0 := shm_1747 f0
  replace f1 := shm_5 f1
  have q3 : n_v vs 3 = n_v vs 0 := f1.symm
  simp only [q3] at f0
  have kz_0_6 := fdq_304 hD hth r0
  have kz_0_8 := fdq_305 hD hth r0
  have nf0 : fc_1 PRD (20, [0], [50, 2, 0, 6, 8, 3, 7, 7, 3, 2, 0, 6, 0, 3, 0, 3, 2, 0, 8, 0, 9999]) ws (vs) := ⟨nf_in hl rfl, sgq_1747 (vc_Sy_compileProduct_at_k5_1_0 (w_fi ws (n_v vs 0) 6) (w_fi ws (n_v vs 0) 8) f0 kz_0_6 kz_0_8)⟩
  refine ⟨(fun _ h => (by cases h)), [], trivial, ?_, (fun _ h => (by cases h))⟩
  rw [List.append_nil]
  exact List.forall_mem_cons.mpr ⟨⟨show (20 : Nat) < 100 from by decide, nf0⟩, (fun _ h => (by cases h))⟩
set_option maxHeartbeats 4000000 in
theorem vc_Sy_compileProduct_at_k5_2_0 (x11 : Int) (x13 : Int) (k11 : 4 ≤ x11 ∧ x11 ≤ 4) (k13 : 0 ≤ x13 ∧ x13 ≤ 0) : (0 ≤ x11) ∧ ((0 ≤ x13) ∧ (((x11 * 65536) + x13) ≤ 851970)) := by
  first
    | omega
  
def o_Sy_compileProduct_at_k5_2 : or_T := (69, 14, [(11, (0, 4, 4, [])), (13, (0, 0, 0, []))], [], [], [], [(20, [11, 13], [50, 0, 0, 2, 6, 0, 2, 0, 0, 1, 0, 2, 6, 0, 2, 0, 0, 1, 1, 0, 10, 4, 6, 6, 2, 1, 0, 0, 65536, 1, 1, 0, 851970])], [], [])
theorem oo_Sy_compileProduct_at_k5_2 {kA : Nat → ClassId} : or_ok PRD kA GG o_Sy_compileProduct_at_k5_2 := by
  refine or_mk fun A ta ws vs hD hth hl => ?_
  intro t11 k11 t13 k13
  have nf0 : fc_1 PRD (20, [11, 13], [50, 0, 0, 2, 6, 0, 2, 0, 0, 1, 0, 2, 6, 0, 2, 0, 0, 1, 1, 0, 10, 4, 6, 6, 2, 1, 0, 0, 65536, 1, 1, 0, 851970]) ws (vs) := ⟨nf_in hl rfl, sgq_487 (vc_Sy_compileProduct_at_k5_2_0 (v_iv (n_v vs 11)) (v_iv (n_v vs 13)) k11 k13)⟩
  refine ⟨(fun _ h => (by cases h)), [], trivial, ?_, (fun _ h => (by cases h))⟩
  rw [List.append_nil]
  exact List.forall_mem_cons.mpr ⟨⟨show (20 : Nat) < 100 from by decide, nf0⟩, (fun _ h => (by cases h))⟩
set_option maxHeartbeats 4000000 in
theorem vc_Sy_compileProduct_at_k5_3_0 (kind_0 : Int) (number_0 : Int) (f1 : (kind_0 ≠ 3) ∨ (number_0 ≤ 9999)) (kz_0_6 : 0 ≤ kind_0 ∧ kind_0 ≤ 127) (kz_0_8 : 0 ≤ number_0 ∧ number_0 ≤ 1000000) : (kind_0 ≠ 3) ∨ (number_0 ≤ 9999) := by
  first
    | omega
  
def o_Sy_compileProduct_at_k5_3 : or_T := (65, 14, [(0, (2, 0, 0, [11]))], [(24, [0, 3], []), (20, [3], [50, 2, 0, 6, 8, 3, 7, 7, 3, 2, 0, 6, 0, 3, 0, 3, 2, 0, 8, 0, 9999])], [], [], [(20, [0], [50, 2, 0, 6, 8, 3, 7, 7, 3, 2, 0, 6, 0, 3, 0, 3, 2, 0, 8, 0, 9999])], [], [])
theorem oo_Sy_compileProduct_at_k5_3 {kA : Nat → ClassId} : or_ok PRD kA GG o_Sy_compileProduct_at_k5_3 := by
  refine or_mk fun A ta ws vs hD hth hl => ?_
  intro t0 r0 f0 f1
  replace f0 := shm_5 f0
  replace f1 := shm_1747 f1
  have q3 : n_v vs 3 = n_v vs 0 := f0.symm
  simp only [q3] at f1
  have kz_0_6 := fdq_304 hD hth r0
  have kz_0_8 := fdq_305 hD hth r0
  have nf0 : fc_1 PRD (20, [0], [50, 2, 0, 6, 8, 3, 7, 7, 3, 2, 0, 6, 0, 3, 0, 3, 2, 0, 8, 0, 9999]) ws (vs) := ⟨nf_in hl rfl, sgq_1747 (vc_Sy_compileProduct_at_k5_3_0 (w_fi ws (n_v vs 0) 6) (w_fi ws (n_v vs 0) 8) f1 kz_0_6 kz_0_8)⟩
  refine ⟨(fun _ h => (by cases h)), [], trivial, ?_, (fun _ h => (by cases h))⟩
  rw [List.append_nil]
  exact List.forall_mem_cons.mpr ⟨⟨show (20 : Nat) < 100 from by decide, nf0⟩, (fun _ h => (by cases h))⟩
set_option maxHeartbeats 4000000 in
theorem vc_Sy_compileProduct_at_k5_4_0 (kind_0 : Int) (number_0 : Int) (f3 : (kind_0 ≠ 3) ∨ (number_0 ≤ 9999)) (kz_0_6 : 0 ≤ kind_0 ∧ kind_0 ≤ 127) (kz_0_8 : 0 ≤ number_0 ∧ number_0 ≤ 1000000) : (kind_0 ≠ 3) ∨ (number_0 ≤ 9999) := by
  first
    | omega
  
def o_Sy_compileProduct_at_k5_4 : or_T := (79, 12, [(0, (2, 0, 0, [11]))], [(20, [3], [50, 2, 0, 6, 8, 3, 7, 7, 3, 2, 0, 6, 0, 3, 0, 3, 2, 0, 8, 0, 9999]), (24, [0, 3], [])], [], [], [(20, [0], [50, 2, 0, 6, 8, 3, 7, 7, 3, 2, 0, 6, 0, 3, 0, 3, 2, 0, 8, 0, 9999])], [], [])
theorem oo_Sy_compileProduct_at_k5_4 {kA : Nat → ClassId} : or_ok PRD kA GG o_Sy_compileProduct_at_k5_4 := by
  refine or_mk fun A ta ws vs hD hth hl => ?_
  intro t0 r0 f3 f4
  replace f3 := shm_1747 f3
  replace f4 := shm_5 f4
  have q3 : n_v vs 3 = n_v vs 0 := f4.symm
  simp only [q3] at f3
  have kz_0_6 := fdq_304 hD hth r0
  have kz_0_8 := fdq_305 hD hth r0
  have nf0 : fc_1 PRD (20, [0], [50, 2, 0, 6, 8, 3, 7, 7, 3, 2, 0, 6, 0, 3, 0, 3, 2, 0, 8, 0, 9999]) ws (vs) := ⟨nf_in hl rfl, sgq_1747 (vc_Sy_compileProduct_at_k5_4_0 (w_fi ws (n_v vs 0) 6) (w_fi ws (n_v vs 0) 8) f3 kz_0_6 kz_0_8)⟩
  refine ⟨(fun _ h => (by cases h)), [], trivial, ?_, (fun _ h => (by cases h))⟩
  rw [List.append_nil]
  exact List.forall_mem_cons.mpr ⟨⟨show (20 : Nat) < 100 from by decide, nf0⟩, (fun _ h => (by cases h))⟩
set_option maxHeartbeats 4000000 in
theorem vc_Sy_compileProduct_at_k5_5_0 (x12 : Int) (x14 : Int) (k12 : 5 ≤ x12 ∧ x12 ≤ 5) (k14 : 0 ≤ x14 ∧ x14 ≤ 0) : (0 ≤ x12) ∧ ((0 ≤ x14) ∧ (((x12 * 65536) + x14) ≤ 851970)) := by
  first
    | omega
  
def o_Sy_compileProduct_at_k5_5 : or_T := (69, 15, [(12, (0, 5, 5, [])), (14, (0, 0, 0, []))], [], [], [], [(20, [12, 14], [50, 0, 0, 2, 6, 0, 2, 0, 0, 1, 0, 2, 6, 0, 2, 0, 0, 1, 1, 0, 10, 4, 6, 6, 2, 1, 0, 0, 65536, 1, 1, 0, 851970])], [], [])
theorem oo_Sy_compileProduct_at_k5_5 {kA : Nat → ClassId} : or_ok PRD kA GG o_Sy_compileProduct_at_k5_5 := by
  refine or_mk fun A ta ws vs hD hth hl => ?_
  intro t12 k12 t14 k14
  have nf0 : fc_1 PRD (20, [12, 14], [50, 0, 0, 2, 6, 0, 2, 0, 0, 1, 0, 2, 6, 0, 2, 0, 0, 1, 1, 0, 10, 4, 6, 6, 2, 1, 0, 0, 65536, 1, 1, 0, 851970]) ws (vs) := ⟨nf_in hl rfl, sgq_487 (vc_Sy_compileProduct_at_k5_5_0 (v_iv (n_v vs 12)) (v_iv (n_v vs 14)) k12 k14)⟩
  refine ⟨(fun _ h => (by cases h)), [], trivial, ?_, (fun _ h => (by cases h))⟩
  rw [List.append_nil]
  exact List.forall_mem_cons.mpr ⟨⟨show (20 : Nat) < 100 from by decide, nf0⟩, (fun _ h => (by cases h))⟩
set_option maxHeartbeats 4000000 in
theorem vc_Sy_compileProduct_at_k5_6_0 (kind_0 : Int) (number_0 : Int) (f1 : (kind_0 ≠ 3) ∨ (number_0 ≤ 9999)) (kz_0_6 : 0 ≤ kind_0 ∧ kind_0 ≤ 127) (kz_0_8 : 0 ≤ number_0 ∧ number_0 ≤ 1000000) : (kind_0 ≠ 3) ∨ (number_0 ≤ 9999) := by
  first
    | omega
  
def o_Sy_compileProduct_at_k5_6 : or_T := (65, 15, [(0, (2, 0, 0, [11]))], [(24, [0, 3], []), (20, [3], [50, 2, 0, 6, 8, 3, 7, 7, 3, 2, 0, 6, 0, 3, 0, 3, 2, 0, 8, 0, 9999])], [], [], [(20, [0], [50, 2, 0, 6, 8, 3, 7, 7, 3, 2, 0, 6, 0, 3, 0, 3, 2, 0, 8, 0, 9999])], [], [])
theorem oo_Sy_compileProduct_at_k5_6 {kA : Nat → ClassId} : or_ok PRD kA GG o_Sy_compileProduct_at_k5_6 := by
  refine or_mk fun A ta ws vs hD hth hl => ?_
  intro t0 r0 f0 f1
  replace f0 := shm_5 f0
  replace f1 := shm_1747 f1
  have q3 : n_v vs 3 = n_v vs 0 := f0.symm
  simp only [q3] at f1
  have kz_0_6 := fdq_304 hD hth r0
  have kz_0_8 := fdq_305 hD hth r0
  have nf0 : fc_1 PRD (20, [0], [50, 2, 0, 6, 8, 3, 7, 7, 3, 2, 0, 6, 0, 3, 0, 3, 2, 0, 8, 0, 9999]) ws (vs) := ⟨nf_in hl rfl, sgq_1747 (vc_Sy_compileProduct_at_k5_6_0 (w_fi ws (n_v vs 0) 6) (w_fi ws (n_v vs 0) 8) f1 kz_0_6 kz_0_8)⟩
  refine ⟨(fun _ h => (by cases h)), [], trivial, ?_, (fun _ h => (by cases h))⟩
  rw [List.append_nil]
  exact List.forall_mem_cons.mpr ⟨⟨show (20 : Nat) < 100 from by decide, nf0⟩, (fun _ h => (by cases h))⟩
def n_Sy_compileProduct_at_k5_an : List an_T := [(12, [(0, (2, 0, 0, [11])), (1, (0, 5, 5, [])), (2, (0, 0, 2000, []))], [], (0, 0), [(0, 0, 99988), (1, 5, 2000), (0, 0, 100000)], [], [((0, 3), (2, 0, 0, [109]))], [(2, 0, 0, [11]), (0, 5, 5, []), (2, 0, 0, [109])], 0, [], [(20, [3], [50, 2, 0, 6, 8, 3, 7, 7, 3, 2, 0, 6, 0, 3, 0, 3, 2, 0, 8, 0, 9999]), (24, [0, 3], [])])]
def t_Sy_compileProduct_at_k5_ct : ct_L := [(1, 69, e_Sy_advance), (1, 128, e_Sy_emit), (10, 158, e_Sy_compileValue_at_k5), (178, 158, e_Sy_compileValue_at_k5)]
set_option maxRecDepth 100000 in
theorem c_Sy_compileProduct_at_k5 {l : Launch} {D : va_G} {kA : Nat → ClassId} (h_Sy_advance : ct_ok PRD l D kA GG y_Sy_advance z_Sy_advance e_Sy_advance) (h_Sy_compileValue_at_k5 : ct_ok PRD l D kA GG y_Sy_compileValue_at_k5 z_Sy_compileValue_at_k5 e_Sy_compileValue_at_k5) (h_Sy_emit : ct_ok PRD l D kA GG y_Sy_emit z_Sy_emit e_Sy_emit) : ct_ok PRD l D kA GG y_Sy_compileProduct_at_k5 z_Sy_compileProduct_at_k5 e_Sy_compileProduct_at_k5 := chk_all_ok (FT := [(31, 11, 6)]) (PT := []) (CT := t_Sy_compileProduct_at_k5_ct) (KT := []) (NT := []) (AN := n_Sy_compileProduct_at_k5_an) (OT := [o_Sy_compileProduct_at_k5_0, o_Sy_compileProduct_at_k5_1, o_Sy_compileProduct_at_k5_2, o_Sy_compileProduct_at_k5_3, o_Sy_compileProduct_at_k5_4, o_Sy_compileProduct_at_k5_5, o_Sy_compileProduct_at_k5_6]) 3 268 (List.forall_mem_cons.mpr ⟨oo_Sy_compileProduct_at_k5_0, List.forall_mem_cons.mpr ⟨oo_Sy_compileProduct_at_k5_1, List.forall_mem_cons.mpr ⟨oo_Sy_compileProduct_at_k5_2, List.forall_mem_cons.mpr ⟨oo_Sy_compileProduct_at_k5_3, List.forall_mem_cons.mpr ⟨oo_Sy_compileProduct_at_k5_4, List.forall_mem_cons.mpr ⟨oo_Sy_compileProduct_at_k5_5, List.forall_mem_cons.mpr ⟨oo_Sy_compileProduct_at_k5_6, List.forall_mem_nil _⟩⟩⟩⟩⟩⟩⟩) (by decide +kernel) ⟨List.forall_mem_cons.mpr ⟨gf_Sy_31, List.forall_mem_nil _⟩, List.forall_mem_nil _, List.forall_mem_cons.mpr ⟨cl_virtual (y := y_Sy_advance) (ci := 11) rfl rfl ⟨_, _, rfl⟩ (by decide +kernel) h_Sy_advance wm_2158 wm_23 wm_2155 wm_2157 wv_10_10 ⟨by decide, by decide, by decide +kernel⟩ (by decide), List.forall_mem_cons.mpr ⟨cl_virtual (y := y_Sy_emit) (ci := 11) rfl rfl ⟨_, _, rfl⟩ (by decide +kernel) h_Sy_emit wm_2258 wm_23 wm_2255 wm_2257 wv_11_2 ⟨by decide, by decide, by decide +kernel⟩ (by decide), List.forall_mem_cons.mpr ⟨cl_virtual (y := y_Sy_compileValue_at_k5) (ci := 11) rfl rfl ⟨_, _, rfl⟩ (by decide +kernel) h_Sy_compileValue_at_k5 wm_2274 wm_23 wm_2271 wm_2273 wv_11_6 ⟨by decide, by decide, by decide +kernel⟩ (by decide), List.forall_mem_cons.mpr ⟨cl_virtual (y := y_Sy_compileValue_at_k5) (ci := 11) rfl rfl ⟨_, _, rfl⟩ (by decide +kernel) h_Sy_compileValue_at_k5 wm_2274 wm_23 wm_2271 wm_2273 wv_11_6 ⟨by decide, by decide, by decide +kernel⟩ (by decide), List.forall_mem_nil _⟩⟩⟩⟩, List.forall_mem_nil _, List.forall_mem_nil _, GG_pl⟩ (by decide +kernel)
def o_Sy_compileProduct_at_k6_0 : or_T := (12, 5, [], [], [], [], [(24, [0, 0], [])], [], [])
theorem oo_Sy_compileProduct_at_k6_0 {kA : Nat → ClassId} : or_ok PRD kA GG o_Sy_compileProduct_at_k6_0 := by
  refine or_mk fun A ta ws vs hD hth hl => ?_
  have nf0 : fc_1 PRD (24, [0, 0], []) ws (vs) := by
    refine ⟨nf_in hl rfl, sgq_1 ?_⟩
    · show n_v vs 0 = n_v vs 0
      first | rfl | simp only [true_and]
  refine ⟨(fun _ h => (by cases h)), [], trivial, ?_, (fun _ h => (by cases h))⟩
  rw [List.append_nil]
  exact List.forall_mem_cons.mpr ⟨⟨show (24 : Nat) < 100 from by decide, nf0⟩, (fun _ h => (by cases h))⟩
set_option maxHeartbeats 4000000 in
theorem vc_Sy_compileProduct_at_k6_1_0 (kind_0 : Int) (number_0 : Int) (f0 : (kind_0 ≠ 3) ∨ (number_0 ≤ 9999)) (kz_0_6 : 0 ≤ kind_0 ∧ kind_0 ≤ 127) (kz_0_8 : 0 ≤ number_0 ∧ number_0 ≤ 1000000) : (kind_0 ≠ 3) ∨ (number_0 ≤ 9999) := by
  first
    | omega
  
def o_Sy_compileProduct_at_k6_1 : or_T := (79, 9, [(0, (2, 0, 0, [11]))], [(20, [3], [50, 2, 0, 6, 8, 3, 7, 7, 3, 2, 0, 6, 0, 3, 0, 3, 2, 0, 8, 0, 9999]), (24, [0, 3], [])], [], [], [(20, [0], [50, 2, 0, 6, 8, 3, 7, 7, 3, 2, 0, 6, 0, 3, 0, 3, 2, 0, 8, 0, 9999])], [], [])
theorem oo_Sy_compileProduct_at_k6_1 {kA : Nat → ClassId} : or_ok PRD kA GG o_Sy_compileProduct_at_k6_1 := by
  refine or_mk fun A ta ws vs hD hth hl => ?_
  intro t0 r0 f0 f1
  replace f0 := shm_1747 f0
  replace f1 := shm_5 f1
  have q3 : n_v vs 3 = n_v vs 0 := f1.symm
  simp only [q3] at f0
  have kz_0_6 := fdq_304 hD hth r0
  have kz_0_8 := fdq_305 hD hth r0
  have nf0 : fc_1 PRD (20, [0], [50, 2, 0, 6, 8, 3, 7, 7, 3, 2, 0, 6, 0, 3, 0, 3, 2, 0, 8, 0, 9999]) ws (vs) := ⟨nf_in hl rfl, sgq_1747 (vc_Sy_compileProduct_at_k6_1_0 (w_fi ws (n_v vs 0) 6) (w_fi ws (n_v vs 0) 8) f0 kz_0_6 kz_0_8)⟩
  refine ⟨(fun _ h => (by cases h)), [], trivial, ?_, (fun _ h => (by cases h))⟩
  rw [List.append_nil]
  exact List.forall_mem_cons.mpr ⟨⟨show (20 : Nat) < 100 from by decide, nf0⟩, (fun _ h => (by cases h))⟩
set_option maxHeartbeats 4000000 in
theorem vc_Sy_compileProduct_at_k6_2_0 (x11 : Int) (x13 : Int) (k11 : 4 ≤ x11 ∧ x11 ≤ 4) (k13 : 0 ≤ x13 ∧ x13 ≤ 0) : (0 ≤ x11) ∧ ((0 ≤ x13) ∧ (((x11 * 65536) + x13) ≤ 851970)) := by
  first
    | omega
  
def o_Sy_compileProduct_at_k6_2 : or_T := (69, 14, [(11, (0, 4, 4, [])), (13, (0, 0, 0, []))], [], [], [], [(20, [11, 13], [50, 0, 0, 2, 6, 0, 2, 0, 0, 1, 0, 2, 6, 0, 2, 0, 0, 1, 1, 0, 10, 4, 6, 6, 2, 1, 0, 0, 65536, 1, 1, 0, 851970])], [], [])
theorem oo_Sy_compileProduct_at_k6_2 {kA : Nat → ClassId} : or_ok PRD kA GG o_Sy_compileProduct_at_k6_2 := by
  refine or_mk fun A ta ws vs hD hth hl => ?_
  intro t11 k11 t13 k13
  have nf0 : fc_1 PRD (20, [11, 13], [50, 0, 0, 2, 6, 0, 2, 0, 0, 1, 0, 2, 6, 0, 2, 0, 0, 1, 1, 0, 10, 4, 6, 6, 2, 1, 0, 0, 65536, 1, 1, 0, 851970]) ws (vs) := ⟨nf_in hl rfl, sgq_487 (vc_Sy_compileProduct_at_k6_2_0 (v_iv (n_v vs 11)) (v_iv (n_v vs 13)) k11 k13)⟩
  refine ⟨(fun _ h => (by cases h)), [], trivial, ?_, (fun _ h => (by cases h))⟩
  rw [List.append_nil]
  exact List.forall_mem_cons.mpr ⟨⟨show (20 : Nat) < 100 from by decide, nf0⟩, (fun _ h => (by cases h))⟩
set_option maxHeartbeats 4000000 in
theorem vc_Sy_compileProduct_at_k6_3_0 (kind_0 : Int) (number_0 : Int) (f1 : (kind_0 ≠ 3) ∨ (number_0 ≤ 9999)) (kz_0_6 : 0 ≤ kind_0 ∧ kind_0 ≤ 127) (kz_0_8 : 0 ≤ number_0 ∧ number_0 ≤ 1000000) : (kind_0 ≠ 3) ∨ (number_0 ≤ 9999) := by
  first
    | omega
  
def o_Sy_compileProduct_at_k6_3 : or_T := (65, 14, [(0, (2, 0, 0, [11]))], [(24, [0, 3], []), (20, [3], [50, 2, 0, 6, 8, 3, 7, 7, 3, 2, 0, 6, 0, 3, 0, 3, 2, 0, 8, 0, 9999])], [], [], [(20, [0], [50, 2, 0, 6, 8, 3, 7, 7, 3, 2, 0, 6, 0, 3, 0, 3, 2, 0, 8, 0, 9999])], [], [])
theorem oo_Sy_compileProduct_at_k6_3 {kA : Nat → ClassId} : or_ok PRD kA GG o_Sy_compileProduct_at_k6_3 := by
  refine or_mk fun A ta ws vs hD hth hl => ?_
  intro t0 r0 f0 f1
  replace f0 := shm_5 f0
  replace f1 := shm_1747 f1
  have q3 : n_v vs 3 = n_v vs 0 := f0.symm
  simp only [q3] at f1
  have kz_0_6 := fdq_304 hD hth r0
  have kz_0_8 := fdq_305 hD hth r0
  have nf0 : fc_1 PRD (20, [0], [50, 2, 0, 6, 8, 3, 7, 7, 3, 2, 0, 6, 0, 3, 0, 3, 2, 0, 8, 0, 9999]) ws (vs) := ⟨nf_in hl rfl, sgq_1747 (vc_Sy_compileProduct_at_k6_3_0 (w_fi ws (n_v vs 0) 6) (w_fi ws (n_v vs 0) 8) f1 kz_0_6 kz_0_8)⟩
  refine ⟨(fun _ h => (by cases h)), [], trivial, ?_, (fun _ h => (by cases h))⟩
  rw [List.append_nil]
  exact List.forall_mem_cons.mpr ⟨⟨show (20 : Nat) < 100 from by decide, nf0⟩, (fun _ h => (by cases h))⟩
set_option maxHeartbeats 4000000 in
theorem vc_Sy_compileProduct_at_k6_4_0 (kind_0 : Int) (number_0 : Int) (f3 : (kind_0 ≠ 3) ∨ (number_0 ≤ 9999)) (kz_0_6 : 0 ≤ kind_0 ∧ kind_0 ≤ 127) (kz_0_8 : 0 ≤ number_0 ∧ number_0 ≤ 1000000) : (kind_0 ≠ 3) ∨ (number_0 ≤ 9999) := by
  first
    | omega
  
def o_Sy_compileProduct_at_k6_4 : or_T := (79, 12, [(0, (2, 0, 0, [11]))], [(20, [3], [50, 2, 0, 6, 8, 3, 7, 7, 3, 2, 0, 6, 0, 3, 0, 3, 2, 0, 8, 0, 9999]), (24, [0, 3], [])], [], [], [(20, [0], [50, 2, 0, 6, 8, 3, 7, 7, 3, 2, 0, 6, 0, 3, 0, 3, 2, 0, 8, 0, 9999])], [], [])
theorem oo_Sy_compileProduct_at_k6_4 {kA : Nat → ClassId} : or_ok PRD kA GG o_Sy_compileProduct_at_k6_4 := by
  refine or_mk fun A ta ws vs hD hth hl => ?_
  intro t0 r0 f3 f4
  replace f3 := shm_1747 f3
  replace f4 := shm_5 f4
  have q3 : n_v vs 3 = n_v vs 0 := f4.symm
  simp only [q3] at f3
  have kz_0_6 := fdq_304 hD hth r0
  have kz_0_8 := fdq_305 hD hth r0
  have nf0 : fc_1 PRD (20, [0], [50, 2, 0, 6, 8, 3, 7, 7, 3, 2, 0, 6, 0, 3, 0, 3, 2, 0, 8, 0, 9999]) ws (vs) := ⟨nf_in hl rfl, sgq_1747 (vc_Sy_compileProduct_at_k6_4_0 (w_fi ws (n_v vs 0) 6) (w_fi ws (n_v vs 0) 8) f3 kz_0_6 kz_0_8)⟩
  refine ⟨(fun _ h => (by cases h)), [], trivial, ?_, (fun _ h => (by cases h))⟩
  rw [List.append_nil]
  exact List.forall_mem_cons.mpr ⟨⟨show (20 : Nat) < 100 from by decide, nf0⟩, (fun _ h => (by cases h))⟩
set_option maxHeartbeats 4000000 in
theorem vc_Sy_compileProduct_at_k6_5_0 (x12 : Int) (x14 : Int) (k12 : 5 ≤ x12 ∧ x12 ≤ 5) (k14 : 0 ≤ x14 ∧ x14 ≤ 0) : (0 ≤ x12) ∧ ((0 ≤ x14) ∧ (((x12 * 65536) + x14) ≤ 851970)) := by
  first
    | omega
  
def o_Sy_compileProduct_at_k6_5 : or_T := (69, 15, [(12, (0, 5, 5, [])), (14, (0, 0, 0, []))], [], [], [], [(20, [12, 14], [50, 0, 0, 2, 6, 0, 2, 0, 0, 1, 0, 2, 6, 0, 2, 0, 0, 1, 1, 0, 10, 4, 6, 6, 2, 1, 0, 0, 65536, 1, 1, 0, 851970])], [], [])
theorem oo_Sy_compileProduct_at_k6_5 {kA : Nat → ClassId} : or_ok PRD kA GG o_Sy_compileProduct_at_k6_5 := by
  refine or_mk fun A ta ws vs hD hth hl => ?_
  intro t12 k12 t14 k14
  have nf0 : fc_1 PRD (20, [12, 14], [50, 0, 0, 2, 6, 0, 2, 0, 0, 1, 0, 2, 6, 0, 2, 0, 0, 1, 1, 0, 10, 4, 6, 6, 2, 1, 0, 0, 65536, 1, 1, 0, 851970]) ws (vs) := ⟨nf_in hl rfl, sgq_487 (vc_Sy_compileProduct_at_k6_5_0 (v_iv (n_v vs 12)) (v_iv (n_v vs 14)) k12 k14)⟩
  refine ⟨(fun _ h => (by cases h)), [], trivial, ?_, (fun _ h => (by cases h))⟩
  rw [List.append_nil]
  exact List.forall_mem_cons.mpr ⟨⟨show (20 : Nat) < 100 from by decide, nf0⟩, (fun _ h => (by cases h))⟩
set_option maxHeartbeats 4000000 in
theorem vc_Sy_compileProduct_at_k6_6_0 (kind_0 : Int) (number_0 : Int) (f1 : (kind_0 ≠ 3) ∨ (number_0 ≤ 9999)) (kz_0_6 : 0 ≤ kind_0 ∧ kind_0 ≤ 127) (kz_0_8 : 0 ≤ number_0 ∧ number_0 ≤ 1000000) : (kind_0 ≠ 3) ∨ (number_0 ≤ 9999) := by
  first
    | omega
  
def o_Sy_compileProduct_at_k6_6 : or_T := (65, 15, [(0, (2, 0, 0, [11]))], [(24, [0, 3], []), (20, [3], [50, 2, 0, 6, 8, 3, 7, 7, 3, 2, 0, 6, 0, 3, 0, 3, 2, 0, 8, 0, 9999])], [], [], [(20, [0], [50, 2, 0, 6, 8, 3, 7, 7, 3, 2, 0, 6, 0, 3, 0, 3, 2, 0, 8, 0, 9999])], [], [])
theorem oo_Sy_compileProduct_at_k6_6 {kA : Nat → ClassId} : or_ok PRD kA GG o_Sy_compileProduct_at_k6_6 := by
  refine or_mk fun A ta ws vs hD hth hl => ?_
  intro t0 r0 f0 f1
  replace f0 := shm_5 f0
  replace f1 := shm_1747 f1
  have q3 : n_v vs 3 = n_v vs 0 := f0.symm
  simp only [q3] at f1
  have kz_0_6 := fdq_304 hD hth r0
  have kz_0_8 := fdq_305 hD hth r0
  have nf0 : fc_1 PRD (20, [0], [50, 2, 0, 6, 8, 3, 7, 7, 3, 2, 0, 6, 0, 3, 0, 3, 2, 0, 8, 0, 9999]) ws (vs) := ⟨nf_in hl rfl, sgq_1747 (vc_Sy_compileProduct_at_k6_6_0 (w_fi ws (n_v vs 0) 6) (w_fi ws (n_v vs 0) 8) f1 kz_0_6 kz_0_8)⟩
  refine ⟨(fun _ h => (by cases h)), [], trivial, ?_, (fun _ h => (by cases h))⟩
  rw [List.append_nil]
  exact List.forall_mem_cons.mpr ⟨⟨show (20 : Nat) < 100 from by decide, nf0⟩, (fun _ h => (by cases h))⟩
def n_Sy_compileProduct_at_k6_an : List an_T := [(12, [(0, (2, 0, 0, [11])), (1, (0, 6, 6, [])), (2, (0, 0, 2000, []))], [], (0, 0), [(0, 0, 99988), (1, 5, 2000), (0, 0, 100000)], [], [((0, 3), (2, 0, 0, [109]))], [(2, 0, 0, [11]), (0, 6, 6, []), (2, 0, 0, [109])], 0, [], [(20, [3], [50, 2, 0, 6, 8, 3, 7, 7, 3, 2, 0, 6, 0, 3, 0, 3, 2, 0, 8, 0, 9999]), (24, [0, 3], [])])]
def t_Sy_compileProduct_at_k6_ct : ct_L := [(1, 69, e_Sy_advance), (1, 128, e_Sy_emit), (10, 158, e_Sy_compileValue_at_k6), (178, 158, e_Sy_compileValue_at_k6)]
set_option maxRecDepth 100000 in
theorem c_Sy_compileProduct_at_k6 {l : Launch} {D : va_G} {kA : Nat → ClassId} (h_Sy_advance : ct_ok PRD l D kA GG y_Sy_advance z_Sy_advance e_Sy_advance) (h_Sy_compileValue_at_k6 : ct_ok PRD l D kA GG y_Sy_compileValue_at_k6 z_Sy_compileValue_at_k6 e_Sy_compileValue_at_k6) (h_Sy_emit : ct_ok PRD l D kA GG y_Sy_emit z_Sy_emit e_Sy_emit) : ct_ok PRD l D kA GG y_Sy_compileProduct_at_k6 z_Sy_compileProduct_at_k6 e_Sy_compileProduct_at_k6 := chk_all_ok (FT := [(31, 11, 6)]) (PT := []) (CT := t_Sy_compileProduct_at_k6_ct) (KT := []) (NT := []) (AN := n_Sy_compileProduct_at_k6_an) (OT := [o_Sy_compileProduct_at_k6_0, o_Sy_compileProduct_at_k6_1, o_Sy_compileProduct_at_k6_2, o_Sy_compileProduct_at_k6_3, o_Sy_compileProduct_at_k6_4, o_Sy_compileProduct_at_k6_5, o_Sy_compileProduct_at_k6_6]) 3 268 (List.forall_mem_cons.mpr ⟨oo_Sy_compileProduct_at_k6_0, List.forall_mem_cons.mpr ⟨oo_Sy_compileProduct_at_k6_1, List.forall_mem_cons.mpr ⟨oo_Sy_compileProduct_at_k6_2, List.forall_mem_cons.mpr ⟨oo_Sy_compileProduct_at_k6_3, List.forall_mem_cons.mpr ⟨oo_Sy_compileProduct_at_k6_4, List.forall_mem_cons.mpr ⟨oo_Sy_compileProduct_at_k6_5, List.forall_mem_cons.mpr ⟨oo_Sy_compileProduct_at_k6_6, List.forall_mem_nil _⟩⟩⟩⟩⟩⟩⟩) (by decide +kernel) ⟨List.forall_mem_cons.mpr ⟨gf_Sy_31, List.forall_mem_nil _⟩, List.forall_mem_nil _, List.forall_mem_cons.mpr ⟨cl_virtual (y := y_Sy_advance) (ci := 11) rfl rfl ⟨_, _, rfl⟩ (by decide +kernel) h_Sy_advance wm_2158 wm_23 wm_2155 wm_2157 wv_10_10 ⟨by decide, by decide, by decide +kernel⟩ (by decide), List.forall_mem_cons.mpr ⟨cl_virtual (y := y_Sy_emit) (ci := 11) rfl rfl ⟨_, _, rfl⟩ (by decide +kernel) h_Sy_emit wm_2258 wm_23 wm_2255 wm_2257 wv_11_2 ⟨by decide, by decide, by decide +kernel⟩ (by decide), List.forall_mem_cons.mpr ⟨cl_virtual (y := y_Sy_compileValue_at_k6) (ci := 11) rfl rfl ⟨_, _, rfl⟩ (by decide +kernel) h_Sy_compileValue_at_k6 wm_2274 wm_23 wm_2271 wm_2273 wv_11_6 ⟨by decide, by decide, by decide +kernel⟩ (by decide), List.forall_mem_cons.mpr ⟨cl_virtual (y := y_Sy_compileValue_at_k6) (ci := 11) rfl rfl ⟨_, _, rfl⟩ (by decide +kernel) h_Sy_compileValue_at_k6 wm_2274 wm_23 wm_2271 wm_2273 wv_11_6 ⟨by decide, by decide, by decide +kernel⟩ (by decide), List.forall_mem_nil _⟩⟩⟩⟩, List.forall_mem_nil _, List.forall_mem_nil _, GG_pl⟩ (by decide +kernel)
def o_Sy_compileProduct_at_k7_0 : or_T := (12, 5, [], [], [], [], [(24, [0, 0], [])], [], [])
theorem oo_Sy_compileProduct_at_k7_0 {kA : Nat → ClassId} : or_ok PRD kA GG o_Sy_compileProduct_at_k7_0 := by
  refine or_mk fun A ta ws vs hD hth hl => ?_
  have nf0 : fc_1 PRD (24, [0, 0], []) ws (vs) := by
    refine ⟨nf_in hl rfl, sgq_1 ?_⟩
    · show n_v vs 0 = n_v vs 0
      first | rfl | simp only [true_and]
  refine ⟨(fun _ h => (by cases h)), [], trivial, ?_, (fun _ h => (by cases h))⟩
  rw [List.append_nil]
  exact List.forall_mem_cons.mpr ⟨⟨show (24 : Nat) < 100 from by decide, nf0⟩, (fun _ h => (by cases h))⟩
set_option maxHeartbeats 4000000 in
theorem vc_Sy_compileProduct_at_k7_1_0 (kind_0 : Int) (number_0 : Int) (f0 : (kind_0 ≠ 3) ∨ (number_0 ≤ 9999)) (kz_0_6 : 0 ≤ kind_0 ∧ kind_0 ≤ 127) (kz_0_8 : 0 ≤ number_0 ∧ number_0 ≤ 1000000) : (kind_0 ≠ 3) ∨ (number_0 ≤ 9999) := by
  first
    | omega
  
def o_Sy_compileProduct_at_k7_1 : or_T := (79, 9, [(0, (2, 0, 0, [11]))], [(20, [3], [50, 2, 0, 6, 8, 3, 7, 7, 3, 2, 0, 6, 0, 3, 0, 3, 2, 0, 8, 0, 9999]), (24, [0, 3], [])], [], [], [(20, [0], [50, 2, 0, 6, 8, 3, 7, 7, 3, 2, 0, 6, 0, 3, 0, 3, 2, 0, 8, 0, 9999])], [], [])
theorem oo_Sy_compileProduct_at_k7_1 {kA : Nat → ClassId} : or_ok PRD kA GG o_Sy_compileProduct_at_k7_1 := by
  refine or_mk fun A ta ws vs hD hth hl => ?_
  intro t0 r0 f0 f1
  replace f0 := shm_1747 f0
  replace f1 := shm_5 f1
  have q3 : n_v vs 3 = n_v vs 0 := f1.symm
  simp only [q3] at f0
  have kz_0_6 := fdq_304 hD hth r0
  have kz_0_8 := fdq_305 hD hth r0
  have nf0 : fc_1 PRD (20, [0], [50, 2, 0, 6, 8, 3, 7, 7, 3, 2, 0, 6, 0, 3, 0, 3, 2, 0, 8, 0, 9999]) ws (vs) := ⟨nf_in hl rfl, sgq_1747 (vc_Sy_compileProduct_at_k7_1_0 (w_fi ws (n_v vs 0) 6) (w_fi ws (n_v vs 0) 8) f0 kz_0_6 kz_0_8)⟩
  refine ⟨(fun _ h => (by cases h)), [], trivial, ?_, (fun _ h => (by cases h))⟩
  rw [List.append_nil]
  exact List.forall_mem_cons.mpr ⟨⟨show (20 : Nat) < 100 from by decide, nf0⟩, (fun _ h => (by cases h))⟩
set_option maxHeartbeats 4000000 in
theorem vc_Sy_compileProduct_at_k7_2_0 (x11 : Int) (x13 : Int) (k11 : 4 ≤ x11 ∧ x11 ≤ 4) (k13 : 0 ≤ x13 ∧ x13 ≤ 0) : (0 ≤ x11) ∧ ((0 ≤ x13) ∧ (((x11 * 65536) + x13) ≤ 851970)) := by
  first
    | omega
  
def o_Sy_compileProduct_at_k7_2 : or_T := (69, 14, [(11, (0, 4, 4, [])), (13, (0, 0, 0, []))], [], [], [], [(20, [11, 13], [50, 0, 0, 2, 6, 0, 2, 0, 0, 1, 0, 2, 6, 0, 2, 0, 0, 1, 1, 0, 10, 4, 6, 6, 2, 1, 0, 0, 65536, 1, 1, 0, 851970])], [], [])
theorem oo_Sy_compileProduct_at_k7_2 {kA : Nat → ClassId} : or_ok PRD kA GG o_Sy_compileProduct_at_k7_2 := by
  refine or_mk fun A ta ws vs hD hth hl => ?_
  intro t11 k11 t13 k13
  have nf0 : fc_1 PRD (20, [11, 13], [50, 0, 0, 2, 6, 0, 2, 0, 0, 1, 0, 2, 6, 0, 2, 0, 0, 1, 1, 0, 10, 4, 6, 6, 2, 1, 0, 0, 65536, 1, 1, 0, 851970]) ws (vs) := ⟨nf_in hl rfl, sgq_487 (vc_Sy_compileProduct_at_k7_2_0 (v_iv (n_v vs 11)) (v_iv (n_v vs 13)) k11 k13)⟩
  refine ⟨(fun _ h => (by cases h)), [], trivial, ?_, (fun _ h => (by cases h))⟩
  rw [List.append_nil]
  exact List.forall_mem_cons.mpr ⟨⟨show (20 : Nat) < 100 from by decide, nf0⟩, (fun _ h => (by cases h))⟩
set_option maxHeartbeats 4000000 in
theorem vc_Sy_compileProduct_at_k7_3_0 (kind_0 : Int) (number_0 : Int) (f1 : (kind_0 ≠ 3) ∨ (number_0 ≤ 9999)) (kz_0_6 : 0 ≤ kind_0 ∧ kind_0 ≤ 127) (kz_0_8 : 0 ≤ number_0 ∧ number_0 ≤ 1000000) : (kind_0 ≠ 3) ∨ (number_0 ≤ 9999) := by
  first
    | omega
  
def o_Sy_compileProduct_at_k7_3 : or_T := (65, 14, [(0, (2, 0, 0, [11]))], [(24, [0, 3], []), (20, [3], [50, 2, 0, 6, 8, 3, 7, 7, 3, 2, 0, 6, 0, 3, 0, 3, 2, 0, 8, 0, 9999])], [], [], [(20, [0], [50, 2, 0, 6, 8, 3, 7, 7, 3, 2, 0, 6, 0, 3, 0, 3, 2, 0, 8, 0, 9999])], [], [])
theorem oo_Sy_compileProduct_at_k7_3 {kA : Nat → ClassId} : or_ok PRD kA GG o_Sy_compileProduct_at_k7_3 := by
  refine or_mk fun A ta ws vs hD hth hl => ?_
  intro t0 r0 f0 f1
  replace f0 := shm_5 f0
  replace f1 := shm_1747 f1
  have q3 : n_v vs 3 = n_v vs 0 := f0.symm
  simp only [q3] at f1
  have kz_0_6 := fdq_304 hD hth r0
  have kz_0_8 := fdq_305 hD hth r0
  have nf0 : fc_1 PRD (20, [0], [50, 2, 0, 6, 8, 3, 7, 7, 3, 2, 0, 6, 0, 3, 0, 3, 2, 0, 8, 0, 9999]) ws (vs) := ⟨nf_in hl rfl, sgq_1747 (vc_Sy_compileProduct_at_k7_3_0 (w_fi ws (n_v vs 0) 6) (w_fi ws (n_v vs 0) 8) f1 kz_0_6 kz_0_8)⟩
  refine ⟨(fun _ h => (by cases h)), [], trivial, ?_, (fun _ h => (by cases h))⟩
  rw [List.append_nil]
  exact List.forall_mem_cons.mpr ⟨⟨show (20 : Nat) < 100 from by decide, nf0⟩, (fun _ h => (by cases h))⟩
set_option maxHeartbeats 4000000 in
theorem vc_Sy_compileProduct_at_k7_4_0 (kind_0 : Int) (number_0 : Int) (f3 : (kind_0 ≠ 3) ∨ (number_0 ≤ 9999)) (kz_0_6 : 0 ≤ kind_0 ∧ kind_0 ≤ 127) (kz_0_8 : 0 ≤ number_0 ∧ number_0 ≤ 1000000) : (kind_0 ≠ 3) ∨ (number_0 ≤ 9999) := by
  first
    | omega
  
def o_Sy_compileProduct_at_k7_4 : or_T := (79, 12, [(0, (2, 0, 0, [11]))], [(20, [3], [50, 2, 0, 6, 8, 3, 7, 7, 3, 2, 0, 6, 0, 3, 0, 3, 2, 0, 8, 0, 9999]), (24, [0, 3], [])], [], [], [(20, [0], [50, 2, 0, 6, 8, 3, 7, 7, 3, 2, 0, 6, 0, 3, 0, 3, 2, 0, 8, 0, 9999])], [], [])
theorem oo_Sy_compileProduct_at_k7_4 {kA : Nat → ClassId} : or_ok PRD kA GG o_Sy_compileProduct_at_k7_4 := by
  refine or_mk fun A ta ws vs hD hth hl => ?_
  intro t0 r0 f3 f4
  replace f3 := shm_1747 f3
  replace f4 := shm_5 f4
  have q3 : n_v vs 3 = n_v vs 0 := f4.symm
  simp only [q3] at f3
  have kz_0_6 := fdq_304 hD hth r0
  have kz_0_8 := fdq_305 hD hth r0
  have nf0 : fc_1 PRD (20, [0], [50, 2, 0, 6, 8, 3, 7, 7, 3, 2, 0, 6, 0, 3, 0, 3, 2, 0, 8, 0, 9999]) ws (vs) := ⟨nf_in hl rfl, sgq_1747 (vc_Sy_compileProduct_at_k7_4_0 (w_fi ws (n_v vs 0) 6) (w_fi ws (n_v vs 0) 8) f3 kz_0_6 kz_0_8)⟩
  refine ⟨(fun _ h => (by cases h)), [], trivial, ?_, (fun _ h => (by cases h))⟩
  rw [List.append_nil]
  exact List.forall_mem_cons.mpr ⟨⟨show (20 : Nat) < 100 from by decide, nf0⟩, (fun _ h => (by cases h))⟩
set_option maxHeartbeats 4000000 in
theorem vc_Sy_compileProduct_at_k7_5_0 (x12 : Int) (x14 : Int) (k12 : 5 ≤ x12 ∧ x12 ≤ 5) (k14 : 0 ≤ x14 ∧ x14 ≤ 0) : (0 ≤ x12) ∧ ((0 ≤ x14) ∧ (((x12 * 65536) + x14) ≤ 851970)) := by
  first
    | omega
  
def o_Sy_compileProduct_at_k7_5 : or_T := (69, 15, [(12, (0, 5, 5, [])), (14, (0, 0, 0, []))], [], [], [], [(20, [12, 14], [50, 0, 0, 2, 6, 0, 2, 0, 0, 1, 0, 2, 6, 0, 2, 0, 0, 1, 1, 0, 10, 4, 6, 6, 2, 1, 0, 0, 65536, 1, 1, 0, 851970])], [], [])
theorem oo_Sy_compileProduct_at_k7_5 {kA : Nat → ClassId} : or_ok PRD kA GG o_Sy_compileProduct_at_k7_5 := by
  refine or_mk fun A ta ws vs hD hth hl => ?_
  intro t12 k12 t14 k14
  have nf0 : fc_1 PRD (20, [12, 14], [50, 0, 0, 2, 6, 0, 2, 0, 0, 1, 0, 2, 6, 0, 2, 0, 0, 1, 1, 0, 10, 4, 6, 6, 2, 1, 0, 0, 65536, 1, 1, 0, 851970]) ws (vs) := ⟨nf_in hl rfl, sgq_487 (vc_Sy_compileProduct_at_k7_5_0 (v_iv (n_v vs 12)) (v_iv (n_v vs 14)) k12 k14)⟩
  refine ⟨(fun _ h => (by cases h)), [], trivial, ?_, (fun _ h => (by cases h))⟩
  rw [List.append_nil]
  exact List.forall_mem_cons.mpr ⟨⟨show (20 : Nat) < 100 from by decide, nf0⟩, (fun _ h => (by cases h))⟩
set_option maxHeartbeats 4000000 in
theorem vc_Sy_compileProduct_at_k7_6_0 (kind_0 : Int) (number_0 : Int) (f1 : (kind_0 ≠ 3) ∨ (number_0 ≤ 9999)) (kz_0_6 : 0 ≤ kind_0 ∧ kind_0 ≤ 127) (kz_0_8 : 0 ≤ number_0 ∧ number_0 ≤ 1000000) : (kind_0 ≠ 3) ∨ (number_0 ≤ 9999) := by
  first
    | omega
  
def o_Sy_compileProduct_at_k7_6 : or_T := (65, 15, [(0, (2, 0, 0, [11]))], [(24, [0, 3], []), (20, [3], [50, 2, 0, 6, 8, 3, 7, 7, 3, 2, 0, 6, 0, 3, 0, 3, 2, 0, 8, 0, 9999])], [], [], [(20, [0], [50, 2, 0, 6, 8, 3, 7, 7, 3, 2, 0, 6, 0, 3, 0, 3, 2, 0, 8, 0, 9999])], [], [])
theorem oo_Sy_compileProduct_at_k7_6 {kA : Nat → ClassId} : or_ok PRD kA GG o_Sy_compileProduct_at_k7_6 := by
  refine or_mk fun A ta ws vs hD hth hl => ?_
  intro t0 r0 f0 f1
  replace f0 := shm_5 f0
  replace f1 := shm_1747 f1
  have q3 : n_v vs 3 = n_v vs 0 := f0.symm
  simp only [q3] at f1
  have kz_0_6 := fdq_304 hD hth r0
  have kz_0_8 := fdq_305 hD hth r0
  have nf0 : fc_1 PRD (20, [0], [50, 2, 0, 6, 8, 3, 7, 7, 3, 2, 0, 6, 0, 3, 0, 3, 2, 0, 8, 0, 9999]) ws (vs) := ⟨nf_in hl rfl, sgq_1747 (vc_Sy_compileProduct_at_k7_6_0 (w_fi ws (n_v vs 0) 6) (w_fi ws (n_v vs 0) 8) f1 kz_0_6 kz_0_8)⟩
  refine ⟨(fun _ h => (by cases h)), [], trivial, ?_, (fun _ h => (by cases h))⟩
  rw [List.append_nil]
  exact List.forall_mem_cons.mpr ⟨⟨show (20 : Nat) < 100 from by decide, nf0⟩, (fun _ h => (by cases h))⟩
def n_Sy_compileProduct_at_k7_an : List an_T := [(12, [(0, (2, 0, 0, [11])), (1, (0, 7, 7, [])), (2, (0, 0, 2000, []))], [], (0, 0), [(0, 0, 99988), (1, 5, 2000), (0, 0, 100000)], [], [((0, 3), (2, 0, 0, [109]))], [(2, 0, 0, [11]), (0, 7, 7, []), (2, 0, 0, [109])], 0, [], [(20, [3], [50, 2, 0, 6, 8, 3, 7, 7, 3, 2, 0, 6, 0, 3, 0, 3, 2, 0, 8, 0, 9999]), (24, [0, 3], [])])]
def t_Sy_compileProduct_at_k7_ct : ct_L := [(1, 69, e_Sy_advance), (1, 128, e_Sy_emit), (10, 158, e_Sy_compileValue_at_k7), (178, 158, e_Sy_compileValue_at_k7)]
set_option maxRecDepth 100000 in
theorem c_Sy_compileProduct_at_k7 {l : Launch} {D : va_G} {kA : Nat → ClassId} (h_Sy_advance : ct_ok PRD l D kA GG y_Sy_advance z_Sy_advance e_Sy_advance) (h_Sy_compileValue_at_k7 : ct_ok PRD l D kA GG y_Sy_compileValue_at_k7 z_Sy_compileValue_at_k7 e_Sy_compileValue_at_k7) (h_Sy_emit : ct_ok PRD l D kA GG y_Sy_emit z_Sy_emit e_Sy_emit) : ct_ok PRD l D kA GG y_Sy_compileProduct_at_k7 z_Sy_compileProduct_at_k7 e_Sy_compileProduct_at_k7 := chk_all_ok (FT := [(31, 11, 6)]) (PT := []) (CT := t_Sy_compileProduct_at_k7_ct) (KT := []) (NT := []) (AN := n_Sy_compileProduct_at_k7_an) (OT := [o_Sy_compileProduct_at_k7_0, o_Sy_compileProduct_at_k7_1, o_Sy_compileProduct_at_k7_2, o_Sy_compileProduct_at_k7_3, o_Sy_compileProduct_at_k7_4, o_Sy_compileProduct_at_k7_5, o_Sy_compileProduct_at_k7_6]) 3 268 (List.forall_mem_cons.mpr ⟨oo_Sy_compileProduct_at_k7_0, List.forall_mem_cons.mpr ⟨oo_Sy_compileProduct_at_k7_1, List.forall_mem_cons.mpr ⟨oo_Sy_compileProduct_at_k7_2, List.forall_mem_cons.mpr ⟨oo_Sy_compileProduct_at_k7_3, List.forall_mem_cons.mpr ⟨oo_Sy_compileProduct_at_k7_4, List.forall_mem_cons.mpr ⟨oo_Sy_compileProduct_at_k7_5, List.forall_mem_cons.mpr ⟨oo_Sy_compileProduct_at_k7_6, List.forall_mem_nil _⟩⟩⟩⟩⟩⟩⟩) (by decide +kernel) ⟨List.forall_mem_cons.mpr ⟨gf_Sy_31, List.forall_mem_nil _⟩, List.forall_mem_nil _, List.forall_mem_cons.mpr ⟨cl_virtual (y := y_Sy_advance) (ci := 11) rfl rfl ⟨_, _, rfl⟩ (by decide +kernel) h_Sy_advance wm_2158 wm_23 wm_2155 wm_2157 wv_10_10 ⟨by decide, by decide, by decide +kernel⟩ (by decide), List.forall_mem_cons.mpr ⟨cl_virtual (y := y_Sy_emit) (ci := 11) rfl rfl ⟨_, _, rfl⟩ (by decide +kernel) h_Sy_emit wm_2258 wm_23 wm_2255 wm_2257 wv_11_2 ⟨by decide, by decide, by decide +kernel⟩ (by decide), List.forall_mem_cons.mpr ⟨cl_virtual (y := y_Sy_compileValue_at_k7) (ci := 11) rfl rfl ⟨_, _, rfl⟩ (by decide +kernel) h_Sy_compileValue_at_k7 wm_2274 wm_23 wm_2271 wm_2273 wv_11_6 ⟨by decide, by decide, by decide +kernel⟩ (by decide), List.forall_mem_cons.mpr ⟨cl_virtual (y := y_Sy_compileValue_at_k7) (ci := 11) rfl rfl ⟨_, _, rfl⟩ (by decide +kernel) h_Sy_compileValue_at_k7 wm_2274 wm_23 wm_2271 wm_2273 wv_11_6 ⟨by decide, by decide, by decide +kernel⟩ (by decide), List.forall_mem_nil _⟩⟩⟩⟩, List.forall_mem_nil _, List.forall_mem_nil _, GG_pl⟩ (by decide +kernel)
def o_Sy_compileProduct_at_k8_0 : or_T := (12, 5, [], [], [], [], [(24, [0, 0], [])], [], [])
theorem oo_Sy_compileProduct_at_k8_0 {kA : Nat → ClassId} : or_ok PRD kA GG o_Sy_compileProduct_at_k8_0 := by
  refine or_mk fun A ta ws vs hD hth hl => ?_
  have nf0 : fc_1 PRD (24, [0, 0], []) ws (vs) := by
    refine ⟨nf_in hl rfl, sgq_1 ?_⟩
    · show n_v vs 0 = n_v vs 0
      first | rfl | simp only [true_and]
  refine ⟨(fun _ h => (by cases h)), [], trivial, ?_, (fun _ h => (by cases h))⟩
  rw [List.append_nil]
  exact List.forall_mem_cons.mpr ⟨⟨show (24 : Nat) < 100 from by decide, nf0⟩, (fun _ h => (by cases h))⟩
set_option maxHeartbeats 4000000 in
theorem vc_Sy_compileProduct_at_k8_1_0 (kind_0 : Int) (number_0 : Int) (f0 : (kind_0 ≠ 3) ∨ (number_0 ≤ 9999)) (kz_0_6 : 0 ≤ kind_0 ∧ kind_0 ≤ 127) (kz_0_8 : 0 ≤ number_0 ∧ number_0 ≤ 1000000) : (kind_0 ≠ 3) ∨ (number_0 ≤ 9999) := by
  first
    | omega
  
def o_Sy_compileProduct_at_k8_1 : or_T := (79, 9, [(0, (2, 0, 0, [11]))], [(20, [3], [50, 2, 0, 6, 8, 3, 7, 7, 3, 2, 0, 6, 0, 3, 0, 3, 2, 0, 8, 0, 9999]), (24, [0, 3], [])], [], [], [(20, [0], [50, 2, 0, 6, 8, 3, 7, 7, 3, 2, 0, 6, 0, 3, 0, 3, 2, 0, 8, 0, 9999])], [], [])
theorem oo_Sy_compileProduct_at_k8_1 {kA : Nat → ClassId} : or_ok PRD kA GG o_Sy_compileProduct_at_k8_1 := by
  refine or_mk fun A ta ws vs hD hth hl => ?_
  intro t0 r0 f0 f1
  replace f0 := shm_1747 f0
  replace f1 := shm_5 f1
  have q3 : n_v vs 3 = n_v vs 0 := f1.symm
  simp only [q3] at f0
  have kz_0_6 := fdq_304 hD hth r0
  have kz_0_8 := fdq_305 hD hth r0
  have nf0 : fc_1 PRD (20, [0], [50, 2, 0, 6, 8, 3, 7, 7, 3, 2, 0, 6, 0, 3, 0, 3, 2, 0, 8, 0, 9999]) ws (vs) := ⟨nf_in hl rfl, sgq_1747 (vc_Sy_compileProduct_at_k8_1_0 (w_fi ws (n_v vs 0) 6) (w_fi ws (n_v vs 0) 8) f0 kz_0_6 kz_0_8)⟩
  refine ⟨(fun _ h => (by cases h)), [], trivial, ?_, (fun _ h => (by cases h))⟩
  rw [List.append_nil]
  exact List.forall_mem_cons.mpr ⟨⟨show (20 : Nat) < 100 from by decide, nf0⟩, (fun _ h => (by cases h))⟩
set_option maxHeartbeats 4000000 in
theorem vc_Sy_compileProduct_at_k8_2_0 (x11 : Int) (x13 : Int) (k11 : 4 ≤ x11 ∧ x11 ≤ 4) (k13 : 0 ≤ x13 ∧ x13 ≤ 0) : (0 ≤ x11) ∧ ((0 ≤ x13) ∧ (((x11 * 65536) + x13) ≤ 851970)) := by
  first
    | omega
  
def o_Sy_compileProduct_at_k8_2 : or_T := (69, 14, [(11, (0, 4, 4, [])), (13, (0, 0, 0, []))], [], [], [], [(20, [11, 13], [50, 0, 0, 2, 6, 0, 2, 0, 0, 1, 0, 2, 6, 0, 2, 0, 0, 1, 1, 0, 10, 4, 6, 6, 2, 1, 0, 0, 65536, 1, 1, 0, 851970])], [], [])
theorem oo_Sy_compileProduct_at_k8_2 {kA : Nat → ClassId} : or_ok PRD kA GG o_Sy_compileProduct_at_k8_2 := by
  refine or_mk fun A ta ws vs hD hth hl => ?_
  intro t11 k11 t13 k13
  have nf0 : fc_1 PRD (20, [11, 13], [50, 0, 0, 2, 6, 0, 2, 0, 0, 1, 0, 2, 6, 0, 2, 0, 0, 1, 1, 0, 10, 4, 6, 6, 2, 1, 0, 0, 65536, 1, 1, 0, 851970]) ws (vs) := ⟨nf_in hl rfl, sgq_487 (vc_Sy_compileProduct_at_k8_2_0 (v_iv (n_v vs 11)) (v_iv (n_v vs 13)) k11 k13)⟩
  refine ⟨(fun _ h => (by cases h)), [], trivial, ?_, (fun _ h => (by cases h))⟩
  rw [List.append_nil]
  exact List.forall_mem_cons.mpr ⟨⟨show (20 : Nat) < 100 from by decide, nf0⟩, (fun _ h => (by cases h))⟩
set_option maxHeartbeats 4000000 in
theorem vc_Sy_compileProduct_at_k8_3_0 (kind_0 : Int) (number_0 : Int) (f1 : (kind_0 ≠ 3) ∨ (number_0 ≤ 9999)) (kz_0_6 : 0 ≤ kind_0 ∧ kind_0 ≤ 127) (kz_0_8 : 0 ≤ number_0 ∧ number_0 ≤ 1000000) : (kind_0 ≠ 3) ∨ (number_0 ≤ 9999) := by
  first
    | omega
  
def o_Sy_compileProduct_at_k8_3 : or_T := (65, 14, [(0, (2, 0, 0, [11]))], [(24, [0, 3], []), (20, [3], [50, 2, 0, 6, 8, 3, 7, 7, 3, 2, 0, 6, 0, 3, 0, 3, 2, 0, 8, 0, 9999])], [], [], [(20, [0], [50, 2, 0, 6, 8, 3, 7, 7, 3, 2, 0, 6, 0, 3, 0, 3, 2, 0, 8, 0, 9999])], [], [])
theorem oo_Sy_compileProduct_at_k8_3 {kA : Nat → ClassId} : or_ok PRD kA GG o_Sy_compileProduct_at_k8_3 := by
  refine or_mk fun A ta ws vs hD hth hl => ?_
  intro t0 r0 f0 f1
  replace f0 := shm_5 f0
  replace f1 := shm_1747 f1
  have q3 : n_v vs 3 = n_v vs 0 := f0.symm
  simp only [q3] at f1
  have kz_0_6 := fdq_304 hD hth r0
  have kz_0_8 := fdq_305 hD hth r0
  have nf0 : fc_1 PRD (20, [0], [50, 2, 0, 6, 8, 3, 7, 7, 3, 2, 0, 6, 0, 3, 0, 3, 2, 0, 8, 0, 9999]) ws (vs) := ⟨nf_in hl rfl, sgq_1747 (vc_Sy_compileProduct_at_k8_3_0 (w_fi ws (n_v vs 0) 6) (w_fi ws (n_v vs 0) 8) f1 kz_0_6 kz_0_8)⟩
  refine ⟨(fun _ h => (by cases h)), [], trivial, ?_, (fun _ h => (by cases h))⟩
  rw [List.append_nil]
  exact List.forall_mem_cons.mpr ⟨⟨show (20 : Nat) < 100 from by decide, nf0⟩, (fun _ h => (by cases h))⟩
set_option maxHeartbeats 4000000 in
theorem vc_Sy_compileProduct_at_k8_4_0 (kind_0 : Int) (number_0 : Int) (f3 : (kind_0 ≠ 3) ∨ (number_0 ≤ 9999)) (kz_0_6 : 0 ≤ kind_0 ∧ kind_0 ≤ 127) (kz_0_8 : 0 ≤ number_0 ∧ number_0 ≤ 1000000) : (kind_0 ≠ 3) ∨ (number_0 ≤ 9999) := by
  first
    | omega
  
def o_Sy_compileProduct_at_k8_4 : or_T := (79, 12, [(0, (2, 0, 0, [11]))], [(20, [3], [50, 2, 0, 6, 8, 3, 7, 7, 3, 2, 0, 6, 0, 3, 0, 3, 2, 0, 8, 0, 9999]), (24, [0, 3], [])], [], [], [(20, [0], [50, 2, 0, 6, 8, 3, 7, 7, 3, 2, 0, 6, 0, 3, 0, 3, 2, 0, 8, 0, 9999])], [], [])
theorem oo_Sy_compileProduct_at_k8_4 {kA : Nat → ClassId} : or_ok PRD kA GG o_Sy_compileProduct_at_k8_4 := by
  refine or_mk fun A ta ws vs hD hth hl => ?_
  intro t0 r0 f3 f4
  replace f3 := shm_1747 f3
  replace f4 := shm_5 f4
  have q3 : n_v vs 3 = n_v vs 0 := f4.symm
  simp only [q3] at f3
  have kz_0_6 := fdq_304 hD hth r0
  have kz_0_8 := fdq_305 hD hth r0
  have nf0 : fc_1 PRD (20, [0], [50, 2, 0, 6, 8, 3, 7, 7, 3, 2, 0, 6, 0, 3, 0, 3, 2, 0, 8, 0, 9999]) ws (vs) := ⟨nf_in hl rfl, sgq_1747 (vc_Sy_compileProduct_at_k8_4_0 (w_fi ws (n_v vs 0) 6) (w_fi ws (n_v vs 0) 8) f3 kz_0_6 kz_0_8)⟩
  refine ⟨(fun _ h => (by cases h)), [], trivial, ?_, (fun _ h => (by cases h))⟩
  rw [List.append_nil]
  exact List.forall_mem_cons.mpr ⟨⟨show (20 : Nat) < 100 from by decide, nf0⟩, (fun _ h => (by cases h))⟩
set_option maxHeartbeats 4000000 in
theorem vc_Sy_compileProduct_at_k8_5_0 (x12 : Int) (x14 : Int) (k12 : 5 ≤ x12 ∧ x12 ≤ 5) (k14 : 0 ≤ x14 ∧ x14 ≤ 0) : (0 ≤ x12) ∧ ((0 ≤ x14) ∧ (((x12 * 65536) + x14) ≤ 851970)) := by
  first
    | omega
  
def o_Sy_compileProduct_at_k8_5 : or_T := (69, 15, [(12, (0, 5, 5, [])), (14, (0, 0, 0, []))], [], [], [], [(20, [12, 14], [50, 0, 0, 2, 6, 0, 2, 0, 0, 1, 0, 2, 6, 0, 2, 0, 0, 1, 1, 0, 10, 4, 6, 6, 2, 1, 0, 0, 65536, 1, 1, 0, 851970])], [], [])
theorem oo_Sy_compileProduct_at_k8_5 {kA : Nat → ClassId} : or_ok PRD kA GG o_Sy_compileProduct_at_k8_5 := by
  refine or_mk fun A ta ws vs hD hth hl => ?_
  intro t12 k12 t14 k14
  have nf0 : fc_1 PRD (20, [12, 14], [50, 0, 0, 2, 6, 0, 2, 0, 0, 1, 0, 2, 6, 0, 2, 0, 0, 1, 1, 0, 10, 4, 6, 6, 2, 1, 0, 0, 65536, 1, 1, 0, 851970]) ws (vs) := ⟨nf_in hl rfl, sgq_487 (vc_Sy_compileProduct_at_k8_5_0 (v_iv (n_v vs 12)) (v_iv (n_v vs 14)) k12 k14)⟩
  refine ⟨(fun _ h => (by cases h)), [], trivial, ?_, (fun _ h => (by cases h))⟩
  rw [List.append_nil]
  exact List.forall_mem_cons.mpr ⟨⟨show (20 : Nat) < 100 from by decide, nf0⟩, (fun _ h => (by cases h))⟩
set_option maxHeartbeats 4000000 in
theorem vc_Sy_compileProduct_at_k8_6_0 (kind_0 : Int) (number_0 : Int) (f1 : (kind_0 ≠ 3) ∨ (number_0 ≤ 9999)) (kz_0_6 : 0 ≤ kind_0 ∧ kind_0 ≤ 127) (kz_0_8 : 0 ≤ number_0 ∧ number_0 ≤ 1000000) : (kind_0 ≠ 3) ∨ (number_0 ≤ 9999) := by
  first
    | omega
  
def o_Sy_compileProduct_at_k8_6 : or_T := (65, 15, [(0, (2, 0, 0, [11]))], [(24, [0, 3], []), (20, [3], [50, 2, 0, 6, 8, 3, 7, 7, 3, 2, 0, 6, 0, 3, 0, 3, 2, 0, 8, 0, 9999])], [], [], [(20, [0], [50, 2, 0, 6, 8, 3, 7, 7, 3, 2, 0, 6, 0, 3, 0, 3, 2, 0, 8, 0, 9999])], [], [])
theorem oo_Sy_compileProduct_at_k8_6 {kA : Nat → ClassId} : or_ok PRD kA GG o_Sy_compileProduct_at_k8_6 := by
  refine or_mk fun A ta ws vs hD hth hl => ?_
  intro t0 r0 f0 f1
  replace f0 := shm_5 f0
  replace f1 := shm_1747 f1
  have q3 : n_v vs 3 = n_v vs 0 := f0.symm
  simp only [q3] at f1
  have kz_0_6 := fdq_304 hD hth r0
  have kz_0_8 := fdq_305 hD hth r0
  have nf0 : fc_1 PRD (20, [0], [50, 2, 0, 6, 8, 3, 7, 7, 3, 2, 0, 6, 0, 3, 0, 3, 2, 0, 8, 0, 9999]) ws (vs) := ⟨nf_in hl rfl, sgq_1747 (vc_Sy_compileProduct_at_k8_6_0 (w_fi ws (n_v vs 0) 6) (w_fi ws (n_v vs 0) 8) f1 kz_0_6 kz_0_8)⟩
  refine ⟨(fun _ h => (by cases h)), [], trivial, ?_, (fun _ h => (by cases h))⟩
  rw [List.append_nil]
  exact List.forall_mem_cons.mpr ⟨⟨show (20 : Nat) < 100 from by decide, nf0⟩, (fun _ h => (by cases h))⟩
def n_Sy_compileProduct_at_k8_an : List an_T := [(12, [(0, (2, 0, 0, [11])), (1, (0, 8, 8, [])), (2, (0, 0, 2000, []))], [], (0, 0), [(0, 0, 99988), (1, 5, 2000), (0, 0, 100000)], [], [((0, 3), (2, 0, 0, [109]))], [(2, 0, 0, [11]), (0, 8, 8, []), (2, 0, 0, [109])], 0, [], [(20, [3], [50, 2, 0, 6, 8, 3, 7, 7, 3, 2, 0, 6, 0, 3, 0, 3, 2, 0, 8, 0, 9999]), (24, [0, 3], [])])]
def t_Sy_compileProduct_at_k8_ct : ct_L := [(1, 69, e_Sy_advance), (1, 128, e_Sy_emit), (10, 158, e_Sy_compileValue_at_k8), (178, 158, e_Sy_compileValue_at_k8)]
set_option maxRecDepth 100000 in
theorem c_Sy_compileProduct_at_k8 {l : Launch} {D : va_G} {kA : Nat → ClassId} (h_Sy_advance : ct_ok PRD l D kA GG y_Sy_advance z_Sy_advance e_Sy_advance) (h_Sy_compileValue_at_k8 : ct_ok PRD l D kA GG y_Sy_compileValue_at_k8 z_Sy_compileValue_at_k8 e_Sy_compileValue_at_k8) (h_Sy_emit : ct_ok PRD l D kA GG y_Sy_emit z_Sy_emit e_Sy_emit) : ct_ok PRD l D kA GG y_Sy_compileProduct_at_k8 z_Sy_compileProduct_at_k8 e_Sy_compileProduct_at_k8 := chk_all_ok (FT := [(31, 11, 6)]) (PT := []) (CT := t_Sy_compileProduct_at_k8_ct) (KT := []) (NT := []) (AN := n_Sy_compileProduct_at_k8_an) (OT := [o_Sy_compileProduct_at_k8_0, o_Sy_compileProduct_at_k8_1, o_Sy_compileProduct_at_k8_2, o_Sy_compileProduct_at_k8_3, o_Sy_compileProduct_at_k8_4, o_Sy_compileProduct_at_k8_5, o_Sy_compileProduct_at_k8_6]) 3 268 (List.forall_mem_cons.mpr ⟨oo_Sy_compileProduct_at_k8_0, List.forall_mem_cons.mpr ⟨oo_Sy_compileProduct_at_k8_1, List.forall_mem_cons.mpr ⟨oo_Sy_compileProduct_at_k8_2, List.forall_mem_cons.mpr ⟨oo_Sy_compileProduct_at_k8_3, List.forall_mem_cons.mpr ⟨oo_Sy_compileProduct_at_k8_4, List.forall_mem_cons.mpr ⟨oo_Sy_compileProduct_at_k8_5, List.forall_mem_cons.mpr ⟨oo_Sy_compileProduct_at_k8_6, List.forall_mem_nil _⟩⟩⟩⟩⟩⟩⟩) (by decide +kernel) ⟨List.forall_mem_cons.mpr ⟨gf_Sy_31, List.forall_mem_nil _⟩, List.forall_mem_nil _, List.forall_mem_cons.mpr ⟨cl_virtual (y := y_Sy_advance) (ci := 11) rfl rfl ⟨_, _, rfl⟩ (by decide +kernel) h_Sy_advance wm_2158 wm_23 wm_2155 wm_2157 wv_10_10 ⟨by decide, by decide, by decide +kernel⟩ (by decide), List.forall_mem_cons.mpr ⟨cl_virtual (y := y_Sy_emit) (ci := 11) rfl rfl ⟨_, _, rfl⟩ (by decide +kernel) h_Sy_emit wm_2258 wm_23 wm_2255 wm_2257 wv_11_2 ⟨by decide, by decide, by decide +kernel⟩ (by decide), List.forall_mem_cons.mpr ⟨cl_virtual (y := y_Sy_compileValue_at_k8) (ci := 11) rfl rfl ⟨_, _, rfl⟩ (by decide +kernel) h_Sy_compileValue_at_k8 wm_2274 wm_23 wm_2271 wm_2273 wv_11_6 ⟨by decide, by decide, by decide +kernel⟩ (by decide), List.forall_mem_cons.mpr ⟨cl_virtual (y := y_Sy_compileValue_at_k8) (ci := 11) rfl rfl ⟨_, _, rfl⟩ (by decide +kernel) h_Sy_compileValue_at_k8 wm_2274 wm_23 wm_2271 wm_2273 wv_11_6 ⟨by decide, by decide, by decide +kernel⟩ (by decide), List.forall_mem_nil _⟩⟩⟩⟩, List.forall_mem_nil _, List.forall_mem_nil _, GG_pl⟩ (by decide +kernel)
def o_Sy_compileProduct_at_k9_0 : or_T := (12, 5, [], [], [], [], [(24, [0, 0], [])], [], [])
theorem oo_Sy_compileProduct_at_k9_0 {kA : Nat → ClassId} : or_ok PRD kA GG o_Sy_compileProduct_at_k9_0 := by
  refine or_mk fun A ta ws vs hD hth hl => ?_
  have nf0 : fc_1 PRD (24, [0, 0], []) ws (vs) := by
    refine ⟨nf_in hl rfl, sgq_1 ?_⟩
    · show n_v vs 0 = n_v vs 0
      first | rfl | simp only [true_and]
  refine ⟨(fun _ h => (by cases h)), [], trivial, ?_, (fun _ h => (by cases h))⟩
  rw [List.append_nil]
  exact List.forall_mem_cons.mpr ⟨⟨show (24 : Nat) < 100 from by decide, nf0⟩, (fun _ h => (by cases h))⟩
set_option maxHeartbeats 4000000 in
theorem vc_Sy_compileProduct_at_k9_1_0 (kind_0 : Int) (number_0 : Int) (f0 : (kind_0 ≠ 3) ∨ (number_0 ≤ 9999)) (kz_0_6 : 0 ≤ kind_0 ∧ kind_0 ≤ 127) (kz_0_8 : 0 ≤ number_0 ∧ number_0 ≤ 1000000) : (kind_0 ≠ 3) ∨ (number_0 ≤ 9999) := by
  first
    | omega
  
def o_Sy_compileProduct_at_k9_1 : or_T := (79, 9, [(0, (2, 0, 0, [11]))], [(20, [3], [50, 2, 0, 6, 8, 3, 7, 7, 3, 2, 0, 6, 0, 3, 0, 3, 2, 0, 8, 0, 9999]), (24, [0, 3], [])], [], [], [(20, [0], [50, 2, 0, 6, 8, 3, 7, 7, 3, 2, 0, 6, 0, 3, 0, 3, 2, 0, 8, 0, 9999])], [], [])
theorem oo_Sy_compileProduct_at_k9_1 {kA : Nat → ClassId} : or_ok PRD kA GG o_Sy_compileProduct_at_k9_1 := by
  refine or_mk fun A ta ws vs hD hth hl => ?_
  intro t0 r0 f0 f1
  replace f0 := shm_1747 f0
  replace f1 := shm_5 f1
  have q3 : n_v vs 3 = n_v vs 0 := f1.symm
  simp only [q3] at f0
  have kz_0_6 := fdq_304 hD hth r0
  have kz_0_8 := fdq_305 hD hth r0
  have nf0 : fc_1 PRD (20, [0], [50, 2, 0, 6, 8, 3, 7, 7, 3, 2, 0, 6, 0, 3, 0, 3, 2, 0, 8, 0, 9999]) ws (vs) := ⟨nf_in hl rfl, sgq_1747 (vc_Sy_compileProduct_at_k9_1_0 (w_fi ws (n_v vs 0) 6) (w_fi ws (n_v vs 0) 8) f0 kz_0_6 kz_0_8)⟩
  refine ⟨(fun _ h => (by cases h)), [], trivial, ?_, (fun _ h => (by cases h))⟩
  rw [List.append_nil]
  exact List.forall_mem_cons.mpr ⟨⟨show (20 : Nat) < 100 from by decide, nf0⟩, (fun _ h => (by cases h))⟩
set_option maxHeartbeats 4000000 in
theorem vc_Sy_compileProduct_at_k9_2_0 (x11 : Int) (x13 : Int) (k11 : 4 ≤ x11 ∧ x11 ≤ 4) (k13 : 0 ≤ x13 ∧ x13 ≤ 0) : (0 ≤ x11) ∧ ((0 ≤ x13) ∧ (((x11 * 65536) + x13) ≤ 851970)) := by
  first
    | omega
  
def o_Sy_compileProduct_at_k9_2 : or_T := (69, 14, [(11, (0, 4, 4, [])), (13, (0, 0, 0, []))], [], [], [], [(20, [11, 13], [50, 0, 0, 2, 6, 0, 2, 0, 0, 1, 0, 2, 6, 0, 2, 0, 0, 1, 1, 0, 10, 4, 6, 6, 2, 1, 0, 0, 65536, 1, 1, 0, 851970])], [], [])
theorem oo_Sy_compileProduct_at_k9_2 {kA : Nat → ClassId} : or_ok PRD kA GG o_Sy_compileProduct_at_k9_2 := by
  refine or_mk fun A ta ws vs hD hth hl => ?_
  intro t11 k11 t13 k13
  have nf0 : fc_1 PRD (20, [11, 13], [50, 0, 0, 2, 6, 0, 2, 0, 0, 1, 0, 2, 6, 0, 2, 0, 0, 1, 1, 0, 10, 4, 6, 6, 2, 1, 0, 0, 65536, 1, 1, 0, 851970]) ws (vs) := ⟨nf_in hl rfl, sgq_487 (vc_Sy_compileProduct_at_k9_2_0 (v_iv (n_v vs 11)) (v_iv (n_v vs 13)) k11 k13)⟩
  refine ⟨(fun _ h => (by cases h)), [], trivial, ?_, (fun _ h => (by cases h))⟩
  rw [List.append_nil]
  exact List.forall_mem_cons.mpr ⟨⟨show (20 : Nat) < 100 from by decide, nf0⟩, (fun _ h => (by cases h))⟩
set_option maxHeartbeats 4000000 in
theorem vc_Sy_compileProduct_at_k9_3_0 (kind_0 : Int) (number_0 : Int) (f1 : (kind_0 ≠ 3) ∨ (number_0 ≤ 9999)) (kz_0_6 : 0 ≤ kind_0 ∧ kind_0 ≤ 127) (kz_0_8 : 0 ≤ number_0 ∧ number_0 ≤ 1000000) : (kind_0 ≠ 3) ∨ (number_0 ≤ 9999) := by
  first
    | omega
  
def o_Sy_compileProduct_at_k9_3 : or_T := (65, 14, [(0, (2, 0, 0, [11]))], [(24, [0, 3], []), (20, [3], [50, 2, 0, 6, 8, 3, 7, 7, 3, 2, 0, 6, 0, 3, 0, 3, 2, 0, 8, 0, 9999])], [], [], [(20, [0], [50, 2, 0, 6, 8, 3, 7, 7, 3, 2, 0, 6, 0, 3, 0, 3, 2, 0, 8, 0, 9999])], [], [])
theorem oo_Sy_compileProduct_at_k9_3 {kA : Nat → ClassId} : or_ok PRD kA GG o_Sy_compileProduct_at_k9_3 := by
  refine or_mk fun A ta ws vs hD hth hl => ?_
  intro t0 r0 f0 f1
  replace f0 := shm_5 f0
  replace f1 := shm_1747 f1
  have q3 : n_v vs 3 = n_v vs 0 := f0.symm
  simp only [q3] at f1
  have kz_0_6 := fdq_304 hD hth r0
  have kz_0_8 := fdq_305 hD hth r0
  have nf0 : fc_1 PRD (20, [0], [50, 2, 0, 6, 8, 3, 7, 7, 3, 2, 0, 6, 0, 3, 0, 3, 2, 0, 8, 0, 9999]) ws (vs) := ⟨nf_in hl rfl, sgq_1747 (vc_Sy_compileProduct_at_k9_3_0 (w_fi ws (n_v vs 0) 6) (w_fi ws (n_v vs 0) 8) f1 kz_0_6 kz_0_8)⟩
  refine ⟨(fun _ h => (by cases h)), [], trivial, ?_, (fun _ h => (by cases h))⟩
  rw [List.append_nil]
  exact List.forall_mem_cons.mpr ⟨⟨show (20 : Nat) < 100 from by decide, nf0⟩, (fun _ h => (by cases h))⟩
set_option maxHeartbeats 4000000 in
theorem vc_Sy_compileProduct_at_k9_4_0 (kind_0 : Int) (number_0 : Int) (f3 : (kind_0 ≠ 3) ∨ (number_0 ≤ 9999)) (kz_0_6 : 0 ≤ kind_0 ∧ kind_0 ≤ 127) (kz_0_8 : 0 ≤ number_0 ∧ number_0 ≤ 1000000) : (kind_0 ≠ 3) ∨ (number_0 ≤ 9999) := by
  first
    | omega
  
def o_Sy_compileProduct_at_k9_4 : or_T := (79, 12, [(0, (2, 0, 0, [11]))], [(20, [3], [50, 2, 0, 6, 8, 3, 7, 7, 3, 2, 0, 6, 0, 3, 0, 3, 2, 0, 8, 0, 9999]), (24, [0, 3], [])], [], [], [(20, [0], [50, 2, 0, 6, 8, 3, 7, 7, 3, 2, 0, 6, 0, 3, 0, 3, 2, 0, 8, 0, 9999])], [], [])
theorem oo_Sy_compileProduct_at_k9_4 {kA : Nat → ClassId} : or_ok PRD kA GG o_Sy_compileProduct_at_k9_4 := by
  refine or_mk fun A ta ws vs hD hth hl => ?_
  intro t0 r0 f3 f4
  replace f3 := shm_1747 f3
  replace f4 := shm_5 f4
  have q3 : n_v vs 3 = n_v vs 0 := f4.symm
  simp only [q3] at f3
  have kz_0_6 := fdq_304 hD hth r0
  have kz_0_8 := fdq_305 hD hth r0
  have nf0 : fc_1 PRD (20, [0], [50, 2, 0, 6, 8, 3, 7, 7, 3, 2, 0, 6, 0, 3, 0, 3, 2, 0, 8, 0, 9999]) ws (vs) := ⟨nf_in hl rfl, sgq_1747 (vc_Sy_compileProduct_at_k9_4_0 (w_fi ws (n_v vs 0) 6) (w_fi ws (n_v vs 0) 8) f3 kz_0_6 kz_0_8)⟩
  refine ⟨(fun _ h => (by cases h)), [], trivial, ?_, (fun _ h => (by cases h))⟩
  rw [List.append_nil]
  exact List.forall_mem_cons.mpr ⟨⟨show (20 : Nat) < 100 from by decide, nf0⟩, (fun _ h => (by cases h))⟩
set_option maxHeartbeats 4000000 in
theorem vc_Sy_compileProduct_at_k9_5_0 (x12 : Int) (x14 : Int) (k12 : 5 ≤ x12 ∧ x12 ≤ 5) (k14 : 0 ≤ x14 ∧ x14 ≤ 0) : (0 ≤ x12) ∧ ((0 ≤ x14) ∧ (((x12 * 65536) + x14) ≤ 851970)) := by
  first
    | omega
  
def o_Sy_compileProduct_at_k9_5 : or_T := (69, 15, [(12, (0, 5, 5, [])), (14, (0, 0, 0, []))], [], [], [], [(20, [12, 14], [50, 0, 0, 2, 6, 0, 2, 0, 0, 1, 0, 2, 6, 0, 2, 0, 0, 1, 1, 0, 10, 4, 6, 6, 2, 1, 0, 0, 65536, 1, 1, 0, 851970])], [], [])
theorem oo_Sy_compileProduct_at_k9_5 {kA : Nat → ClassId} : or_ok PRD kA GG o_Sy_compileProduct_at_k9_5 := by
  refine or_mk fun A ta ws vs hD hth hl => ?_
  intro t12 k12 t14 k14
  have nf0 : fc_1 PRD (20, [12, 14], [50, 0, 0, 2, 6, 0, 2, 0, 0, 1, 0, 2, 6, 0, 2, 0, 0, 1, 1, 0, 10, 4, 6, 6, 2, 1, 0, 0, 65536, 1, 1, 0, 851970]) ws (vs) := ⟨nf_in hl rfl, sgq_487 (vc_Sy_compileProduct_at_k9_5_0 (v_iv (n_v vs 12)) (v_iv (n_v vs 14)) k12 k14)⟩
  refine ⟨(fun _ h => (by cases h)), [], trivial, ?_, (fun _ h => (by cases h))⟩
  rw [List.append_nil]
  exact List.forall_mem_cons.mpr ⟨⟨show (20 : Nat) < 100 from by decide, nf0⟩, (fun _ h => (by cases h))⟩
set_option maxHeartbeats 4000000 in
theorem vc_Sy_compileProduct_at_k9_6_0 (kind_0 : Int) (number_0 : Int) (f1 : (kind_0 ≠ 3) ∨ (number_0 ≤ 9999)) (kz_0_6 : 0 ≤ kind_0 ∧ kind_0 ≤ 127) (kz_0_8 : 0 ≤ number_0 ∧ number_0 ≤ 1000000) : (kind_0 ≠ 3) ∨ (number_0 ≤ 9999) := by
  first
    | omega
  
def o_Sy_compileProduct_at_k9_6 : or_T := (65, 15, [(0, (2, 0, 0, [11]))], [(24, [0, 3], []), (20, [3], [50, 2, 0, 6, 8, 3, 7, 7, 3, 2, 0, 6, 0, 3, 0, 3, 2, 0, 8, 0, 9999])], [], [], [(20, [0], [50, 2, 0, 6, 8, 3, 7, 7, 3, 2, 0, 6, 0, 3, 0, 3, 2, 0, 8, 0, 9999])], [], [])
theorem oo_Sy_compileProduct_at_k9_6 {kA : Nat → ClassId} : or_ok PRD kA GG o_Sy_compileProduct_at_k9_6 := by
  refine or_mk fun A ta ws vs hD hth hl => ?_
  intro t0 r0 f0 f1
  replace f0 := shm_5 f0
  replace f1 := shm_1747 f1
  have q3 : n_v vs 3 = n_v vs 0 := f0.symm
  simp only [q3] at f1
  have kz_0_6 := fdq_304 hD hth r0
  have kz_0_8 := fdq_305 hD hth r0
  have nf0 : fc_1 PRD (20, [0], [50, 2, 0, 6, 8, 3, 7, 7, 3, 2, 0, 6, 0, 3, 0, 3, 2, 0, 8, 0, 9999]) ws (vs) := ⟨nf_in hl rfl, sgq_1747 (vc_Sy_compileProduct_at_k9_6_0 (w_fi ws (n_v vs 0) 6) (w_fi ws (n_v vs 0) 8) f1 kz_0_6 kz_0_8)⟩
  refine ⟨(fun _ h => (by cases h)), [], trivial, ?_, (fun _ h => (by cases h))⟩
  rw [List.append_nil]
  exact List.forall_mem_cons.mpr ⟨⟨show (20 : Nat) < 100 from by decide, nf0⟩, (fun _ h => (by cases h))⟩
def n_Sy_compileProduct_at_k9_an : List an_T := [(12, [(0, (2, 0, 0, [11])), (1, (0, 9, 9, [])), (2, (0, 0, 2000, []))], [], (0, 0), [(0, 0, 99988), (1, 5, 2000), (0, 0, 100000)], [], [((0, 3), (2, 0, 0, [109]))], [(2, 0, 0, [11]), (0, 9, 9, []), (2, 0, 0, [109])], 0, [], [(20, [3], [50, 2, 0, 6, 8, 3, 7, 7, 3, 2, 0, 6, 0, 3, 0, 3, 2, 0, 8, 0, 9999]), (24, [0, 3], [])])]
def t_Sy_compileProduct_at_k9_ct : ct_L := [(1, 69, e_Sy_advance), (1, 128, e_Sy_emit), (10, 158, e_Sy_compileValue_at_k9), (178, 158, e_Sy_compileValue_at_k9)]
set_option maxRecDepth 100000 in
theorem c_Sy_compileProduct_at_k9 {l : Launch} {D : va_G} {kA : Nat → ClassId} (h_Sy_advance : ct_ok PRD l D kA GG y_Sy_advance z_Sy_advance e_Sy_advance) (h_Sy_compileValue_at_k9 : ct_ok PRD l D kA GG y_Sy_compileValue_at_k9 z_Sy_compileValue_at_k9 e_Sy_compileValue_at_k9) (h_Sy_emit : ct_ok PRD l D kA GG y_Sy_emit z_Sy_emit e_Sy_emit) : ct_ok PRD l D kA GG y_Sy_compileProduct_at_k9 z_Sy_compileProduct_at_k9 e_Sy_compileProduct_at_k9 := chk_all_ok (FT := [(31, 11, 6)]) (PT := []) (CT := t_Sy_compileProduct_at_k9_ct) (KT := []) (NT := []) (AN := n_Sy_compileProduct_at_k9_an) (OT := [o_Sy_compileProduct_at_k9_0, o_Sy_compileProduct_at_k9_1, o_Sy_compileProduct_at_k9_2, o_Sy_compileProduct_at_k9_3, o_Sy_compileProduct_at_k9_4, o_Sy_compileProduct_at_k9_5, o_Sy_compileProduct_at_k9_6]) 3 268 (List.forall_mem_cons.mpr ⟨oo_Sy_compileProduct_at_k9_0, List.forall_mem_cons.mpr ⟨oo_Sy_compileProduct_at_k9_1, List.forall_mem_cons.mpr ⟨oo_Sy_compileProduct_at_k9_2, List.forall_mem_cons.mpr ⟨oo_Sy_compileProduct_at_k9_3, List.forall_mem_cons.mpr ⟨oo_Sy_compileProduct_at_k9_4, List.forall_mem_cons.mpr ⟨oo_Sy_compileProduct_at_k9_5, List.forall_mem_cons.mpr ⟨oo_Sy_compileProduct_at_k9_6, List.forall_mem_nil _⟩⟩⟩⟩⟩⟩⟩) (by decide +kernel) ⟨List.forall_mem_cons.mpr ⟨gf_Sy_31, List.forall_mem_nil _⟩, List.forall_mem_nil _, List.forall_mem_cons.mpr ⟨cl_virtual (y := y_Sy_advance) (ci := 11) rfl rfl ⟨_, _, rfl⟩ (by decide +kernel) h_Sy_advance wm_2158 wm_23 wm_2155 wm_2157 wv_10_10 ⟨by decide, by decide, by decide +kernel⟩ (by decide), List.forall_mem_cons.mpr ⟨cl_virtual (y := y_Sy_emit) (ci := 11) rfl rfl ⟨_, _, rfl⟩ (by decide +kernel) h_Sy_emit wm_2258 wm_23 wm_2255 wm_2257 wv_11_2 ⟨by decide, by decide, by decide +kernel⟩ (by decide), List.forall_mem_cons.mpr ⟨cl_virtual (y := y_Sy_compileValue_at_k9) (ci := 11) rfl rfl ⟨_, _, rfl⟩ (by decide +kernel) h_Sy_compileValue_at_k9 wm_2274 wm_23 wm_2271 wm_2273 wv_11_6 ⟨by decide, by decide, by decide +kernel⟩ (by decide), List.forall_mem_cons.mpr ⟨cl_virtual (y := y_Sy_compileValue_at_k9) (ci := 11) rfl rfl ⟨_, _, rfl⟩ (by decide +kernel) h_Sy_compileValue_at_k9 wm_2274 wm_23 wm_2271 wm_2273 wv_11_6 ⟨by decide, by decide, by decide +kernel⟩ (by decide), List.forall_mem_nil _⟩⟩⟩⟩, List.forall_mem_nil _, List.forall_mem_nil _, GG_pl⟩ (by decide +kernel)
set_option maxHeartbeats 4000000 in
theorem vc_Sy_compileSetting_0_0 (x3 : Int) (x9 : Int) (k3 : 0 ≤ x3 ∧ x3 ≤ 2) (k9 : 13 ≤ x9 ∧ x9 ≤ 13) : (0 ≤ x9) ∧ ((0 ≤ x3) ∧ (((x9 * 65536) + x3) ≤ 851970)) := by
  first
    | omega
  
def o_Sy_compileSetting_0 : or_T := (59, 10, [(3, (0, 0, 2, [])), (9, (0, 13, 13, []))], [], [], [], [(20, [9, 3], [50, 0, 0, 2, 6, 0, 2, 0, 0, 1, 0, 2, 6, 0, 2, 0, 0, 1, 1, 0, 10, 4, 6, 6, 2, 1, 0, 0, 65536, 1, 1, 0, 851970])], [], [])
theorem oo_Sy_compileSetting_0 {kA : Nat → ClassId} : or_ok PRD kA GG o_Sy_compileSetting_0 := by
  refine or_mk fun A ta ws vs hD hth hl => ?_
  intro t3 k3 t9 k9
  have nf0 : fc_1 PRD (20, [9, 3], [50, 0, 0, 2, 6, 0, 2, 0, 0, 1, 0, 2, 6, 0, 2, 0, 0, 1, 1, 0, 10, 4, 6, 6, 2, 1, 0, 0, 65536, 1, 1, 0, 851970]) ws (vs) := ⟨nf_in hl rfl, sgq_487 (vc_Sy_compileSetting_0_0 (v_iv (n_v vs 3)) (v_iv (n_v vs 9)) k3 k9)⟩
  refine ⟨(fun _ h => (by cases h)), [], trivial, ?_, (fun _ h => (by cases h))⟩
  rw [List.append_nil]
  exact List.forall_mem_cons.mpr ⟨⟨show (20 : Nat) < 100 from by decide, nf0⟩, (fun _ h => (by cases h))⟩
def n_Sy_compileSetting_an : List an_T := []
def t_Sy_compileSetting_ct : ct_L := [(1, 69, e_Sy_advance), (1, 118, e_Sy_fail), (1, 128, e_Sy_emit), (25, 114, e_Sy_wordIn_at_s5012), (145, 137, e_Sy_compileSum_at_k0), (1000000, 135, en_ro [] (2, 0, 0, [5012]))]
set_option maxRecDepth 100000 in
theorem c_Sy_compileSetting {l : Launch} {D : va_G} {kA : Nat → ClassId} (h_Sy_advance : ct_ok PRD l D kA GG y_Sy_advance z_Sy_advance e_Sy_advance) (h_Sy_compileSum_at_k0 : ct_ok PRD l D kA GG y_Sy_compileSum_at_k0 z_Sy_compileSum_at_k0 e_Sy_compileSum_at_k0) (h_Sy_emit : ct_ok PRD l D kA GG y_Sy_emit z_Sy_emit e_Sy_emit) (h_Sy_fail : ct_ok PRD l D kA GG y_Sy_fail z_Sy_fail e_Sy_fail) (h_Sy_wordIn_at_s5012 : ct_ok PRD l D kA GG y_Sy_wordIn_at_s5012 z_Sy_wordIn_at_s5012 e_Sy_wordIn_at_s5012) : ct_ok PRD l D kA GG y_Sy_compileSetting z_Sy_compileSetting e_Sy_compileSetting := chk_all_ok (FT := [(31, 11, 6)]) (PT := []) (CT := t_Sy_compileSetting_ct) (KT := []) (NT := []) (AN := n_Sy_compileSetting_an) (OT := [o_Sy_compileSetting_0]) 0 200 (List.forall_mem_cons.mpr ⟨oo_Sy_compileSetting_0, List.forall_mem_nil _⟩) (by decide +kernel) ⟨List.forall_mem_cons.mpr ⟨gf_Sy_31, List.forall_mem_nil _⟩, List.forall_mem_nil _, List.forall_mem_cons.mpr ⟨cl_virtual (y := y_Sy_advance) (ci := 11) rfl rfl ⟨_, _, rfl⟩ (by decide +kernel) h_Sy_advance wm_2158 wm_23 wm_2155 wm_2157 wv_10_10 ⟨by decide, by decide, by decide +kernel⟩ (by decide), List.forall_mem_cons.mpr ⟨cl_virtual (y := y_Sy_fail) (ci := 11) rfl rfl ⟨_, _, rfl⟩ (by decide +kernel) h_Sy_fail wm_2239 wm_23 wm_2236 wm_2238 wv_10_14 ⟨by decide, by decide, by decide +kernel⟩ (by decide), List.forall_mem_cons.mpr ⟨cl_virtual (y := y_Sy_emit) (ci := 11) rfl rfl ⟨_, _, rfl⟩ (by decide +kernel) h_Sy_emit wm_2258 wm_23 wm_2255 wm_2257 wv_11_2 ⟨by decide, by decide, by decide +kernel⟩ (by decide), List.forall_mem_cons.mpr ⟨cl_virtual (y := y_Sy_wordIn_at_s5012) (ci := 11) rfl rfl ⟨_, _, rfl⟩ (by decide +kernel) h_Sy_wordIn_at_s5012 wm_2229 wm_23 wm_2226 wm_2228 wv_10_12 ⟨by decide, by decide, by decide +kernel⟩ (by decide), List.forall_mem_cons.mpr ⟨cl_virtual (y := y_Sy_compileSum_at_k0) (ci := 11) rfl rfl ⟨_, _, rfl⟩ (by decide +kernel) h_Sy_compileSum_at_k0 wm_2266 wm_23 wm_2263 wm_2265 wv_11_4 ⟨by decide, by decide, by decide +kernel⟩ (by decide), List.forall_mem_cons.mpr ⟨cl_ldc (own := "DrawingHouse$Styler") (idx := 135) (i := 12) (tx := "color width form ") (by decide +kernel) (by decide +kernel) (by decide +kernel), List.forall_mem_nil _⟩⟩⟩⟩⟩⟩, List.forall_mem_nil _, List.forall_mem_nil _, GG_pl⟩ (by decide +kernel)
def o_Sy_compileSum_at_k0_0 : or_T := (12, 5, [], [], [], [], [(24, [0, 0], [])], [], [])
theorem oo_Sy_compileSum_at_k0_0 {kA : Nat → ClassId} : or_ok PRD kA GG o_Sy_compileSum_at_k0_0 := by
  refine or_mk fun A ta ws vs hD hth hl => ?_
  have nf0 : fc_1 PRD (24, [0, 0], []) ws (vs) := by
    refine ⟨nf_in hl rfl, sgq_1 ?_⟩
    · show n_v vs 0 = n_v vs 0
      first | rfl | simp only [true_and]
  refine ⟨(fun _ h => (by cases h)), [], trivial, ?_, (fun _ h => (by cases h))⟩
  rw [List.append_nil]
  exact List.forall_mem_cons.mpr ⟨⟨show (24 : Nat) < 100 from by decide, nf0⟩, (fun _ h => (by cases h))⟩
set_option maxHeartbeats 4000000 in
theorem vc_Sy_compileSum_at_k0_1_0 (kind_0 : Int) (number_0 : Int) (f0 : (kind_0 ≠ 3) ∨ (number_0 ≤ 9999)) (kz_0_6 : 0 ≤ kind_0 ∧ kind_0 ≤ 127) (kz_0_8 : 0 ≤ number_0 ∧ number_0 ≤ 1000000) : (kind_0 ≠ 3) ∨ (number_0 ≤ 9999) := by
  first
    | omega
  
def o_Sy_compileSum_at_k0_1 : or_T := (79, 9, [(0, (2, 0, 0, [11]))], [(20, [3], [50, 2, 0, 6, 8, 3, 7, 7, 3, 2, 0, 6, 0, 3, 0, 3, 2, 0, 8, 0, 9999]), (24, [0, 3], [])], [], [], [(20, [0], [50, 2, 0, 6, 8, 3, 7, 7, 3, 2, 0, 6, 0, 3, 0, 3, 2, 0, 8, 0, 9999])], [], [])
theorem oo_Sy_compileSum_at_k0_1 {kA : Nat → ClassId} : or_ok PRD kA GG o_Sy_compileSum_at_k0_1 := by
  refine or_mk fun A ta ws vs hD hth hl => ?_
  intro t0 r0 f0 f1
  replace f0 := shm_1747 f0
  replace f1 := shm_5 f1
  have q3 : n_v vs 3 = n_v vs 0 := f1.symm
  simp only [q3] at f0
  have kz_0_6 := fdq_304 hD hth r0
  have kz_0_8 := fdq_305 hD hth r0
  have nf0 : fc_1 PRD (20, [0], [50, 2, 0, 6, 8, 3, 7, 7, 3, 2, 0, 6, 0, 3, 0, 3, 2, 0, 8, 0, 9999]) ws (vs) := ⟨nf_in hl rfl, sgq_1747 (vc_Sy_compileSum_at_k0_1_0 (w_fi ws (n_v vs 0) 6) (w_fi ws (n_v vs 0) 8) f0 kz_0_6 kz_0_8)⟩
  refine ⟨(fun _ h => (by cases h)), [], trivial, ?_, (fun _ h => (by cases h))⟩
  rw [List.append_nil]
  exact List.forall_mem_cons.mpr ⟨⟨show (20 : Nat) < 100 from by decide, nf0⟩, (fun _ h => (by cases h))⟩
set_option maxHeartbeats 4000000 in
theorem vc_Sy_compileSum_at_k0_2_0 (x11 : Int) (x13 : Int) (k11 : 2 ≤ x11 ∧ x11 ≤ 2) (k13 : 0 ≤ x13 ∧ x13 ≤ 0) : (0 ≤ x11) ∧ ((0 ≤ x13) ∧ (((x11 * 65536) + x13) ≤ 851970)) := by
  first
    | omega
  
def o_Sy_compileSum_at_k0_2 : or_T := (69, 14, [(11, (0, 2, 2, [])), (13, (0, 0, 0, []))], [], [], [], [(20, [11, 13], [50, 0, 0, 2, 6, 0, 2, 0, 0, 1, 0, 2, 6, 0, 2, 0, 0, 1, 1, 0, 10, 4, 6, 6, 2, 1, 0, 0, 65536, 1, 1, 0, 851970])], [], [])
theorem oo_Sy_compileSum_at_k0_2 {kA : Nat → ClassId} : or_ok PRD kA GG o_Sy_compileSum_at_k0_2 := by
  refine or_mk fun A ta ws vs hD hth hl => ?_
  intro t11 k11 t13 k13
  have nf0 : fc_1 PRD (20, [11, 13], [50, 0, 0, 2, 6, 0, 2, 0, 0, 1, 0, 2, 6, 0, 2, 0, 0, 1, 1, 0, 10, 4, 6, 6, 2, 1, 0, 0, 65536, 1, 1, 0, 851970]) ws (vs) := ⟨nf_in hl rfl, sgq_487 (vc_Sy_compileSum_at_k0_2_0 (v_iv (n_v vs 11)) (v_iv (n_v vs 13)) k11 k13)⟩
  refine ⟨(fun _ h => (by cases h)), [], trivial, ?_, (fun _ h => (by cases h))⟩
  rw [List.append_nil]
  exact List.forall_mem_cons.mpr ⟨⟨show (20 : Nat) < 100 from by decide, nf0⟩, (fun _ h => (by cases h))⟩
set_option maxHeartbeats 4000000 in
theorem vc_Sy_compileSum_at_k0_3_0 (kind_0 : Int) (number_0 : Int) (f1 : (kind_0 ≠ 3) ∨ (number_0 ≤ 9999)) (kz_0_6 : 0 ≤ kind_0 ∧ kind_0 ≤ 127) (kz_0_8 : 0 ≤ number_0 ∧ number_0 ≤ 1000000) : (kind_0 ≠ 3) ∨ (number_0 ≤ 9999) := by
  first
    | omega
  
def o_Sy_compileSum_at_k0_3 : or_T := (65, 14, [(0, (2, 0, 0, [11]))], [(24, [0, 3], []), (20, [3], [50, 2, 0, 6, 8, 3, 7, 7, 3, 2, 0, 6, 0, 3, 0, 3, 2, 0, 8, 0, 9999])], [], [], [(20, [0], [50, 2, 0, 6, 8, 3, 7, 7, 3, 2, 0, 6, 0, 3, 0, 3, 2, 0, 8, 0, 9999])], [], [])
theorem oo_Sy_compileSum_at_k0_3 {kA : Nat → ClassId} : or_ok PRD kA GG o_Sy_compileSum_at_k0_3 := by
  refine or_mk fun A ta ws vs hD hth hl => ?_
  intro t0 r0 f0 f1
  replace f0 := shm_5 f0
  replace f1 := shm_1747 f1
  have q3 : n_v vs 3 = n_v vs 0 := f0.symm
  simp only [q3] at f1
  have kz_0_6 := fdq_304 hD hth r0
  have kz_0_8 := fdq_305 hD hth r0
  have nf0 : fc_1 PRD (20, [0], [50, 2, 0, 6, 8, 3, 7, 7, 3, 2, 0, 6, 0, 3, 0, 3, 2, 0, 8, 0, 9999]) ws (vs) := ⟨nf_in hl rfl, sgq_1747 (vc_Sy_compileSum_at_k0_3_0 (w_fi ws (n_v vs 0) 6) (w_fi ws (n_v vs 0) 8) f1 kz_0_6 kz_0_8)⟩
  refine ⟨(fun _ h => (by cases h)), [], trivial, ?_, (fun _ h => (by cases h))⟩
  rw [List.append_nil]
  exact List.forall_mem_cons.mpr ⟨⟨show (20 : Nat) < 100 from by decide, nf0⟩, (fun _ h => (by cases h))⟩
set_option maxHeartbeats 4000000 in
theorem vc_Sy_compileSum_at_k0_4_0 (kind_0 : Int) (number_0 : Int) (f3 : (kind_0 ≠ 3) ∨ (number_0 ≤ 9999)) (kz_0_6 : 0 ≤ kind_0 ∧ kind_0 ≤ 127) (kz_0_8 : 0 ≤ number_0 ∧ number_0 ≤ 1000000) : (kind_0 ≠ 3) ∨ (number_0 ≤ 9999) := by
  first
    | omega
  
def o_Sy_compileSum_at_k0_4 : or_T := (79, 12, [(0, (2, 0, 0, [11]))], [(20, [3], [50, 2, 0, 6, 8, 3, 7, 7, 3, 2, 0, 6, 0, 3, 0, 3, 2, 0, 8, 0, 9999]), (24, [0, 3], [])], [], [], [(20, [0], [50, 2, 0, 6, 8, 3, 7, 7, 3, 2, 0, 6, 0, 3, 0, 3, 2, 0, 8, 0, 9999])], [], [])
theorem oo_Sy_compileSum_at_k0_4 {kA : Nat → ClassId} : or_ok PRD kA GG o_Sy_compileSum_at_k0_4 := by
  refine or_mk fun A ta ws vs hD hth hl => ?_
  intro t0 r0 f3 f4
  replace f3 := shm_1747 f3
  replace f4 := shm_5 f4
  have q3 : n_v vs 3 = n_v vs 0 := f4.symm
  simp only [q3] at f3
  have kz_0_6 := fdq_304 hD hth r0
  have kz_0_8 := fdq_305 hD hth r0
  have nf0 : fc_1 PRD (20, [0], [50, 2, 0, 6, 8, 3, 7, 7, 3, 2, 0, 6, 0, 3, 0, 3, 2, 0, 8, 0, 9999]) ws (vs) := ⟨nf_in hl rfl, sgq_1747 (vc_Sy_compileSum_at_k0_4_0 (w_fi ws (n_v vs 0) 6) (w_fi ws (n_v vs 0) 8) f3 kz_0_6 kz_0_8)⟩
  refine ⟨(fun _ h => (by cases h)), [], trivial, ?_, (fun _ h => (by cases h))⟩
  rw [List.append_nil]
  exact List.forall_mem_cons.mpr ⟨⟨show (20 : Nat) < 100 from by decide, nf0⟩, (fun _ h => (by cases h))⟩
set_option maxHeartbeats 4000000 in
theorem vc_Sy_compileSum_at_k0_5_0 (x12 : Int) (x14 : Int) (k12 : 3 ≤ x12 ∧ x12 ≤ 3) (k14 : 0 ≤ x14 ∧ x14 ≤ 0) : (0 ≤ x12) ∧ ((0 ≤ x14) ∧ (((x12 * 65536) + x14) ≤ 851970)) := by
  first
    | omega
  
def o_Sy_compileSum_at_k0_5 : or_T := (69, 15, [(12, (0, 3, 3, [])), (14, (0, 0, 0, []))], [], [], [], [(20, [12, 14], [50, 0, 0, 2, 6, 0, 2, 0, 0, 1, 0, 2, 6, 0, 2, 0, 0, 1, 1, 0, 10, 4, 6, 6, 2, 1, 0, 0, 65536, 1, 1, 0, 851970])], [], [])
theorem oo_Sy_compileSum_at_k0_5 {kA : Nat → ClassId} : or_ok PRD kA GG o_Sy_compileSum_at_k0_5 := by
  refine or_mk fun A ta ws vs hD hth hl => ?_
  intro t12 k12 t14 k14
  have nf0 : fc_1 PRD (20, [12, 14], [50, 0, 0, 2, 6, 0, 2, 0, 0, 1, 0, 2, 6, 0, 2, 0, 0, 1, 1, 0, 10, 4, 6, 6, 2, 1, 0, 0, 65536, 1, 1, 0, 851970]) ws (vs) := ⟨nf_in hl rfl, sgq_487 (vc_Sy_compileSum_at_k0_5_0 (v_iv (n_v vs 12)) (v_iv (n_v vs 14)) k12 k14)⟩
  refine ⟨(fun _ h => (by cases h)), [], trivial, ?_, (fun _ h => (by cases h))⟩
  rw [List.append_nil]
  exact List.forall_mem_cons.mpr ⟨⟨show (20 : Nat) < 100 from by decide, nf0⟩, (fun _ h => (by cases h))⟩
set_option maxHeartbeats 4000000 in
theorem vc_Sy_compileSum_at_k0_6_0 (kind_0 : Int) (number_0 : Int) (f1 : (kind_0 ≠ 3) ∨ (number_0 ≤ 9999)) (kz_0_6 : 0 ≤ kind_0 ∧ kind_0 ≤ 127) (kz_0_8 : 0 ≤ number_0 ∧ number_0 ≤ 1000000) : (kind_0 ≠ 3) ∨ (number_0 ≤ 9999) := by
  first
    | omega
  
def o_Sy_compileSum_at_k0_6 : or_T := (65, 15, [(0, (2, 0, 0, [11]))], [(24, [0, 3], []), (20, [3], [50, 2, 0, 6, 8, 3, 7, 7, 3, 2, 0, 6, 0, 3, 0, 3, 2, 0, 8, 0, 9999])], [], [], [(20, [0], [50, 2, 0, 6, 8, 3, 7, 7, 3, 2, 0, 6, 0, 3, 0, 3, 2, 0, 8, 0, 9999])], [], [])
theorem oo_Sy_compileSum_at_k0_6 {kA : Nat → ClassId} : or_ok PRD kA GG o_Sy_compileSum_at_k0_6 := by
  refine or_mk fun A ta ws vs hD hth hl => ?_
  intro t0 r0 f0 f1
  replace f0 := shm_5 f0
  replace f1 := shm_1747 f1
  have q3 : n_v vs 3 = n_v vs 0 := f0.symm
  simp only [q3] at f1
  have kz_0_6 := fdq_304 hD hth r0
  have kz_0_8 := fdq_305 hD hth r0
  have nf0 : fc_1 PRD (20, [0], [50, 2, 0, 6, 8, 3, 7, 7, 3, 2, 0, 6, 0, 3, 0, 3, 2, 0, 8, 0, 9999]) ws (vs) := ⟨nf_in hl rfl, sgq_1747 (vc_Sy_compileSum_at_k0_6_0 (w_fi ws (n_v vs 0) 6) (w_fi ws (n_v vs 0) 8) f1 kz_0_6 kz_0_8)⟩
  refine ⟨(fun _ h => (by cases h)), [], trivial, ?_, (fun _ h => (by cases h))⟩
  rw [List.append_nil]
  exact List.forall_mem_cons.mpr ⟨⟨show (20 : Nat) < 100 from by decide, nf0⟩, (fun _ h => (by cases h))⟩
def n_Sy_compileSum_at_k0_an : List an_T := [(12, [(0, (2, 0, 0, [11])), (1, (0, 0, 0, [])), (2, (0, 0, 2000, []))], [], (0, 0), [(0, 0, 99988), (1, 5, 2000), (0, 0, 100000)], [], [((0, 3), (2, 0, 0, [109]))], [(2, 0, 0, [11]), (0, 0, 0, []), (2, 0, 0, [109])], 0, [], [(20, [3], [50, 2, 0, 6, 8, 3, 7, 7, 3, 2, 0, 6, 0, 3, 0, 3, 2, 0, 8, 0, 9999]), (24, [0, 3], [])])]
def t_Sy_compileSum_at_k0_ct : ct_L := [(1, 69, e_Sy_advance), (1, 128, e_Sy_emit), (10, 155, e_Sy_compileProduct_at_k0), (178, 155, e_Sy_compileProduct_at_k0)]
set_option maxRecDepth 100000 in
theorem c_Sy_compileSum_at_k0 {l : Launch} {D : va_G} {kA : Nat → ClassId} (h_Sy_advance : ct_ok PRD l D kA GG y_Sy_advance z_Sy_advance e_Sy_advance) (h_Sy_compileProduct_at_k0 : ct_ok PRD l D kA GG y_Sy_compileProduct_at_k0 z_Sy_compileProduct_at_k0 e_Sy_compileProduct_at_k0) (h_Sy_emit : ct_ok PRD l D kA GG y_Sy_emit z_Sy_emit e_Sy_emit) : ct_ok PRD l D kA GG y_Sy_compileSum_at_k0 z_Sy_compileSum_at_k0 e_Sy_compileSum_at_k0 := chk_all_ok (FT := [(31, 11, 6)]) (PT := []) (CT := t_Sy_compileSum_at_k0_ct) (KT := []) (NT := []) (AN := n_Sy_compileSum_at_k0_an) (OT := [o_Sy_compileSum_at_k0_0, o_Sy_compileSum_at_k0_1, o_Sy_compileSum_at_k0_2, o_Sy_compileSum_at_k0_3, o_Sy_compileSum_at_k0_4, o_Sy_compileSum_at_k0_5, o_Sy_compileSum_at_k0_6]) 3 256 (List.forall_mem_cons.mpr ⟨oo_Sy_compileSum_at_k0_0, List.forall_mem_cons.mpr ⟨oo_Sy_compileSum_at_k0_1, List.forall_mem_cons.mpr ⟨oo_Sy_compileSum_at_k0_2, List.forall_mem_cons.mpr ⟨oo_Sy_compileSum_at_k0_3, List.forall_mem_cons.mpr ⟨oo_Sy_compileSum_at_k0_4, List.forall_mem_cons.mpr ⟨oo_Sy_compileSum_at_k0_5, List.forall_mem_cons.mpr ⟨oo_Sy_compileSum_at_k0_6, List.forall_mem_nil _⟩⟩⟩⟩⟩⟩⟩) (by decide +kernel) ⟨List.forall_mem_cons.mpr ⟨gf_Sy_31, List.forall_mem_nil _⟩, List.forall_mem_nil _, List.forall_mem_cons.mpr ⟨cl_virtual (y := y_Sy_advance) (ci := 11) rfl rfl ⟨_, _, rfl⟩ (by decide +kernel) h_Sy_advance wm_2158 wm_23 wm_2155 wm_2157 wv_10_10 ⟨by decide, by decide, by decide +kernel⟩ (by decide), List.forall_mem_cons.mpr ⟨cl_virtual (y := y_Sy_emit) (ci := 11) rfl rfl ⟨_, _, rfl⟩ (by decide +kernel) h_Sy_emit wm_2258 wm_23 wm_2255 wm_2257 wv_11_2 ⟨by decide, by decide, by decide +kernel⟩ (by decide), List.forall_mem_cons.mpr ⟨cl_virtual (y := y_Sy_compileProduct_at_k0) (ci := 11) rfl rfl ⟨_, _, rfl⟩ (by decide +kernel) h_Sy_compileProduct_at_k0 wm_2270 wm_23 wm_2267 wm_2269 wv_11_5 ⟨by decide, by decide, by decide +kernel⟩ (by decide), List.forall_mem_cons.mpr ⟨cl_virtual (y := y_Sy_compileProduct_at_k0) (ci := 11) rfl rfl ⟨_, _, rfl⟩ (by decide +kernel) h_Sy_compileProduct_at_k0 wm_2270 wm_23 wm_2267 wm_2269 wv_11_5 ⟨by decide, by decide, by decide +kernel⟩ (by decide), List.forall_mem_nil _⟩⟩⟩⟩, List.forall_mem_nil _, List.forall_mem_nil _, GG_pl⟩ (by decide +kernel)

def o_Sy_compileSum_at_k1_0 : or_T := (12, 5, [], [], [], [], [(24, [0, 0], [])], [], [])
theorem oo_Sy_compileSum_at_k1_0 {kA : Nat → ClassId} : or_ok PRD kA GG o_Sy_compileSum_at_k1_0 := by
  refine or_mk fun A ta ws vs hD hth hl => ?_
  have nf0 : fc_1 PRD (24, [0, 0], []) ws (vs) := by
    refine ⟨nf_in hl rfl, sgq_1 ?_⟩
    · show n_v vs 0 = n_v vs 0
      first | rfl | simp only [true_and]
  refine ⟨(fun _ h => (by cases h)), [], trivial, ?_, (fun _ h => (by cases h))⟩
  rw [List.append_nil]
  exact List.forall_mem_cons.mpr ⟨⟨show (24 : Nat) < 100 from by decide, nf0⟩, (fun _ h => (by cases h))⟩
set_option maxHeartbeats 4000000 in
theorem vc_Sy_compileSum_at_k1_1_0 (kind_0 : Int) (number_0 : Int) (f0 : (kind_0 ≠ 3) ∨ (number_0 ≤ 9999)) (kz_0_6 : 0 ≤ kind_0 ∧ kind_0 ≤ 127) (kz_0_8 : 0 ≤ number_0 ∧ number_0 ≤ 1000000) : (kind_0 ≠ 3) ∨ (number_0 ≤ 9999) := by
  first
    | omega
  
def o_Sy_compileSum_at_k1_1 : or_T := (79, 9, [(0, (2, 0, 0, [11]))], [(20, [3], [50, 2, 0, 6, 8, 3, 7, 7, 3, 2, 0, 6, 0, 3, 0, 3, 2, 0, 8, 0, 9999]), (24, [0, 3], [])], [], [], [(20, [0], [50, 2, 0, 6, 8, 3, 7, 7, 3, 2, 0, 6, 0, 3, 0, 3, 2, 0, 8, 0, 9999])], [], [])
theorem oo_Sy_compileSum_at_k1_1 {kA : Nat → ClassId} : or_ok PRD kA GG o_Sy_compileSum_at_k1_1 := by
  refine or_mk fun A ta ws vs hD hth hl => ?_
  intro t0 r0 f0 f1
  replace f0 := shm_1747 f0
  replace f1 := shm_5 f1
  have q3 : n_v vs 3 = n_v vs 0 := f1.symm
  simp only [q3] at f0
  have kz_0_6 := fdq_304 hD hth r0
  have kz_0_8 := fdq_305 hD hth r0
  have nf0 : fc_1 PRD (20, [0], [50, 2, 0, 6, 8, 3, 7, 7, 3, 2, 0, 6, 0, 3, 0, 3, 2, 0, 8, 0, 9999]) ws (vs) := ⟨nf_in hl rfl, sgq_1747 (vc_Sy_compileSum_at_k1_1_0 (w_fi ws (n_v vs 0) 6) (w_fi ws (n_v vs 0) 8) f0 kz_0_6 kz_0_8)⟩
  refine ⟨(fun _ h => (by cases h)), [], trivial, ?_, (fun _ h => (by cases h))⟩
  rw [List.append_nil]
  exact List.forall_mem_cons.mpr ⟨⟨show (20 : Nat) < 100 from by decide, nf0⟩, (fun _ h => (by cases h))⟩
set_option maxHeartbeats 4000000 in
theorem vc_Sy_compileSum_at_k1_2_0 (x11 : Int) (x13 : Int) (k11 : 2 ≤ x11 ∧ x11 ≤ 2) (k13 : 0 ≤ x13 ∧ x13 ≤ 0) : (0 ≤ x11) ∧ ((0 ≤ x13) ∧ (((x11 * 65536) + x13) ≤ 851970)) := by
  first
    | omega
  
def o_Sy_compileSum_at_k1_2 : or_T := (69, 14, [(11, (0, 2, 2, [])), (13, (0, 0, 0, []))], [], [], [], [(20, [11, 13], [50, 0, 0, 2, 6, 0, 2, 0, 0, 1, 0, 2, 6, 0, 2, 0, 0, 1, 1, 0, 10, 4, 6, 6, 2, 1, 0, 0, 65536, 1, 1, 0, 851970])], [], [])
theorem oo_Sy_compileSum_at_k1_2 {kA : Nat → ClassId} : or_ok PRD kA GG o_Sy_compileSum_at_k1_2 := by
  refine or_mk fun A ta ws vs hD hth hl => ?_
  intro t11 k11 t13 k13
  have nf0 : fc_1 PRD (20, [11, 13], [50, 0, 0, 2, 6, 0, 2, 0, 0, 1, 0, 2, 6, 0, 2, 0, 0, 1, 1, 0, 10, 4, 6, 6, 2, 1, 0, 0, 65536, 1, 1, 0, 851970]) ws (vs) := ⟨nf_in hl rfl, sgq_487 (vc_Sy_compileSum_at_k1_2_0 (v_iv (n_v vs 11)) (v_iv (n_v vs 13)) k11 k13)⟩
  refine ⟨(fun _ h => (by cases h)), [], trivial, ?_, (fun _ h => (by cases h))⟩
  rw [List.append_nil]
  exact List.forall_mem_cons.mpr ⟨⟨show (20 : Nat) < 100 from by decide, nf0⟩, (fun _ h => (by cases h))⟩
set_option maxHeartbeats 4000000 in
theorem vc_Sy_compileSum_at_k1_3_0 (kind_0 : Int) (number_0 : Int) (f1 : (kind_0 ≠ 3) ∨ (number_0 ≤ 9999)) (kz_0_6 : 0 ≤ kind_0 ∧ kind_0 ≤ 127) (kz_0_8 : 0 ≤ number_0 ∧ number_0 ≤ 1000000) : (kind_0 ≠ 3) ∨ (number_0 ≤ 9999) := by
  first
    | omega
  
def o_Sy_compileSum_at_k1_3 : or_T := (65, 14, [(0, (2, 0, 0, [11]))], [(24, [0, 3], []), (20, [3], [50, 2, 0, 6, 8, 3, 7, 7, 3, 2, 0, 6, 0, 3, 0, 3, 2, 0, 8, 0, 9999])], [], [], [(20, [0], [50, 2, 0, 6, 8, 3, 7, 7, 3, 2, 0, 6, 0, 3, 0, 3, 2, 0, 8, 0, 9999])], [], [])
theorem oo_Sy_compileSum_at_k1_3 {kA : Nat → ClassId} : or_ok PRD kA GG o_Sy_compileSum_at_k1_3 := by
  refine or_mk fun A ta ws vs hD hth hl => ?_
  intro t0 r0 f0 f1
  replace f0 := shm_5 f0
  replace f1 := shm_1747 f1
  have q3 : n_v vs 3 = n_v vs 0 := f0.symm
  simp only [q3] at f1
  have kz_0_6 := fdq_304 hD hth r0
  have kz_0_8 := fdq_305 hD hth r0
  have nf0 : fc_1 PRD (20, [0], [50, 2, 0, 6, 8, 3, 7, 7, 3, 2, 0, 6, 0, 3, 0, 3, 2, 0, 8, 0, 9999]) ws (vs) := ⟨nf_in hl rfl, sgq_1747 (vc_Sy_compileSum_at_k1_3_0 (w_fi ws (n_v vs 0) 6) (w_fi ws (n_v vs 0) 8) f1 kz_0_6 kz_0_8)⟩
  refine ⟨(fun _ h => (by cases h)), [], trivial, ?_, (fun _ h => (by cases h))⟩
  rw [List.append_nil]
  exact List.forall_mem_cons.mpr ⟨⟨show (20 : Nat) < 100 from by decide, nf0⟩, (fun _ h => (by cases h))⟩
set_option maxHeartbeats 4000000 in
theorem vc_Sy_compileSum_at_k1_4_0 (kind_0 : Int) (number_0 : Int) (f3 : (kind_0 ≠ 3) ∨ (number_0 ≤ 9999)) (kz_0_6 : 0 ≤ kind_0 ∧ kind_0 ≤ 127) (kz_0_8 : 0 ≤ number_0 ∧ number_0 ≤ 1000000) : (kind_0 ≠ 3) ∨ (number_0 ≤ 9999) := by
  first
    | omega
  
def o_Sy_compileSum_at_k1_4 : or_T := (79, 12, [(0, (2, 0, 0, [11]))], [(20, [3], [50, 2, 0, 6, 8, 3, 7, 7, 3, 2, 0, 6, 0, 3, 0, 3, 2, 0, 8, 0, 9999]), (24, [0, 3], [])], [], [], [(20, [0], [50, 2, 0, 6, 8, 3, 7, 7, 3, 2, 0, 6, 0, 3, 0, 3, 2, 0, 8, 0, 9999])], [], [])
theorem oo_Sy_compileSum_at_k1_4 {kA : Nat → ClassId} : or_ok PRD kA GG o_Sy_compileSum_at_k1_4 := by
  refine or_mk fun A ta ws vs hD hth hl => ?_
  intro t0 r0 f3 f4
  replace f3 := shm_1747 f3
  replace f4 := shm_5 f4
  have q3 : n_v vs 3 = n_v vs 0 := f4.symm
  simp only [q3] at f3
  have kz_0_6 := fdq_304 hD hth r0
  have kz_0_8 := fdq_305 hD hth r0
  have nf0 : fc_1 PRD (20, [0], [50, 2, 0, 6, 8, 3, 7, 7, 3, 2, 0, 6, 0, 3, 0, 3, 2, 0, 8, 0, 9999]) ws (vs) := ⟨nf_in hl rfl, sgq_1747 (vc_Sy_compileSum_at_k1_4_0 (w_fi ws (n_v vs 0) 6) (w_fi ws (n_v vs 0) 8) f3 kz_0_6 kz_0_8)⟩
  refine ⟨(fun _ h => (by cases h)), [], trivial, ?_, (fun _ h => (by cases h))⟩
  rw [List.append_nil]
  exact List.forall_mem_cons.mpr ⟨⟨show (20 : Nat) < 100 from by decide, nf0⟩, (fun _ h => (by cases h))⟩
set_option maxHeartbeats 4000000 in
theorem vc_Sy_compileSum_at_k1_5_0 (x12 : Int) (x14 : Int) (k12 : 3 ≤ x12 ∧ x12 ≤ 3) (k14 : 0 ≤ x14 ∧ x14 ≤ 0) : (0 ≤ x12) ∧ ((0 ≤ x14) ∧ (((x12 * 65536) + x14) ≤ 851970)) := by
  first
    | omega
  
def o_Sy_compileSum_at_k1_5 : or_T := (69, 15, [(12, (0, 3, 3, [])), (14, (0, 0, 0, []))], [], [], [], [(20, [12, 14], [50, 0, 0, 2, 6, 0, 2, 0, 0, 1, 0, 2, 6, 0, 2, 0, 0, 1, 1, 0, 10, 4, 6, 6, 2, 1, 0, 0, 65536, 1, 1, 0, 851970])], [], [])
theorem oo_Sy_compileSum_at_k1_5 {kA : Nat → ClassId} : or_ok PRD kA GG o_Sy_compileSum_at_k1_5 := by
  refine or_mk fun A ta ws vs hD hth hl => ?_
  intro t12 k12 t14 k14
  have nf0 : fc_1 PRD (20, [12, 14], [50, 0, 0, 2, 6, 0, 2, 0, 0, 1, 0, 2, 6, 0, 2, 0, 0, 1, 1, 0, 10, 4, 6, 6, 2, 1, 0, 0, 65536, 1, 1, 0, 851970]) ws (vs) := ⟨nf_in hl rfl, sgq_487 (vc_Sy_compileSum_at_k1_5_0 (v_iv (n_v vs 12)) (v_iv (n_v vs 14)) k12 k14)⟩
  refine ⟨(fun _ h => (by cases h)), [], trivial, ?_, (fun _ h => (by cases h))⟩
  rw [List.append_nil]
  exact List.forall_mem_cons.mpr ⟨⟨show (20 : Nat) < 100 from by decide, nf0⟩, (fun _ h => (by cases h))⟩
set_option maxHeartbeats 4000000 in
theorem vc_Sy_compileSum_at_k1_6_0 (kind_0 : Int) (number_0 : Int) (f1 : (kind_0 ≠ 3) ∨ (number_0 ≤ 9999)) (kz_0_6 : 0 ≤ kind_0 ∧ kind_0 ≤ 127) (kz_0_8 : 0 ≤ number_0 ∧ number_0 ≤ 1000000) : (kind_0 ≠ 3) ∨ (number_0 ≤ 9999) := by
  first
    | omega
  
def o_Sy_compileSum_at_k1_6 : or_T := (65, 15, [(0, (2, 0, 0, [11]))], [(24, [0, 3], []), (20, [3], [50, 2, 0, 6, 8, 3, 7, 7, 3, 2, 0, 6, 0, 3, 0, 3, 2, 0, 8, 0, 9999])], [], [], [(20, [0], [50, 2, 0, 6, 8, 3, 7, 7, 3, 2, 0, 6, 0, 3, 0, 3, 2, 0, 8, 0, 9999])], [], [])
theorem oo_Sy_compileSum_at_k1_6 {kA : Nat → ClassId} : or_ok PRD kA GG o_Sy_compileSum_at_k1_6 := by
  refine or_mk fun A ta ws vs hD hth hl => ?_
  intro t0 r0 f0 f1
  replace f0 := shm_5 f0
  replace f1 := shm_1747 f1
  have q3 : n_v vs 3 = n_v vs 0 := f0.symm
  simp only [q3] at f1
  have kz_0_6 := fdq_304 hD hth r0
  have kz_0_8 := fdq_305 hD hth r0
  have nf0 : fc_1 PRD (20, [0], [50, 2, 0, 6, 8, 3, 7, 7, 3, 2, 0, 6, 0, 3, 0, 3, 2, 0, 8, 0, 9999]) ws (vs) := ⟨nf_in hl rfl, sgq_1747 (vc_Sy_compileSum_at_k1_6_0 (w_fi ws (n_v vs 0) 6) (w_fi ws (n_v vs 0) 8) f1 kz_0_6 kz_0_8)⟩
  refine ⟨(fun _ h => (by cases h)), [], trivial, ?_, (fun _ h => (by cases h))⟩
  rw [List.append_nil]
  exact List.forall_mem_cons.mpr ⟨⟨show (20 : Nat) < 100 from by decide, nf0⟩, (fun _ h => (by cases h))⟩
def n_Sy_compileSum_at_k1_an : List an_T := [(12, [(0, (2, 0, 0, [11])), (1, (0, 1, 1, [])), (2, (0, 0, 2000, []))], [], (0, 0), [(0, 0, 99988), (1, 5, 2000), (0, 0, 100000)], [], [((0, 3), (2, 0, 0, [109]))], [(2, 0, 0, [11]), (0, 1, 1, []), (2, 0, 0, [109])], 0, [], [(20, [3], [50, 2, 0, 6, 8, 3, 7, 7, 3, 2, 0, 6, 0, 3, 0, 3, 2, 0, 8, 0, 9999]), (24, [0, 3], [])])]
def t_Sy_compileSum_at_k1_ct : ct_L := [(1, 69, e_Sy_advance), (1, 128, e_Sy_emit), (10, 155, e_Sy_compileProduct_at_k1), (178, 155, e_Sy_compileProduct_at_k1)]
set_option maxRecDepth 100000 in
theorem c_Sy_compileSum_at_k1 {l : Launch} {D : va_G} {kA : Nat → ClassId} (h_Sy_advance : ct_ok PRD l D kA GG y_Sy_advance z_Sy_advance e_Sy_advance) (h_Sy_compileProduct_at_k1 : ct_ok PRD l D kA GG y_Sy_compileProduct_at_k1 z_Sy_compileProduct_at_k1 e_Sy_compileProduct_at_k1) (h_Sy_emit : ct_ok PRD l D kA GG y_Sy_emit z_Sy_emit e_Sy_emit) : ct_ok PRD l D kA GG y_Sy_compileSum_at_k1 z_Sy_compileSum_at_k1 e_Sy_compileSum_at_k1 := chk_all_ok (FT := [(31, 11, 6)]) (PT := []) (CT := t_Sy_compileSum_at_k1_ct) (KT := []) (NT := []) (AN := n_Sy_compileSum_at_k1_an) (OT := [o_Sy_compileSum_at_k1_0, o_Sy_compileSum_at_k1_1, o_Sy_compileSum_at_k1_2, o_Sy_compileSum_at_k1_3, o_Sy_compileSum_at_k1_4, o_Sy_compileSum_at_k1_5, o_Sy_compileSum_at_k1_6]) 3 256 (List.forall_mem_cons.mpr ⟨oo_Sy_compileSum_at_k1_0, List.forall_mem_cons.mpr ⟨oo_Sy_compileSum_at_k1_1, List.forall_mem_cons.mpr ⟨oo_Sy_compileSum_at_k1_2, List.forall_mem_cons.mpr ⟨oo_Sy_compileSum_at_k1_3, List.forall_mem_cons.mpr ⟨oo_Sy_compileSum_at_k1_4, List.forall_mem_cons.mpr ⟨oo_Sy_compileSum_at_k1_5, List.forall_mem_cons.mpr ⟨oo_Sy_compileSum_at_k1_6, List.forall_mem_nil _⟩⟩⟩⟩⟩⟩⟩) (by decide +kernel) ⟨List.forall_mem_cons.mpr ⟨gf_Sy_31, List.forall_mem_nil _⟩, List.forall_mem_nil _, List.forall_mem_cons.mpr ⟨cl_virtual (y := y_Sy_advance) (ci := 11) rfl rfl ⟨_, _, rfl⟩ (by decide +kernel) h_Sy_advance wm_2158 wm_23 wm_2155 wm_2157 wv_10_10 ⟨by decide, by decide, by decide +kernel⟩ (by decide), List.forall_mem_cons.mpr ⟨cl_virtual (y := y_Sy_emit) (ci := 11) rfl rfl ⟨_, _, rfl⟩ (by decide +kernel) h_Sy_emit wm_2258 wm_23 wm_2255 wm_2257 wv_11_2 ⟨by decide, by decide, by decide +kernel⟩ (by decide), List.forall_mem_cons.mpr ⟨cl_virtual (y := y_Sy_compileProduct_at_k1) (ci := 11) rfl rfl ⟨_, _, rfl⟩ (by decide +kernel) h_Sy_compileProduct_at_k1 wm_2270 wm_23 wm_2267 wm_2269 wv_11_5 ⟨by decide, by decide, by decide +kernel⟩ (by decide), List.forall_mem_cons.mpr ⟨cl_virtual (y := y_Sy_compileProduct_at_k1) (ci := 11) rfl rfl ⟨_, _, rfl⟩ (by decide +kernel) h_Sy_compileProduct_at_k1 wm_2270 wm_23 wm_2267 wm_2269 wv_11_5 ⟨by decide, by decide, by decide +kernel⟩ (by decide), List.forall_mem_nil _⟩⟩⟩⟩, List.forall_mem_nil _, List.forall_mem_nil _, GG_pl⟩ (by decide +kernel)
def o_Sy_compileSum_at_k10_0 : or_T := (12, 5, [], [], [], [], [(24, [0, 0], [])], [], [])
theorem oo_Sy_compileSum_at_k10_0 {kA : Nat → ClassId} : or_ok PRD kA GG o_Sy_compileSum_at_k10_0 := by
  refine or_mk fun A ta ws vs hD hth hl => ?_
  have nf0 : fc_1 PRD (24, [0, 0], []) ws (vs) := by
    refine ⟨nf_in hl rfl, sgq_1 ?_⟩
    · show n_v vs 0 = n_v vs 0
      first | rfl | simp only [true_and]
  refine ⟨(fun _ h => (by cases h)), [], trivial, ?_, (fun _ h => (by cases h))⟩
  rw [List.append_nil]
  exact List.forall_mem_cons.mpr ⟨⟨show (24 : Nat) < 100 from by decide, nf0⟩, (fun _ h => (by cases h))⟩
set_option maxHeartbeats 4000000 in
theorem vc_Sy_compileSum_at_k10_1_0 (kind_0 : Int) (number_0 : Int) (f0 : (kind_0 ≠ 3) ∨ (number_0 ≤ 9999)) (kz_0_6 : 0 ≤ kind_0 ∧ kind_0 ≤ 127) (kz_0_8 : 0 ≤ number_0 ∧ number_0 ≤ 1000000) : (kind_0 ≠ 3) ∨ (number_0 ≤ 9999) := by
  first
    | omega
  
def o_Sy_compileSum_at_k10_1 : or_T := (79, 9, [(0, (2, 0, 0, [11]))], [(20, [3], [50, 2, 0, 6, 8, 3, 7, 7, 3, 2, 0, 6, 0, 3, 0, 3, 2, 0, 8, 0, 9999]), (24, [0, 3], [])], [], [], [(20, [0], [50, 2, 0, 6, 8, 3, 7, 7, 3, 2, 0, 6, 0, 3, 0, 3, 2, 0, 8, 0, 9999])], [], [])
theorem oo_Sy_compileSum_at_k10_1 {kA : Nat → ClassId} : or_ok PRD kA GG o_Sy_compileSum_at_k10_1 := by
  refine or_mk fun A ta ws vs hD hth hl => ?_
  intro t0 r0 f0 f1
  replace f0 := shm_1747 f0
  replace f1 := shm_5 f1
  have q3 : n_v vs 3 = n_v vs 0 := f1.symm
  simp only [q3] at f0
  have kz_0_6 := fdq_304 hD hth r0
  have kz_0_8 := fdq_305 hD hth r0
  have nf0 : fc_1 PRD (20, [0], [50, 2, 0, 6, 8, 3, 7, 7, 3, 2, 0, 6, 0, 3, 0, 3, 2, 0, 8, 0, 9999]) ws (vs) := ⟨nf_in hl rfl, sgq_1747 (vc_Sy_compileSum_at_k10_1_0 (w_fi ws (n_v vs 0) 6) (w_fi ws (n_v vs 0) 8) f0 kz_0_6 kz_0_8)⟩
  refine ⟨(fun _ h => (by cases h)), [], trivial, ?_, (fun _ h => (by cases h))⟩
  rw [List.append_nil]
  exact List.forall_mem_cons.mpr ⟨⟨show (20 : Nat) < 100 from by decide, nf0⟩, (fun _ h => (by cases h))⟩
set_option maxHeartbeats 4000000 in
theorem vc_Sy_compileSum_at_k10_2_0 (x11 : Int) (x13 : Int) (k11 : 2 ≤ x11 ∧ x11 ≤ 2) (k13 : 0 ≤ x13 ∧ x13 ≤ 0) : (0 ≤ x11) ∧ ((0 ≤ x13) ∧ (((x11 * 65536) + x13) ≤ 851970)) := by
  first
    | omega
  
def o_Sy_compileSum_at_k10_2 : or_T := (69, 14, [(11, (0, 2, 2, [])), (13, (0, 0, 0, []))], [], [], [], [(20, [11, 13], [50, 0, 0, 2, 6, 0, 2, 0, 0, 1, 0, 2, 6, 0, 2, 0, 0, 1, 1, 0, 10, 4, 6, 6, 2, 1, 0, 0, 65536, 1, 1, 0, 851970])], [], [])
theorem oo_Sy_compileSum_at_k10_2 {kA : Nat → ClassId} : or_ok PRD kA GG o_Sy_compileSum_at_k10_2 := by
  refine or_mk fun A ta ws vs hD hth hl => ?_
  intro t11 k11 t13 k13
  have nf0 : fc_1 PRD (20, [11, 13], [50, 0, 0, 2, 6, 0, 2, 0, 0, 1, 0, 2, 6, 0, 2, 0, 0, 1, 1, 0, 10, 4, 6, 6, 2, 1, 0, 0, 65536, 1, 1, 0, 851970]) ws (vs) := ⟨nf_in hl rfl, sgq_487 (vc_Sy_compileSum_at_k10_2_0 (v_iv (n_v vs 11)) (v_iv (n_v vs 13)) k11 k13)⟩
  refine ⟨(fun _ h => (by cases h)), [], trivial, ?_, (fun _ h => (by cases h))⟩
  rw [List.append_nil]
  exact List.forall_mem_cons.mpr ⟨⟨show (20 : Nat) < 100 from by decide, nf0⟩, (fun _ h => (by cases h))⟩
set_option maxHeartbeats 4000000 in
theorem vc_Sy_compileSum_at_k10_3_0 (kind_0 : Int) (number_0 : Int) (f1 : (kind_0 ≠ 3) ∨ (number_0 ≤ 9999)) (kz_0_6 : 0 ≤ kind_0 ∧ kind_0 ≤ 127) (kz_0_8 : 0 ≤ number_0 ∧ number_0 ≤ 1000000) : (kind_0 ≠ 3) ∨ (number_0 ≤ 9999) := by
  first
    | omega
  
def o_Sy_compileSum_at_k10_3 : or_T := (65, 14, [(0, (2, 0, 0, [11]))], [(24, [0, 3], []), (20, [3], [50, 2, 0, 6, 8, 3, 7, 7, 3, 2, 0, 6, 0, 3, 0, 3, 2, 0, 8, 0, 9999])], [], [], [(20, [0], [50, 2, 0, 6, 8, 3, 7, 7, 3, 2, 0, 6, 0, 3, 0, 3, 2, 0, 8, 0, 9999])], [], [])
theorem oo_Sy_compileSum_at_k10_3 {kA : Nat → ClassId} : or_ok PRD kA GG o_Sy_compileSum_at_k10_3 := by
  refine or_mk fun A ta ws vs hD hth hl => ?_
  intro t0 r0 f0 f1
  replace f0 := shm_5 f0
  replace f1 := shm_1747 f1
  have q3 : n_v vs 3 = n_v vs 0 := f0.symm
  simp only [q3] at f1
  have kz_0_6 := fdq_304 hD hth r0
  have kz_0_8 := fdq_305 hD hth r0
  have nf0 : fc_1 PRD (20, [0], [50, 2, 0, 6, 8, 3, 7, 7, 3, 2, 0, 6, 0, 3, 0, 3, 2, 0, 8, 0, 9999]) ws (vs) := ⟨nf_in hl rfl, sgq_1747 (vc_Sy_compileSum_at_k10_3_0 (w_fi ws (n_v vs 0) 6) (w_fi ws (n_v vs 0) 8) f1 kz_0_6 kz_0_8)⟩
  refine ⟨(fun _ h => (by cases h)), [], trivial, ?_, (fun _ h => (by cases h))⟩
  rw [List.append_nil]
  exact List.forall_mem_cons.mpr ⟨⟨show (20 : Nat) < 100 from by decide, nf0⟩, (fun _ h => (by cases h))⟩
set_option maxHeartbeats 4000000 in
theorem vc_Sy_compileSum_at_k10_4_0 (kind_0 : Int) (number_0 : Int) (f3 : (kind_0 ≠ 3) ∨ (number_0 ≤ 9999)) (kz_0_6 : 0 ≤ kind_0 ∧ kind_0 ≤ 127) (kz_0_8 : 0 ≤ number_0 ∧ number_0 ≤ 1000000) : (kind_0 ≠ 3) ∨ (number_0 ≤ 9999) := by
  first
    | omega
  
def o_Sy_compileSum_at_k10_4 : or_T := (79, 12, [(0, (2, 0, 0, [11]))], [(20, [3], [50, 2, 0, 6, 8, 3, 7, 7, 3, 2, 0, 6, 0, 3, 0, 3, 2, 0, 8, 0, 9999]), (24, [0, 3], [])], [], [], [(20, [0], [50, 2, 0, 6, 8, 3, 7, 7, 3, 2, 0, 6, 0, 3, 0, 3, 2, 0, 8, 0, 9999])], [], [])
theorem oo_Sy_compileSum_at_k10_4 {kA : Nat → ClassId} : or_ok PRD kA GG o_Sy_compileSum_at_k10_4 := by
  refine or_mk fun A ta ws vs hD hth hl => ?_
  intro t0 r0 f3 f4
  replace f3 := shm_1747 f3
  replace f4 := shm_5 f4
  have q3 : n_v vs 3 = n_v vs 0 := f4.symm
  simp only [q3] at f3
  have kz_0_6 := fdq_304 hD hth r0
  have kz_0_8 := fdq_305 hD hth r0
  have nf0 : fc_1 PRD (20, [0], [50, 2, 0, 6, 8, 3, 7, 7, 3, 2, 0, 6, 0, 3, 0, 3, 2, 0, 8, 0, 9999]) ws (vs) := ⟨nf_in hl rfl, sgq_1747 (vc_Sy_compileSum_at_k10_4_0 (w_fi ws (n_v vs 0) 6) (w_fi ws (n_v vs 0) 8) f3 kz_0_6 kz_0_8)⟩
  refine ⟨(fun _ h => (by cases h)), [], trivial, ?_, (fun _ h => (by cases h))⟩
  rw [List.append_nil]
  exact List.forall_mem_cons.mpr ⟨⟨show (20 : Nat) < 100 from by decide, nf0⟩, (fun _ h => (by cases h))⟩
set_option maxHeartbeats 4000000 in
theorem vc_Sy_compileSum_at_k10_5_0 (x12 : Int) (x14 : Int) (k12 : 3 ≤ x12 ∧ x12 ≤ 3) (k14 : 0 ≤ x14 ∧ x14 ≤ 0) : (0 ≤ x12) ∧ ((0 ≤ x14) ∧ (((x12 * 65536) + x14) ≤ 851970)) := by
  first
    | omega
  
def o_Sy_compileSum_at_k10_5 : or_T := (69, 15, [(12, (0, 3, 3, [])), (14, (0, 0, 0, []))], [], [], [], [(20, [12, 14], [50, 0, 0, 2, 6, 0, 2, 0, 0, 1, 0, 2, 6, 0, 2, 0, 0, 1, 1, 0, 10, 4, 6, 6, 2, 1, 0, 0, 65536, 1, 1, 0, 851970])], [], [])
theorem oo_Sy_compileSum_at_k10_5 {kA : Nat → ClassId} : or_ok PRD kA GG o_Sy_compileSum_at_k10_5 := by
  refine or_mk fun A ta ws vs hD hth hl => ?_
  intro t12 k12 t14 k14
  have nf0 : fc_1 PRD (20, [12, 14], [50, 0, 0, 2, 6, 0, 2, 0, 0, 1, 0, 2, 6, 0, 2, 0, 0, 1, 1, 0, 10, 4, 6, 6, 2, 1, 0, 0, 65536, 1, 1, 0, 851970]) ws (vs) := ⟨nf_in hl rfl, sgq_487 (vc_Sy_compileSum_at_k10_5_0 (v_iv (n_v vs 12)) (v_iv (n_v vs 14)) k12 k14)⟩
  refine ⟨(fun _ h => (by cases h)), [], trivial, ?_, (fun _ h => (by cases h))⟩
  rw [List.append_nil]
  exact List.forall_mem_cons.mpr ⟨⟨show (20 : Nat) < 100 from by decide, nf0⟩, (fun _ h => (by cases h))⟩
set_option maxHeartbeats 4000000 in
theorem vc_Sy_compileSum_at_k10_6_0 (kind_0 : Int) (number_0 : Int) (f1 : (kind_0 ≠ 3) ∨ (number_0 ≤ 9999)) (kz_0_6 : 0 ≤ kind_0 ∧ kind_0 ≤ 127) (kz_0_8 : 0 ≤ number_0 ∧ number_0 ≤ 1000000) : (kind_0 ≠ 3) ∨ (number_0 ≤ 9999) := by
  first
    | omega
  
def o_Sy_compileSum_at_k10_6 : or_T := (65, 15, [(0, (2, 0, 0, [11]))], [(24, [0, 3], []), (20, [3], [50, 2, 0, 6, 8, 3, 7, 7, 3, 2, 0, 6, 0, 3, 0, 3, 2, 0, 8, 0, 9999])], [], [], [(20, [0], [50, 2, 0, 6, 8, 3, 7, 7, 3, 2, 0, 6, 0, 3, 0, 3, 2, 0, 8, 0, 9999])], [], [])
theorem oo_Sy_compileSum_at_k10_6 {kA : Nat → ClassId} : or_ok PRD kA GG o_Sy_compileSum_at_k10_6 := by
  refine or_mk fun A ta ws vs hD hth hl => ?_
  intro t0 r0 f0 f1
  replace f0 := shm_5 f0
  replace f1 := shm_1747 f1
  have q3 : n_v vs 3 = n_v vs 0 := f0.symm
  simp only [q3] at f1
  have kz_0_6 := fdq_304 hD hth r0
  have kz_0_8 := fdq_305 hD hth r0
  have nf0 : fc_1 PRD (20, [0], [50, 2, 0, 6, 8, 3, 7, 7, 3, 2, 0, 6, 0, 3, 0, 3, 2, 0, 8, 0, 9999]) ws (vs) := ⟨nf_in hl rfl, sgq_1747 (vc_Sy_compileSum_at_k10_6_0 (w_fi ws (n_v vs 0) 6) (w_fi ws (n_v vs 0) 8) f1 kz_0_6 kz_0_8)⟩
  refine ⟨(fun _ h => (by cases h)), [], trivial, ?_, (fun _ h => (by cases h))⟩
  rw [List.append_nil]
  exact List.forall_mem_cons.mpr ⟨⟨show (20 : Nat) < 100 from by decide, nf0⟩, (fun _ h => (by cases h))⟩
def n_Sy_compileSum_at_k10_an : List an_T := [(12, [(0, (2, 0, 0, [11])), (1, (0, 10, 10, [])), (2, (0, 0, 2000, []))], [], (0, 0), [(0, 0, 99988), (1, 5, 2000), (0, 0, 100000)], [], [((0, 3), (2, 0, 0, [109]))], [(2, 0, 0, [11]), (0, 10, 10, []), (2, 0, 0, [109])], 0, [], [(20, [3], [50, 2, 0, 6, 8, 3, 7, 7, 3, 2, 0, 6, 0, 3, 0, 3, 2, 0, 8, 0, 9999]), (24, [0, 3], [])])]
def t_Sy_compileSum_at_k10_ct : ct_L := [(1, 69, e_Sy_advance), (1, 128, e_Sy_emit), (10, 155, e_Sy_compileProduct_at_k10), (178, 155, e_Sy_compileProduct_at_k10)]
set_option maxRecDepth 100000 in
theorem c_Sy_compileSum_at_k10 {l : Launch} {D : va_G} {kA : Nat → ClassId} (h_Sy_advance : ct_ok PRD l D kA GG y_Sy_advance z_Sy_advance e_Sy_advance) (h_Sy_compileProduct_at_k10 : ct_ok PRD l D kA GG y_Sy_compileProduct_at_k10 z_Sy_compileProduct_at_k10 e_Sy_compileProduct_at_k10) (h_Sy_emit : ct_ok PRD l D kA GG y_Sy_emit z_Sy_emit e_Sy_emit) : ct_ok PRD l D kA GG y_Sy_compileSum_at_k10 z_Sy_compileSum_at_k10 e_Sy_compileSum_at_k10 := chk_all_ok (FT := [(31, 11, 6)]) (PT := []) (CT := t_Sy_compileSum_at_k10_ct) (KT := []) (NT := []) (AN := n_Sy_compileSum_at_k10_an) (OT := [o_Sy_compileSum_at_k10_0, o_Sy_compileSum_at_k10_1, o_Sy_compileSum_at_k10_2, o_Sy_compileSum_at_k10_3, o_Sy_compileSum_at_k10_4, o_Sy_compileSum_at_k10_5, o_Sy_compileSum_at_k10_6]) 3 256 (List.forall_mem_cons.mpr ⟨oo_Sy_compileSum_at_k10_0, List.forall_mem_cons.mpr ⟨oo_Sy_compileSum_at_k10_1, List.forall_mem_cons.mpr ⟨oo_Sy_compileSum_at_k10_2, List.forall_mem_cons.mpr ⟨oo_Sy_compileSum_at_k10_3, List.forall_mem_cons.mpr ⟨oo_Sy_compileSum_at_k10_4, List.forall_mem_cons.mpr ⟨oo_Sy_compileSum_at_k10_5, List.forall_mem_cons.mpr ⟨oo_Sy_compileSum_at_k10_6, List.forall_mem_nil _⟩⟩⟩⟩⟩⟩⟩) (by decide +kernel) ⟨List.forall_mem_cons.mpr ⟨gf_Sy_31, List.forall_mem_nil _⟩, List.forall_mem_nil _, List.forall_mem_cons.mpr ⟨cl_virtual (y := y_Sy_advance) (ci := 11) rfl rfl ⟨_, _, rfl⟩ (by decide +kernel) h_Sy_advance wm_2158 wm_23 wm_2155 wm_2157 wv_10_10 ⟨by decide, by decide, by decide +kernel⟩ (by decide), List.forall_mem_cons.mpr ⟨cl_virtual (y := y_Sy_emit) (ci := 11) rfl rfl ⟨_, _, rfl⟩ (by decide +kernel) h_Sy_emit wm_2258 wm_23 wm_2255 wm_2257 wv_11_2 ⟨by decide, by decide, by decide +kernel⟩ (by decide), List.forall_mem_cons.mpr ⟨cl_virtual (y := y_Sy_compileProduct_at_k10) (ci := 11) rfl rfl ⟨_, _, rfl⟩ (by decide +kernel) h_Sy_compileProduct_at_k10 wm_2270 wm_23 wm_2267 wm_2269 wv_11_5 ⟨by decide, by decide, by decide +kernel⟩ (by decide), List.forall_mem_cons.mpr ⟨cl_virtual (y := y_Sy_compileProduct_at_k10) (ci := 11) rfl rfl ⟨_, _, rfl⟩ (by decide +kernel) h_Sy_compileProduct_at_k10 wm_2270 wm_23 wm_2267 wm_2269 wv_11_5 ⟨by decide, by decide, by decide +kernel⟩ (by decide), List.forall_mem_nil _⟩⟩⟩⟩, List.forall_mem_nil _, List.forall_mem_nil _, GG_pl⟩ (by decide +kernel)
def o_Sy_compileSum_at_k11_0 : or_T := (12, 5, [], [], [], [], [(24, [0, 0], [])], [], [])
theorem oo_Sy_compileSum_at_k11_0 {kA : Nat → ClassId} : or_ok PRD kA GG o_Sy_compileSum_at_k11_0 := by
  refine or_mk fun A ta ws vs hD hth hl => ?_
  have nf0 : fc_1 PRD (24, [0, 0], []) ws (vs) := by
    refine ⟨nf_in hl rfl, sgq_1 ?_⟩
    · show n_v vs 0 = n_v vs 0
      first | rfl | simp only [true_and]
  refine ⟨(fun _ h => (by cases h)), [], trivial, ?_, (fun _ h => (by cases h))⟩
  rw [List.append_nil]
  exact List.forall_mem_cons.mpr ⟨⟨show (24 : Nat) < 100 from by decide, nf0⟩, (fun _ h => (by cases h))⟩
set_option maxHeartbeats 4000000 in
theorem vc_Sy_compileSum_at_k11_1_0 (kind_0 : Int) (number_0 : Int) (f0 : (kind_0 ≠ 3) ∨ (number_0 ≤ 9999)) (kz_0_6 : 0 ≤ kind_0 ∧ kind_0 ≤ 127) (kz_0_8 : 0 ≤ number_0 ∧ number_0 ≤ 1000000) : (kind_0 ≠ 3) ∨ (number_0 ≤ 9999) := by
  first
    | omega
  
def o_Sy_compileSum_at_k11_1 : or_T := (79, 9, [(0, (2, 0, 0, [11]))], [(20, [3], [50, 2, 0, 6, 8, 3, 7, 7, 3, 2, 0, 6, 0, 3, 0, 3, 2, 0, 8, 0, 9999]), (24, [0, 3], [])], [], [], [(20, [0], [50, 2, 0, 6, 8, 3, 7, 7, 3, 2, 0, 6, 0, 3, 0, 3, 2, 0, 8, 0, 9999])], [], [])
theorem oo_Sy_compileSum_at_k11_1 {kA : Nat → ClassId} : or_ok PRD kA GG o_Sy_compileSum_at_k11_1 := by
  refine or_mk fun A ta ws vs hD hth hl => ?_
  intro t0 r0 f0 f1
  replace f0 := shm_1747 f0
  replace f1 := shm_5 f1
  have q3 : n_v vs 3 = n_v vs 0 := f1.symm
  simp only [q3] at f0
  have kz_0_6 := fdq_304 hD hth r0
  have kz_0_8 := fdq_305 hD hth r0
  have nf0 : fc_1 PRD (20, [0], [50, 2, 0, 6, 8, 3, 7, 7, 3, 2, 0, 6, 0, 3, 0, 3, 2, 0, 8, 0, 9999]) ws (vs) := ⟨nf_in hl rfl, sgq_1747 (vc_Sy_compileSum_at_k11_1_0 (w_fi ws (n_v vs 0) 6) (w_fi ws (n_v vs 0) 8) f0 kz_0_6 kz_0_8)⟩
  refine ⟨(fun _ h => (by cases h)), [], trivial, ?_, (fun _ h => (by cases h))⟩
  rw [List.append_nil]
  exact List.forall_mem_cons.mpr ⟨⟨show (20 : Nat) < 100 from by decide, nf0⟩, (fun _ h => (by cases h))⟩
set_option maxHeartbeats 4000000 in
theorem vc_Sy_compileSum_at_k11_2_0 (x11 : Int) (x13 : Int) (k11 : 2 ≤ x11 ∧ x11 ≤ 2) (k13 : 0 ≤ x13 ∧ x13 ≤ 0) : (0 ≤ x11) ∧ ((0 ≤ x13) ∧ (((x11 * 65536) + x13) ≤ 851970)) := by
  first
    | omega
  
def o_Sy_compileSum_at_k11_2 : or_T := (69, 14, [(11, (0, 2, 2, [])), (13, (0, 0, 0, []))], [], [], [], [(20, [11, 13], [50, 0, 0, 2, 6, 0, 2, 0, 0, 1, 0, 2, 6, 0, 2, 0, 0, 1, 1, 0, 10, 4, 6, 6, 2, 1, 0, 0, 65536, 1, 1, 0, 851970])], [], [])
theorem oo_Sy_compileSum_at_k11_2 {kA : Nat → ClassId} : or_ok PRD kA GG o_Sy_compileSum_at_k11_2 := by
  refine or_mk fun A ta ws vs hD hth hl => ?_
  intro t11 k11 t13 k13
  have nf0 : fc_1 PRD (20, [11, 13], [50, 0, 0, 2, 6, 0, 2, 0, 0, 1, 0, 2, 6, 0, 2, 0, 0, 1, 1, 0, 10, 4, 6, 6, 2, 1, 0, 0, 65536, 1, 1, 0, 851970]) ws (vs) := ⟨nf_in hl rfl, sgq_487 (vc_Sy_compileSum_at_k11_2_0 (v_iv (n_v vs 11)) (v_iv (n_v vs 13)) k11 k13)⟩
  refine ⟨(fun _ h => (by cases h)), [], trivial, ?_, (fun _ h => (by cases h))⟩
  rw [List.append_nil]
  exact List.forall_mem_cons.mpr ⟨⟨show (20 : Nat) < 100 from by decide, nf0⟩, (fun _ h => (by cases h))⟩
set_option maxHeartbeats 4000000 in
theorem vc_Sy_compileSum_at_k11_3_0 (kind_0 : Int) (number_0 : Int) (f1 : (kind_0 ≠ 3) ∨ (number_0 ≤ 9999)) (kz_0_6 : 0 ≤ kind_0 ∧ kind_0 ≤ 127) (kz_0_8 : 0 ≤ number_0 ∧ number_0 ≤ 1000000) : (kind_0 ≠ 3) ∨ (number_0 ≤ 9999) := by
  first
    | omega
  
def o_Sy_compileSum_at_k11_3 : or_T := (65, 14, [(0, (2, 0, 0, [11]))], [(24, [0, 3], []), (20, [3], [50, 2, 0, 6, 8, 3, 7, 7, 3, 2, 0, 6, 0, 3, 0, 3, 2, 0, 8, 0, 9999])], [], [], [(20, [0], [50, 2, 0, 6, 8, 3, 7, 7, 3, 2, 0, 6, 0, 3, 0, 3, 2, 0, 8, 0, 9999])], [], [])
theorem oo_Sy_compileSum_at_k11_3 {kA : Nat → ClassId} : or_ok PRD kA GG o_Sy_compileSum_at_k11_3 := by
  refine or_mk fun A ta ws vs hD hth hl => ?_
  intro t0 r0 f0 f1
  replace f0 := shm_5 f0
  replace f1 := shm_1747 f1
  have q3 : n_v vs 3 = n_v vs 0 := f0.symm
  simp only [q3] at f1
  have kz_0_6 := fdq_304 hD hth r0
  have kz_0_8 := fdq_305 hD hth r0
  have nf0 : fc_1 PRD (20, [0], [50, 2, 0, 6, 8, 3, 7, 7, 3, 2, 0, 6, 0, 3, 0, 3, 2, 0, 8, 0, 9999]) ws (vs) := ⟨nf_in hl rfl, sgq_1747 (vc_Sy_compileSum_at_k11_3_0 (w_fi ws (n_v vs 0) 6) (w_fi ws (n_v vs 0) 8) f1 kz_0_6 kz_0_8)⟩
  refine ⟨(fun _ h => (by cases h)), [], trivial, ?_, (fun _ h => (by cases h))⟩
  rw [List.append_nil]
  exact List.forall_mem_cons.mpr ⟨⟨show (20 : Nat) < 100 from by decide, nf0⟩, (fun _ h => (by cases h))⟩
set_option maxHeartbeats 4000000 in
theorem vc_Sy_compileSum_at_k11_4_0 (kind_0 : Int) (number_0 : Int) (f3 : (kind_0 ≠ 3) ∨ (number_0 ≤ 9999)) (kz_0_6 : 0 ≤ kind_0 ∧ kind_0 ≤ 127) (kz_0_8 : 0 ≤ number_0 ∧ number_0 ≤ 1000000) : (kind_0 ≠ 3) ∨ (number_0 ≤ 9999) := by
  first
    | omega
  
def o_Sy_compileSum_at_k11_4 : or_T := (79, 12, [(0, (2, 0, 0, [11]))], [(20, [3], [50, 2, 0, 6, 8, 3, 7, 7, 3, 2, 0, 6, 0, 3, 0, 3, 2, 0, 8, 0, 9999]), (24, [0, 3], [])], [], [], [(20, [0], [50, 2, 0, 6, 8, 3, 7, 7, 3, 2, 0, 6, 0, 3, 0, 3, 2, 0, 8, 0, 9999])], [], [])
theorem oo_Sy_compileSum_at_k11_4 {kA : Nat → ClassId} : or_ok PRD kA GG o_Sy_compileSum_at_k11_4 := by
  refine or_mk fun A ta ws vs hD hth hl => ?_
  intro t0 r0 f3 f4
  replace f3 := shm_1747 f3
  replace f4 := shm_5 f4
  have q3 : n_v vs 3 = n_v vs 0 := f4.symm
  simp only [q3] at f3
  have kz_0_6 := fdq_304 hD hth r0
  have kz_0_8 := fdq_305 hD hth r0
  have nf0 : fc_1 PRD (20, [0], [50, 2, 0, 6, 8, 3, 7, 7, 3, 2, 0, 6, 0, 3, 0, 3, 2, 0, 8, 0, 9999]) ws (vs) := ⟨nf_in hl rfl, sgq_1747 (vc_Sy_compileSum_at_k11_4_0 (w_fi ws (n_v vs 0) 6) (w_fi ws (n_v vs 0) 8) f3 kz_0_6 kz_0_8)⟩
  refine ⟨(fun _ h => (by cases h)), [], trivial, ?_, (fun _ h => (by cases h))⟩
  rw [List.append_nil]
  exact List.forall_mem_cons.mpr ⟨⟨show (20 : Nat) < 100 from by decide, nf0⟩, (fun _ h => (by cases h))⟩
set_option maxHeartbeats 4000000 in
theorem vc_Sy_compileSum_at_k11_5_0 (x12 : Int) (x14 : Int) (k12 : 3 ≤ x12 ∧ x12 ≤ 3) (k14 : 0 ≤ x14 ∧ x14 ≤ 0) : (0 ≤ x12) ∧ ((0 ≤ x14) ∧ (((x12 * 65536) + x14) ≤ 851970)) := by
  first
    | omega
  
def o_Sy_compileSum_at_k11_5 : or_T := (69, 15, [(12, (0, 3, 3, [])), (14, (0, 0, 0, []))], [], [], [], [(20, [12, 14], [50, 0, 0, 2, 6, 0, 2, 0, 0, 1, 0, 2, 6, 0, 2, 0, 0, 1, 1, 0, 10, 4, 6, 6, 2, 1, 0, 0, 65536, 1, 1, 0, 851970])], [], [])
theorem oo_Sy_compileSum_at_k11_5 {kA : Nat → ClassId} : or_ok PRD kA GG o_Sy_compileSum_at_k11_5 := by
  refine or_mk fun A ta ws vs hD hth hl => ?_
  intro t12 k12 t14 k14
  have nf0 : fc_1 PRD (20, [12, 14], [50, 0, 0, 2, 6, 0, 2, 0, 0, 1, 0, 2, 6, 0, 2, 0, 0, 1, 1, 0, 10, 4, 6, 6, 2, 1, 0, 0, 65536, 1, 1, 0, 851970]) ws (vs) := ⟨nf_in hl rfl, sgq_487 (vc_Sy_compileSum_at_k11_5_0 (v_iv (n_v vs 12)) (v_iv (n_v vs 14)) k12 k14)⟩
  refine ⟨(fun _ h => (by cases h)), [], trivial, ?_, (fun _ h => (by cases h))⟩
  rw [List.append_nil]
  exact List.forall_mem_cons.mpr ⟨⟨show (20 : Nat) < 100 from by decide, nf0⟩, (fun _ h => (by cases h))⟩
set_option maxHeartbeats 4000000 in
theorem vc_Sy_compileSum_at_k11_6_0 (kind_0 : Int) (number_0 : Int) (f1 : (kind_0 ≠ 3) ∨ (number_0 ≤ 9999)) (kz_0_6 : 0 ≤ kind_0 ∧ kind_0 ≤ 127) (kz_0_8 : 0 ≤ number_0 ∧ number_0 ≤ 1000000) : (kind_0 ≠ 3) ∨ (number_0 ≤ 9999) := by
  first
    | omega
  
def o_Sy_compileSum_at_k11_6 : or_T := (65, 15, [(0, (2, 0, 0, [11]))], [(24, [0, 3], []), (20, [3], [50, 2, 0, 6, 8, 3, 7, 7, 3, 2, 0, 6, 0, 3, 0, 3, 2, 0, 8, 0, 9999])], [], [], [(20, [0], [50, 2, 0, 6, 8, 3, 7, 7, 3, 2, 0, 6, 0, 3, 0, 3, 2, 0, 8, 0, 9999])], [], [])
theorem oo_Sy_compileSum_at_k11_6 {kA : Nat → ClassId} : or_ok PRD kA GG o_Sy_compileSum_at_k11_6 := by
  refine or_mk fun A ta ws vs hD hth hl => ?_
  intro t0 r0 f0 f1
  replace f0 := shm_5 f0
  replace f1 := shm_1747 f1
  have q3 : n_v vs 3 = n_v vs 0 := f0.symm
  simp only [q3] at f1
  have kz_0_6 := fdq_304 hD hth r0
  have kz_0_8 := fdq_305 hD hth r0
  have nf0 : fc_1 PRD (20, [0], [50, 2, 0, 6, 8, 3, 7, 7, 3, 2, 0, 6, 0, 3, 0, 3, 2, 0, 8, 0, 9999]) ws (vs) := ⟨nf_in hl rfl, sgq_1747 (vc_Sy_compileSum_at_k11_6_0 (w_fi ws (n_v vs 0) 6) (w_fi ws (n_v vs 0) 8) f1 kz_0_6 kz_0_8)⟩
  refine ⟨(fun _ h => (by cases h)), [], trivial, ?_, (fun _ h => (by cases h))⟩
  rw [List.append_nil]
  exact List.forall_mem_cons.mpr ⟨⟨show (20 : Nat) < 100 from by decide, nf0⟩, (fun _ h => (by cases h))⟩
def n_Sy_compileSum_at_k11_an : List an_T := [(12, [(0, (2, 0, 0, [11])), (1, (0, 11, 11, [])), (2, (0, 0, 2000, []))], [], (0, 0), [(0, 0, 99988), (1, 5, 2000), (0, 0, 100000)], [], [((0, 3), (2, 0, 0, [109]))], [(2, 0, 0, [11]), (0, 11, 11, []), (2, 0, 0, [109])], 0, [], [(20, [3], [50, 2, 0, 6, 8, 3, 7, 7, 3, 2, 0, 6, 0, 3, 0, 3, 2, 0, 8, 0, 9999]), (24, [0, 3], [])])]
def t_Sy_compileSum_at_k11_ct : ct_L := [(1, 69, e_Sy_advance), (1, 128, e_Sy_emit), (10, 155, e_Sy_compileProduct_at_k11), (178, 155, e_Sy_compileProduct_at_k11)]
set_option maxRecDepth 100000 in
theorem c_Sy_compileSum_at_k11 {l : Launch} {D : va_G} {kA : Nat → ClassId} (h_Sy_advance : ct_ok PRD l D kA GG y_Sy_advance z_Sy_advance e_Sy_advance) (h_Sy_compileProduct_at_k11 : ct_ok PRD l D kA GG y_Sy_compileProduct_at_k11 z_Sy_compileProduct_at_k11 e_Sy_compileProduct_at_k11) (h_Sy_emit : ct_ok PRD l D kA GG y_Sy_emit z_Sy_emit e_Sy_emit) : ct_ok PRD l D kA GG y_Sy_compileSum_at_k11 z_Sy_compileSum_at_k11 e_Sy_compileSum_at_k11 := chk_all_ok (FT := [(31, 11, 6)]) (PT := []) (CT := t_Sy_compileSum_at_k11_ct) (KT := []) (NT := []) (AN := n_Sy_compileSum_at_k11_an) (OT := [o_Sy_compileSum_at_k11_0, o_Sy_compileSum_at_k11_1, o_Sy_compileSum_at_k11_2, o_Sy_compileSum_at_k11_3, o_Sy_compileSum_at_k11_4, o_Sy_compileSum_at_k11_5, o_Sy_compileSum_at_k11_6]) 3 256 (List.forall_mem_cons.mpr ⟨oo_Sy_compileSum_at_k11_0, List.forall_mem_cons.mpr ⟨oo_Sy_compileSum_at_k11_1, List.forall_mem_cons.mpr ⟨oo_Sy_compileSum_at_k11_2, List.forall_mem_cons.mpr ⟨oo_Sy_compileSum_at_k11_3, List.forall_mem_cons.mpr ⟨oo_Sy_compileSum_at_k11_4, List.forall_mem_cons.mpr ⟨oo_Sy_compileSum_at_k11_5, List.forall_mem_cons.mpr ⟨oo_Sy_compileSum_at_k11_6, List.forall_mem_nil _⟩⟩⟩⟩⟩⟩⟩) (by decide +kernel) ⟨List.forall_mem_cons.mpr ⟨gf_Sy_31, List.forall_mem_nil _⟩, List.forall_mem_nil _, List.forall_mem_cons.mpr ⟨cl_virtual (y := y_Sy_advance) (ci := 11) rfl rfl ⟨_, _, rfl⟩ (by decide +kernel) h_Sy_advance wm_2158 wm_23 wm_2155 wm_2157 wv_10_10 ⟨by decide, by decide, by decide +kernel⟩ (by decide), List.forall_mem_cons.mpr ⟨cl_virtual (y := y_Sy_emit) (ci := 11) rfl rfl ⟨_, _, rfl⟩ (by decide +kernel) h_Sy_emit wm_2258 wm_23 wm_2255 wm_2257 wv_11_2 ⟨by decide, by decide, by decide +kernel⟩ (by decide), List.forall_mem_cons.mpr ⟨cl_virtual (y := y_Sy_compileProduct_at_k11) (ci := 11) rfl rfl ⟨_, _, rfl⟩ (by decide +kernel) h_Sy_compileProduct_at_k11 wm_2270 wm_23 wm_2267 wm_2269 wv_11_5 ⟨by decide, by decide, by decide +kernel⟩ (by decide), List.forall_mem_cons.mpr ⟨cl_virtual (y := y_Sy_compileProduct_at_k11) (ci := 11) rfl rfl ⟨_, _, rfl⟩ (by decide +kernel) h_Sy_compileProduct_at_k11 wm_2270 wm_23 wm_2267 wm_2269 wv_11_5 ⟨by decide, by decide, by decide +kernel⟩ (by decide), List.forall_mem_nil _⟩⟩⟩⟩, List.forall_mem_nil _, List.forall_mem_nil _, GG_pl⟩ (by decide +kernel)
def o_Sy_compileSum_at_k12_0 : or_T := (12, 5, [], [], [], [], [(24, [0, 0], [])], [], [])
theorem oo_Sy_compileSum_at_k12_0 {kA : Nat → ClassId} : or_ok PRD kA GG o_Sy_compileSum_at_k12_0 := by
  refine or_mk fun A ta ws vs hD hth hl => ?_
  have nf0 : fc_1 PRD (24, [0, 0], []) ws (vs) := by
    refine ⟨nf_in hl rfl, sgq_1 ?_⟩
    · show n_v vs 0 = n_v vs 0
      first | rfl | simp only [true_and]
  refine ⟨(fun _ h => (by cases h)), [], trivial, ?_, (fun _ h => (by cases h))⟩
  rw [List.append_nil]
  exact List.forall_mem_cons.mpr ⟨⟨show (24 : Nat) < 100 from by decide, nf0⟩, (fun _ h => (by cases h))⟩
set_option maxHeartbeats 4000000 in
theorem vc_Sy_compileSum_at_k12_1_0 (kind_0 : Int) (number_0 : Int) (f0 : (kind_0 ≠ 3) ∨ (number_0 ≤ 9999)) (kz_0_6 : 0 ≤ kind_0 ∧ kind_0 ≤ 127) (kz_0_8 : 0 ≤ number_0 ∧ number_0 ≤ 1000000) : (kind_0 ≠ 3) ∨ (number_0 ≤ 9999) := by
  first
    | omega
  
def o_Sy_compileSum_at_k12_1 : or_T := (79, 9, [(0, (2, 0, 0, [11]))], [(20, [3], [50, 2, 0, 6, 8, 3, 7, 7, 3, 2, 0, 6, 0, 3, 0, 3, 2, 0, 8, 0, 9999]), (24, [0, 3], [])], [], [], [(20, [0], [50, 2, 0, 6, 8, 3, 7, 7, 3, 2, 0, 6, 0, 3, 0, 3, 2, 0, 8, 0, 9999])], [], [])
theorem oo_Sy_compileSum_at_k12_1 {kA : Nat → ClassId} : or_ok PRD kA GG o_Sy_compileSum_at_k12_1 := by
  refine or_mk fun A ta ws vs hD hth hl => ?_
  intro t0 r0 f0 f1
  replace f0 := shm_1747 f0
  replace f1 := shm_5 f1
  have q3 : n_v vs 3 = n_v vs 0 := f1.symm
  simp only [q3] at f0
  have kz_0_6 := fdq_304 hD hth r0
  have kz_0_8 := fdq_305 hD hth r0
  have nf0 : fc_1 PRD (20, [0], [50, 2, 0, 6, 8, 3, 7, 7, 3, 2, 0, 6, 0, 3, 0, 3, 2, 0, 8, 0, 9999]) ws (vs) := ⟨nf_in hl rfl, sgq_1747 (vc_Sy_compileSum_at_k12_1_0 (w_fi ws (n_v vs 0) 6) (w_fi ws (n_v vs 0) 8) f0 kz_0_6 kz_0_8)⟩
  refine ⟨(fun _ h => (by cases h)), [], trivial, ?_, (fun _ h => (by cases h))⟩
  rw [List.append_nil]
  exact List.forall_mem_cons.mpr ⟨⟨show (20 : Nat) < 100 from by decide, nf0⟩, (fun _ h => (by cases h))⟩
set_option maxHeartbeats 4000000 in
theorem vc_Sy_compileSum_at_k12_2_0 (x11 : Int) (x13 : Int) (k11 : 2 ≤ x11 ∧ x11 ≤ 2) (k13 : 0 ≤ x13 ∧ x13 ≤ 0) : (0 ≤ x11) ∧ ((0 ≤ x13) ∧ (((x11 * 65536) + x13) ≤ 851970)) := by
  first
    | omega
  
def o_Sy_compileSum_at_k12_2 : or_T := (69, 14, [(11, (0, 2, 2, [])), (13, (0, 0, 0, []))], [], [], [], [(20, [11, 13], [50, 0, 0, 2, 6, 0, 2, 0, 0, 1, 0, 2, 6, 0, 2, 0, 0, 1, 1, 0, 10, 4, 6, 6, 2, 1, 0, 0, 65536, 1, 1, 0, 851970])], [], [])
theorem oo_Sy_compileSum_at_k12_2 {kA : Nat → ClassId} : or_ok PRD kA GG o_Sy_compileSum_at_k12_2 := by
  refine or_mk fun A ta ws vs hD hth hl => ?_
  intro t11 k11 t13 k13
  have nf0 : fc_1 PRD (20, [11, 13], [50, 0, 0, 2, 6, 0, 2, 0, 0, 1, 0, 2, 6, 0, 2, 0, 0, 1, 1, 0, 10, 4, 6, 6, 2, 1, 0, 0, 65536, 1, 1, 0, 851970]) ws (vs) := ⟨nf_in hl rfl, sgq_487 (vc_Sy_compileSum_at_k12_2_0 (v_iv (n_v vs 11)) (v_iv (n_v vs 13)) k11 k13)⟩
  refine ⟨(fun _ h => (by cases h)), [], trivial, ?_, (fun _ h => (by cases h))⟩
  rw [List.append_nil]
  exact List.forall_mem_cons.mpr ⟨⟨show (20 : Nat) < 100 from by decide, nf0⟩, (fun _ h => (by cases h))⟩
set_option maxHeartbeats 4000000 in
theorem vc_Sy_compileSum_at_k12_3_0 (kind_0 : Int) (number_0 : Int) (f1 : (kind_0 ≠ 3) ∨ (number_0 ≤ 9999)) (kz_0_6 : 0 ≤ kind_0 ∧ kind_0 ≤ 127) (kz_0_8 : 0 ≤ number_0 ∧ number_0 ≤ 1000000) : (kind_0 ≠ 3) ∨ (number_0 ≤ 9999) := by
  first
    | omega
  
def o_Sy_compileSum_at_k12_3 : or_T := (65, 14, [(0, (2, 0, 0, [11]))], [(24, [0, 3], []), (20, [3], [50, 2, 0, 6, 8, 3, 7, 7, 3, 2, 0, 6, 0, 3, 0, 3, 2, 0, 8, 0, 9999])], [], [], [(20, [0], [50, 2, 0, 6, 8, 3, 7, 7, 3, 2, 0, 6, 0, 3, 0, 3, 2, 0, 8, 0, 9999])], [], [])
theorem oo_Sy_compileSum_at_k12_3 {kA : Nat → ClassId} : or_ok PRD kA GG o_Sy_compileSum_at_k12_3 := by
  refine or_mk fun A ta ws vs hD hth hl => ?_
  intro t0 r0 f0 f1
  replace f0 := shm_5 f0
  replace f1 := shm_1747 f1
  have q3 : n_v vs 3 = n_v vs 0 := f0.symm
  simp only [q3] at f1
  have kz_0_6 := fdq_304 hD hth r0
  have kz_0_8 := fdq_305 hD hth r0
  have nf0 : fc_1 PRD (20, [0], [50, 2, 0, 6, 8, 3, 7, 7, 3, 2, 0, 6, 0, 3, 0, 3, 2, 0, 8, 0, 9999]) ws (vs) := ⟨nf_in hl rfl, sgq_1747 (vc_Sy_compileSum_at_k12_3_0 (w_fi ws (n_v vs 0) 6) (w_fi ws (n_v vs 0) 8) f1 kz_0_6 kz_0_8)⟩
  refine ⟨(fun _ h => (by cases h)), [], trivial, ?_, (fun _ h => (by cases h))⟩
  rw [List.append_nil]
  exact List.forall_mem_cons.mpr ⟨⟨show (20 : Nat) < 100 from by decide, nf0⟩, (fun _ h => (by cases h))⟩
set_option maxHeartbeats 4000000 in
theorem vc_Sy_compileSum_at_k12_4_0 (kind_0 : Int) (number_0 : Int) (f3 : (kind_0 ≠ 3) ∨ (number_0 ≤ 9999)) (kz_0_6 : 0 ≤ kind_0 ∧ kind_0 ≤ 127) (kz_0_8 : 0 ≤ number_0 ∧ number_0 ≤ 1000000) : (kind_0 ≠ 3) ∨ (number_0 ≤ 9999) := by
  first
    | omega
  
def o_Sy_compileSum_at_k12_4 : or_T := (79, 12, [(0, (2, 0, 0, [11]))], [(20, [3], [50, 2, 0, 6, 8, 3, 7, 7, 3, 2, 0, 6, 0, 3, 0, 3, 2, 0, 8, 0, 9999]), (24, [0, 3], [])], [], [], [(20, [0], [50, 2, 0, 6, 8, 3, 7, 7, 3, 2, 0, 6, 0, 3, 0, 3, 2, 0, 8, 0, 9999])], [], [])
theorem oo_Sy_compileSum_at_k12_4 {kA : Nat → ClassId} : or_ok PRD kA GG o_Sy_compileSum_at_k12_4 := by
  refine or_mk fun A ta ws vs hD hth hl => ?_
  intro t0 r0 f3 f4
  replace f3 := shm_1747 f3
  replace f4 := shm_5 f4
  have q3 : n_v vs 3 = n_v vs 0 := f4.symm
  simp only [q3] at f3
  have kz_0_6 := fdq_304 hD hth r0
  have kz_0_8 := fdq_305 hD hth r0
  have nf0 : fc_1 PRD (20, [0], [50, 2, 0, 6, 8, 3, 7, 7, 3, 2, 0, 6, 0, 3, 0, 3, 2, 0, 8, 0, 9999]) ws (vs) := ⟨nf_in hl rfl, sgq_1747 (vc_Sy_compileSum_at_k12_4_0 (w_fi ws (n_v vs 0) 6) (w_fi ws (n_v vs 0) 8) f3 kz_0_6 kz_0_8)⟩
  refine ⟨(fun _ h => (by cases h)), [], trivial, ?_, (fun _ h => (by cases h))⟩
  rw [List.append_nil]
  exact List.forall_mem_cons.mpr ⟨⟨show (20 : Nat) < 100 from by decide, nf0⟩, (fun _ h => (by cases h))⟩
set_option maxHeartbeats 4000000 in
theorem vc_Sy_compileSum_at_k12_5_0 (x12 : Int) (x14 : Int) (k12 : 3 ≤ x12 ∧ x12 ≤ 3) (k14 : 0 ≤ x14 ∧ x14 ≤ 0) : (0 ≤ x12) ∧ ((0 ≤ x14) ∧ (((x12 * 65536) + x14) ≤ 851970)) := by
  first
    | omega
  
def o_Sy_compileSum_at_k12_5 : or_T := (69, 15, [(12, (0, 3, 3, [])), (14, (0, 0, 0, []))], [], [], [], [(20, [12, 14], [50, 0, 0, 2, 6, 0, 2, 0, 0, 1, 0, 2, 6, 0, 2, 0, 0, 1, 1, 0, 10, 4, 6, 6, 2, 1, 0, 0, 65536, 1, 1, 0, 851970])], [], [])
theorem oo_Sy_compileSum_at_k12_5 {kA : Nat → ClassId} : or_ok PRD kA GG o_Sy_compileSum_at_k12_5 := by
  refine or_mk fun A ta ws vs hD hth hl => ?_
  intro t12 k12 t14 k14
  have nf0 : fc_1 PRD (20, [12, 14], [50, 0, 0, 2, 6, 0, 2, 0, 0, 1, 0, 2, 6, 0, 2, 0, 0, 1, 1, 0, 10, 4, 6, 6, 2, 1, 0, 0, 65536, 1, 1, 0, 851970]) ws (vs) := ⟨nf_in hl rfl, sgq_487 (vc_Sy_compileSum_at_k12_5_0 (v_iv (n_v vs 12)) (v_iv (n_v vs 14)) k12 k14)⟩
  refine ⟨(fun _ h => (by cases h)), [], trivial, ?_, (fun _ h => (by cases h))⟩
  rw [List.append_nil]
  exact List.forall_mem_cons.mpr ⟨⟨show (20 : Nat) < 100 from by decide, nf0⟩, (fun _ h => (by cases h))⟩
set_option maxHeartbeats 4000000 in
theorem vc_Sy_compileSum_at_k12_6_0 (kind_0 : Int) (number_0 : Int) (f1 : (kind_0 ≠ 3) ∨ (number_0 ≤ 9999)) (kz_0_6 : 0 ≤ kind_0 ∧ kind_0 ≤ 127) (kz_0_8 : 0 ≤ number_0 ∧ number_0 ≤ 1000000) : (kind_0 ≠ 3) ∨ (number_0 ≤ 9999) := by
  first
    | omega
  
def o_Sy_compileSum_at_k12_6 : or_T := (65, 15, [(0, (2, 0, 0, [11]))], [(24, [0, 3], []), (20, [3], [50, 2, 0, 6, 8, 3, 7, 7, 3, 2, 0, 6, 0, 3, 0, 3, 2, 0, 8, 0, 9999])], [], [], [(20, [0], [50, 2, 0, 6, 8, 3, 7, 7, 3, 2, 0, 6, 0, 3, 0, 3, 2, 0, 8, 0, 9999])], [], [])
theorem oo_Sy_compileSum_at_k12_6 {kA : Nat → ClassId} : or_ok PRD kA GG o_Sy_compileSum_at_k12_6 := by
  refine or_mk fun A ta ws vs hD hth hl => ?_
  intro t0 r0 f0 f1
  replace f0 := shm_5 f0
  replace f1 := shm_1747 f1
  have q3 : n_v vs 3 = n_v vs 0 := f0.symm
  simp only [q3] at f1
  have kz_0_6 := fdq_304 hD hth r0
  have kz_0_8 := fdq_305 hD hth r0
  have nf0 : fc_1 PRD (20, [0], [50, 2, 0, 6, 8, 3, 7, 7, 3, 2, 0, 6, 0, 3, 0, 3, 2, 0, 8, 0, 9999]) ws (vs) := ⟨nf_in hl rfl, sgq_1747 (vc_Sy_compileSum_at_k12_6_0 (w_fi ws (n_v vs 0) 6) (w_fi ws (n_v vs 0) 8) f1 kz_0_6 kz_0_8)⟩
  refine ⟨(fun _ h => (by cases h)), [], trivial, ?_, (fun _ h => (by cases h))⟩
  rw [List.append_nil]
  exact List.forall_mem_cons.mpr ⟨⟨show (20 : Nat) < 100 from by decide, nf0⟩, (fun _ h => (by cases h))⟩
def n_Sy_compileSum_at_k12_an : List an_T := [(12, [(0, (2, 0, 0, [11])), (1, (0, 12, 12, [])), (2, (0, 0, 2000, []))], [], (0, 0), [(0, 0, 99988), (1, 5, 2000), (0, 0, 100000)], [], [((0, 3), (2, 0, 0, [109]))], [(2, 0, 0, [11]), (0, 12, 12, []), (2, 0, 0, [109])], 0, [], [(20, [3], [50, 2, 0, 6, 8, 3, 7, 7, 3, 2, 0, 6, 0, 3, 0, 3, 2, 0, 8, 0, 9999]), (24, [0, 3], [])])]
def t_Sy_compileSum_at_k12_ct : ct_L := [(1, 69, e_Sy_advance), (1, 128, e_Sy_emit), (10, 155, e_Sy_compileProduct_at_k12), (178, 155, e_Sy_compileProduct_at_k12)]
set_option maxRecDepth 100000 in
theorem c_Sy_compileSum_at_k12 {l : Launch} {D : va_G} {kA : Nat → ClassId} (h_Sy_advance : ct_ok PRD l D kA GG y_Sy_advance z_Sy_advance e_Sy_advance) (h_Sy_compileProduct_at_k12 : ct_ok PRD l D kA GG y_Sy_compileProduct_at_k12 z_Sy_compileProduct_at_k12 e_Sy_compileProduct_at_k12) (h_Sy_emit : ct_ok PRD l D kA GG y_Sy_emit z_Sy_emit e_Sy_emit) : ct_ok PRD l D kA GG y_Sy_compileSum_at_k12 z_Sy_compileSum_at_k12 e_Sy_compileSum_at_k12 := chk_all_ok (FT := [(31, 11, 6)]) (PT := []) (CT := t_Sy_compileSum_at_k12_ct) (KT := []) (NT := []) (AN := n_Sy_compileSum_at_k12_an) (OT := [o_Sy_compileSum_at_k12_0, o_Sy_compileSum_at_k12_1, o_Sy_compileSum_at_k12_2, o_Sy_compileSum_at_k12_3, o_Sy_compileSum_at_k12_4, o_Sy_compileSum_at_k12_5, o_Sy_compileSum_at_k12_6]) 3 256 (List.forall_mem_cons.mpr ⟨oo_Sy_compileSum_at_k12_0, List.forall_mem_cons.mpr ⟨oo_Sy_compileSum_at_k12_1, List.forall_mem_cons.mpr ⟨oo_Sy_compileSum_at_k12_2, List.forall_mem_cons.mpr ⟨oo_Sy_compileSum_at_k12_3, List.forall_mem_cons.mpr ⟨oo_Sy_compileSum_at_k12_4, List.forall_mem_cons.mpr ⟨oo_Sy_compileSum_at_k12_5, List.forall_mem_cons.mpr ⟨oo_Sy_compileSum_at_k12_6, List.forall_mem_nil _⟩⟩⟩⟩⟩⟩⟩) (by decide +kernel) ⟨List.forall_mem_cons.mpr ⟨gf_Sy_31, List.forall_mem_nil _⟩, List.forall_mem_nil _, List.forall_mem_cons.mpr ⟨cl_virtual (y := y_Sy_advance) (ci := 11) rfl rfl ⟨_, _, rfl⟩ (by decide +kernel) h_Sy_advance wm_2158 wm_23 wm_2155 wm_2157 wv_10_10 ⟨by decide, by decide, by decide +kernel⟩ (by decide), List.forall_mem_cons.mpr ⟨cl_virtual (y := y_Sy_emit) (ci := 11) rfl rfl ⟨_, _, rfl⟩ (by decide +kernel) h_Sy_emit wm_2258 wm_23 wm_2255 wm_2257 wv_11_2 ⟨by decide, by decide, by decide +kernel⟩ (by decide), List.forall_mem_cons.mpr ⟨cl_virtual (y := y_Sy_compileProduct_at_k12) (ci := 11) rfl rfl ⟨_, _, rfl⟩ (by decide +kernel) h_Sy_compileProduct_at_k12 wm_2270 wm_23 wm_2267 wm_2269 wv_11_5 ⟨by decide, by decide, by decide +kernel⟩ (by decide), List.forall_mem_cons.mpr ⟨cl_virtual (y := y_Sy_compileProduct_at_k12) (ci := 11) rfl rfl ⟨_, _, rfl⟩ (by decide +kernel) h_Sy_compileProduct_at_k12 wm_2270 wm_23 wm_2267 wm_2269 wv_11_5 ⟨by decide, by decide, by decide +kernel⟩ (by decide), List.forall_mem_nil _⟩⟩⟩⟩, List.forall_mem_nil _, List.forall_mem_nil _, GG_pl⟩ (by decide +kernel)
def o_Sy_compileSum_at_k2_0 : or_T := (12, 5, [], [], [], [], [(24, [0, 0], [])], [], [])
theorem oo_Sy_compileSum_at_k2_0 {kA : Nat → ClassId} : or_ok PRD kA GG o_Sy_compileSum_at_k2_0 := by
  refine or_mk fun A ta ws vs hD hth hl => ?_
  have nf0 : fc_1 PRD (24, [0, 0], []) ws (vs) := by
    refine ⟨nf_in hl rfl, sgq_1 ?_⟩
    · show n_v vs 0 = n_v vs 0
      first | rfl | simp only [true_and]
  refine ⟨(fun _ h => (by cases h)), [], trivial, ?_, (fun _ h => (by cases h))⟩
  rw [List.append_nil]
  exact List.forall_mem_cons.mpr ⟨⟨show (24 : Nat) < 100 from by decide, nf0⟩, (fun _ h => (by cases h))⟩
set_option maxHeartbeats 4000000 in
theorem vc_Sy_compileSum_at_k2_1_0 (kind_0 : Int) (number_0 : Int) (f0 : (kind_0 ≠ 3) ∨ (number_0 ≤ 9999)) (kz_0_6 : 0 ≤ kind_0 ∧ kind_0 ≤ 127) (kz_0_8 : 0 ≤ number_0 ∧ number_0 ≤ 1000000) : (kind_0 ≠ 3) ∨ (number_0 ≤ 9999) := by
  first
    | omega
  
def o_Sy_compileSum_at_k2_1 : or_T := (79, 9, [(0, (2, 0, 0, [11]))], [(20, [3], [50, 2, 0, 6, 8, 3, 7, 7, 3, 2, 0, 6, 0, 3, 0, 3, 2, 0, 8, 0, 9999]), (24, [0, 3], [])], [], [], [(20, [0], [50, 2, 0, 6, 8, 3, 7, 7, 3, 2, 0, 6, 0, 3, 0, 3, 2, 0, 8, 0, 9999])], [], [])
theorem oo_Sy_compileSum_at_k2_1 {kA : Nat → ClassId} : or_ok PRD kA GG o_Sy_compileSum_at_k2_1 := by
  refine or_mk fun A ta ws vs hD hth hl => ?_
  intro t0 r0 f0 f1
  replace f0 := shm_1747 f0
  replace f1 := shm_5 f1
  have q3 : n_v vs 3 = n_v vs 0 := f1.symm
  simp only [q3] at f0
  have kz_0_6 := fdq_304 hD hth r0
  have kz_0_8 := fdq_305 hD hth r0
  have nf0 : fc_1 PRD (20, [0], [50, 2, 0, 6, 8, 3, 7, 7, 3, 2, 0, 6, 0, 3, 0, 3, 2, 0, 8, 0, 9999]) ws (vs) := ⟨nf_in hl rfl, sgq_1747 (vc_Sy_compileSum_at_k2_1_0 (w_fi ws (n_v vs 0) 6) (w_fi ws (n_v vs 0) 8) f0 kz_0_6 kz_0_8)⟩
  refine ⟨(fun _ h => (by cases h)), [], trivial, ?_, (fun _ h => (by cases h))⟩
  rw [List.append_nil]
  exact List.forall_mem_cons.mpr ⟨⟨show (20 : Nat) < 100 from by decide, nf0⟩, (fun _ h => (by cases h))⟩
set_option maxHeartbeats 4000000 in
theorem vc_Sy_compileSum_at_k2_2_0 (x11 : Int) (x13 : Int) (k11 : 2 ≤ x11 ∧ x11 ≤ 2) (k13 : 0 ≤ x13 ∧ x13 ≤ 0) : (0 ≤ x11) ∧ ((0 ≤ x13) ∧ (((x11 * 65536) + x13) ≤ 851970)) := by
  first
    | omega
  
def o_Sy_compileSum_at_k2_2 : or_T := (69, 14, [(11, (0, 2, 2, [])), (13, (0, 0, 0, []))], [], [], [], [(20, [11, 13], [50, 0, 0, 2, 6, 0, 2, 0, 0, 1, 0, 2, 6, 0, 2, 0, 0, 1, 1, 0, 10, 4, 6, 6, 2, 1, 0, 0, 65536, 1, 1, 0, 851970])], [], [])
theorem oo_Sy_compileSum_at_k2_2 {kA : Nat → ClassId} : or_ok PRD kA GG o_Sy_compileSum_at_k2_2 := by
  refine or_mk fun A ta ws vs hD hth hl => ?_
  intro t11 k11 t13 k13
  have nf0 : fc_1 PRD (20, [11, 13], [50, 0, 0, 2, 6, 0, 2, 0, 0, 1, 0, 2, 6, 0, 2, 0, 0, 1, 1, 0, 10, 4, 6, 6, 2, 1, 0, 0, 65536, 1, 1, 0, 851970]) ws (vs) := ⟨nf_in hl rfl, sgq_487 (vc_Sy_compileSum_at_k2_2_0 (v_iv (n_v vs 11)) (v_iv (n_v vs 13)) k11 k13)⟩
  refine ⟨(fun _ h => (by cases h)), [], trivial, ?_, (fun _ h => (by cases h))⟩
  rw [List.append_nil]
  exact List.forall_mem_cons.mpr ⟨⟨show (20 : Nat) < 100 from by decide, nf0⟩, (fun _ h => (by cases h))⟩
set_option maxHeartbeats 4000000 in
theorem vc_Sy_compileSum_at_k2_3_0 (kind_0 : Int) (number_0 : Int) (f1 : (kind_0 ≠ 3) ∨ (number_0 ≤ 9999)) (kz_0_6 : 0 ≤ kind_0 ∧ kind_0 ≤ 127) (kz_0_8 : 0 ≤ number_0 ∧ number_0 ≤ 1000000) : (kind_0 ≠ 3) ∨ (number_0 ≤ 9999) := by
  first
    | omega
  
def o_Sy_compileSum_at_k2_3 : or_T := (65, 14, [(0, (2, 0, 0, [11]))], [(24, [0, 3], []), (20, [3], [50, 2, 0, 6, 8, 3, 7, 7, 3, 2, 0, 6, 0, 3, 0, 3, 2, 0, 8, 0, 9999])], [], [], [(20, [0], [50, 2, 0, 6, 8, 3, 7, 7, 3, 2, 0, 6, 0, 3, 0, 3, 2, 0, 8, 0, 9999])], [], [])
theorem oo_Sy_compileSum_at_k2_3 {kA : Nat → ClassId} : or_ok PRD kA GG o_Sy_compileSum_at_k2_3 := by
  refine or_mk fun A ta ws vs hD hth hl => ?_
  intro t0 r0 f0 f1
  replace f0 := shm_5 f0
  replace f1 := shm_1747 f1
  have q3 : n_v vs 3 = n_v vs 0 := f0.symm
  simp only [q3] at f1
  have kz_0_6 := fdq_304 hD hth r0
  have kz_0_8 := fdq_305 hD hth r0
  have nf0 : fc_1 PRD (20, [0], [50, 2, 0, 6, 8, 3, 7, 7, 3, 2, 0, 6, 0, 3, 0, 3, 2, 0, 8, 0, 9999]) ws (vs) := ⟨nf_in hl rfl, sgq_1747 (vc_Sy_compileSum_at_k2_3_0 (w_fi ws (n_v vs 0) 6) (w_fi ws (n_v vs 0) 8) f1 kz_0_6 kz_0_8)⟩
  refine ⟨(fun _ h => (by cases h)), [], trivial, ?_, (fun _ h => (by cases h))⟩
  rw [List.append_nil]
  exact List.forall_mem_cons.mpr ⟨⟨show (20 : Nat) < 100 from by decide, nf0⟩, (fun _ h => (by cases h))⟩
set_option maxHeartbeats 4000000 in
theorem vc_Sy_compileSum_at_k2_4_0 (kind_0 : Int) (number_0 : Int) (f3 : (kind_0 ≠ 3) ∨ (number_0 ≤ 9999)) (kz_0_6 : 0 ≤ kind_0 ∧ kind_0 ≤ 127) (kz_0_8 : 0 ≤ number_0 ∧ number_0 ≤ 1000000) : (kind_0 ≠ 3) ∨ (number_0 ≤ 9999) := by
  first
    | omega
  
def o_Sy_compileSum_at_k2_4 : or_T := (79, 12, [(0, (2, 0, 0, [11]))], [(20, [3], [50, 2, 0, 6, 8, 3, 7, 7, 3, 2, 0, 6, 0, 3, 0, 3, 2, 0, 8, 0, 9999]), (24, [0, 3], [])], [], [], [(20, [0], [50, 2, 0, 6, 8, 3, 7, 7, 3, 2, 0, 6, 0, 3, 0, 3, 2, 0, 8, 0, 9999])], [], [])
theorem oo_Sy_compileSum_at_k2_4 {kA : Nat → ClassId} : or_ok PRD kA GG o_Sy_compileSum_at_k2_4 := by
  refine or_mk fun A ta ws vs hD hth hl => ?_
  intro t0 r0 f3 f4
  replace f3 := shm_1747 f3
  replace f4 := shm_5 f4
  have q3 : n_v vs 3 = n_v vs 0 := f4.symm
  simp only [q3] at f3
  have kz_0_6 := fdq_304 hD hth r0
  have kz_0_8 := fdq_305 hD hth r0
  have nf0 : fc_1 PRD (20, [0], [50, 2, 0, 6, 8, 3, 7, 7, 3, 2, 0, 6, 0, 3, 0, 3, 2, 0, 8, 0, 9999]) ws (vs) := ⟨nf_in hl rfl, sgq_1747 (vc_Sy_compileSum_at_k2_4_0 (w_fi ws (n_v vs 0) 6) (w_fi ws (n_v vs 0) 8) f3 kz_0_6 kz_0_8)⟩
  refine ⟨(fun _ h => (by cases h)), [], trivial, ?_, (fun _ h => (by cases h))⟩
  rw [List.append_nil]
  exact List.forall_mem_cons.mpr ⟨⟨show (20 : Nat) < 100 from by decide, nf0⟩, (fun _ h => (by cases h))⟩
set_option maxHeartbeats 4000000 in
theorem vc_Sy_compileSum_at_k2_5_0 (x12 : Int) (x14 : Int) (k12 : 3 ≤ x12 ∧ x12 ≤ 3) (k14 : 0 ≤ x14 ∧ x14 ≤ 0) : (0 ≤ x12) ∧ ((0 ≤ x14) ∧ (((x12 * 65536) + x14) ≤ 851970)) := by
  first
    | omega
  
def o_Sy_compileSum_at_k2_5 : or_T := (69, 15, [(12, (0, 3, 3, [])), (14, (0, 0, 0, []))], [], [], [], [(20, [12, 14], [50, 0, 0, 2, 6, 0, 2, 0, 0, 1, 0, 2, 6, 0, 2, 0, 0, 1, 1, 0, 10, 4, 6, 6, 2, 1, 0, 0, 65536, 1, 1, 0, 851970])], [], [])
theorem oo_Sy_compileSum_at_k2_5 {kA : Nat → ClassId} : or_ok PRD kA GG o_Sy_compileSum_at_k2_5 := by
  refine or_mk fun A ta ws vs hD hth hl => ?_
  intro t12 k12 t14 k14
  have nf0 : fc_1 PRD (20, [12, 14], [50, 0, 0, 2, 6, 0, 2, 0, 0, 1, 0, 2, 6, 0, 2, 0, 0, 1, 1, 0, 10, 4, 6, 6, 2, 1, 0, 0, 65536, 1, 1, 0, 851970]) ws (vs) := ⟨nf_in hl rfl, sgq_487 (vc_Sy_compileSum_at_k2_5_0 (v_iv (n_v vs 12)) (v_iv (n_v vs 14)) k12 k14)⟩
  refine ⟨(fun _ h => (by cases h)), [], trivial, ?_, (fun _ h => (by cases h))⟩
  rw [List.append_nil]
  exact List.forall_mem_cons.mpr ⟨⟨show (20 : Nat) < 100 from by decide, nf0⟩, (fun _ h => (by cases h))⟩
set_option maxHeartbeats 4000000 in
theorem vc_Sy_compileSum_at_k2_6_0 (kind_0 : Int) (number_0 : Int) (f1 : (kind_0 ≠ 3) ∨ (number_0 ≤ 9999)) (kz_0_6 : 0 ≤ kind_0 ∧ kind_0 ≤ 127) (kz_0_8 : 0 ≤ number_0 ∧ number_0 ≤ 1000000) : (kind_0 ≠ 3) ∨ (number_0 ≤ 9999) := by
  first
    | omega
  
def o_Sy_compileSum_at_k2_6 : or_T := (65, 15, [(0, (2, 0, 0, [11]))], [(24, [0, 3], []), (20, [3], [50, 2, 0, 6, 8, 3, 7, 7, 3, 2, 0, 6, 0, 3, 0, 3, 2, 0, 8, 0, 9999])], [], [], [(20, [0], [50, 2, 0, 6, 8, 3, 7, 7, 3, 2, 0, 6, 0, 3, 0, 3, 2, 0, 8, 0, 9999])], [], [])
theorem oo_Sy_compileSum_at_k2_6 {kA : Nat → ClassId} : or_ok PRD kA GG o_Sy_compileSum_at_k2_6 := by
  refine or_mk fun A ta ws vs hD hth hl => ?_
  intro t0 r0 f0 f1
  replace f0 := shm_5 f0
  replace f1 := shm_1747 f1
  have q3 : n_v vs 3 = n_v vs 0 := f0.symm
  simp only [q3] at f1
  have kz_0_6 := fdq_304 hD hth r0
  have kz_0_8 := fdq_305 hD hth r0
  have nf0 : fc_1 PRD (20, [0], [50, 2, 0, 6, 8, 3, 7, 7, 3, 2, 0, 6, 0, 3, 0, 3, 2, 0, 8, 0, 9999]) ws (vs) := ⟨nf_in hl rfl, sgq_1747 (vc_Sy_compileSum_at_k2_6_0 (w_fi ws (n_v vs 0) 6) (w_fi ws (n_v vs 0) 8) f1 kz_0_6 kz_0_8)⟩
  refine ⟨(fun _ h => (by cases h)), [], trivial, ?_, (fun _ h => (by cases h))⟩
  rw [List.append_nil]
  exact List.forall_mem_cons.mpr ⟨⟨show (20 : Nat) < 100 from by decide, nf0⟩, (fun _ h => (by cases h))⟩
def n_Sy_compileSum_at_k2_an : List an_T := [(12, [(0, (2, 0, 0, [11])), (1, (0, 2, 2, [])), (2, (0, 0, 2000, []))], [], (0, 0), [(0, 0, 99988), (1, 5, 2000), (0, 0, 100000)], [], [((0, 3), (2, 0, 0, [109]))], [(2, 0, 0, [11]), (0, 2, 2, []), (2, 0, 0, [109])], 0, [], [(20, [3], [50, 2, 0, 6, 8, 3, 7, 7, 3, 2, 0, 6, 0, 3, 0, 3, 2, 0, 8, 0, 9999]), (24, [0, 3], [])])]
def t_Sy_compileSum_at_k2_ct : ct_L := [(1, 69, e_Sy_advance), (1, 128, e_Sy_emit), (10, 155, e_Sy_compileProduct_at_k2), (178, 155, e_Sy_compileProduct_at_k2)]
set_option maxRecDepth 100000 in
theorem c_Sy_compileSum_at_k2 {l : Launch} {D : va_G} {kA : Nat → ClassId} (h_Sy_advance : ct_ok PRD l D kA GG y_Sy_advance z_Sy_advance e_Sy_advance) (h_Sy_compileProduct_at_k2 : ct_ok PRD l D kA GG y_Sy_compileProduct_at_k2 z_Sy_compileProduct_at_k2 e_Sy_compileProduct_at_k2) (h_Sy_emit : ct_ok PRD l D kA GG y_Sy_emit z_Sy_emit e_Sy_emit) : ct_ok PRD l D kA GG y_Sy_compileSum_at_k2 z_Sy_compileSum_at_k2 e_Sy_compileSum_at_k2 := chk_all_ok (FT := [(31, 11, 6)]) (PT := []) (CT := t_Sy_compileSum_at_k2_ct) (KT := []) (NT := []) (AN := n_Sy_compileSum_at_k2_an) (OT := [o_Sy_compileSum_at_k2_0, o_Sy_compileSum_at_k2_1, o_Sy_compileSum_at_k2_2, o_Sy_compileSum_at_k2_3, o_Sy_compileSum_at_k2_4, o_Sy_compileSum_at_k2_5, o_Sy_compileSum_at_k2_6]) 3 256 (List.forall_mem_cons.mpr ⟨oo_Sy_compileSum_at_k2_0, List.forall_mem_cons.mpr ⟨oo_Sy_compileSum_at_k2_1, List.forall_mem_cons.mpr ⟨oo_Sy_compileSum_at_k2_2, List.forall_mem_cons.mpr ⟨oo_Sy_compileSum_at_k2_3, List.forall_mem_cons.mpr ⟨oo_Sy_compileSum_at_k2_4, List.forall_mem_cons.mpr ⟨oo_Sy_compileSum_at_k2_5, List.forall_mem_cons.mpr ⟨oo_Sy_compileSum_at_k2_6, List.forall_mem_nil _⟩⟩⟩⟩⟩⟩⟩) (by decide +kernel) ⟨List.forall_mem_cons.mpr ⟨gf_Sy_31, List.forall_mem_nil _⟩, List.forall_mem_nil _, List.forall_mem_cons.mpr ⟨cl_virtual (y := y_Sy_advance) (ci := 11) rfl rfl ⟨_, _, rfl⟩ (by decide +kernel) h_Sy_advance wm_2158 wm_23 wm_2155 wm_2157 wv_10_10 ⟨by decide, by decide, by decide +kernel⟩ (by decide), List.forall_mem_cons.mpr ⟨cl_virtual (y := y_Sy_emit) (ci := 11) rfl rfl ⟨_, _, rfl⟩ (by decide +kernel) h_Sy_emit wm_2258 wm_23 wm_2255 wm_2257 wv_11_2 ⟨by decide, by decide, by decide +kernel⟩ (by decide), List.forall_mem_cons.mpr ⟨cl_virtual (y := y_Sy_compileProduct_at_k2) (ci := 11) rfl rfl ⟨_, _, rfl⟩ (by decide +kernel) h_Sy_compileProduct_at_k2 wm_2270 wm_23 wm_2267 wm_2269 wv_11_5 ⟨by decide, by decide, by decide +kernel⟩ (by decide), List.forall_mem_cons.mpr ⟨cl_virtual (y := y_Sy_compileProduct_at_k2) (ci := 11) rfl rfl ⟨_, _, rfl⟩ (by decide +kernel) h_Sy_compileProduct_at_k2 wm_2270 wm_23 wm_2267 wm_2269 wv_11_5 ⟨by decide, by decide, by decide +kernel⟩ (by decide), List.forall_mem_nil _⟩⟩⟩⟩, List.forall_mem_nil _, List.forall_mem_nil _, GG_pl⟩ (by decide +kernel)
def o_Sy_compileSum_at_k3_0 : or_T := (12, 5, [], [], [], [], [(24, [0, 0], [])], [], [])
theorem oo_Sy_compileSum_at_k3_0 {kA : Nat → ClassId} : or_ok PRD kA GG o_Sy_compileSum_at_k3_0 := by
  refine or_mk fun A ta ws vs hD hth hl => ?_
  have nf0 : fc_1 PRD (24, [0, 0], []) ws (vs) := by
    refine ⟨nf_in hl rfl, sgq_1 ?_⟩
    · show n_v vs 0 = n_v vs 0
      first | rfl | simp only [true_and]
  refine ⟨(fun _ h => (by cases h)), [], trivial, ?_, (fun _ h => (by cases h))⟩
  rw [List.append_nil]
  exact List.forall_mem_cons.mpr ⟨⟨show (24 : Nat) < 100 from by decide, nf0⟩, (fun _ h => (by cases h))⟩
set_option maxHeartbeats 4000000 in
theorem vc_Sy_compileSum_at_k3_1_0 (kind_0 : Int) (number_0 : Int) (f0 : (kind_0 ≠ 3) ∨ (number_0 ≤ 9999)) (kz_0_6 : 0 ≤ kind_0 ∧ kind_0 ≤ 127) (kz_0_8 : 0 ≤ number_0 ∧ number_0 ≤ 1000000) : (kind_0 ≠ 3) ∨ (number_0 ≤ 9999) := by
  first
    | omega
  
def o_Sy_compileSum_at_k3_1 : or_T := (79, 9, [(0, (2, 0, 0, [11]))], [(20, [3], [50, 2, 0, 6, 8, 3, 7, 7, 3, 2, 0, 6, 0, 3, 0, 3, 2, 0, 8, 0, 9999]), (24, [0, 3], [])], [], [], [(20, [0], [50, 2, 0, 6, 8, 3, 7, 7, 3, 2, 0, 6, 0, 3, 0, 3, 2, 0, 8, 0, 9999])], [], [])
theorem oo_Sy_compileSum_at_k3_1 {kA : Nat → ClassId} : or_ok PRD kA GG o_Sy_compileSum_at_k3_1 := by
  refine or_mk fun A ta ws vs hD hth hl => ?_
  intro t0 r0 f0 f1
  replace f0 := shm_1747 f0
  replace f1 := shm_5 f1
  have q3 : n_v vs 3 = n_v vs 0 := f1.symm
  simp only [q3] at f0
  have kz_0_6 := fdq_304 hD hth r0
  have kz_0_8 := fdq_305 hD hth r0
  have nf0 : fc_1 PRD (20, [0], [50, 2, 0, 6, 8, 3, 7, 7, 3, 2, 0, 6, 0, 3, 0, 3, 2, 0, 8, 0, 9999]) ws (vs) := ⟨nf_in hl rfl, sgq_1747 (vc_Sy_compileSum_at_k3_1_0 (w_fi ws (n_v vs 0) 6) (w_fi ws (n_v vs 0) 8) f0 kz_0_6 kz_0_8)⟩
  refine ⟨(fun _ h => (by cases h)), [], trivial, ?_, (fun _ h => (by cases h))⟩
  rw [List.append_nil]
  exact List.forall_mem_cons.mpr ⟨⟨show (20 : Nat) < 100 from by decide, nf0⟩, (fun _ h => (by cases h))⟩
set_option maxHeartbeats 4000000 in
theorem vc_Sy_compileSum_at_k3_2_0 (x11 : Int) (x13 : Int) (k11 : 2 ≤ x11 ∧ x11 ≤ 2) (k13 : 0 ≤ x13 ∧ x13 ≤ 0) : (0 ≤ x11) ∧ ((0 ≤ x13) ∧ (((x11 * 65536) + x13) ≤ 851970)) := by
  first
    | omega
  
def o_Sy_compileSum_at_k3_2 : or_T := (69, 14, [(11, (0, 2, 2, [])), (13, (0, 0, 0, []))], [], [], [], [(20, [11, 13], [50, 0, 0, 2, 6, 0, 2, 0, 0, 1, 0, 2, 6, 0, 2, 0, 0, 1, 1, 0, 10, 4, 6, 6, 2, 1, 0, 0, 65536, 1, 1, 0, 851970])], [], [])
theorem oo_Sy_compileSum_at_k3_2 {kA : Nat → ClassId} : or_ok PRD kA GG o_Sy_compileSum_at_k3_2 := by
  refine or_mk fun A ta ws vs hD hth hl => ?_
  intro t11 k11 t13 k13
  have nf0 : fc_1 PRD (20, [11, 13], [50, 0, 0, 2, 6, 0, 2, 0, 0, 1, 0, 2, 6, 0, 2, 0, 0, 1, 1, 0, 10, 4, 6, 6, 2, 1, 0, 0, 65536, 1, 1, 0, 851970]) ws (vs) := ⟨nf_in hl rfl, sgq_487 (vc_Sy_compileSum_at_k3_2_0 (v_iv (n_v vs 11)) (v_iv (n_v vs 13)) k11 k13)⟩
  refine ⟨(fun _ h => (by cases h)), [], trivial, ?_, (fun _ h => (by cases h))⟩
  rw [List.append_nil]
  exact List.forall_mem_cons.mpr ⟨⟨show (20 : Nat) < 100 from by decide, nf0⟩, (fun _ h => (by cases h))⟩
set_option maxHeartbeats 4000000 in
theorem vc_Sy_compileSum_at_k3_3_0 (kind_0 : Int) (number_0 : Int) (f1 : (kind_0 ≠ 3) ∨ (number_0 ≤ 9999)) (kz_0_6 : 0 ≤ kind_0 ∧ kind_0 ≤ 127) (kz_0_8 : 0 ≤ number_0 ∧ number_0 ≤ 1000000) : (kind_0 ≠ 3) ∨ (number_0 ≤ 9999) := by
  first
    | omega
  
def o_Sy_compileSum_at_k3_3 : or_T := (65, 14, [(0, (2, 0, 0, [11]))], [(24, [0, 3], []), (20, [3], [50, 2, 0, 6, 8, 3, 7, 7, 3, 2, 0, 6, 0, 3, 0, 3, 2, 0, 8, 0, 9999])], [], [], [(20, [0], [50, 2, 0, 6, 8, 3, 7, 7, 3, 2, 0, 6, 0, 3, 0, 3, 2, 0, 8, 0, 9999])], [], [])
theorem oo_Sy_compileSum_at_k3_3 {kA : Nat → ClassId} : or_ok PRD kA GG o_Sy_compileSum_at_k3_3 := by
  refine or_mk fun A ta ws vs hD hth hl => ?_
  intro t0 r0 f0 f1
  replace f0 := shm_5 f0
  replace f1 := shm_1747 f1
  have q3 : n_v vs 3 = n_v vs 0 := f0.symm
  simp only [q3] at f1
  have kz_0_6 := fdq_304 hD hth r0
  have kz_0_8 := fdq_305 hD hth r0
  have nf0 : fc_1 PRD (20, [0], [50, 2, 0, 6, 8, 3, 7, 7, 3, 2, 0, 6, 0, 3, 0, 3, 2, 0, 8, 0, 9999]) ws (vs) := ⟨nf_in hl rfl, sgq_1747 (vc_Sy_compileSum_at_k3_3_0 (w_fi ws (n_v vs 0) 6) (w_fi ws (n_v vs 0) 8) f1 kz_0_6 kz_0_8)⟩
  refine ⟨(fun _ h => (by cases h)), [], trivial, ?_, (fun _ h => (by cases h))⟩
  rw [List.append_nil]
  exact List.forall_mem_cons.mpr ⟨⟨show (20 : Nat) < 100 from by decide, nf0⟩, (fun _ h => (by cases h))⟩
set_option maxHeartbeats 4000000 in
theorem vc_Sy_compileSum_at_k3_4_0 (kind_0 : Int) (number_0 : Int) (f3 : (kind_0 ≠ 3) ∨ (number_0 ≤ 9999)) (kz_0_6 : 0 ≤ kind_0 ∧ kind_0 ≤ 127) (kz_0_8 : 0 ≤ number_0 ∧ number_0 ≤ 1000000) : (kind_0 ≠ 3) ∨ (number_0 ≤ 9999) := by
  first
    | omega
  
def o_Sy_compileSum_at_k3_4 : or_T := (79, 12, [(0, (2, 0, 0, [11]))], [(20, [3], [50, 2, 0, 6, 8, 3, 7, 7, 3, 2, 0, 6, 0, 3, 0, 3, 2, 0, 8, 0, 9999]), (24, [0, 3], [])], [], [], [(20, [0], [50, 2, 0, 6, 8, 3, 7, 7, 3, 2, 0, 6, 0, 3, 0, 3, 2, 0, 8, 0, 9999])], [], [])
theorem oo_Sy_compileSum_at_k3_4 {kA : Nat → ClassId} : or_ok PRD kA GG o_Sy_compileSum_at_k3_4 := by
  refine or_mk fun A ta ws vs hD hth hl => ?_
  intro t0 r0 f3 f4
  replace f3 := shm_1747 f3
  replace f4 := shm_5 f4
  have q3 : n_v vs 3 = n_v vs 0 := f4.symm
  simp only [q3] at f3
  have kz_0_6 := fdq_304 hD hth r0
  have kz_0_8 := fdq_305 hD hth r0
  have nf0 : fc_1 PRD (20, [0], [50, 2, 0, 6, 8, 3, 7, 7, 3, 2, 0, 6, 0, 3, 0, 3, 2, 0, 8, 0, 9999]) ws (vs) := ⟨nf_in hl rfl, sgq_1747 (vc_Sy_compileSum_at_k3_4_0 (w_fi ws (n_v vs 0) 6) (w_fi ws (n_v vs 0) 8) f3 kz_0_6 kz_0_8)⟩
  refine ⟨(fun _ h => (by cases h)), [], trivial, ?_, (fun _ h => (by cases h))⟩
  rw [List.append_nil]
  exact List.forall_mem_cons.mpr ⟨⟨show (20 : Nat) < 100 from by decide, nf0⟩, (fun _ h => (by cases h))⟩
set_option maxHeartbeats 4000000 in
theorem vc_Sy_compileSum_at_k3_5_0 (x12 : Int) (x14 : Int) (k12 : 3 ≤ x12 ∧ x12 ≤ 3) (k14 : 0 ≤ x14 ∧ x14 ≤ 0) : (0 ≤ x12) ∧ ((0 ≤ x14) ∧ (((x12 * 65536) + x14) ≤ 851970)) := by
  first
    | omega
  
def o_Sy_compileSum_at_k3_5 : or_T := (69, 15, [(12, (0, 3, 3, [])), (14, (0, 0, 0, []))], [], [], [], [(20, [12, 14], [50, 0, 0, 2, 6, 0, 2, 0, 0, 1, 0, 2, 6, 0, 2, 0, 0, 1, 1, 0, 10, 4, 6, 6, 2, 1, 0, 0, 65536, 1, 1, 0, 851970])], [], [])
theorem oo_Sy_compileSum_at_k3_5 {kA : Nat → ClassId} : or_ok PRD kA GG o_Sy_compileSum_at_k3_5 := by
  refine or_mk fun A ta ws vs hD hth hl => ?_
  intro t12 k12 t14 k14
  have nf0 : fc_1 PRD (20, [12, 14], [50, 0, 0, 2, 6, 0, 2, 0, 0, 1, 0, 2, 6, 0, 2, 0, 0, 1, 1, 0, 10, 4, 6, 6, 2, 1, 0, 0, 65536, 1, 1, 0, 851970]) ws (vs) := ⟨nf_in hl rfl, sgq_487 (vc_Sy_compileSum_at_k3_5_0 (v_iv (n_v vs 12)) (v_iv (n_v vs 14)) k12 k14)⟩
  refine ⟨(fun _ h => (by cases h)), [], trivial, ?_, (fun _ h => (by cases h))⟩
  rw [List.append_nil]
  exact List.forall_mem_cons.mpr ⟨⟨show (20 : Nat) < 100 from by decide, nf0⟩, (fun _ h => (by cases h))⟩
set_option maxHeartbeats 4000000 in
theorem vc_Sy_compileSum_at_k3_6_0 (kind_0 : Int) (number_0 : Int) (f1 : (kind_0 ≠ 3) ∨ (number_0 ≤ 9999)) (kz_0_6 : 0 ≤ kind_0 ∧ kind_0 ≤ 127) (kz_0_8 : 0 ≤ number_0 ∧ number_0 ≤ 1000000) : (kind_0 ≠ 3) ∨ (number_0 ≤ 9999) := by
  first
    | omega
  
def o_Sy_compileSum_at_k3_6 : or_T := (65, 15, [(0, (2, 0, 0, [11]))], [(24, [0, 3], []), (20, [3], [50, 2, 0, 6, 8, 3, 7, 7, 3, 2, 0, 6, 0, 3, 0, 3, 2, 0, 8, 0, 9999])], [], [], [(20, [0], [50, 2, 0, 6, 8, 3, 7, 7, 3, 2, 0, 6, 0, 3, 0, 3, 2, 0, 8, 0, 9999])], [], [])
theorem oo_Sy_compileSum_at_k3_6 {kA : Nat → ClassId} : or_ok PRD kA GG o_Sy_compileSum_at_k3_6 := by
  refine or_mk fun A ta ws vs hD hth hl => ?_
  intro t0 r0 f0 f1
  replace f0 := shm_5 f0
  replace f1 := shm_1747 f1
  have q3 : n_v vs 3 = n_v vs 0 := f0.symm
  simp only [q3] at f1
  have kz_0_6 := fdq_304 hD hth r0
  have kz_0_8 := fdq_305 hD hth r0
  have nf0 : fc_1 PRD (20, [0], [50, 2, 0, 6, 8, 3, 7, 7, 3, 2, 0, 6, 0, 3, 0, 3, 2, 0, 8, 0, 9999]) ws (vs) := ⟨nf_in hl rfl, sgq_1747 (vc_Sy_compileSum_at_k3_6_0 (w_fi ws (n_v vs 0) 6) (w_fi ws (n_v vs 0) 8) f1 kz_0_6 kz_0_8)⟩
  refine ⟨(fun _ h => (by cases h)), [], trivial, ?_, (fun _ h => (by cases h))⟩
  rw [List.append_nil]
  exact List.forall_mem_cons.mpr ⟨⟨show (20 : Nat) < 100 from by decide, nf0⟩, (fun _ h => (by cases h))⟩
def n_Sy_compileSum_at_k3_an : List an_T := [(12, [(0, (2, 0, 0, [11])), (1, (0, 3, 3, [])), (2, (0, 0, 2000, []))], [], (0, 0), [(0, 0, 99988), (1, 5, 2000), (0, 0, 100000)], [], [((0, 3), (2, 0, 0, [109]))], [(2, 0, 0, [11]), (0, 3, 3, []), (2, 0, 0, [109])], 0, [], [(20, [3], [50, 2, 0, 6, 8, 3, 7, 7, 3, 2, 0, 6, 0, 3, 0, 3, 2, 0, 8, 0, 9999]), (24, [0, 3], [])])]
def t_Sy_compileSum_at_k3_ct : ct_L := [(1, 69, e_Sy_advance), (1, 128, e_Sy_emit), (10, 155, e_Sy_compileProduct_at_k3), (178, 155, e_Sy_compileProduct_at_k3)]
set_option maxRecDepth 100000 in
theorem c_Sy_compileSum_at_k3 {l : Launch} {D : va_G} {kA : Nat → ClassId} (h_Sy_advance : ct_ok PRD l D kA GG y_Sy_advance z_Sy_advance e_Sy_advance) (h_Sy_compileProduct_at_k3 : ct_ok PRD l D kA GG y_Sy_compileProduct_at_k3 z_Sy_compileProduct_at_k3 e_Sy_compileProduct_at_k3) (h_Sy_emit : ct_ok PRD l D kA GG y_Sy_emit z_Sy_emit e_Sy_emit) : ct_ok PRD l D kA GG y_Sy_compileSum_at_k3 z_Sy_compileSum_at_k3 e_Sy_compileSum_at_k3 := chk_all_ok (FT := [(31, 11, 6)]) (PT := []) (CT := t_Sy_compileSum_at_k3_ct) (KT := []) (NT := []) (AN := n_Sy_compileSum_at_k3_an) (OT := [o_Sy_compileSum_at_k3_0, o_Sy_compileSum_at_k3_1, o_Sy_compileSum_at_k3_2, o_Sy_compileSum_at_k3_3, o_Sy_compileSum_at_k3_4, o_Sy_compileSum_at_k3_5, o_Sy_compileSum_at_k3_6]) 3 256 (List.forall_mem_cons.mpr ⟨oo_Sy_compileSum_at_k3_0, List.forall_mem_cons.mpr ⟨oo_Sy_compileSum_at_k3_1, List.forall_mem_cons.mpr ⟨oo_Sy_compileSum_at_k3_2, List.forall_mem_cons.mpr ⟨oo_Sy_compileSum_at_k3_3, List.forall_mem_cons.mpr ⟨oo_Sy_compileSum_at_k3_4, List.forall_mem_cons.mpr ⟨oo_Sy_compileSum_at_k3_5, List.forall_mem_cons.mpr ⟨oo_Sy_compileSum_at_k3_6, List.forall_mem_nil _⟩⟩⟩⟩⟩⟩⟩) (by decide +kernel) ⟨List.forall_mem_cons.mpr ⟨gf_Sy_31, List.forall_mem_nil _⟩, List.forall_mem_nil _, List.forall_mem_cons.mpr ⟨cl_virtual (y := y_Sy_advance) (ci := 11) rfl rfl ⟨_, _, rfl⟩ (by decide +kernel) h_Sy_advance wm_2158 wm_23 wm_2155 wm_2157 wv_10_10 ⟨by decide, by decide, by decide +kernel⟩ (by decide), List.forall_mem_cons.mpr ⟨cl_virtual (y := y_Sy_emit) (ci := 11) rfl rfl ⟨_, _, rfl⟩ (by decide +kernel) h_Sy_emit wm_2258 wm_23 wm_2255 wm_2257 wv_11_2 ⟨by decide, by decide, by decide +kernel⟩ (by decide), List.forall_mem_cons.mpr ⟨cl_virtual (y := y_Sy_compileProduct_at_k3) (ci := 11) rfl rfl ⟨_, _, rfl⟩ (by decide +kernel) h_Sy_compileProduct_at_k3 wm_2270 wm_23 wm_2267 wm_2269 wv_11_5 ⟨by decide, by decide, by decide +kernel⟩ (by decide), List.forall_mem_cons.mpr ⟨cl_virtual (y := y_Sy_compileProduct_at_k3) (ci := 11) rfl rfl ⟨_, _, rfl⟩ (by decide +kernel) h_Sy_compileProduct_at_k3 wm_2270 wm_23 wm_2267 wm_2269 wv_11_5 ⟨by decide, by decide, by decide +kernel⟩ (by decide), List.forall_mem_nil _⟩⟩⟩⟩, List.forall_mem_nil _, List.forall_mem_nil _, GG_pl⟩ (by decide +kernel)
def o_Sy_compileSum_at_k4_0 : or_T := (12, 5, [], [], [], [], [(24, [0, 0], [])], [], [])
theorem oo_Sy_compileSum_at_k4_0 {kA : Nat → ClassId} : or_ok PRD kA GG o_Sy_compileSum_at_k4_0 := by
  refine or_mk fun A ta ws vs hD hth hl => ?_
  have nf0 : fc_1 PRD (24, [0, 0], []) ws (vs) := by
    refine ⟨nf_in hl rfl, sgq_1 ?_⟩
    · show n_v vs 0 = n_v vs 0
      first | rfl | simp only [true_and]
  refine ⟨(fun _ h => (by cases h)), [], trivial, ?_, (fun _ h => (by cases h))⟩
  rw [List.append_nil]
  exact List.forall_mem_cons.mpr ⟨⟨show (24 : Nat) < 100 from by decide, nf0⟩, (fun _ h => (by cases h))⟩
set_option maxHeartbeats 4000000 in
theorem vc_Sy_compileSum_at_k4_1_0 (kind_0 : Int) (number_0 : Int) (f0 : (kind_0 ≠ 3) ∨ (number_0 ≤ 9999)) (kz_0_6 : 0 ≤ kind_0 ∧ kind_0 ≤ 127) (kz_0_8 : 0 ≤ number_0 ∧ number_0 ≤ 1000000) : (kind_0 ≠ 3) ∨ (number_0 ≤ 9999) := by
  first
    | omega
  
def o_Sy_compileSum_at_k4_1 : or_T := (79, 9, [(0, (2, 0, 0, [11]))], [(20, [3], [50, 2, 0, 6, 8, 3, 7, 7, 3, 2, 0, 6, 0, 3, 0, 3, 2, 0, 8, 0, 9999]), (24, [0, 3], [])], [], [], [(20, [0], [50, 2, 0, 6, 8, 3, 7, 7, 3, 2, 0, 6, 0, 3, 0, 3, 2, 0, 8, 0, 9999])], [], [])
theorem oo_Sy_compileSum_at_k4_1 {kA : Nat → ClassId} : or_ok PRD kA GG o_Sy_compileSum_at_k4_1 := by
  refine or_mk fun A ta ws vs hD hth hl => ?_
  intro t0 r0 f0 f1
  replace f0 := shm_1747 f0
  replace f1 := shm_5 f1
  have q3 : n_v vs 3 = n_v vs 0 := f1.symm
  simp only [q3] at f0
  have kz_0_6 := fdq_304 hD hth r0
  have kz_0_8 := fdq_305 hD hth r0
  have nf0 : fc_1 PRD (20, [0], [50, 2, 0, 6, 8, 3, 7, 7, 3, 2, 0, 6, 0, 3, 0, 3, 2, 0, 8, 0, 9999]) ws (vs) := ⟨nf_in hl rfl, sgq_1747 (vc_Sy_compileSum_at_k4_1_0 (w_fi ws (n_v vs 0) 6) (w_fi ws (n_v vs 0) 8) f0 kz_0_6 kz_0_8)⟩
  refine ⟨(fun _ h => (by cases h)), [], trivial, ?_, (fun _ h => (by cases h))⟩
  rw [List.append_nil]
  exact List.forall_mem_cons.mpr ⟨⟨show (20 : Nat) < 100 from by decide, nf0⟩, (fun _ h => (by cases h))⟩
set_option maxHeartbeats 4000000 in
theorem vc_Sy_compileSum_at_k4_2_0 (x11 : Int) (x13 : Int) (k11 : 2 ≤ x11 ∧ x11 ≤ 2) (k13 : 0 ≤ x13 ∧ x13 ≤ 0) : (0 ≤ x11) ∧ ((0 ≤ x13) ∧ (((x11 * 65536) + x13) ≤ 851970)) := by
  first
    | omega
  
def o_Sy_compileSum_at_k4_2 : or_T := (69, 14, [(11, (0, 2, 2, [])), (13, (0, 0, 0, []))], [], [], [], [(20, [11, 13], [50, 0, 0, 2, 6, 0, 2, 0, 0, 1, 0, 2, 6, 0, 2, 0, 0, 1, 1, 0, 10, 4, 6, 6, 2, 1, 0, 0, 65536, 1, 1, 0, 851970])], [], [])
theorem oo_Sy_compileSum_at_k4_2 {kA : Nat → ClassId} : or_ok PRD kA GG o_Sy_compileSum_at_k4_2 := by
  refine or_mk fun A ta ws vs hD hth hl => ?_
  intro t11 k11 t13 k13
  have nf0 : fc_1 PRD (20, [11, 13], [50, 0, 0, 2, 6, 0, 2, 0, 0, 1, 0, 2, 6, 0, 2, 0, 0, 1, 1, 0, 10, 4, 6, 6, 2, 1, 0, 0, 65536, 1, 1, 0, 851970]) ws (vs) := ⟨nf_in hl rfl, sgq_487 (vc_Sy_compileSum_at_k4_2_0 (v_iv (n_v vs 11)) (v_iv (n_v vs 13)) k11 k13)⟩
  refine ⟨(fun _ h => (by cases h)), [], trivial, ?_, (fun _ h => (by cases h))⟩
  rw [List.append_nil]
  exact List.forall_mem_cons.mpr ⟨⟨show (20 : Nat) < 100 from by decide, nf0⟩, (fun _ h => (by cases h))⟩
set_option maxHeartbeats 4000000 in
theorem vc_Sy_compileSum_at_k4_3_0 (kind_0 : Int) (number_0 : Int) (f1 : (kind_0 ≠ 3) ∨ (number_0 ≤ 9999)) (kz_0_6 : 0 ≤ kind_0 ∧ kind_0 ≤ 127) (kz_0_8 : 0 ≤ number_0 ∧ number_0 ≤ 1000000) : (kind_0 ≠ 3) ∨ (number_0 ≤ 9999) := by
  first
    | omega
  
def o_Sy_compileSum_at_k4_3 : or_T := (65, 14, [(0, (2, 0, 0, [11]))], [(24, [0, 3], []), (20, [3], [50, 2, 0, 6, 8, 3, 7, 7, 3, 2, 0, 6, 0, 3, 0, 3, 2, 0, 8, 0, 9999])], [], [], [(20, [0], [50, 2, 0, 6, 8, 3, 7, 7, 3, 2, 0, 6, 0, 3, 0, 3, 2, 0, 8, 0, 9999])], [], [])
theorem oo_Sy_compileSum_at_k4_3 {kA : Nat → ClassId} : or_ok PRD kA GG o_Sy_compileSum_at_k4_3 := by
  refine or_mk fun A ta ws vs hD hth hl => ?_
  intro t0 r0 f0 f1
  replace f0 := shm_5 f0
  replace f1 := shm_1747 f1
  have q3 : n_v vs 3 = n_v vs 0 := f0.symm
  simp only [q3] at f1
  have kz_0_6 := fdq_304 hD hth r0
  have kz_0_8 := fdq_305 hD hth r0
  have nf0 : fc_1 PRD (20, [0], [50, 2, 0, 6, 8, 3, 7, 7, 3, 2, 0, 6, 0, 3, 0, 3, 2, 0, 8, 0, 9999]) ws (vs) := ⟨nf_in hl rfl, sgq_1747 (vc_Sy_compileSum_at_k4_3_0 (w_fi ws (n_v vs 0) 6) (w_fi ws (n_v vs 0) 8) f1 kz_0_6 kz_0_8)⟩
  refine ⟨(fun _ h => (by cases h)), [], trivial, ?_, (fun _ h => (by cases h))⟩
  rw [List.append_nil]
  exact List.forall_mem_cons.mpr ⟨⟨show (20 : Nat) < 100 from by decide, nf0⟩, (fun _ h => (by cases h))⟩
set_option maxHeartbeats 4000000 in
theorem vc_Sy_compileSum_at_k4_4_0 (kind_0 : Int) (number_0 : Int) (f3 : (kind_0 ≠ 3) ∨ (number_0 ≤ 9999)) (kz_0_6 : 0 ≤ kind_0 ∧ kind_0 ≤ 127) (kz_0_8 : 0 ≤ number_0 ∧ number_0 ≤ 1000000) : (kind_0 ≠ 3) ∨ (number_0 ≤ 9999) := by
  first
    | omega
  
def o_Sy_compileSum_at_k4_4 : or_T := (79, 12, [(0, (2, 0, 0, [11]))], [(20, [3], [50, 2, 0, 6, 8, 3, 7, 7, 3, 2, 0, 6, 0, 3, 0, 3, 2, 0, 8, 0, 9999]), (24, [0, 3], [])], [], [], [(20, [0], [50, 2, 0, 6, 8, 3, 7, 7, 3, 2, 0, 6, 0, 3, 0, 3, 2, 0, 8, 0, 9999])], [], [])
theorem oo_Sy_compileSum_at_k4_4 {kA : Nat → ClassId} : or_ok PRD kA GG o_Sy_compileSum_at_k4_4 := by
  refine or_mk fun A ta ws vs hD hth hl => ?_
  intro t0 r0 f3 f4
  replace f3 := shm_1747 f3
  replace f4 := shm_5 f4
  have q3 : n_v vs 3 = n_v vs 0 := f4.symm
  simp only [q3] at f3
  have kz_0_6 := fdq_304 hD hth r0
  have kz_0_8 := fdq_305 hD hth r0
  have nf0 : fc_1 PRD (20, [0], [50, 2, 0, 6, 8, 3, 7, 7, 3, 2, 0, 6, 0, 3, 0, 3, 2, 0, 8, 0, 9999]) ws (vs) := ⟨nf_in hl rfl, sgq_1747 (vc_Sy_compileSum_at_k4_4_0 (w_fi ws (n_v vs 0) 6) (w_fi ws (n_v vs 0) 8) f3 kz_0_6 kz_0_8)⟩
  refine ⟨(fun _ h => (by cases h)), [], trivial, ?_, (fun _ h => (by cases h))⟩
  rw [List.append_nil]
  exact List.forall_mem_cons.mpr ⟨⟨show (20 : Nat) < 100 from by decide, nf0⟩, (fun _ h => (by cases h))⟩
set_option maxHeartbeats 4000000 in
theorem vc_Sy_compileSum_at_k4_5_0 (x12 : Int) (x14 : Int) (k12 : 3 ≤ x12 ∧ x12 ≤ 3) (k14 : 0 ≤ x14 ∧ x14 ≤ 0) : (0 ≤ x12) ∧ ((0 ≤ x14) ∧ (((x12 * 65536) + x14) ≤ 851970)) := by
  first
    | omega
  
def o_Sy_compileSum_at_k4_5 : or_T := (69, 15, [(12, (0, 3, 3, [])), (14, (0, 0, 0, []))], [], [], [], [(20, [12, 14], [50, 0, 0, 2, 6, 0, 2, 0, 0, 1, 0, 2, 6, 0, 2, 0, 0, 1, 1, 0, 10, 4, 6, 6, 2, 1, 0, 0, 65536, 1, 1, 0, 851970])], [], [])
theorem oo_Sy_compileSum_at_k4_5 {kA : Nat → ClassId} : or_ok PRD kA GG o_Sy_compileSum_at_k4_5 := by
  refine or_mk fun A ta ws vs hD hth hl => ?_
  intro t12 k12 t14 k14
  have nf0 : fc_1 PRD (20, [12, 14], [50, 0, 0, 2, 6, 0, 2, 0, 0, 1, 0, 2, 6, 0, 2, 0, 0, 1, 1, 0, 10, 4, 6, 6, 2, 1, 0, 0, 65536, 1, 1, 0, 851970]) ws (vs) := ⟨nf_in hl rfl, sgq_487 (vc_Sy_compileSum_at_k4_5_0 (v_iv (n_v vs 12)) (v_iv (n_v vs 14)) k12 k14)⟩
  refine ⟨(fun _ h => (by cases h)), [], trivial, ?_, (fun _ h => (by cases h))⟩
  rw [List.append_nil]
  exact List.forall_mem_cons.mpr ⟨⟨show (20 : Nat) < 100 from by decide, nf0⟩, (fun _ h => (by cases h))⟩
set_option maxHeartbeats 4000000 in
theorem vc_Sy_compileSum_at_k4_6_0 (kind_0 : Int) (number_0 : Int) (f1 : (kind_0 ≠ 3) ∨ (number_0 ≤ 9999)) (kz_0_6 : 0 ≤ kind_0 ∧ kind_0 ≤ 127) (kz_0_8 : 0 ≤ number_0 ∧ number_0 ≤ 1000000) : (kind_0 ≠ 3) ∨ (number_0 ≤ 9999) := by
  first
    | omega
  
def o_Sy_compileSum_at_k4_6 : or_T := (65, 15, [(0, (2, 0, 0, [11]))], [(24, [0, 3], []), (20, [3], [50, 2, 0, 6, 8, 3, 7, 7, 3, 2, 0, 6, 0, 3, 0, 3, 2, 0, 8, 0, 9999])], [], [], [(20, [0], [50, 2, 0, 6, 8, 3, 7, 7, 3, 2, 0, 6, 0, 3, 0, 3, 2, 0, 8, 0, 9999])], [], [])
theorem oo_Sy_compileSum_at_k4_6 {kA : Nat → ClassId} : or_ok PRD kA GG o_Sy_compileSum_at_k4_6 := by
  refine or_mk fun A ta ws vs hD hth hl => ?_
  intro t0 r0 f0 f1
  replace f0 := shm_5 f0
  replace f1 := shm_1747 f1
  have q3 : n_v vs 3 = n_v vs 0 := f0.symm
  simp only [q3] at f1
  have kz_0_6 := fdq_304 hD hth r0
  have kz_0_8 := fdq_305 hD hth r0
  have nf0 : fc_1 PRD (20, [0], [50, 2, 0, 6, 8, 3, 7, 7, 3, 2, 0, 6, 0, 3, 0, 3, 2, 0, 8, 0, 9999]) ws (vs) := ⟨nf_in hl rfl, sgq_1747 (vc_Sy_compileSum_at_k4_6_0 (w_fi ws (n_v vs 0) 6) (w_fi ws (n_v vs 0) 8) f1 kz_0_6 kz_0_8)⟩
  refine ⟨(fun _ h => (by cases h)), [], trivial, ?_, (fun _ h => (by cases h))⟩
  rw [List.append_nil]
  exact List.forall_mem_cons.mpr ⟨⟨show (20 : Nat) < 100 from by decide, nf0⟩, (fun _ h => (by cases h))⟩
def n_Sy_compileSum_at_k4_an : List an_T := [(12, [(0, (2, 0, 0, [11])), (1, (0, 4, 4, [])), (2, (0, 0, 2000, []))], [], (0, 0), [(0, 0, 99988), (1, 5, 2000), (0, 0, 100000)], [], [((0, 3), (2, 0, 0, [109]))], [(2, 0, 0, [11]), (0, 4, 4, []), (2, 0, 0, [109])], 0, [], [(20, [3], [50, 2, 0, 6, 8, 3, 7, 7, 3, 2, 0, 6, 0, 3, 0, 3, 2, 0, 8, 0, 9999]), (24, [0, 3], [])])]
def t_Sy_compileSum_at_k4_ct : ct_L := [(1, 69, e_Sy_advance), (1, 128, e_Sy_emit), (10, 155, e_Sy_compileProduct_at_k4), (178, 155, e_Sy_compileProduct_at_k4)]
set_option maxRecDepth 100000 in
theorem c_Sy_compileSum_at_k4 {l : Launch} {D : va_G} {kA : Nat → ClassId} (h_Sy_advance : ct_ok PRD l D kA GG y_Sy_advance z_Sy_advance e_Sy_advance) (h_Sy_compileProduct_at_k4 : ct_ok PRD l D kA GG y_Sy_compileProduct_at_k4 z_Sy_compileProduct_at_k4 e_Sy_compileProduct_at_k4) (h_Sy_emit : ct_ok PRD l D kA GG y_Sy_emit z_Sy_emit e_Sy_emit) : ct_ok PRD l D kA GG y_Sy_compileSum_at_k4 z_Sy_compileSum_at_k4 e_Sy_compileSum_at_k4 := chk_all_ok (FT := [(31, 11, 6)]) (PT := []) (CT := t_Sy_compileSum_at_k4_ct) (KT := []) (NT := []) (AN := n_Sy_compileSum_at_k4_an) (OT := [o_Sy_compileSum_at_k4_0, o_Sy_compileSum_at_k4_1, o_Sy_compileSum_at_k4_2, o_Sy_compileSum_at_k4_3, o_Sy_compileSum_at_k4_4, o_Sy_compileSum_at_k4_5, o_Sy_compileSum_at_k4_6]) 3 256 (List.forall_mem_cons.mpr ⟨oo_Sy_compileSum_at_k4_0, List.forall_mem_cons.mpr ⟨oo_Sy_compileSum_at_k4_1, List.forall_mem_cons.mpr ⟨oo_Sy_compileSum_at_k4_2, List.forall_mem_cons.mpr ⟨oo_Sy_compileSum_at_k4_3, List.forall_mem_cons.mpr ⟨oo_Sy_compileSum_at_k4_4, List.forall_mem_cons.mpr ⟨oo_Sy_compileSum_at_k4_5, List.forall_mem_cons.mpr ⟨oo_Sy_compileSum_at_k4_6, List.forall_mem_nil _⟩⟩⟩⟩⟩⟩⟩) (by decide +kernel) ⟨List.forall_mem_cons.mpr ⟨gf_Sy_31, List.forall_mem_nil _⟩, List.forall_mem_nil _, List.forall_mem_cons.mpr ⟨cl_virtual (y := y_Sy_advance) (ci := 11) rfl rfl ⟨_, _, rfl⟩ (by decide +kernel) h_Sy_advance wm_2158 wm_23 wm_2155 wm_2157 wv_10_10 ⟨by decide, by decide, by decide +kernel⟩ (by decide), List.forall_mem_cons.mpr ⟨cl_virtual (y := y_Sy_emit) (ci := 11) rfl rfl ⟨_, _, rfl⟩ (by decide +kernel) h_Sy_emit wm_2258 wm_23 wm_2255 wm_2257 wv_11_2 ⟨by decide, by decide, by decide +kernel⟩ (by decide), List.forall_mem_cons.mpr ⟨cl_virtual (y := y_Sy_compileProduct_at_k4) (ci := 11) rfl rfl ⟨_, _, rfl⟩ (by decide +kernel) h_Sy_compileProduct_at_k4 wm_2270 wm_23 wm_2267 wm_2269 wv_11_5 ⟨by decide, by decide, by decide +kernel⟩ (by decide), List.forall_mem_cons.mpr ⟨cl_virtual (y := y_Sy_compileProduct_at_k4) (ci := 11) rfl rfl ⟨_, _, rfl⟩ (by decide +kernel) h_Sy_compileProduct_at_k4 wm_2270 wm_23 wm_2267 wm_2269 wv_11_5 ⟨by decide, by decide, by decide +kernel⟩ (by decide), List.forall_mem_nil _⟩⟩⟩⟩, List.forall_mem_nil _, List.forall_mem_nil _, GG_pl⟩ (by decide +kernel)
def o_Sy_compileSum_at_k5_0 : or_T := (12, 5, [], [], [], [], [(24, [0, 0], [])], [], [])
theorem oo_Sy_compileSum_at_k5_0 {kA : Nat → ClassId} : or_ok PRD kA GG o_Sy_compileSum_at_k5_0 := by
  refine or_mk fun A ta ws vs hD hth hl => ?_
  have nf0 : fc_1 PRD (24, [0, 0], []) ws (vs) := by
    refine ⟨nf_in hl rfl, sgq_1 ?_⟩
    · show n_v vs 0 = n_v vs 0
      first | rfl | simp only [true_and]
  refine ⟨(fun _ h => (by cases h)), [], trivial, ?_, (fun _ h => (by cases h))⟩
  rw [List.append_nil]
  exact List.forall_mem_cons.mpr ⟨⟨show (24 : Nat) < 100 from by decide, nf0⟩, (fun _ h => (by cases h))⟩
set_option maxHeartbeats 4000000 in
theorem vc_Sy_compileSum_at_k5_1_0 (kind_0 : Int) (number_0 : Int) (f0 : (kind_0 ≠ 3) ∨ (number_0 ≤ 9999)) (kz_0_6 : 0 ≤ kind_0 ∧ kind_0 ≤ 127) (kz_0_8 : 0 ≤ number_0 ∧ number_0 ≤ 1000000) : (kind_0 ≠ 3) ∨ (number_0 ≤ 9999) := by
  first
    | omega
  
def o_Sy_compileSum_at_k5_1 : or_T := (79, 9, [(0, (2, 0, 0, [11]))], [(20, [3], [50, 2, 0, 6, 8, 3, 7, 7, 3, 2, 0, 6, 0, 3, 0, 3, 2, 0, 8, 0, 9999]), (24, [0, 3], [])], [], [], [(20, [0], [50, 2, 0, 6, 8, 3, 7, 7, 3, 2, 0, 6, 0, 3, 0, 3, 2, 0, 8, 0, 9999])], [], [])
theorem oo_Sy_compileSum_at_k5_1 {kA : Nat → ClassId} : or_ok PRD kA GG o_Sy_compileSum_at_k5_1 := by
  refine or_mk fun A ta ws vs hD hth hl => ?_
  intro t0 r0 f0 f1
  replace f0 := shm_1747 f0
  replace f1 := shm_5 f1
  have q3 : n_v vs 3 = n_v vs 0 := f1.symm
  simp only [q3] at f0
  have kz_0_6 := fdq_304 hD hth r0
  have kz_0_8 := fdq_305 hD hth r0
  have nf0 : fc_1 PRD (20, [0], [50, 2, 0, 6, 8, 3, 7, 7, 3, 2, 0, 6, 0, 3, 0, 3, 2, 0, 8, 0, 9999]) ws (vs) := ⟨nf_in hl rfl, sgq_1747 (vc_Sy_compileSum_at_k5_1_0 (w_fi ws (n_v vs 0) 6) (w_fi ws (n_v vs 0) 8) f0 kz_0_6 kz_0_8)⟩
  refine ⟨(fun _ h => (by cases h)), [], trivial, ?_, (fun _ h => (by cases h))⟩
  rw [List.append_nil]
  exact List.forall_mem_cons.mpr ⟨⟨show (20 : Nat) < 100 from by decide, nf0⟩, (fun _ h => (by cases h))⟩
set_option maxHeartbeats 4000000 in
theorem vc_Sy_compileSum_at_k5_2_0 (x11 : Int) (x13 : Int) (k11 : 2 ≤ x11 ∧ x11 ≤ 2) (k13 : 0 ≤ x13 ∧ x13 ≤ 0) : (0 ≤ x11) ∧ ((0 ≤ x13) ∧ (((x11 * 65536) + x13) ≤ 851970)) := by
  first
    | omega
  
def o_Sy_compileSum_at_k5_2 : or_T := (69, 14, [(11, (0, 2, 2, [])), (13, (0, 0, 0, []))], [], [], [], [(20, [11, 13], [50, 0, 0, 2, 6, 0, 2, 0, 0, 1, 0, 2, 6, 0, 2, 0, 0, 1, 1, 0, 10, 4, 6, 6, 2, 1, 0, 0, 65536, 1, 1, 0, 851970])], [], [])
theorem oo_Sy_compileSum_at_k5_2 {kA : Nat → ClassId} : or_ok PRD kA GG o_Sy_compileSum_at_k5_2 := by
  refine or_mk fun A ta ws vs hD hth hl => ?_
  intro t11 k11 t13 k13
  have nf0 : fc_1 PRD (20, [11, 13], [50, 0, 0, 2, 6, 0, 2, 0, 0, 1, 0, 2, 6, 0, 2, 0, 0, 1, 1, 0, 10, 4, 6, 6, 2, 1, 0, 0, 65536, 1, 1, 0, 851970]) ws (vs) := ⟨nf_in hl rfl, sgq_487 (vc_Sy_compileSum_at_k5_2_0 (v_iv (n_v vs 11)) (v_iv (n_v vs 13)) k11 k13)⟩
  refine ⟨(fun _ h => (by cases h)), [], trivial, ?_, (fun _ h => (by cases h))⟩
  rw [List.append_nil]
  exact List.forall_mem_cons.mpr ⟨⟨show (20 : Nat) < 100 from by decide, nf0⟩, (fun _ h => (by cases h))⟩
set_option maxHeartbeats 4000000 in
theorem vc_Sy_compileSum_at_k5_3_0 (kind_0 : Int) (number_0 : Int) (f1 : (kind_0 ≠ 3) ∨ (number_0 ≤ 9999)) (kz_0_6 : 0 ≤ kind_0 ∧ kind_0 ≤ 127) (kz_0_8 : 0 ≤ number_0 ∧ number_0 ≤ 1000000) : (kind_0 ≠ 3) ∨ (number_0 ≤ 9999) := by
  first
    | omega
  
def o_Sy_compileSum_at_k5_3 : or_T := (65, 14, [(0, (2, 0, 0, [11]))], [(24, [0, 3], []), (20, [3], [50, 2, 0, 6, 8, 3, 7, 7, 3, 2, 0, 6, 0, 3, 0, 3, 2, 0, 8, 0, 9999])], [], [], [(20, [0], [50, 2, 0, 6, 8, 3, 7, 7, 3, 2, 0, 6, 0, 3, 0, 3, 2, 0, 8, 0, 9999])], [], [])
theorem oo_Sy_compileSum_at_k5_3 {kA : Nat → ClassId} : or_ok PRD kA GG o_Sy_compileSum_at_k5_3 := by
  refine or_mk fun A ta ws vs hD hth hl => ?_
  intro t0 r0 f0 f1
  replace f0 := shm_5 f0
  replace f1 := shm_1747 f1
  have q3 : n_v vs 3 = n_v vs 0 := f0.symm
  simp only [q3] at f1
  have kz_0_6 := fdq_304 hD hth r0
  have kz_0_8 := fdq_305 hD hth r0
  have nf0 : fc_1 PRD (20, [0], [50, 2, 0, 6, 8, 3, 7, 7, 3, 2, 0, 6, 0, 3, 0, 3, 2, 0, 8, 0, 9999]) ws (vs) := ⟨nf_in hl rfl, sgq_1747 (vc_Sy_compileSum_at_k5_3_0 (w_fi ws (n_v vs 0) 6) (w_fi ws (n_v vs 0) 8) f1 kz_0_6 kz_0_8)⟩
  refine ⟨(fun _ h => (by cases h)), [], trivial, ?_, (fun _ h => (by cases h))⟩
  rw [List.append_nil]
  exact List.forall_mem_cons.mpr ⟨⟨show (20 : Nat) < 100 from by decide, nf0⟩, (fun _ h => (by cases h))⟩
set_option maxHeartbeats 4000000 in
theorem vc_Sy_compileSum_at_k5_4_0 (kind_0 : Int) (number_0 : Int) (f3 : (kind_0 ≠ 3) ∨ (number_0 ≤ 9999)) (kz_0_6 : 0 ≤ kind_0 ∧ kind_0 ≤ 127) (kz_0_8 : 0 ≤ number_0 ∧ number_0 ≤ 1000000) : (kind_0 ≠ 3) ∨ (number_0 ≤ 9999) := by
  first
    | omega
  
def o_Sy_compileSum_at_k5_4 : or_T := (79, 12, [(0, (2, 0, 0, [11]))], [(20, [3], [50, 2, 0, 6, 8, 3, 7, 7, 3, 2, 0, 6, 0, 3, 0, 3, 2, 0, 8, 0, 9999]), (24, [0, 3], [])], [], [], [(20, [0], [50, 2, 0, 6, 8, 3, 7, 7, 3, 2, 0, 6, 0, 3, 0, 3, 2, 0, 8, 0, 9999])], [], [])
theorem oo_Sy_compileSum_at_k5_4 {kA : Nat → ClassId} : or_ok PRD kA GG o_Sy_compileSum_at_k5_4 := by
  refine or_mk fun A ta ws vs hD hth hl => ?_
  intro t0 r0 f3 f4
  replace f3 := shm_1747 f3
  replace f4 := shm_5 f4
  have q3 : n_v vs 3 = n_v vs 0 := f4.symm
  simp only [q3] at f3
  have kz_0_6 := fdq_304 hD hth r0
  have kz_0_8 := fdq_305 hD hth r0
  have nf0 : fc_1 PRD (20, [0], [50, 2, 0, 6, 8, 3, 7, 7, 3, 2, 0, 6, 0, 3, 0, 3, 2, 0, 8, 0, 9999]) ws (vs) := ⟨nf_in hl rfl, sgq_1747 (vc_Sy_compileSum_at_k5_4_0 (w_fi ws (n_v vs 0) 6) (w_fi ws (n_v vs 0) 8) f3 kz_0_6 kz_0_8)⟩
  refine ⟨(fun _ h => (by cases h)), [], trivial, ?_, (fun _ h => (by cases h))⟩
  rw [List.append_nil]
  exact List.forall_mem_cons.mpr ⟨⟨show (20 : Nat) < 100 from by decide, nf0⟩, (fun _ h => (by cases h))⟩
set_option maxHeartbeats 4000000 in
theorem vc_Sy_compileSum_at_k5_5_0 (x12 : Int) (x14 : Int) (k12 : 3 ≤ x12 ∧ x12 ≤ 3) (k14 : 0 ≤ x14 ∧ x14 ≤ 0) : (0 ≤ x12) ∧ ((0 ≤ x14) ∧ (((x12 * 65536) + x14) ≤ 851970)) := by
  first
    | omega
  
def o_Sy_compileSum_at_k5_5 : or_T := (69, 15, [(12, (0, 3, 3, [])), (14, (0, 0, 0, []))], [], [], [], [(20, [12, 14], [50, 0, 0, 2, 6, 0, 2, 0, 0, 1, 0, 2, 6, 0, 2, 0, 0, 1, 1, 0, 10, 4, 6, 6, 2, 1, 0, 0, 65536, 1, 1, 0, 851970])], [], [])
theorem oo_Sy_compileSum_at_k5_5 {kA : Nat → ClassId} : or_ok PRD kA GG o_Sy_compileSum_at_k5_5 := by
  refine or_mk fun A ta ws vs hD hth hl => ?_
  intro t12 k12 t14 k14
  have nf0 : fc_1 PRD (20, [12, 14], [50, 0, 0, 2, 6, 0, 2, 0, 0, 1, 0, 2, 6, 0, 2, 0, 0, 1, 1, 0, 10, 4, 6, 6, 2, 1, 0, 0, 65536, 1, 1, 0, 851970]) ws (vs) := ⟨nf_in hl rfl, sgq_487 (vc_Sy_compileSum_at_k5_5_0 (v_iv (n_v vs 12)) (v_iv (n_v vs 14)) k12 k14)⟩
  refine ⟨(fun _ h => (by cases h)), [], trivial, ?_, (fun _ h => (by cases h))⟩
  rw [List.append_nil]
  exact List.forall_mem_cons.mpr ⟨⟨show (20 : Nat) < 100 from by decide, nf0⟩, (fun _ h => (by cases h))⟩
set_option maxHeartbeats 4000000 in
theorem vc_Sy_compileSum_at_k5_6_0 (kind_0 : Int) (number_0 : Int) (f1 : (kind_0 ≠ 3) ∨ (number_0 ≤ 9999)) (kz_0_6 : 0 ≤ kind_0 ∧ kind_0 ≤ 127) (kz_0_8 : 0 ≤ number_0 ∧ number_0 ≤ 1000000) : (kind_0 ≠ 3) ∨ (number_0 ≤ 9999) := by
  first
    | omega
  
def o_Sy_compileSum_at_k5_6 : or_T := (65, 15, [(0, (2, 0, 0, [11]))], [(24, [0, 3], []), (20, [3], [50, 2, 0, 6, 8, 3, 7, 7, 3, 2, 0, 6, 0, 3, 0, 3, 2, 0, 8, 0, 9999])], [], [], [(20, [0], [50, 2, 0, 6, 8, 3, 7, 7, 3, 2, 0, 6, 0, 3, 0, 3, 2, 0, 8, 0, 9999])], [], [])
theorem oo_Sy_compileSum_at_k5_6 {kA : Nat → ClassId} : or_ok PRD kA GG o_Sy_compileSum_at_k5_6 := by
  refine or_mk fun A ta ws vs hD hth hl => ?_
  intro t0 r0 f0 f1
  replace f0 := shm_5 f0
  replace f1 := shm_1747 f1
  have q3 : n_v vs 3 = n_v vs 0 := f0.symm
  simp only [q3] at f1
  have kz_0_6 := fdq_304 hD hth r0
  have kz_0_8 := fdq_305 hD hth r0
  have nf0 : fc_1 PRD (20, [0], [50, 2, 0, 6, 8, 3, 7, 7, 3, 2, 0, 6, 0, 3, 0, 3, 2, 0, 8, 0, 9999]) ws (vs) := ⟨nf_in hl rfl, sgq_1747 (vc_Sy_compileSum_at_k5_6_0 (w_fi ws (n_v vs 0) 6) (w_fi ws (n_v vs 0) 8) f1 kz_0_6 kz_0_8)⟩
  refine ⟨(fun _ h => (by cases h)), [], trivial, ?_, (fun _ h => (by cases h))⟩
  rw [List.append_nil]
  exact List.forall_mem_cons.mpr ⟨⟨show (20 : Nat) < 100 from by decide, nf0⟩, (fun _ h => (by cases h))⟩
def n_Sy_compileSum_at_k5_an : List an_T := [(12, [(0, (2, 0, 0, [11])), (1, (0, 5, 5, [])), (2, (0, 0, 2000, []))], [], (0, 0), [(0, 0, 99988), (1, 5, 2000), (0, 0, 100000)], [], [((0, 3), (2, 0, 0, [109]))], [(2, 0, 0, [11]), (0, 5, 5, []), (2, 0, 0, [109])], 0, [], [(20, [3], [50, 2, 0, 6, 8, 3, 7, 7, 3, 2, 0, 6, 0, 3, 0, 3, 2, 0, 8, 0, 9999]), (24, [0, 3], [])])]
def t_Sy_compileSum_at_k5_ct : ct_L := [(1, 69, e_Sy_advance), (1, 128, e_Sy_emit), (10, 155, e_Sy_compileProduct_at_k5), (178, 155, e_Sy_compileProduct_at_k5)]
set_option maxRecDepth 100000 in
theorem c_Sy_compileSum_at_k5 {l : Launch} {D : va_G} {kA : Nat → ClassId} (h_Sy_advance : ct_ok PRD l D kA GG y_Sy_advance z_Sy_advance e_Sy_advance) (h_Sy_compileProduct_at_k5 : ct_ok PRD l D kA GG y_Sy_compileProduct_at_k5 z_Sy_compileProduct_at_k5 e_Sy_compileProduct_at_k5) (h_Sy_emit : ct_ok PRD l D kA GG y_Sy_emit z_Sy_emit e_Sy_emit) : ct_ok PRD l D kA GG y_Sy_compileSum_at_k5 z_Sy_compileSum_at_k5 e_Sy_compileSum_at_k5 := chk_all_ok (FT := [(31, 11, 6)]) (PT := []) (CT := t_Sy_compileSum_at_k5_ct) (KT := []) (NT := []) (AN := n_Sy_compileSum_at_k5_an) (OT := [o_Sy_compileSum_at_k5_0, o_Sy_compileSum_at_k5_1, o_Sy_compileSum_at_k5_2, o_Sy_compileSum_at_k5_3, o_Sy_compileSum_at_k5_4, o_Sy_compileSum_at_k5_5, o_Sy_compileSum_at_k5_6]) 3 256 (List.forall_mem_cons.mpr ⟨oo_Sy_compileSum_at_k5_0, List.forall_mem_cons.mpr ⟨oo_Sy_compileSum_at_k5_1, List.forall_mem_cons.mpr ⟨oo_Sy_compileSum_at_k5_2, List.forall_mem_cons.mpr ⟨oo_Sy_compileSum_at_k5_3, List.forall_mem_cons.mpr ⟨oo_Sy_compileSum_at_k5_4, List.forall_mem_cons.mpr ⟨oo_Sy_compileSum_at_k5_5, List.forall_mem_cons.mpr ⟨oo_Sy_compileSum_at_k5_6, List.forall_mem_nil _⟩⟩⟩⟩⟩⟩⟩) (by decide +kernel) ⟨List.forall_mem_cons.mpr ⟨gf_Sy_31, List.forall_mem_nil _⟩, List.forall_mem_nil _, List.forall_mem_cons.mpr ⟨cl_virtual (y := y_Sy_advance) (ci := 11) rfl rfl ⟨_, _, rfl⟩ (by decide +kernel) h_Sy_advance wm_2158 wm_23 wm_2155 wm_2157 wv_10_10 ⟨by decide, by decide, by decide +kernel⟩ (by decide), List.forall_mem_cons.mpr ⟨cl_virtual (y := y_Sy_emit) (ci := 11) rfl rfl ⟨_, _, rfl⟩ (by decide +kernel) h_Sy_emit wm_2258 wm_23 wm_2255 wm_2257 wv_11_2 ⟨by decide, by decide, by decide +kernel⟩ (by decide), List.forall_mem_cons.mpr ⟨cl_virtual (y := y_Sy_compileProduct_at_k5) (ci := 11) rfl rfl ⟨_, _, rfl⟩ (by decide +kernel) h_Sy_compileProduct_at_k5 wm_2270 wm_23 wm_2267 wm_2269 wv_11_5 ⟨by decide, by decide, by decide +kernel⟩ (by decide), List.forall_mem_cons.mpr ⟨cl_virtual (y := y_Sy_compileProduct_at_k5) (ci := 11) rfl rfl ⟨_, _, rfl⟩ (by decide +kernel) h_Sy_compileProduct_at_k5 wm_2270 wm_23 wm_2267 wm_2269 wv_11_5 ⟨by decide, by decide, by decide +kernel⟩ (by decide), List.forall_mem_nil _⟩⟩⟩⟩, List.forall_mem_nil _, List.forall_mem_nil _, GG_pl⟩ (by decide +kernel)
def o_Sy_compileSum_at_k6_0 : or_T := (12, 5, [], [], [], [], [(24, [0, 0], [])], [], [])
theorem oo_Sy_compileSum_at_k6_0 {kA : Nat → ClassId} : or_ok PRD kA GG o_Sy_compileSum_at_k6_0 := by
  refine or_mk fun A ta ws vs hD hth hl => ?_
  have nf0 : fc_1 PRD (24, [0, 0], []) ws (vs) := by
    refine ⟨nf_in hl rfl, sgq_1 ?_⟩
    · show n_v vs 0 = n_v vs 0
      first | rfl | simp only [true_and]
  refine ⟨(fun _ h => (by cases h)), [], trivial, ?_, (fun _ h => (by cases h))⟩
  rw [List.append_nil]
  exact List.forall_mem_cons.mpr ⟨⟨show (24 : Nat) < 100 from by decide, nf0⟩, (fun _ h => (by cases h))⟩
set_option maxHeartbeats 4000000 in
theorem vc_Sy_compileSum_at_k6_1_0 (kind_0 : Int) (number_0 : Int) (f0 : (kind_0 ≠ 3) ∨ (number_0 ≤ 9999)) (kz_0_6 : 0 ≤ kind_0 ∧ kind_0 ≤ 127) (kz_0_8 : 0 ≤ number_0 ∧ number_0 ≤ 1000000) : (kind_0 ≠ 3) ∨ (number_0 ≤ 9999) := by
  first
    | omega
  
def o_Sy_compileSum_at_k6_1 : or_T := (79, 9, [(0, (2, 0, 0, [11]))], [(20, [3], [50, 2, 0, 6, 8, 3, 7, 7, 3, 2, 0, 6, 0, 3, 0, 3, 2, 0, 8, 0, 9999]), (24, [0, 3], [])], [], [], [(20, [0], [50, 2, 0, 6, 8, 3, 7, 7, 3, 2, 0, 6, 0, 3, 0, 3, 2, 0, 8, 0, 9999])], [], [])
theorem oo_Sy_compileSum_at_k6_1 {kA : Nat → ClassId} : or_ok PRD kA GG o_Sy_compileSum_at_k6_1 := by
  refine or_mk fun A ta ws vs hD hth hl => ?_
  intro t0 r0 f0 f1
  replace f0 := shm_1747 f0
  replace f1 := shm_5 f1
  have q3 : n_v vs 3 = n_v vs 0 := f1.symm
  simp only [q3] at f0
  have kz_0_6 := fdq_304 hD hth r0
  have kz_0_8 := fdq_305 hD hth r0
  have nf0 : fc_1 PRD (20, [0], [50, 2, 0, 6, 8, 3, 7, 7, 3, 2, 0, 6, 0, 3, 0, 3, 2, 0, 8, 0, 9999]) ws (vs) := ⟨nf_in hl rfl, sgq_1747 (vc_Sy_compileSum_at_k6_1_0 (w_fi ws (n_v vs 0) 6) (w_fi ws (n_v vs 0) 8) f0 kz_0_6 kz_0_8)⟩
  refine ⟨(fun _ h => (by cases h)), [], trivial, ?_, (fun _ h => (by cases h))⟩
  rw [List.append_nil]
  exact List.forall_mem_cons.mpr ⟨⟨show (20 : Nat) < 100 from by decide, nf0⟩, (fun _ h => (by cases h))⟩
set_option maxHeartbeats 4000000 in
theorem vc_Sy_compileSum_at_k6_2_0 (x11 : Int) (x13 : Int) (k11 : 2 ≤ x11 ∧ x11 ≤ 2) (k13 : 0 ≤ x13 ∧ x13 ≤ 0) : (0 ≤ x11) ∧ ((0 ≤ x13) ∧ (((x11 * 65536) + x13) ≤ 851970)) := by
  first
    | omega
  
def o_Sy_compileSum_at_k6_2 : or_T := (69, 14, [(11, (0, 2, 2, [])), (13, (0, 0, 0, []))], [], [], [], [(20, [11, 13], [50, 0, 0, 2, 6, 0, 2, 0, 0, 1, 0, 2, 6, 0, 2, 0, 0, 1, 1, 0, 10, 4, 6, 6, 2, 1, 0, 0, 65536, 1, 1, 0, 851970])], [], [])
theorem oo_Sy_compileSum_at_k6_2 {kA : Nat → ClassId} : or_ok PRD kA GG o_Sy_compileSum_at_k6_2 := by
  refine or_mk fun A ta ws vs hD hth hl => ?_
  intro t11 k11 t13 k13
  have nf0 : fc_1 PRD (20, [11, 13], [50, 0, 0, 2, 6, 0, 2, 0, 0, 1, 0, 2, 6, 0, 2, 0, 0, 1, 1, 0, 10, 4, 6, 6, 2, 1, 0, 0, 65536, 1, 1, 0, 851970]) ws (vs) := ⟨nf_in hl rfl, sgq_487 (vc_Sy_compileSum_at_k6_2_0 (v_iv (n_v vs 11)) (v_iv (n_v vs 13)) k11 k13)⟩
  refine ⟨(fun _ h => (by cases h)), [], trivial, ?_, (fun _ h => (by cases h))⟩
  rw [List.append_nil]
  exact List.forall_mem_cons.mpr ⟨⟨show (20 : Nat) < 100 from by decide, nf0⟩, (fun _ h => (by cases h))⟩
set_option maxHeartbeats 4000000 in
theorem vc_Sy_compileSum_at_k6_3_0 (kind_0 : Int) (number_0 : Int) (f1 : (kind_0 ≠ 3) ∨ (number_0 ≤ 9999)) (kz_0_6 : 0 ≤ kind_0 ∧ kind_0 ≤ 127) (kz_0_8 : 0 ≤ number_0 ∧ number_0 ≤ 1000000) : (kind_0 ≠ 3) ∨ (number_0 ≤ 9999) := by
  first
    | omega
  
def o_Sy_compileSum_at_k6_3 : or_T := (65, 14, [(0, (2, 0, 0, [11]))], [(24, [0, 3], []), (20, [3], [50, 2, 0, 6, 8, 3, 7, 7, 3, 2, 0, 6, 0, 3, 0, 3, 2, 0, 8, 0, 9999])], [], [], [(20, [0], [50, 2, 0, 6, 8, 3, 7, 7, 3, 2, 0, 6, 0, 3, 0, 3, 2, 0, 8, 0, 9999])], [], [])
theorem oo_Sy_compileSum_at_k6_3 {kA : Nat → ClassId} : or_ok PRD kA GG o_Sy_compileSum_at_k6_3 := by
  refine or_mk fun A ta ws vs hD hth hl => ?_
  intro t0 r0 f0 f1
  replace f0 := shm_5 f0
  replace f1 := shm_1747 f1
  have q3 : n_v vs 3 = n_v vs 0 := f0.symm
  simp only [q3] at f1
  have kz_0_6 := fdq_304 hD hth r0
  have kz_0_8 := fdq_305 hD hth r0
  have nf0 : fc_1 PRD (20, [0], [50, 2, 0, 6, 8, 3, 7, 7, 3, 2, 0, 6, 0, 3, 0, 3, 2, 0, 8, 0, 9999]) ws (vs) := ⟨nf_in hl rfl, sgq_1747 (vc_Sy_compileSum_at_k6_3_0 (w_fi ws (n_v vs 0) 6) (w_fi ws (n_v vs 0) 8) f1 kz_0_6 kz_0_8)⟩
  refine ⟨(fun _ h => (by cases h)), [], trivial, ?_, (fun _ h => (by cases h))⟩
  rw [List.append_nil]
  exact List.forall_mem_cons.mpr ⟨⟨show (20 : Nat) < 100 from by decide, nf0⟩, (fun _ h => (by cases h))⟩
set_option maxHeartbeats 4000000 in
theorem vc_Sy_compileSum_at_k6_4_0 (kind_0 : Int) (number_0 : Int) (f3 : (kind_0 ≠ 3) ∨ (number_0 ≤ 9999)) (kz_0_6 : 0 ≤ kind_0 ∧ kind_0 ≤ 127) (kz_0_8 : 0 ≤ number_0 ∧ number_0 ≤ 1000000) : (kind_0 ≠ 3) ∨ (number_0 ≤ 9999) := by
  first
    | omega
  
def o_Sy_compileSum_at_k6_4 : or_T := (79, 12, [(0, (2, 0, 0, [11]))], [(20, [3], [50, 2, 0, 6, 8, 3, 7, 7, 3, 2, 0, 6, 0, 3, 0, 3, 2, 0, 8, 0, 9999]), (24, [0, 3], [])], [], [], [(20, [0], [50, 2, 0, 6, 8, 3, 7, 7, 3, 2, 0, 6, 0, 3, 0, 3, 2, 0, 8, 0, 9999])], [], [])
theorem oo_Sy_compileSum_at_k6_4 {kA : Nat → ClassId} : or_ok PRD kA GG o_Sy_compileSum_at_k6_4 := by
  refine or_mk fun A ta ws vs hD hth hl => ?_
  intro t0 r0 f3 f4
  replace f3 := shm_1747 f3
  replace f4 := shm_5 f4
  have q3 : n_v vs 3 = n_v vs 0 := f4.symm
  simp only [q3] at f3
  have kz_0_6 := fdq_304 hD hth r0
  have kz_0_8 := fdq_305 hD hth r0
  have nf0 : fc_1 PRD (20, [0], [50, 2, 0, 6, 8, 3, 7, 7, 3, 2, 0, 6, 0, 3, 0, 3, 2, 0, 8, 0, 9999]) ws (vs) := ⟨nf_in hl rfl, sgq_1747 (vc_Sy_compileSum_at_k6_4_0 (w_fi ws (n_v vs 0) 6) (w_fi ws (n_v vs 0) 8) f3 kz_0_6 kz_0_8)⟩
  refine ⟨(fun _ h => (by cases h)), [], trivial, ?_, (fun _ h => (by cases h))⟩
  rw [List.append_nil]
  exact List.forall_mem_cons.mpr ⟨⟨show (20 : Nat) < 100 from by decide, nf0⟩, (fun _ h => (by cases h))⟩
set_option maxHeartbeats 4000000 in
theorem vc_Sy_compileSum_at_k6_5_0 (x12 : Int) (x14 : Int) (k12 : 3 ≤ x12 ∧ x12 ≤ 3) (k14 : 0 ≤ x14 ∧ x14 ≤ 0) : (0 ≤ x12) ∧ ((0 ≤ x14) ∧ (((x12 * 65536) + x14) ≤ 851970)) := by
  first
    | omega
  
def o_Sy_compileSum_at_k6_5 : or_T := (69, 15, [(12, (0, 3, 3, [])), (14, (0, 0, 0, []))], [], [], [], [(20, [12, 14], [50, 0, 0, 2, 6, 0, 2, 0, 0, 1, 0, 2, 6, 0, 2, 0, 0, 1, 1, 0, 10, 4, 6, 6, 2, 1, 0, 0, 65536, 1, 1, 0, 851970])], [], [])
theorem oo_Sy_compileSum_at_k6_5 {kA : Nat → ClassId} : or_ok PRD kA GG o_Sy_compileSum_at_k6_5 := by
  refine or_mk fun A ta ws vs hD hth hl => ?_
  intro t12 k12 t14 k14
  have nf0 : fc_1 PRD (20, [12, 14], [50, 0, 0, 2, 6, 0, 2, 0, 0, 1, 0, 2, 6, 0, 2, 0, 0, 1, 1, 0, 10, 4, 6, 6, 2, 1, 0, 0, 65536, 1, 1, 0, 851970]) ws (vs) := ⟨nf_in hl rfl, sgq_487 (vc_Sy_compileSum_at_k6_5_0 (v_iv (n_v vs 12)) (v_iv (n_v vs 14)) k12 k14)⟩
  refine ⟨(fun _ h => (by cases h)), [], trivial, ?_, (fun _ h => (by cases h))⟩
  rw [List.append_nil]
  exact List.forall_mem_cons.mpr ⟨⟨show (20 : Nat) < 100 from by decide, nf0⟩, (fun _ h => (by cases h))⟩
set_option maxHeartbeats 4000000 in
theorem vc_Sy_compileSum_at_k6_6_0 (kind_0 : Int) (number_0 : Int) (f1 : (kind_0 ≠ 3) ∨ (number_0 ≤ 9999)) (kz_0_6 : 0 ≤ kind_0 ∧ kind_0 ≤ 127) (kz_0_8 : 0 ≤ number_0 ∧ number_0 ≤ 1000000) : (kind_0 ≠ 3) ∨ (number_0 ≤ 9999) := by
  first
    | omega
  
def o_Sy_compileSum_at_k6_6 : or_T := (65, 15, [(0, (2, 0, 0, [11]))], [(24, [0, 3], []), (20, [3], [50, 2, 0, 6, 8, 3, 7, 7, 3, 2, 0, 6, 0, 3, 0, 3, 2, 0, 8, 0, 9999])], [], [], [(20, [0], [50, 2, 0, 6, 8, 3, 7, 7, 3, 2, 0, 6, 0, 3, 0, 3, 2, 0, 8, 0, 9999])], [], [])
theorem oo_Sy_compileSum_at_k6_6 {kA : Nat → ClassId} : or_ok PRD kA GG o_Sy_compileSum_at_k6_6 := by
  refine or_mk fun A ta ws vs hD hth hl => ?_
  intro t0 r0 f0 f1
  replace f0 := shm_5 f0
  replace f1 := shm_1747 f1
  have q3 : n_v vs 3 = n_v vs 0 := f0.symm
  simp only [q3] at f1
  have kz_0_6 := fdq_304 hD hth r0
  have kz_0_8 := fdq_305 hD hth r0
  have nf0 : fc_1 PRD (20, [0], [50, 2, 0, 6, 8, 3, 7, 7, 3, 2, 0, 6, 0, 3, 0, 3, 2, 0, 8, 0, 9999]) ws (vs) := ⟨nf_in hl rfl, sgq_1747 (vc_Sy_compileSum_at_k6_6_0 (w_fi ws (n_v vs 0) 6) (w_fi ws (n_v vs 0) 8) f1 kz_0_6 kz_0_8)⟩
  refine ⟨(fun _ h => (by cases h)), [], trivial, ?_, (fun _ h => (by cases h))⟩
  rw [List.append_nil]
  exact List.forall_mem_cons.mpr ⟨⟨show (20 : Nat) < 100 from by decide, nf0⟩, (fun _ h => (by cases h))⟩
def n_Sy_compileSum_at_k6_an : List an_T := [(12, [(0, (2, 0, 0, [11])), (1, (0, 6, 6, [])), (2, (0, 0, 2000, []))], [], (0, 0), [(0, 0, 99988), (1, 5, 2000), (0, 0, 100000)], [], [((0, 3), (2, 0, 0, [109]))], [(2, 0, 0, [11]), (0, 6, 6, []), (2, 0, 0, [109])], 0, [], [(20, [3], [50, 2, 0, 6, 8, 3, 7, 7, 3, 2, 0, 6, 0, 3, 0, 3, 2, 0, 8, 0, 9999]), (24, [0, 3], [])])]
def t_Sy_compileSum_at_k6_ct : ct_L := [(1, 69, e_Sy_advance), (1, 128, e_Sy_emit), (10, 155, e_Sy_compileProduct_at_k6), (178, 155, e_Sy_compileProduct_at_k6)]
set_option maxRecDepth 100000 in
theorem c_Sy_compileSum_at_k6 {l : Launch} {D : va_G} {kA : Nat → ClassId} (h_Sy_advance : ct_ok PRD l D kA GG y_Sy_advance z_Sy_advance e_Sy_advance) (h_Sy_compileProduct_at_k6 : ct_ok PRD l D kA GG y_Sy_compileProduct_at_k6 z_Sy_compileProduct_at_k6 e_Sy_compileProduct_at_k6) (h_Sy_emit : ct_ok PRD l D kA GG y_Sy_emit z_Sy_emit e_Sy_emit) : ct_ok PRD l D kA GG y_Sy_compileSum_at_k6 z_Sy_compileSum_at_k6 e_Sy_compileSum_at_k6 := chk_all_ok (FT := [(31, 11, 6)]) (PT := []) (CT := t_Sy_compileSum_at_k6_ct) (KT := []) (NT := []) (AN := n_Sy_compileSum_at_k6_an) (OT := [o_Sy_compileSum_at_k6_0, o_Sy_compileSum_at_k6_1, o_Sy_compileSum_at_k6_2, o_Sy_compileSum_at_k6_3, o_Sy_compileSum_at_k6_4, o_Sy_compileSum_at_k6_5, o_Sy_compileSum_at_k6_6]) 3 256 (List.forall_mem_cons.mpr ⟨oo_Sy_compileSum_at_k6_0, List.forall_mem_cons.mpr ⟨oo_Sy_compileSum_at_k6_1, List.forall_mem_cons.mpr ⟨oo_Sy_compileSum_at_k6_2, List.forall_mem_cons.mpr ⟨oo_Sy_compileSum_at_k6_3, List.forall_mem_cons.mpr ⟨oo_Sy_compileSum_at_k6_4, List.forall_mem_cons.mpr ⟨oo_Sy_compileSum_at_k6_5, List.forall_mem_cons.mpr ⟨oo_Sy_compileSum_at_k6_6, List.forall_mem_nil _⟩⟩⟩⟩⟩⟩⟩) (by decide +kernel) ⟨List.forall_mem_cons.mpr ⟨gf_Sy_31, List.forall_mem_nil _⟩, List.forall_mem_nil _, List.forall_mem_cons.mpr ⟨cl_virtual (y := y_Sy_advance) (ci := 11) rfl rfl ⟨_, _, rfl⟩ (by decide +kernel) h_Sy_advance wm_2158 wm_23 wm_2155 wm_2157 wv_10_10 ⟨by decide, by decide, by decide +kernel⟩ (by decide), List.forall_mem_cons.mpr ⟨cl_virtual (y := y_Sy_emit) (ci := 11) rfl rfl ⟨_, _, rfl⟩ (by decide +kernel) h_Sy_emit wm_2258 wm_23 wm_2255 wm_2257 wv_11_2 ⟨by decide, by decide, by decide +kernel⟩ (by decide), List.forall_mem_cons.mpr ⟨cl_virtual (y := y_Sy_compileProduct_at_k6) (ci := 11) rfl rfl ⟨_, _, rfl⟩ (by decide +kernel) h_Sy_compileProduct_at_k6 wm_2270 wm_23 wm_2267 wm_2269 wv_11_5 ⟨by decide, by decide, by decide +kernel⟩ (by decide), List.forall_mem_cons.mpr ⟨cl_virtual (y := y_Sy_compileProduct_at_k6) (ci := 11) rfl rfl ⟨_, _, rfl⟩ (by decide +kernel) h_Sy_compileProduct_at_k6 wm_2270 wm_23 wm_2267 wm_2269 wv_11_5 ⟨by decide, by decide, by decide +kernel⟩ (by decide), List.forall_mem_nil _⟩⟩⟩⟩, List.forall_mem_nil _, List.forall_mem_nil _, GG_pl⟩ (by decide +kernel)
def o_Sy_compileSum_at_k7_0 : or_T := (12, 5, [], [], [], [], [(24, [0, 0], [])], [], [])
theorem oo_Sy_compileSum_at_k7_0 {kA : Nat → ClassId} : or_ok PRD kA GG o_Sy_compileSum_at_k7_0 := by
  refine or_mk fun A ta ws vs hD hth hl => ?_
  have nf0 : fc_1 PRD (24, [0, 0], []) ws (vs) := by
    refine ⟨nf_in hl rfl, sgq_1 ?_⟩
    · show n_v vs 0 = n_v vs 0
      first | rfl | simp only [true_and]
  refine ⟨(fun _ h => (by cases h)), [], trivial, ?_, (fun _ h => (by cases h))⟩
  rw [List.append_nil]
  exact List.forall_mem_cons.mpr ⟨⟨show (24 : Nat) < 100 from by decide, nf0⟩, (fun _ h => (by cases h))⟩
set_option maxHeartbeats 4000000 in
theorem vc_Sy_compileSum_at_k7_1_0 (kind_0 : Int) (number_0 : Int) (f0 : (kind_0 ≠ 3) ∨ (number_0 ≤ 9999)) (kz_0_6 : 0 ≤ kind_0 ∧ kind_0 ≤ 127) (kz_0_8 : 0 ≤ number_0 ∧ number_0 ≤ 1000000) : (kind_0 ≠ 3) ∨ (number_0 ≤ 9999) := by
  first
    | omega
  
def o_Sy_compileSum_at_k7_1 : or_T := (79, 9, [(0, (2, 0, 0, [11]))], [(20, [3], [50, 2, 0, 6, 8, 3, 7, 7, 3, 2, 0, 6, 0, 3, 0, 3, 2, 0, 8, 0, 9999]), (24, [0, 3], [])], [], [], [(20, [0], [50, 2, 0, 6, 8, 3, 7, 7, 3, 2, 0, 6, 0, 3, 0, 3, 2, 0, 8, 0, 9999])], [], [])
theorem oo_Sy_compileSum_at_k7_1 {kA : Nat → ClassId} : or_ok PRD kA GG o_Sy_compileSum_at_k7_1 := by
  refine or_mk fun A ta ws vs hD hth hl => ?_
  intro t0 r0 f0 f1
  replace f0 := shm_1747 f0
  replace f1 := shm_5 f1
  have q3 : n_v vs 3 = n_v vs 0 := f1.symm
  simp only [q3] at f0
  have kz_0_6 := fdq_304 hD hth r0
  have kz_0_8 := fdq_305 hD hth r0
  have nf0 : fc_1 PRD (20, [0], [50, 2, 0, 6, 8, 3, 7, 7, 3, 2, 0, 6, 0, 3, 0, 3, 2, 0, 8, 0, 9999]) ws (vs) := ⟨nf_in hl rfl, sgq_1747 (vc_Sy_compileSum_at_k7_1_0 (w_fi ws (n_v vs 0) 6) (w_fi ws (n_v vs 0) 8) f0 kz_0_6 kz_0_8)⟩
  refine ⟨(fun _ h => (by cases h)), [], trivial, ?_, (fun _ h => (by cases h))⟩
  rw [List.append_nil]
  exact List.forall_mem_cons.mpr ⟨⟨show (20 : Nat) < 100 from by decide, nf0⟩, (fun _ h => (by cases h))⟩
set_option maxHeartbeats 4000000 in
theorem vc_Sy_compileSum_at_k7_2_0 (x11 : Int) (x13 : Int) (k11 : 2 ≤ x11 ∧ x11 ≤ 2) (k13 : 0 ≤ x13 ∧ x13 ≤ 0) : (0 ≤ x11) ∧ ((0 ≤ x13) ∧ (((x11 * 65536) + x13) ≤ 851970)) := by
  first
    | omega
  
def o_Sy_compileSum_at_k7_2 : or_T := (69, 14, [(11, (0, 2, 2, [])), (13, (0, 0, 0, []))], [], [], [], [(20, [11, 13], [50, 0, 0, 2, 6, 0, 2, 0, 0, 1, 0, 2, 6, 0, 2, 0, 0, 1, 1, 0, 10, 4, 6, 6, 2, 1, 0, 0, 65536, 1, 1, 0, 851970])], [], [])
theorem oo_Sy_compileSum_at_k7_2 {kA : Nat → ClassId} : or_ok PRD kA GG o_Sy_compileSum_at_k7_2 := by
  refine or_mk fun A ta ws vs hD hth hl => ?_
  intro t11 k11 t13 k13
  have nf0 : fc_1 PRD (20, [11, 13], [50, 0, 0, 2, 6, 0, 2, 0, 0, 1, 0, 2, 6, 0, 2, 0, 0, 1, 1, 0, 10, 4, 6, 6, 2, 1, 0, 0, 65536, 1, 1, 0, 851970]) ws (vs) := ⟨nf_in hl rfl, sgq_487 (vc_Sy_compileSum_at_k7_2_0 (v_iv (n_v vs 11)) (v_iv (n_v vs 13)) k11 k13)⟩
  refine ⟨(fun _ h => (by cases h)), [], trivial, ?_, (fun _ h => (by cases h))⟩
  rw [List.append_nil]
  exact List.forall_mem_cons.mpr ⟨⟨show (20 : Nat) < 100 from by decide, nf0⟩, (fun _ h => (by cases h))⟩
set_option maxHeartbeats 4000000 in
theorem vc_Sy_compileSum_at_k7_3_0 (kind_0 : Int) (number_0 : Int) (f1 : (kind_0 ≠ 3) ∨ (number_0 ≤ 9999)) (kz_0_6 : 0 ≤ kind_0 ∧ kind_0 ≤ 127) (kz_0_8 : 0 ≤ number_0 ∧ number_0 ≤ 1000000) : (kind_0 ≠ 3) ∨ (number_0 ≤ 9999) := by
  first
    | omega
  
def o_Sy_compileSum_at_k7_3 : or_T := (65, 14, [(0, (2, 0, 0, [11]))], [(24, [0, 3], []), (20, [3], [50, 2, 0, 6, 8, 3, 7, 7, 3, 2, 0, 6, 0, 3, 0, 3, 2, 0, 8, 0, 9999])], [], [], [(20, [0], [50, 2, 0, 6, 8, 3, 7, 7, 3, 2, 0, 6, 0, 3, 0, 3, 2, 0, 8, 0, 9999])], [], [])
theorem oo_Sy_compileSum_at_k7_3 {kA : Nat → ClassId} : or_ok PRD kA GG o_Sy_compileSum_at_k7_3 := by
  refine or_mk fun A ta ws vs hD hth hl => ?_
  intro t0 r0 f0 f1
  replace f0 := shm_5 f0
  replace f1 := shm_1747 f1
  have q3 : n_v vs 3 = n_v vs 0 := f0.symm
  simp only [q3] at f1
  have kz_0_6 := fdq_304 hD hth r0
  have kz_0_8 := fdq_305 hD hth r0
  have nf0 : fc_1 PRD (20, [0], [50, 2, 0, 6, 8, 3, 7, 7, 3, 2, 0, 6, 0, 3, 0, 3, 2, 0, 8, 0, 9999]) ws (vs) := ⟨nf_in hl rfl, sgq_1747 (vc_Sy_compileSum_at_k7_3_0 (w_fi ws (n_v vs 0) 6) (w_fi ws (n_v vs 0) 8) f1 kz_0_6 kz_0_8)⟩
  refine ⟨(fun _ h => (by cases h)), [], trivial, ?_, (fun _ h => (by cases h))⟩
  rw [List.append_nil]
  exact List.forall_mem_cons.mpr ⟨⟨show (20 : Nat) < 100 from by decide, nf0⟩, (fun _ h => (by cases h))⟩
set_option maxHeartbeats 4000000 in
theorem vc_Sy_compileSum_at_k7_4_0 (kind_0 : Int) (number_0 : Int) (f3 : (kind_0 ≠ 3) ∨ (number_0 ≤ 9999)) (kz_0_6 : 0 ≤ kind_0 ∧ kind_0 ≤ 127) (kz_0_8 : 0 ≤ number_0 ∧ number_0 ≤ 1000000) : (kind_0 ≠ 3) ∨ (number_0 ≤ 9999) := by
  first
    | omega
  
def o_Sy_compileSum_at_k7_4 : or_T := (79, 12, [(0, (2, 0, 0, [11]))], [(20, [3], [50, 2, 0, 6, 8, 3, 7, 7, 3, 2, 0, 6, 0, 3, 0, 3, 2, 0, 8, 0, 9999]), (24, [0, 3], [])], [], [], [(20, [0], [50, 2, 0, 6, 8, 3, 7, 7, 3, 2, 0, 6, 0, 3, 0, 3, 2, 0, 8, 0, 9999])], [], [])
theorem oo_Sy_compileSum_at_k7_4 {kA : Nat → ClassId} : or_ok PRD kA GG o_Sy_compileSum_at_k7_4 := by
  refine or_mk fun A ta ws vs hD hth hl => ?_
  intro t0 r0 f3 f4
  replace f3 := shm_1747 f3
  replace f4 := shm_5 f4
  have q3 : n_v vs 3 = n_v vs 0 := f4.symm
  simp only [q3] at f3
  have kz_0_6 := fdq_304 hD hth r0
  have kz_0_8 := fdq_305 hD hth r0
  have nf0 : fc_1 PRD (20, [0], [50, 2, 0, 6, 8, 3, 7, 7, 3, 2, 0, 6, 0, 3, 0, 3, 2, 0, 8, 0, 9999]) ws (vs) := ⟨nf_in hl rfl, sgq_1747 (vc_Sy_compileSum_at_k7_4_0 (w_fi ws (n_v vs 0) 6) (w_fi ws (n_v vs 0) 8) f3 kz_0_6 kz_0_8)⟩
  refine ⟨(fun _ h => (by cases h)), [], trivial, ?_, (fun _ h => (by cases h))⟩
  rw [List.append_nil]
  exact List.forall_mem_cons.mpr ⟨⟨show (20 : Nat) < 100 from by decide, nf0⟩, (fun _ h => (by cases h))⟩
set_option maxHeartbeats 4000000 in
theorem vc_Sy_compileSum_at_k7_5_0 (x12 : Int) (x14 : Int) (k12 : 3 ≤ x12 ∧ x12 ≤ 3) (k14 : 0 ≤ x14 ∧ x14 ≤ 0) : (0 ≤ x12) ∧ ((0 ≤ x14) ∧ (((x12 * 65536) + x14) ≤ 851970)) := by
  first
    | omega
  
def o_Sy_compileSum_at_k7_5 : or_T := (69, 15, [(12, (0, 3, 3, [])), (14, (0, 0, 0, []))], [], [], [], [(20, [12, 14], [50, 0, 0, 2, 6, 0, 2, 0, 0, 1, 0, 2, 6, 0, 2, 0, 0, 1, 1, 0, 10, 4, 6, 6, 2, 1, 0, 0, 65536, 1, 1, 0, 851970])], [], [])
theorem oo_Sy_compileSum_at_k7_5 {kA : Nat → ClassId} : or_ok PRD kA GG o_Sy_compileSum_at_k7_5 := by
  refine or_mk fun A ta ws vs hD hth hl => ?_
  intro t12 k12 t14 k14
  have nf0 : fc_1 PRD (20, [12, 14], [50, 0, 0, 2, 6, 0, 2, 0, 0, 1, 0, 2, 6, 0, 2, 0, 0, 1, 1, 0, 10, 4, 6, 6, 2, 1, 0, 0, 65536, 1, 1, 0, 851970]) ws (vs) := ⟨nf_in hl rfl, sgq_487 (vc_Sy_compileSum_at_k7_5_0 (v_iv (n_v vs 12)) (v_iv (n_v vs 14)) k12 k14)⟩
  refine ⟨(fun _ h => (by cases h)), [], trivial, ?_, (fun _ h => (by cases h))⟩
  rw [List.append_nil]
  exact List.forall_mem_cons.mpr ⟨⟨show (20 : Nat) < 100 from by decide, nf0⟩, (fun _ h => (by cases h))⟩
set_option maxHeartbeats 4000000 in
theorem vc_Sy_compileSum_at_k7_6_0 (kind_0 : Int) (number_0 : Int) (f1 : (kind_0 ≠ 3) ∨ (number_0 ≤ 9999)) (kz_0_6 : 0 ≤ kind_0 ∧ kind_0 ≤ 127) (kz_0_8 : 0 ≤ number_0 ∧ number_0 ≤ 1000000) : (kind_0 ≠ 3) ∨ (number_0 ≤ 9999) := by
  first
    | omega
  
def o_Sy_compileSum_at_k7_6 : or_T := (65, 15, [(0, (2, 0, 0, [11]))], [(24, [0, 3], []), (20, [3], [50, 2, 0, 6, 8, 3, 7, 7, 3, 2, 0, 6, 0, 3, 0, 3, 2, 0, 8, 0, 9999])], [], [], [(20, [0], [50, 2, 0, 6, 8, 3, 7, 7, 3, 2, 0, 6, 0, 3, 0, 3, 2, 0, 8, 0, 9999])], [], [])
theorem oo_Sy_compileSum_at_k7_6 {kA : Nat → ClassId} : or_ok PRD kA GG o_Sy_compileSum_at_k7_6 := by
  refine or_mk fun A ta ws vs hD hth hl => ?_
  intro t0 r0 f0 f1
  replace f0 := shm_5 f0
  replace f1 := shm_1747 f1
  have q3 : n_v vs 3 = n_v vs 0 := f0.symm
  simp only [q3] at f1
  have kz_0_6 := fdq_304 hD hth r0
  have kz_0_8 := fdq_305 hD hth r0
  have nf0 : fc_1 PRD (20, [0], [50, 2, 0, 6, 8, 3, 7, 7, 3, 2, 0, 6, 0, 3, 0, 3, 2, 0, 8, 0, 9999]) ws (vs) := ⟨nf_in hl rfl, sgq_1747 (vc_Sy_compileSum_at_k7_6_0 (w_fi ws (n_v vs 0) 6) (w_fi ws (n_v vs 0) 8) f1 kz_0_6 kz_0_8)⟩
  refine ⟨(fun _ h => (by cases h)), [], trivial, ?_, (fun _ h => (by cases h))⟩
  rw [List.append_nil]
  exact List.forall_mem_cons.mpr ⟨⟨show (20 : Nat) < 100 from by decide, nf0⟩, (fun _ h => (by cases h))⟩
def n_Sy_compileSum_at_k7_an : List an_T := [(12, [(0, (2, 0, 0, [11])), (1, (0, 7, 7, [])), (2, (0, 0, 2000, []))], [], (0, 0), [(0, 0, 99988), (1, 5, 2000), (0, 0, 100000)], [], [((0, 3), (2, 0, 0, [109]))], [(2, 0, 0, [11]), (0, 7, 7, []), (2, 0, 0, [109])], 0, [], [(20, [3], [50, 2, 0, 6, 8, 3, 7, 7, 3, 2, 0, 6, 0, 3, 0, 3, 2, 0, 8, 0, 9999]), (24, [0, 3], [])])]
def t_Sy_compileSum_at_k7_ct : ct_L := [(1, 69, e_Sy_advance), (1, 128, e_Sy_emit), (10, 155, e_Sy_compileProduct_at_k7), (178, 155, e_Sy_compileProduct_at_k7)]
set_option maxRecDepth 100000 in
theorem c_Sy_compileSum_at_k7 {l : Launch} {D : va_G} {kA : Nat → ClassId} (h_Sy_advance : ct_ok PRD l D kA GG y_Sy_advance z_Sy_advance e_Sy_advance) (h_Sy_compileProduct_at_k7 : ct_ok PRD l D kA GG y_Sy_compileProduct_at_k7 z_Sy_compileProduct_at_k7 e_Sy_compileProduct_at_k7) (h_Sy_emit : ct_ok PRD l D kA GG y_Sy_emit z_Sy_emit e_Sy_emit) : ct_ok PRD l D kA GG y_Sy_compileSum_at_k7 z_Sy_compileSum_at_k7 e_Sy_compileSum_at_k7 := chk_all_ok (FT := [(31, 11, 6)]) (PT := []) (CT := t_Sy_compileSum_at_k7_ct) (KT := []) (NT := []) (AN := n_Sy_compileSum_at_k7_an) (OT := [o_Sy_compileSum_at_k7_0, o_Sy_compileSum_at_k7_1, o_Sy_compileSum_at_k7_2, o_Sy_compileSum_at_k7_3, o_Sy_compileSum_at_k7_4, o_Sy_compileSum_at_k7_5, o_Sy_compileSum_at_k7_6]) 3 256 (List.forall_mem_cons.mpr ⟨oo_Sy_compileSum_at_k7_0, List.forall_mem_cons.mpr ⟨oo_Sy_compileSum_at_k7_1, List.forall_mem_cons.mpr ⟨oo_Sy_compileSum_at_k7_2, List.forall_mem_cons.mpr ⟨oo_Sy_compileSum_at_k7_3, List.forall_mem_cons.mpr ⟨oo_Sy_compileSum_at_k7_4, List.forall_mem_cons.mpr ⟨oo_Sy_compileSum_at_k7_5, List.forall_mem_cons.mpr ⟨oo_Sy_compileSum_at_k7_6, List.forall_mem_nil _⟩⟩⟩⟩⟩⟩⟩) (by decide +kernel) ⟨List.forall_mem_cons.mpr ⟨gf_Sy_31, List.forall_mem_nil _⟩, List.forall_mem_nil _, List.forall_mem_cons.mpr ⟨cl_virtual (y := y_Sy_advance) (ci := 11) rfl rfl ⟨_, _, rfl⟩ (by decide +kernel) h_Sy_advance wm_2158 wm_23 wm_2155 wm_2157 wv_10_10 ⟨by decide, by decide, by decide +kernel⟩ (by decide), List.forall_mem_cons.mpr ⟨cl_virtual (y := y_Sy_emit) (ci := 11) rfl rfl ⟨_, _, rfl⟩ (by decide +kernel) h_Sy_emit wm_2258 wm_23 wm_2255 wm_2257 wv_11_2 ⟨by decide, by decide, by decide +kernel⟩ (by decide), List.forall_mem_cons.mpr ⟨cl_virtual (y := y_Sy_compileProduct_at_k7) (ci := 11) rfl rfl ⟨_, _, rfl⟩ (by decide +kernel) h_Sy_compileProduct_at_k7 wm_2270 wm_23 wm_2267 wm_2269 wv_11_5 ⟨by decide, by decide, by decide +kernel⟩ (by decide), List.forall_mem_cons.mpr ⟨cl_virtual (y := y_Sy_compileProduct_at_k7) (ci := 11) rfl rfl ⟨_, _, rfl⟩ (by decide +kernel) h_Sy_compileProduct_at_k7 wm_2270 wm_23 wm_2267 wm_2269 wv_11_5 ⟨by decide, by decide, by decide +kernel⟩ (by decide), List.forall_mem_nil _⟩⟩⟩⟩, List.forall_mem_nil _, List.forall_mem_nil _, GG_pl⟩ (by decide +kernel)
def o_Sy_compileSum_at_k8_0 : or_T := (12, 5, [], [], [], [], [(24, [0, 0], [])], [], [])
theorem oo_Sy_compileSum_at_k8_0 {kA : Nat → ClassId} : or_ok PRD kA GG o_Sy_compileSum_at_k8_0 := by
  refine or_mk fun A ta ws vs hD hth hl => ?_
  have nf0 : fc_1 PRD (24, [0, 0], []) ws (vs) := by
    refine ⟨nf_in hl rfl, sgq_1 ?_⟩
    · show n_v vs 0 = n_v vs 0
      first | rfl | simp only [true_and]
  refine ⟨(fun _ h => (by cases h)), [], trivial, ?_, (fun _ h => (by cases h))⟩
  rw [List.append_nil]
  exact List.forall_mem_cons.mpr ⟨⟨show (24 : Nat) < 100 from by decide, nf0⟩, (fun _ h => (by cases h))⟩
set_option maxHeartbeats 4000000 in
theorem vc_Sy_compileSum_at_k8_1_0 (kind_0 : Int) (number_0 : Int) (f0 : (kind_0 ≠ 3) ∨ (number_0 ≤ 9999)) (kz_0_6 : 0 ≤ kind_0 ∧ kind_0 ≤ 127) (kz_0_8 : 0 ≤ number_0 ∧ number_0 ≤ 1000000) : (kind_0 ≠ 3) ∨ (number_0 ≤ 9999) := by
  first
    | omega
  
def o_Sy_compileSum_at_k8_1 : or_T := (79, 9, [(0, (2, 0, 0, [11]))], [(20, [3], [50, 2, 0, 6, 8, 3, 7, 7, 3, 2, 0, 6, 0, 3, 0, 3, 2, 0, 8, 0, 9999]), (24, [0, 3], [])], [], [], [(20, [0], [50, 2, 0, 6, 8, 3, 7, 7, 3, 2, 0, 6, 0, 3, 0, 3, 2, 0, 8, 0, 9999])], [], [])
theorem oo_Sy_compileSum_at_k8_1 {kA : Nat → ClassId} : or_ok PRD kA GG o_Sy_compileSum_at_k8_1 := by
  refine or_mk fun A ta ws vs hD hth hl => ?_
  intro t0 r0 f0 f1
  replace f0 := shm_1747 f0
  replace f1 := shm_5 f1
  have q3 : n_v vs 3 = n_v vs 0 := f1.symm
  simp only [q3] at f0
  have kz_0_6 := fdq_304 hD hth r0
  have kz_0_8 := fdq_305 hD hth r0
  have nf0 : fc_1 PRD (20, [0], [50, 2, 0, 6, 8, 3, 7, 7, 3, 2, 0, 6, 0, 3, 0, 3, 2, 0, 8, 0, 9999]) ws (vs) := ⟨nf_in hl rfl, sgq_1747 (vc_Sy_compileSum_at_k8_1_0 (w_fi ws (n_v vs 0) 6) (w_fi ws (n_v vs 0) 8) f0 kz_0_6 kz_0_8)⟩
  refine ⟨(fun _ h => (by cases h)), [], trivial, ?_, (fun _ h => (by cases h))⟩
  rw [List.append_nil]
  exact List.forall_mem_cons.mpr ⟨⟨show (20 : Nat) < 100 from by decide, nf0⟩, (fun _ h => (by cases h))⟩
set_option maxHeartbeats 4000000 in
theorem vc_Sy_compileSum_at_k8_2_0 (x11 : Int) (x13 : Int) (k11 : 2 ≤ x11 ∧ x11 ≤ 2) (k13 : 0 ≤ x13 ∧ x13 ≤ 0) : (0 ≤ x11) ∧ ((0 ≤ x13) ∧ (((x11 * 65536) + x13) ≤ 851970)) := by
  first
    | omega
  
def o_Sy_compileSum_at_k8_2 : or_T := (69, 14, [(11, (0, 2, 2, [])), (13, (0, 0, 0, []))], [], [], [], [(20, [11, 13], [50, 0, 0, 2, 6, 0, 2, 0, 0, 1, 0, 2, 6, 0, 2, 0, 0, 1, 1, 0, 10, 4, 6, 6, 2, 1, 0, 0, 65536, 1, 1, 0, 851970])], [], [])
theorem oo_Sy_compileSum_at_k8_2 {kA : Nat → ClassId} : or_ok PRD kA GG o_Sy_compileSum_at_k8_2 := by
  refine or_mk fun A ta ws vs hD hth hl => ?_
  intro t11 k11 t13 k13
  have nf0 : fc_1 PRD (20, [11, 13], [50, 0, 0, 2, 6, 0, 2, 0, 0, 1, 0, 2, 6, 0, 2, 0, 0, 1, 1, 0, 10, 4, 6, 6, 2, 1, 0, 0, 65536, 1, 1, 0, 851970]) ws (vs) := ⟨nf_in hl rfl, sgq_487 (vc_Sy_compileSum_at_k8_2_0 (v_iv (n_v vs 11)) (v_iv (n_v vs 13)) k11 k13)⟩
  refine ⟨(fun _ h => (by cases h)), [], trivial, ?_, (fun _ h => (by cases h))⟩
  rw [List.append_nil]
  exact List.forall_mem_cons.mpr ⟨⟨show (20 : Nat) < 100 from by decide, nf0⟩, (fun _ h => (by cases h))⟩
set_option maxHeartbeats 4000000 in
theorem vc_Sy_compileSum_at_k8_3_0 (kind_0 : Int) (number_0 : Int) (f1 : (kind_0 ≠ 3) ∨ (number_0 ≤ 9999)) (kz_0_6 : 0 ≤ kind_0 ∧ kind_0 ≤ 127) (kz_0_8 : 0 ≤ number_0 ∧ number_0 ≤ 1000000) : (kind_0 ≠ 3) ∨ (number_0 ≤ 9999) := by
  first
    | omega
  
def o_Sy_compileSum_at_k8_3 : or_T := (65, 14, [(0, (2, 0, 0, [11]))], [(24, [0, 3], []), (20, [3], [50, 2, 0, 6, 8, 3, 7, 7, 3, 2, 0, 6, 0, 3, 0, 3, 2, 0, 8, 0, 9999])], [], [], [(20, [0], [50, 2, 0, 6, 8, 3, 7, 7, 3, 2, 0, 6, 0, 3, 0, 3, 2, 0, 8, 0, 9999])], [], [])
theorem oo_Sy_compileSum_at_k8_3 {kA : Nat → ClassId} : or_ok PRD kA GG o_Sy_compileSum_at_k8_3 := by
  refine or_mk fun A ta ws vs hD hth hl => ?_
  intro t0 r0 f0 f1
  replace f0 := shm_5 f0
  replace f1 := shm_1747 f1
  have q3 : n_v vs 3 = n_v vs 0 := f0.symm
  simp only [q3] at f1
  have kz_0_6 := fdq_304 hD hth r0
  have kz_0_8 := fdq_305 hD hth r0
  have nf0 : fc_1 PRD (20, [0], [50, 2, 0, 6, 8, 3, 7, 7, 3, 2, 0, 6, 0, 3, 0, 3, 2, 0, 8, 0, 9999]) ws (vs) := ⟨nf_in hl rfl, sgq_1747 (vc_Sy_compileSum_at_k8_3_0 (w_fi ws (n_v vs 0) 6) (w_fi ws (n_v vs 0) 8) f1 kz_0_6 kz_0_8)⟩
  refine ⟨(fun _ h => (by cases h)), [], trivial, ?_, (fun _ h => (by cases h))⟩
  rw [List.append_nil]
  exact List.forall_mem_cons.mpr ⟨⟨show (20 : Nat) < 100 from by decide, nf0⟩, (fun _ h => (by cases h))⟩
set_option maxHeartbeats 4000000 in
theorem vc_Sy_compileSum_at_k8_4_0 (kind_0 : Int) (number_0 : Int) (f3 : (kind_0 ≠ 3) ∨ (number_0 ≤ 9999)) (kz_0_6 : 0 ≤ kind_0 ∧ kind_0 ≤ 127) (kz_0_8 : 0 ≤ number_0 ∧ number_0 ≤ 1000000) : (kind_0 ≠ 3) ∨ (number_0 ≤ 9999) := by
  first
    | omega
  
def o_Sy_compileSum_at_k8_4 : or_T := (79, 12, [(0, (2, 0, 0, [11]))], [(20, [3], [50, 2, 0, 6, 8, 3, 7, 7, 3, 2, 0, 6, 0, 3, 0, 3, 2, 0, 8, 0, 9999]), (24, [0, 3], [])], [], [], [(20, [0], [50, 2, 0, 6, 8, 3, 7, 7, 3, 2, 0, 6, 0, 3, 0, 3, 2, 0, 8, 0, 9999])], [], [])
theorem oo_Sy_compileSum_at_k8_4 {kA : Nat → ClassId} : or_ok PRD kA GG o_Sy_compileSum_at_k8_4 := by
  refine or_mk fun A ta ws vs hD hth hl => ?_
  intro t0 r0 f3 f4
  replace f3 := shm_1747 f3
  replace f4 := shm_5 f4
  have q3 : n_v vs 3 = n_v vs 0 := f4.symm
  simp only [q3] at f3
  have kz_0_6 := fdq_304 hD hth r0
  have kz_0_8 := fdq_305 hD hth r0
  have nf0 : fc_1 PRD (20, [0], [50, 2, 0, 6, 8, 3, 7, 7, 3, 2, 0, 6, 0, 3, 0, 3, 2, 0, 8, 0, 9999]) ws (vs) := ⟨nf_in hl rfl, sgq_1747 (vc_Sy_compileSum_at_k8_4_0 (w_fi ws (n_v vs 0) 6) (w_fi ws (n_v vs 0) 8) f3 kz_0_6 kz_0_8)⟩
  refine ⟨(fun _ h => (by cases h)), [], trivial, ?_, (fun _ h => (by cases h))⟩
  rw [List.append_nil]
  exact List.forall_mem_cons.mpr ⟨⟨show (20 : Nat) < 100 from by decide, nf0⟩, (fun _ h => (by cases h))⟩
set_option maxHeartbeats 4000000 in
theorem vc_Sy_compileSum_at_k8_5_0 (x12 : Int) (x14 : Int) (k12 : 3 ≤ x12 ∧ x12 ≤ 3) (k14 : 0 ≤ x14 ∧ x14 ≤ 0) : (0 ≤ x12) ∧ ((0 ≤ x14) ∧ (((x12 * 65536) + x14) ≤ 851970)) := by
  first
    | omega
  
def o_Sy_compileSum_at_k8_5 : or_T := (69, 15, [(12, (0, 3, 3, [])), (14, (0, 0, 0, []))], [], [], [], [(20, [12, 14], [50, 0, 0, 2, 6, 0, 2, 0, 0, 1, 0, 2, 6, 0, 2, 0, 0, 1, 1, 0, 10, 4, 6, 6, 2, 1, 0, 0, 65536, 1, 1, 0, 851970])], [], [])
theorem oo_Sy_compileSum_at_k8_5 {kA : Nat → ClassId} : or_ok PRD kA GG o_Sy_compileSum_at_k8_5 := by
  refine or_mk fun A ta ws vs hD hth hl => ?_
  intro t12 k12 t14 k14
  have nf0 : fc_1 PRD (20, [12, 14], [50, 0, 0, 2, 6, 0, 2, 0, 0, 1, 0, 2, 6, 0, 2, 0, 0, 1, 1, 0, 10, 4, 6, 6, 2, 1, 0, 0, 65536, 1, 1, 0, 851970]) ws (vs) := ⟨nf_in hl rfl, sgq_487 (vc_Sy_compileSum_at_k8_5_0 (v_iv (n_v vs 12)) (v_iv (n_v vs 14)) k12 k14)⟩
  refine ⟨(fun _ h => (by cases h)), [], trivial, ?_, (fun _ h => (by cases h))⟩
  rw [List.append_nil]
  exact List.forall_mem_cons.mpr ⟨⟨show (20 : Nat) < 100 from by decide, nf0⟩, (fun _ h => (by cases h))⟩
set_option maxHeartbeats 4000000 in
theorem vc_Sy_compileSum_at_k8_6_0 (kind_0 : Int) (number_0 : Int) (f1 : (kind_0 ≠ 3) ∨ (number_0 ≤ 9999)) (kz_0_6 : 0 ≤ kind_0 ∧ kind_0 ≤ 127) (kz_0_8 : 0 ≤ number_0 ∧ number_0 ≤ 1000000) : (kind_0 ≠ 3) ∨ (number_0 ≤ 9999) := by
  first
    | omega
  
def o_Sy_compileSum_at_k8_6 : or_T := (65, 15, [(0, (2, 0, 0, [11]))], [(24, [0, 3], []), (20, [3], [50, 2, 0, 6, 8, 3, 7, 7, 3, 2, 0, 6, 0, 3, 0, 3, 2, 0, 8, 0, 9999])], [], [], [(20, [0], [50, 2, 0, 6, 8, 3, 7, 7, 3, 2, 0, 6, 0, 3, 0, 3, 2, 0, 8, 0, 9999])], [], [])
theorem oo_Sy_compileSum_at_k8_6 {kA : Nat → ClassId} : or_ok PRD kA GG o_Sy_compileSum_at_k8_6 := by
  refine or_mk fun A ta ws vs hD hth hl => ?_
  intro t0 r0 f0 f1
  replace f0 := shm_5 f0
  replace f1 := shm_1747 f1
  have q3 : n_v vs 3 = n_v vs 0 := f0.symm
  simp only [q3] at f1
  have kz_0_6 := fdq_304 hD hth r0
  have kz_0_8 := fdq_305 hD hth r0
  have nf0 : fc_1 PRD (20, [0], [50, 2, 0, 6, 8, 3, 7, 7, 3, 2, 0, 6, 0, 3, 0, 3, 2, 0, 8, 0, 9999]) ws (vs) := ⟨nf_in hl rfl, sgq_1747 (vc_Sy_compileSum_at_k8_6_0 (w_fi ws (n_v vs 0) 6) (w_fi ws (n_v vs 0) 8) f1 kz_0_6 kz_0_8)⟩
  refine ⟨(fun _ h => (by cases h)), [], trivial, ?_, (fun _ h => (by cases h))⟩
  rw [List.append_nil]
  exact List.forall_mem_cons.mpr ⟨⟨show (20 : Nat) < 100 from by decide, nf0⟩, (fun _ h => (by cases h))⟩
def n_Sy_compileSum_at_k8_an : List an_T := [(12, [(0, (2, 0, 0, [11])), (1, (0, 8, 8, [])), (2, (0, 0, 2000, []))], [], (0, 0), [(0, 0, 99988), (1, 5, 2000), (0, 0, 100000)], [], [((0, 3), (2, 0, 0, [109]))], [(2, 0, 0, [11]), (0, 8, 8, []), (2, 0, 0, [109])], 0, [], [(20, [3], [50, 2, 0, 6, 8, 3, 7, 7, 3, 2, 0, 6, 0, 3, 0, 3, 2, 0, 8, 0, 9999]), (24, [0, 3], [])])]
def t_Sy_compileSum_at_k8_ct : ct_L := [(1, 69, e_Sy_advance), (1, 128, e_Sy_emit), (10, 155, e_Sy_compileProduct_at_k8), (178, 155, e_Sy_compileProduct_at_k8)]
set_option maxRecDepth 100000 in
theorem c_Sy_compileSum_at_k8 {l : Launch} {D : va_G} {kA : Nat → ClassId} (h_Sy_advance : ct_ok PRD l D kA GG y_Sy_advance z_Sy_advance e_Sy_advance) (h_Sy_compileProduct_at_k8 : ct_ok PRD l D kA GG y_Sy_compileProduct_at_k8 z_Sy_compileProduct_at_k8 e_Sy_compileProduct_at_k8) (h_Sy_emit : ct_ok PRD l D kA GG y_Sy_emit z_Sy_emit e_Sy_emit) : ct_ok PRD l D kA GG y_Sy_compileSum_at_k8 z_Sy_compileSum_at_k8 e_Sy_compileSum_at_k8 := chk_all_ok (FT := [(31, 11, 6)]) (PT := []) (CT := t_Sy_compileSum_at_k8_ct) (KT := []) (NT := []) (AN := n_Sy_compileSum_at_k8_an) (OT := [o_Sy_compileSum_at_k8_0, o_Sy_compileSum_at_k8_1, o_Sy_compileSum_at_k8_2, o_Sy_compileSum_at_k8_3, o_Sy_compileSum_at_k8_4, o_Sy_compileSum_at_k8_5, o_Sy_compileSum_at_k8_6]) 3 256 (List.forall_mem_cons.mpr ⟨oo_Sy_compileSum_at_k8_0, List.forall_mem_cons.mpr ⟨oo_Sy_compileSum_at_k8_1, List.forall_mem_cons.mpr ⟨oo_Sy_compileSum_at_k8_2, List.forall_mem_cons.mpr ⟨oo_Sy_compileSum_at_k8_3, List.forall_mem_cons.mpr ⟨oo_Sy_compileSum_at_k8_4, List.forall_mem_cons.mpr ⟨oo_Sy_compileSum_at_k8_5, List.forall_mem_cons.mpr ⟨oo_Sy_compileSum_at_k8_6, List.forall_mem_nil _⟩⟩⟩⟩⟩⟩⟩) (by decide +kernel) ⟨List.forall_mem_cons.mpr ⟨gf_Sy_31, List.forall_mem_nil _⟩, List.forall_mem_nil _, List.forall_mem_cons.mpr ⟨cl_virtual (y := y_Sy_advance) (ci := 11) rfl rfl ⟨_, _, rfl⟩ (by decide +kernel) h_Sy_advance wm_2158 wm_23 wm_2155 wm_2157 wv_10_10 ⟨by decide, by decide, by decide +kernel⟩ (by decide), List.forall_mem_cons.mpr ⟨cl_virtual (y := y_Sy_emit) (ci := 11) rfl rfl ⟨_, _, rfl⟩ (by decide +kernel) h_Sy_emit wm_2258 wm_23 wm_2255 wm_2257 wv_11_2 ⟨by decide, by decide, by decide +kernel⟩ (by decide), List.forall_mem_cons.mpr ⟨cl_virtual (y := y_Sy_compileProduct_at_k8) (ci := 11) rfl rfl ⟨_, _, rfl⟩ (by decide +kernel) h_Sy_compileProduct_at_k8 wm_2270 wm_23 wm_2267 wm_2269 wv_11_5 ⟨by decide, by decide, by decide +kernel⟩ (by decide), List.forall_mem_cons.mpr ⟨cl_virtual (y := y_Sy_compileProduct_at_k8) (ci := 11) rfl rfl ⟨_, _, rfl⟩ (by decide +kernel) h_Sy_compileProduct_at_k8 wm_2270 wm_23 wm_2267 wm_2269 wv_11_5 ⟨by decide, by decide, by decide +kernel⟩ (by decide), List.forall_mem_nil _⟩⟩⟩⟩, List.forall_mem_nil _, List.forall_mem_nil _, GG_pl⟩ (by decide +kernel)
def o_Sy_compileSum_at_k9_0 : or_T := (12, 5, [], [], [], [], [(24, [0, 0], [])], [], [])
theorem oo_Sy_compileSum_at_k9_0 {kA : Nat → ClassId} : or_ok PRD kA GG o_Sy_compileSum_at_k9_0 := by
  refine or_mk fun A ta ws vs hD hth hl => ?_
  have nf0 : fc_1 PRD (24, [0, 0], []) ws (vs) := by
    refine ⟨nf_in hl rfl, sgq_1 ?_⟩
    · show n_v vs 0 = n_v vs 0
      first | rfl | simp only [true_and]
  refine ⟨(fun _ h => (by cases h)), [], trivial, ?_, (fun _ h => (by cases h))⟩
  rw [List.append_nil]
  exact List.forall_mem_cons.mpr ⟨⟨show (24 : Nat) < 100 from by decide, nf0⟩, (fun _ h => (by cases h))⟩
set_option maxHeartbeats 4000000 in
theorem vc_Sy_compileSum_at_k9_1_0 (kind_0 : Int) (number_0 : Int) (f0 : (kind_0 ≠ 3) ∨ (number_0 ≤ 9999)) (kz_0_6 : 0 ≤ kind_0 ∧ kind_0 ≤ 127) (kz_0_8 : 0 ≤ number_0 ∧ number_0 ≤ 1000000) : (kind_0 ≠ 3) ∨ (number_0 ≤ 9999) := by
  first
    | omega
  
def o_Sy_compileSum_at_k9_1 : or_T := (79, 9, [(0, (2, 0, 0, [11]))], [(20, [3], [50, 2, 0, 6, 8, 3, 7, 7, 3, 2, 0, 6, 0, 3, 0, 3, 2, 0, 8, 0, 9999]), (24, [0, 3], [])], [], [], [(20, [0], [50, 2, 0, 6, 8, 3, 7, 7, 3, 2, 0, 6, 0, 3, 0, 3, 2, 0, 8, 0, 9999])], [], [])
theorem oo_Sy_compileSum_at_k9_1 {kA : Nat → ClassId} : or_ok PRD kA GG o_Sy_compileSum_at_k9_1 := by
  refine or_mk fun A ta ws vs hD hth hl => ?_
  intro t0 r0 f0 f1
  replace f0 := shm_1747 f0
  replace f1 := shm_5 f1
  have q3 : n_v vs 3 = n_v vs 0 := f1.symm
  simp only [q3] at f0
  have kz_0_6 := fdq_304 hD hth r0
  have kz_0_8 := fdq_305 hD hth r0
  have nf0 : fc_1 PRD (20, [0], [50, 2, 0, 6, 8, 3, 7, 7, 3, 2, 0, 6, 0, 3, 0, 3, 2, 0, 8, 0, 9999]) ws (vs) := ⟨nf_in hl rfl, sgq_1747 (vc_Sy_compileSum_at_k9_1_0 (w_fi ws (n_v vs 0) 6) (w_fi ws (n_v vs 0) 8) f0 kz_0_6 kz_0_8)⟩
  refine ⟨(fun _ h => (by cases h)), [], trivial, ?_, (fun _ h => (by cases h))⟩
  rw [List.append_nil]
  exact List.forall_mem_cons.mpr ⟨⟨show (20 : Nat) < 100 from by decide, nf0⟩, (fun _ h => (by cases h))⟩
set_option maxHeartbeats 4000000 in
theorem vc_Sy_compileSum_at_k9_2_0 (x11 : Int) (x13 : Int) (k11 : 2 ≤ x11 ∧ x11 ≤ 2) (k13 : 0 ≤ x13 ∧ x13 ≤ 0) : (0 ≤ x11) ∧ ((0 ≤ x13) ∧ (((x11 * 65536) + x13) ≤ 851970)) := by
  first
    | omega
  
def o_Sy_compileSum_at_k9_2 : or_T := (69, 14, [(11, (0, 2, 2, [])), (13, (0, 0, 0, []))], [], [], [], [(20, [11, 13], [50, 0, 0, 2, 6, 0, 2, 0, 0, 1, 0, 2, 6, 0, 2, 0, 0, 1, 1, 0, 10, 4, 6, 6, 2, 1, 0, 0, 65536, 1, 1, 0, 851970])], [], [])
theorem oo_Sy_compileSum_at_k9_2 {kA : Nat → ClassId} : or_ok PRD kA GG o_Sy_compileSum_at_k9_2 := by
  refine or_mk fun A ta ws vs hD hth hl => ?_
  intro t11 k11 t13 k13
  have nf0 : fc_1 PRD (20, [11, 13], [50, 0, 0, 2, 6, 0, 2, 0, 0, 1, 0, 2, 6, 0, 2, 0, 0, 1, 1, 0, 10, 4, 6, 6, 2, 1, 0, 0, 65536, 1, 1, 0, 851970]) ws (vs) := ⟨nf_in hl rfl, sgq_487 (vc_Sy_compileSum_at_k9_2_0 (v_iv (n_v vs 11)) (v_iv (n_v vs 13)) k11 k13)⟩
  refine ⟨(fun _ h => (by cases h)), [], trivial, ?_, (fun _ h => (by cases h))⟩
  rw [List.append_nil]
  exact List.forall_mem_cons.mpr ⟨⟨show (20 : Nat) < 100 from by decide, nf0⟩, (fun _ h => (by cases h))⟩
set_option maxHeartbeats 4000000 in
theorem vc_Sy_compileSum_at_k9_3_0 (kind_0 : Int) (number_0 : Int) (f1 : (kind_0 ≠ 3) ∨ (number_0 ≤ 9999)) (kz_0_6 : 0 ≤ kind_0 ∧ kind_0 ≤ 127) (kz_0_8 : 0 ≤ number_0 ∧ number_0 ≤ 1000000) : (kind_0 ≠ 3) ∨ (number_0 ≤ 9999) := by
  first
    | omega
  
def o_Sy_compileSum_at_k9_3 : or_T := (65, 14, [(0, (2, 0, 0, [11]))], [(24, [0, 3], []), (20, [3], [50, 2, 0, 6, 8, 3, 7, 7, 3, 2, 0, 6, 0, 3, 0, 3, 2, 0, 8, 0, 9999])], [], [], [(20, [0], [50, 2, 0, 6, 8, 3, 7, 7, 3, 2, 0, 6, 0, 3, 0, 3, 2, 0, 8, 0, 9999])], [], [])
theorem oo_Sy_compileSum_at_k9_3 {kA : Nat → ClassId} : or_ok PRD kA GG o_Sy_compileSum_at_k9_3 := by
  refine or_mk fun A ta ws vs hD hth hl => ?_
  intro t0 r0 f0 f1
  replace f0 := shm_5 f0
  replace f1 := shm_1747 f1
  have q3 : n_v vs 3 = n_v vs 0 := f0.symm
  simp only [q3] at f1
  have kz_0_6 := fdq_304 hD hth r0
  have kz_0_8 := fdq_305 hD hth r0
  have nf0 : fc_1 PRD (20, [0], [50, 2, 0, 6, 8, 3, 7, 7, 3, 2, 0, 6, 0, 3, 0, 3, 2, 0, 8, 0, 9999]) ws (vs) := ⟨nf_in hl rfl, sgq_1747 (vc_Sy_compileSum_at_k9_3_0 (w_fi ws (n_v vs 0) 6) (w_fi ws (n_v vs 0) 8) f1 kz_0_6 kz_0_8)⟩
  refine ⟨(fun _ h => (by cases h)), [], trivial, ?_, (fun _ h => (by cases h))⟩
  rw [List.append_nil]
  exact List.forall_mem_cons.mpr ⟨⟨show (20 : Nat) < 100 from by decide, nf0⟩, (fun _ h => (by cases h))⟩
set_option maxHeartbeats 4000000 in
theorem vc_Sy_compileSum_at_k9_4_0 (kind_0 : Int) (number_0 : Int) (f3 : (kind_0 ≠ 3) ∨ (number_0 ≤ 9999)) (kz_0_6 : 0 ≤ kind_0 ∧ kind_0 ≤ 127) (kz_0_8 : 0 ≤ number_0 ∧ number_0 ≤ 1000000) : (kind_0 ≠ 3) ∨ (number_0 ≤ 9999) := by
  first
    | omega
  
def o_Sy_compileSum_at_k9_4 : or_T := (79, 12, [(0, (2, 0, 0, [11]))], [(20, [3], [50, 2, 0, 6, 8, 3, 7, 7, 3, 2, 0, 6, 0, 3, 0, 3, 2, 0, 8, 0, 9999]), (24, [0, 3], [])], [], [], [(20, [0], [50, 2, 0, 6, 8, 3, 7, 7, 3, 2, 0, 6, 0, 3, 0, 3, 2, 0, 8, 0, 9999])], [], [])
theorem oo_Sy_compileSum_at_k9_4 {kA : Nat → ClassId} : or_ok PRD kA GG o_Sy_compileSum_at_k9_4 := by
  refine or_mk fun A ta ws vs hD hth hl => ?_
  intro t0 r0 f3 f4
  replace f3 := shm_1747 f3
  replace f4 := shm_5 f4
  have q3 : n_v vs 3 = n_v vs 0 := f4.symm
  simp only [q3] at f3
  have kz_0_6 := fdq_304 hD hth r0
  have kz_0_8 := fdq_305 hD hth r0
  have nf0 : fc_1 PRD (20, [0], [50, 2, 0, 6, 8, 3, 7, 7, 3, 2, 0, 6, 0, 3, 0, 3, 2, 0, 8, 0, 9999]) ws (vs) := ⟨nf_in hl rfl, sgq_1747 (vc_Sy_compileSum_at_k9_4_0 (w_fi ws (n_v vs 0) 6) (w_fi ws (n_v vs 0) 8) f3 kz_0_6 kz_0_8)⟩
  refine ⟨(fun _ h => (by cases h)), [], trivial, ?_, (fun _ h => (by cases h))⟩
  rw [List.append_nil]
  exact List.forall_mem_cons.mpr ⟨⟨show (20 : Nat) < 100 from by decide, nf0⟩, (fun _ h => (by cases h))⟩
set_option maxHeartbeats 4000000 in
theorem vc_Sy_compileSum_at_k9_5_0 (x12 : Int) (x14 : Int) (k12 : 3 ≤ x12 ∧ x12 ≤ 3) (k14 : 0 ≤ x14 ∧ x14 ≤ 0) : (0 ≤ x12) ∧ ((0 ≤ x14) ∧ (((x12 * 65536) + x14) ≤ 851970)) := by
  first
    | omega
  
def o_Sy_compileSum_at_k9_5 : or_T := (69, 15, [(12, (0, 3, 3, [])), (14, (0, 0, 0, []))], [], [], [], [(20, [12, 14], [50, 0, 0, 2, 6, 0, 2, 0, 0, 1, 0, 2, 6, 0, 2, 0, 0, 1, 1, 0, 10, 4, 6, 6, 2, 1, 0, 0, 65536, 1, 1, 0, 851970])], [], [])
theorem oo_Sy_compileSum_at_k9_5 {kA : Nat → ClassId} : or_ok PRD kA GG o_Sy_compileSum_at_k9_5 := by
  refine or_mk fun A ta ws vs hD hth hl => ?_
  intro t12 k12 t14 k14
  have nf0 : fc_1 PRD (20, [12, 14], [50, 0, 0, 2, 6, 0, 2, 0, 0, 1, 0, 2, 6, 0, 2, 0, 0, 1, 1, 0, 10, 4, 6, 6, 2, 1, 0, 0, 65536, 1, 1, 0, 851970]) ws (vs) := ⟨nf_in hl rfl, sgq_487 (vc_Sy_compileSum_at_k9_5_0 (v_iv (n_v vs 12)) (v_iv (n_v vs 14)) k12 k14)⟩
  refine ⟨(fun _ h => (by cases h)), [], trivial, ?_, (fun _ h => (by cases h))⟩
  rw [List.append_nil]
  exact List.forall_mem_cons.mpr ⟨⟨show (20 : Nat) < 100 from by decide, nf0⟩, (fun _ h => (by cases h))⟩
set_option maxHeartbeats 4000000 in
theorem vc_Sy_compileSum_at_k9_6_0 (kind_0 : Int) (number_0 : Int) (f1 : (kind_0 ≠ 3) ∨ (number_0 ≤ 9999)) (kz_0_6 : 0 ≤ kind_0 ∧ kind_0 ≤ 127) (kz_0_8 : 0 ≤ number_0 ∧ number_0 ≤ 1000000) : (kind_0 ≠ 3) ∨ (number_0 ≤ 9999) := by
  first
    | omega
  
def o_Sy_compileSum_at_k9_6 : or_T := (65, 15, [(0, (2, 0, 0, [11]))], [(24, [0, 3], []), (20, [3], [50, 2, 0, 6, 8, 3, 7, 7, 3, 2, 0, 6, 0, 3, 0, 3, 2, 0, 8, 0, 9999])], [], [], [(20, [0], [50, 2, 0, 6, 8, 3, 7, 7, 3, 2, 0, 6, 0, 3, 0, 3, 2, 0, 8, 0, 9999])], [], [])
theorem oo_Sy_compileSum_at_k9_6 {kA : Nat → ClassId} : or_ok PRD kA GG o_Sy_compileSum_at_k9_6 := by
  refine or_mk fun A ta ws vs hD hth hl => ?_
  intro t0 r0 f0 f1
  replace f0 := shm_5 f0
  replace f1 := shm_1747 f1
  have q3 : n_v vs 3 = n_v vs 0 := f0.symm
  simp only [q3] at f1
  have kz_0_6 := fdq_304 hD hth r0
  have kz_0_8 := fdq_305 hD hth r0
  have nf0 : fc_1 PRD (20, [0], [50, 2, 0, 6, 8, 3, 7, 7, 3, 2, 0, 6, 0, 3, 0, 3, 2, 0, 8, 0, 9999]) ws (vs) := ⟨nf_in hl rfl, sgq_1747 (vc_Sy_compileSum_at_k9_6_0 (w_fi ws (n_v vs 0) 6) (w_fi ws (n_v vs 0) 8) f1 kz_0_6 kz_0_8)⟩
  refine ⟨(fun _ h => (by cases h)), [], trivial, ?_, (fun _ h => (by cases h))⟩
  rw [List.append_nil]
  exact List.forall_mem_cons.mpr ⟨⟨show (20 : Nat) < 100 from by decide, nf0⟩, (fun _ h => (by cases h))⟩
def n_Sy_compileSum_at_k9_an : List an_T := [(12, [(0, (2, 0, 0, [11])), (1, (0, 9, 9, [])), (2, (0, 0, 2000, []))], [], (0, 0), [(0, 0, 99988), (1, 5, 2000), (0, 0, 100000)], [], [((0, 3), (2, 0, 0, [109]))], [(2, 0, 0, [11]), (0, 9, 9, []), (2, 0, 0, [109])], 0, [], [(20, [3], [50, 2, 0, 6, 8, 3, 7, 7, 3, 2, 0, 6, 0, 3, 0, 3, 2, 0, 8, 0, 9999]), (24, [0, 3], [])])]
def t_Sy_compileSum_at_k9_ct : ct_L := [(1, 69, e_Sy_advance), (1, 128, e_Sy_emit), (10, 155, e_Sy_compileProduct_at_k9), (178, 155, e_Sy_compileProduct_at_k9)]
set_option maxRecDepth 100000 in
theorem c_Sy_compileSum_at_k9 {l : Launch} {D : va_G} {kA : Nat → ClassId} (h_Sy_advance : ct_ok PRD l D kA GG y_Sy_advance z_Sy_advance e_Sy_advance) (h_Sy_compileProduct_at_k9 : ct_ok PRD l D kA GG y_Sy_compileProduct_at_k9 z_Sy_compileProduct_at_k9 e_Sy_compileProduct_at_k9) (h_Sy_emit : ct_ok PRD l D kA GG y_Sy_emit z_Sy_emit e_Sy_emit) : ct_ok PRD l D kA GG y_Sy_compileSum_at_k9 z_Sy_compileSum_at_k9 e_Sy_compileSum_at_k9 := chk_all_ok (FT := [(31, 11, 6)]) (PT := []) (CT := t_Sy_compileSum_at_k9_ct) (KT := []) (NT := []) (AN := n_Sy_compileSum_at_k9_an) (OT := [o_Sy_compileSum_at_k9_0, o_Sy_compileSum_at_k9_1, o_Sy_compileSum_at_k9_2, o_Sy_compileSum_at_k9_3, o_Sy_compileSum_at_k9_4, o_Sy_compileSum_at_k9_5, o_Sy_compileSum_at_k9_6]) 3 256 (List.forall_mem_cons.mpr ⟨oo_Sy_compileSum_at_k9_0, List.forall_mem_cons.mpr ⟨oo_Sy_compileSum_at_k9_1, List.forall_mem_cons.mpr ⟨oo_Sy_compileSum_at_k9_2, List.forall_mem_cons.mpr ⟨oo_Sy_compileSum_at_k9_3, List.forall_mem_cons.mpr ⟨oo_Sy_compileSum_at_k9_4, List.forall_mem_cons.mpr ⟨oo_Sy_compileSum_at_k9_5, List.forall_mem_cons.mpr ⟨oo_Sy_compileSum_at_k9_6, List.forall_mem_nil _⟩⟩⟩⟩⟩⟩⟩) (by decide +kernel) ⟨List.forall_mem_cons.mpr ⟨gf_Sy_31, List.forall_mem_nil _⟩, List.forall_mem_nil _, List.forall_mem_cons.mpr ⟨cl_virtual (y := y_Sy_advance) (ci := 11) rfl rfl ⟨_, _, rfl⟩ (by decide +kernel) h_Sy_advance wm_2158 wm_23 wm_2155 wm_2157 wv_10_10 ⟨by decide, by decide, by decide +kernel⟩ (by decide), List.forall_mem_cons.mpr ⟨cl_virtual (y := y_Sy_emit) (ci := 11) rfl rfl ⟨_, _, rfl⟩ (by decide +kernel) h_Sy_emit wm_2258 wm_23 wm_2255 wm_2257 wv_11_2 ⟨by decide, by decide, by decide +kernel⟩ (by decide), List.forall_mem_cons.mpr ⟨cl_virtual (y := y_Sy_compileProduct_at_k9) (ci := 11) rfl rfl ⟨_, _, rfl⟩ (by decide +kernel) h_Sy_compileProduct_at_k9 wm_2270 wm_23 wm_2267 wm_2269 wv_11_5 ⟨by decide, by decide, by decide +kernel⟩ (by decide), List.forall_mem_cons.mpr ⟨cl_virtual (y := y_Sy_compileProduct_at_k9) (ci := 11) rfl rfl ⟨_, _, rfl⟩ (by decide +kernel) h_Sy_compileProduct_at_k9 wm_2270 wm_23 wm_2267 wm_2269 wv_11_5 ⟨by decide, by decide, by decide +kernel⟩ (by decide), List.forall_mem_nil _⟩⟩⟩⟩, List.forall_mem_nil _, List.forall_mem_nil _, GG_pl⟩ (by decide +kernel)
set_option maxHeartbeats 4000000 in
theorem vc_Sy_compileValue_at_k0_0_0 (x3 : Int) (x4 : Int) (x9 : Int) (x11 : Int) (number_0 : Int) (kind_0 : Int) (k3 : 3 ≤ x3 ∧ x3 ≤ 3) (k4 : 40 ≤ x4 ∧ x4 ≤ 40) (k9 : 0 ≤ x9 ∧ x9 ≤ 0) (k11 : 0 ≤ x11 ∧ x11 ≤ 1000000) (g0 : x11 = number_0) (g2 : x3 = kind_0) (f5 : (kind_0 ≠ 3) ∨ (number_0 ≤ 9999)) (f7 : x3 ≠ x4) (kz_0_6 : 0 ≤ kind_0 ∧ kind_0 ≤ 127) (kz_0_8 : 0 ≤ number_0 ∧ number_0 ≤ 1000000) : (0 ≤ x9) ∧ ((0 ≤ x11) ∧ (((x9 * 65536) + x11) ≤ 851970)) := by
  first
    | omega
  
def o_Sy_compileValue_at_k0_0 : or_T := (108, 12, [(0, (2, 0, 0, [11])), (3, (0, 3, 3, [])), (4, (0, 40, 40, [])), (7, (0, 3, 3, [])), (8, (0, 3, 3, [])), (9, (0, 0, 0, [])), (10, (0, 3, 3, [])), (11, (0, 0, 1000000, []))], [(9, [11, 0], [8]), (7, [3, 10], [0]), (9, [3, 0], [6]), (7, [3, 8], [0]), (7, [3, 7], [0]), (20, [0], [50, 2, 0, 6, 8, 3, 7, 7, 3, 2, 0, 6, 0, 3, 0, 3, 2, 0, 8, 0, 9999]), (102, [5], [0]), (7, [3, 4], [1])], [], [], [(20, [9, 11], [50, 0, 0, 2, 6, 0, 2, 0, 0, 1, 0, 2, 6, 0, 2, 0, 0, 1, 1, 0, 10, 4, 6, 6, 2, 1, 0, 0, 65536, 1, 1, 0, 851970])], [], [])
theorem oo_Sy_compileValue_at_k0_0 {kA : Nat → ClassId} : or_ok PRD kA GG o_Sy_compileValue_at_k0_0 := by
  refine or_mk fun A ta ws vs hD hth hl => ?_
  intro t0 r0 t3 k3 t4 k4 t7 k7 t8 k8 t9 k9 t10 k10 t11 k11 f0 f1 f2 f3 f4 f5 ta1 w1 le1 s1 f7
  replace f0 := shm_143 f0
  replace f2 := shm_110 f2
  have g0 : v_iv (n_v vs 11) = w_fi ws (n_v vs 0) 8 := congrArg v_iv f0
  have g2 : v_iv (n_v vs 3) = w_fi ws (n_v vs 0) 6 := congrArg v_iv f2
  have kz_0_6 := fdq_304 hD hth r0
  have kz_0_8 := fdq_305 hD hth r0
  have nf0 : fc_1 PRD (20, [9, 11], [50, 0, 0, 2, 6, 0, 2, 0, 0, 1, 0, 2, 6, 0, 2, 0, 0, 1, 1, 0, 10, 4, 6, 6, 2, 1, 0, 0, 65536, 1, 1, 0, 851970]) ws (vs) := ⟨nf_in hl rfl, sgq_487 (vc_Sy_compileValue_at_k0_0_0 (v_iv (n_v vs 3)) (v_iv (n_v vs 4)) (v_iv (n_v vs 9)) (v_iv (n_v vs 11)) (w_fi ws (n_v vs 0) 8) (w_fi ws (n_v vs 0) 6) k3 k4 k9 k11 g0 g2 (shm_1747 f5) (shm_40 f7) kz_0_6 kz_0_8)⟩
  refine ⟨(fun _ h => (by cases h)), [], trivial, ?_, (fun _ h => (by cases h))⟩
  rw [List.append_nil]
  exact List.forall_mem_cons.mpr ⟨⟨show (20 : Nat) < 100 from by decide, nf0⟩, (fun _ h => (by cases h))⟩
set_option maxHeartbeats 4000000 in
theorem vc_Sy_compileValue_at_k0_1_0 (x3 : Int) (x4 : Int) (x6 : Int) (x7 : Int) (x8 : Int) (x9 : Int) (x10 : Int) (x11 : Int) (kind_0 : Int) (number_0 : Int) (k3 : 0 ≤ x3 ∧ x3 ≤ 127) (k4 : 40 ≤ x4 ∧ x4 ≤ 40) (k6 : 0 ≤ x6 ∧ x6 ≤ 38) (k7 : 3 ≤ x7 ∧ x7 ≤ 3) (k8 : (-1) ≤ x8 ∧ x8 ≤ (-1)) (k9 : 3 ≤ x9 ∧ x9 ≤ 3) (k10 : 1 ≤ x10 ∧ x10 ≤ 1) (k11 : 3 ≤ x11 ∧ x11 ≤ 3) (f0 : x3 ≠ x11) (g1 : x3 = kind_0) (f2 : x3 ≠ x9) (f3 : x6 ≠ x8) (f4 : x3 ≠ x7) (f5 : (kind_0 ≠ 3) ∨ (number_0 ≤ 9999)) (f7 : x3 ≠ x4) (kz_0_6 : 0 ≤ kind_0 ∧ kind_0 ≤ 127) (kz_0_8 : 0 ≤ number_0 ∧ number_0 ≤ 1000000) : (0 ≤ x10) ∧ ((0 ≤ x6) ∧ (((x10 * 65536) + x6) ≤ 851970)) := by
  first
    | omega
  
def o_Sy_compileValue_at_k0_1 : or_T := (108, 12, [(0, (2, 0, 0, [11])), (3, (0, 0, 127, [])), (4, (0, 40, 40, [])), (6, (0, 0, 38, [])), (7, (0, 3, 3, [])), (8, (0, -1, -1, [])), (9, (0, 3, 3, [])), (10, (0, 1, 1, [])), (11, (0, 3, 3, []))], [(7, [3, 11], [1]), (9, [3, 0], [6]), (7, [3, 9], [1]), (7, [6, 8], [1]), (7, [3, 7], [1]), (20, [0], [50, 2, 0, 6, 8, 3, 7, 7, 3, 2, 0, 6, 0, 3, 0, 3, 2, 0, 8, 0, 9999]), (102, [5], [0]), (7, [3, 4], [1])], [], [], [(20, [10, 6], [50, 0, 0, 2, 6, 0, 2, 0, 0, 1, 0, 2, 6, 0, 2, 0, 0, 1, 1, 0, 10, 4, 6, 6, 2, 1, 0, 0, 65536, 1, 1, 0, 851970])], [], [])
theorem oo_Sy_compileValue_at_k0_1 {kA : Nat → ClassId} : or_ok PRD kA GG o_Sy_compileValue_at_k0_1 := by
  refine or_mk fun A ta ws vs hD hth hl => ?_
  intro t0 r0 t3 k3 t4 k4 t6 k6 t7 k7 t8 k8 t9 k9 t10 k10 t11 k11 f0 f1 f2 f3 f4 f5 ta1 w1 le1 s1 f7
  replace f1 := shm_110 f1
  have g1 : v_iv (n_v vs 3) = w_fi ws (n_v vs 0) 6 := congrArg v_iv f1
  have kz_0_6 := fdq_304 hD hth r0
  have kz_0_8 := fdq_305 hD hth r0
  have nf0 : fc_1 PRD (20, [10, 6], [50, 0, 0, 2, 6, 0, 2, 0, 0, 1, 0, 2, 6, 0, 2, 0, 0, 1, 1, 0, 10, 4, 6, 6, 2, 1, 0, 0, 65536, 1, 1, 0, 851970]) ws (vs) := ⟨nf_in hl rfl, sgq_487 (vc_Sy_compileValue_at_k0_1_0 (v_iv (n_v vs 3)) (v_iv (n_v vs 4)) (v_iv (n_v vs 6)) (v_iv (n_v vs 7)) (v_iv (n_v vs 8)) (v_iv (n_v vs 9)) (v_iv (n_v vs 10)) (v_iv (n_v vs 11)) (w_fi ws (n_v vs 0) 6) (w_fi ws (n_v vs 0) 8) k3 k4 k6 k7 k8 k9 k10 k11 (shm_40 f0) g1 (shm_40 f2) (shm_40 f3) (shm_40 f4) (shm_1747 f5) (shm_40 f7) kz_0_6 kz_0_8)⟩
  refine ⟨(fun _ h => (by cases h)), [], trivial, ?_, (fun _ h => (by cases h))⟩
  rw [List.append_nil]
  exact List.forall_mem_cons.mpr ⟨⟨show (20 : Nat) < 100 from by decide, nf0⟩, (fun _ h => (by cases h))⟩
set_option maxHeartbeats 4000000 in
theorem vc_Sy_compileValue_at_k0_2_0 (x3 : Int) (x4 : Int) (x10 : Int) (x12 : Int) (number_0 : Int) (kind_0 : Int) (k3 : 3 ≤ x3 ∧ x3 ≤ 3) (k4 : 40 ≤ x4 ∧ x4 ≤ 40) (k10 : 1 ≤ x10 ∧ x10 ≤ 1) (k12 : 0 ≤ x12 ∧ x12 ≤ 1000000) (g0 : x12 = number_0) (g2 : x3 = kind_0) (f5 : (kind_0 ≠ 3) ∨ (number_0 ≤ 9999)) (f7 : x3 ≠ x4) (kz_0_6 : 0 ≤ kind_0 ∧ kind_0 ≤ 127) (kz_0_8 : 0 ≤ number_0 ∧ number_0 ≤ 1000000) : (0 ≤ x10) ∧ ((0 ≤ x12) ∧ (((x10 * 65536) + x12) ≤ 851970)) := by
  first
    | omega
  
def o_Sy_compileValue_at_k0_2 : or_T := (108, 13, [(0, (2, 0, 0, [11])), (3, (0, 3, 3, [])), (4, (0, 40, 40, [])), (7, (0, 3, 3, [])), (9, (0, 3, 3, [])), (10, (0, 1, 1, [])), (11, (0, 3, 3, [])), (12, (0, 0, 1000000, []))], [(9, [12, 0], [8]), (7, [3, 11], [0]), (9, [3, 0], [6]), (7, [3, 9], [1]), (7, [3, 7], [1]), (20, [0], [50, 2, 0, 6, 8, 3, 7, 7, 3, 2, 0, 6, 0, 3, 0, 3, 2, 0, 8, 0, 9999]), (102, [5], [0]), (7, [3, 4], [1])], [], [], [(20, [10, 12], [50, 0, 0, 2, 6, 0, 2, 0, 0, 1, 0, 2, 6, 0, 2, 0, 0, 1, 1, 0, 10, 4, 6, 6, 2, 1, 0, 0, 65536, 1, 1, 0, 851970])], [], [])
theorem oo_Sy_compileValue_at_k0_2 {kA : Nat → ClassId} : or_ok PRD kA GG o_Sy_compileValue_at_k0_2 := by
  refine or_mk fun A ta ws vs hD hth hl => ?_
  intro t0 r0 t3 k3 t4 k4 t7 k7 t9 k9 t10 k10 t11 k11 t12 k12 f0 f1 f2 f3 f4 f5 ta1 w1 le1 s1 f7
  replace f0 := shm_143 f0
  replace f2 := shm_110 f2
  have g0 : v_iv (n_v vs 12) = w_fi ws (n_v vs 0) 8 := congrArg v_iv f0
  have g2 : v_iv (n_v vs 3) = w_fi ws (n_v vs 0) 6 := congrArg v_iv f2
  have kz_0_6 := fdq_304 hD hth r0
  have kz_0_8 := fdq_305 hD hth r0
  have nf0 : fc_1 PRD (20, [10, 12], [50, 0, 0, 2, 6, 0, 2, 0, 0, 1, 0, 2, 6, 0, 2, 0, 0, 1, 1, 0, 10, 4, 6, 6, 2, 1, 0, 0, 65536, 1, 1, 0, 851970]) ws (vs) := ⟨nf_in hl rfl, sgq_487 (vc_Sy_compileValue_at_k0_2_0 (v_iv (n_v vs 3)) (v_iv (n_v vs 4)) (v_iv (n_v vs 10)) (v_iv (n_v vs 12)) (w_fi ws (n_v vs 0) 8) (w_fi ws (n_v vs 0) 6) k3 k4 k10 k12 g0 g2 (shm_1747 f5) (shm_40 f7) kz_0_6 kz_0_8)⟩
  refine ⟨(fun _ h => (by cases h)), [], trivial, ?_, (fun _ h => (by cases h))⟩
  rw [List.append_nil]
  exact List.forall_mem_cons.mpr ⟨⟨show (20 : Nat) < 100 from by decide, nf0⟩, (fun _ h => (by cases h))⟩
set_option maxHeartbeats 4000000 in
theorem vc_Sy_compileValue_at_k0_3_0 (x3 : Int) (x4 : Int) (x10 : Int) (x12 : Int) (number_0 : Int) (kind_0 : Int) (k3 : 3 ≤ x3 ∧ x3 ≤ 3) (k4 : 40 ≤ x4 ∧ x4 ≤ 40) (k10 : 0 ≤ x10 ∧ x10 ≤ 0) (k12 : 0 ≤ x12 ∧ x12 ≤ 1000000) (g0 : x12 = number_0) (g2 : x3 = kind_0) (f5 : (kind_0 ≠ 3) ∨ (number_0 ≤ 9999)) (f7 : x3 ≠ x4) (kz_0_6 : 0 ≤ kind_0 ∧ kind_0 ≤ 127) (kz_0_8 : 0 ≤ number_0 ∧ number_0 ≤ 1000000) : (0 ≤ x10) ∧ ((0 ≤ x12) ∧ (((x10 * 65536) + x12) ≤ 851970)) := by
  first
    | omega
  
def o_Sy_compileValue_at_k0_3 : or_T := (108, 13, [(0, (2, 0, 0, [11])), (3, (0, 3, 3, [])), (4, (0, 40, 40, [])), (7, (0, 3, 3, [])), (9, (0, 3, 3, [])), (10, (0, 0, 0, [])), (11, (0, 3, 3, [])), (12, (0, 0, 1000000, []))], [(9, [12, 0], [8]), (7, [3, 11], [0]), (9, [3, 0], [6]), (7, [3, 9], [0]), (7, [3, 7], [1]), (20, [0], [50, 2, 0, 6, 8, 3, 7, 7, 3, 2, 0, 6, 0, 3, 0, 3, 2, 0, 8, 0, 9999]), (102, [5], [0]), (7, [3, 4], [1])], [], [], [(20, [10, 12], [50, 0, 0, 2, 6, 0, 2, 0, 0, 1, 0, 2, 6, 0, 2, 0, 0, 1, 1, 0, 10, 4, 6, 6, 2, 1, 0, 0, 65536, 1, 1, 0, 851970])], [], [])
theorem oo_Sy_compileValue_at_k0_3 {kA : Nat → ClassId} : or_ok PRD kA GG o_Sy_compileValue_at_k0_3 := by
  refine or_mk fun A ta ws vs hD hth hl => ?_
  intro t0 r0 t3 k3 t4 k4 t7 k7 t9 k9 t10 k10 t11 k11 t12 k12 f0 f1 f2 f3 f4 f5 ta1 w1 le1 s1 f7
  replace f0 := shm_143 f0
  replace f2 := shm_110 f2
  have g0 : v_iv (n_v vs 12) = w_fi ws (n_v vs 0) 8 := congrArg v_iv f0
  have g2 : v_iv (n_v vs 3) = w_fi ws (n_v vs 0) 6 := congrArg v_iv f2
  have kz_0_6 := fdq_304 hD hth r0
  have kz_0_8 := fdq_305 hD hth r0
  have nf0 : fc_1 PRD (20, [10, 12], [50, 0, 0, 2, 6, 0, 2, 0, 0, 1, 0, 2, 6, 0, 2, 0, 0, 1, 1, 0, 10, 4, 6, 6, 2, 1, 0, 0, 65536, 1, 1, 0, 851970]) ws (vs) := ⟨nf_in hl rfl, sgq_487 (vc_Sy_compileValue_at_k0_3_0 (v_iv (n_v vs 3)) (v_iv (n_v vs 4)) (v_iv (n_v vs 10)) (v_iv (n_v vs 12)) (w_fi ws (n_v vs 0) 8) (w_fi ws (n_v vs 0) 6) k3 k4 k10 k12 g0 g2 (shm_1747 f5) (shm_40 f7) kz_0_6 kz_0_8)⟩
  refine ⟨(fun _ h => (by cases h)), [], trivial, ?_, (fun _ h => (by cases h))⟩
  rw [List.append_nil]
  exact List.forall_mem_cons.mpr ⟨⟨show (20 : Nat) < 100 from by decide, nf0⟩, (fun _ h => (by cases h))⟩
set_option maxHeartbeats 4000000 in
theorem vc_Sy_compileValue_at_k0_4_0 (x3 : Int) (x4 : Int) (x6 : Int) (x7 : Int) (x8 : Int) (x9 : Int) (x10 : Int) (x11 : Int) (kind_0 : Int) (number_0 : Int) (k3 : 0 ≤ x3 ∧ x3 ≤ 127) (k4 : 40 ≤ x4 ∧ x4 ≤ 40) (k6 : 0 ≤ x6 ∧ x6 ≤ 43) (k7 : 3 ≤ x7 ∧ x7 ≤ 3) (k8 : (-1) ≤ x8 ∧ x8 ≤ (-1)) (k9 : 3 ≤ x9 ∧ x9 ≤ 3) (k10 : 1 ≤ x10 ∧ x10 ≤ 1) (k11 : 3 ≤ x11 ∧ x11 ≤ 3) (f0 : x3 ≠ x11) (g1 : x3 = kind_0) (f2 : x3 ≠ x9) (f3 : x6 ≠ x8) (f4 : x3 ≠ x7) (f5 : (kind_0 ≠ 3) ∨ (number_0 ≤ 9999)) (f7 : x3 ≠ x4) (kz_0_6 : 0 ≤ kind_0 ∧ kind_0 ≤ 127) (kz_0_8 : 0 ≤ number_0 ∧ number_0 ≤ 1000000) : (0 ≤ x10) ∧ ((0 ≤ x6) ∧ (((x10 * 65536) + x6) ≤ 851970)) := by
  first
    | omega
  
def o_Sy_compileValue_at_k0_4 : or_T := (108, 12, [(0, (2, 0, 0, [11])), (3, (0, 0, 127, [])), (4, (0, 40, 40, [])), (6, (0, 0, 43, [])), (7, (0, 3, 3, [])), (8, (0, -1, -1, [])), (9, (0, 3, 3, [])), (10, (0, 1, 1, [])), (11, (0, 3, 3, []))], [(7, [3, 11], [1]), (9, [3, 0], [6]), (7, [3, 9], [1]), (7, [6, 8], [1]), (7, [3, 7], [1]), (20, [0], [50, 2, 0, 6, 8, 3, 7, 7, 3, 2, 0, 6, 0, 3, 0, 3, 2, 0, 8, 0, 9999]), (102, [5], [0]), (7, [3, 4], [1])], [], [], [(20, [10, 6], [50, 0, 0, 2, 6, 0, 2, 0, 0, 1, 0, 2, 6, 0, 2, 0, 0, 1, 1, 0, 10, 4, 6, 6, 2, 1, 0, 0, 65536, 1, 1, 0, 851970])], [], [])
theorem oo_Sy_compileValue_at_k0_4 {kA : Nat → ClassId} : or_ok PRD kA GG o_Sy_compileValue_at_k0_4 := by
  refine or_mk fun A ta ws vs hD hth hl => ?_
  intro t0 r0 t3 k3 t4 k4 t6 k6 t7 k7 t8 k8 t9 k9 t10 k10 t11 k11 f0 f1 f2 f3 f4 f5 ta1 w1 le1 s1 f7
  replace f1 := shm_110 f1
  have g1 : v_iv (n_v vs 3) = w_fi ws (n_v vs 0) 6 := congrArg v_iv f1
  have kz_0_6 := fdq_304 hD hth r0
  have kz_0_8 := fdq_305 hD hth r0
  have nf0 : fc_1 PRD (20, [10, 6], [50, 0, 0, 2, 6, 0, 2, 0, 0, 1, 0, 2, 6, 0, 2, 0, 0, 1, 1, 0, 10, 4, 6, 6, 2, 1, 0, 0, 65536, 1, 1, 0, 851970]) ws (vs) := ⟨nf_in hl rfl, sgq_487 (vc_Sy_compileValue_at_k0_4_0 (v_iv (n_v vs 3)) (v_iv (n_v vs 4)) (v_iv (n_v vs 6)) (v_iv (n_v vs 7)) (v_iv (n_v vs 8)) (v_iv (n_v vs 9)) (v_iv (n_v vs 10)) (v_iv (n_v vs 11)) (w_fi ws (n_v vs 0) 6) (w_fi ws (n_v vs 0) 8) k3 k4 k6 k7 k8 k9 k10 k11 (shm_40 f0) g1 (shm_40 f2) (shm_40 f3) (shm_40 f4) (shm_1747 f5) (shm_40 f7) kz_0_6 kz_0_8)⟩
  refine ⟨(fun _ h => (by cases h)), [], trivial, ?_, (fun _ h => (by cases h))⟩
  rw [List.append_nil]
  exact List.forall_mem_cons.mpr ⟨⟨show (20 : Nat) < 100 from by decide, nf0⟩, (fun _ h => (by cases h))⟩
def n_Sy_compileValue_at_k0_an : List an_T := []
def t_Sy_compileValue_at_k0_ct : ct_L := [(1, 69, e_Sy_advance), (1, 118, e_Sy_fail), (1, 128, e_Sy_emit), (1, 152, e_Sy_closes), (91, 137, e_Sy_compileSum_at_k1), (169, 114, e_Sy_wordIn_at_s5007), (169, 114, e_Sy_wordIn_at_s5004)]
set_option maxRecDepth 100000 in
theorem c_Sy_compileValue_at_k0 {l : Launch} {D : va_G} {kA : Nat → ClassId} (h_Sy_advance : ct_ok PRD l D kA GG y_Sy_advance z_Sy_advance e_Sy_advance) (h_Sy_closes : ct_ok PRD l D kA GG y_Sy_closes z_Sy_closes e_Sy_closes) (h_Sy_compileSum_at_k1 : ct_ok PRD l D kA GG y_Sy_compileSum_at_k1 z_Sy_compileSum_at_k1 e_Sy_compileSum_at_k1) (h_Sy_emit : ct_ok PRD l D kA GG y_Sy_emit z_Sy_emit e_Sy_emit) (h_Sy_fail : ct_ok PRD l D kA GG y_Sy_fail z_Sy_fail e_Sy_fail) (h_Sy_wordIn_at_s5004 : ct_ok PRD l D kA GG y_Sy_wordIn_at_s5004 z_Sy_wordIn_at_s5004 e_Sy_wordIn_at_s5004) (h_Sy_wordIn_at_s5007 : ct_ok PRD l D kA GG y_Sy_wordIn_at_s5007 z_Sy_wordIn_at_s5007 e_Sy_wordIn_at_s5007) : ct_ok PRD l D kA GG y_Sy_compileValue_at_k0 z_Sy_compileValue_at_k0 e_Sy_compileValue_at_k0 := chk_all_ok (FT := [(31, 11, 6), (37, 11, 8), (42, 11, 9)]) (PT := []) (CT := t_Sy_compileValue_at_k0_ct) (KT := []) (NT := []) (AN := n_Sy_compileValue_at_k0_an) (OT := [o_Sy_compileValue_at_k0_0, o_Sy_compileValue_at_k0_1, o_Sy_compileValue_at_k0_2, o_Sy_compileValue_at_k0_3, o_Sy_compileValue_at_k0_4]) 0 684 (List.forall_mem_cons.mpr ⟨oo_Sy_compileValue_at_k0_0, List.forall_mem_cons.mpr ⟨oo_Sy_compileValue_at_k0_1, List.forall_mem_cons.mpr ⟨oo_Sy_compileValue_at_k0_2, List.forall_mem_cons.mpr ⟨oo_Sy_compileValue_at_k0_3, List.forall_mem_cons.mpr ⟨oo_Sy_compileValue_at_k0_4, List.forall_mem_nil _⟩⟩⟩⟩⟩) (by decide +kernel) ⟨List.forall_mem_cons.mpr ⟨gf_Sy_31, List.forall_mem_cons.mpr ⟨gf_Sy_37, List.forall_mem_cons.mpr ⟨gf_Sy_42, List.forall_mem_nil _⟩⟩⟩, List.forall_mem_nil _, List.forall_mem_cons.mpr ⟨cl_virtual (y := y_Sy_advance) (ci := 11) rfl rfl ⟨_, _, rfl⟩ (by decide +kernel) h_Sy_advance wm_2158 wm_23 wm_2155 wm_2157 wv_10_10 ⟨by decide, by decide, by decide +kernel⟩ (by decide), List.forall_mem_cons.mpr ⟨cl_virtual (y := y_Sy_fail) (ci := 11) rfl rfl ⟨_, _, rfl⟩ (by decide +kernel) h_Sy_fail wm_2239 wm_23 wm_2236 wm_2238 wv_10_14 ⟨by decide, by decide, by decide +kernel⟩ (by decide), List.forall_mem_cons.mpr ⟨cl_virtual (y := y_Sy_emit) (ci := 11) rfl rfl ⟨_, _, rfl⟩ (by decide +kernel) h_Sy_emit wm_2258 wm_23 wm_2255 wm_2257 wv_11_2 ⟨by decide, by decide, by decide +kernel⟩ (by decide), List.forall_mem_cons.mpr ⟨cl_virtual (y := y_Sy_closes) (ci := 11) rfl rfl ⟨_, _, rfl⟩ (by decide +kernel) h_Sy_closes wm_2262 wm_23 wm_2259 wm_2261 wv_11_3 ⟨by decide, by decide, by decide +kernel⟩ (by decide), List.forall_mem_cons.mpr ⟨cl_virtual (y := y_Sy_compileSum_at_k1) (ci := 11) rfl rfl ⟨_, _, rfl⟩ (by decide +kernel) h_Sy_compileSum_at_k1 wm_2266 wm_23 wm_2263 wm_2265 wv_11_4 ⟨by decide, by decide, by decide +kernel⟩ (by decide), List.forall_mem_cons.mpr ⟨cl_virtual (y := y_Sy_wordIn_at_s5007) (ci := 11) rfl rfl ⟨_, _, rfl⟩ (by decide +kernel) h_Sy_wordIn_at_s5007 wm_2229 wm_23 wm_2226 wm_2228 wv_10_12 ⟨by decide, by decide, by decide +kernel⟩ (by decide), List.forall_mem_cons.mpr ⟨cl_virtual (y := y_Sy_wordIn_at_s5004) (ci := 11) rfl rfl ⟨_, _, rfl⟩ (by decide +kernel) h_Sy_wordIn_at_s5004 wm_2229 wm_23 wm_2226 wm_2228 wv_10_12 ⟨by decide, by decide, by decide +kernel⟩ (by decide), List.forall_mem_nil _⟩⟩⟩⟩⟩⟩⟩, List.forall_mem_nil _, List.forall_mem_nil _, GG_pl⟩ (by decide +kernel)
set_option maxHeartbeats 4000000 in
theorem vc_Sy_compileValue_at_k1_0_0 (x3 : Int) (x4 : Int) (x9 : Int) (x11 : Int) (number_0 : Int) (kind_0 : Int) (k3 : 3 ≤ x3 ∧ x3 ≤ 3) (k4 : 40 ≤ x4 ∧ x4 ≤ 40) (k9 : 0 ≤ x9 ∧ x9 ≤ 0) (k11 : 0 ≤ x11 ∧ x11 ≤ 1000000) (g0 : x11 = number_0) (g2 : x3 = kind_0) (f5 : (kind_0 ≠ 3) ∨ (number_0 ≤ 9999)) (f7 : x3 ≠ x4) (kz_0_6 : 0 ≤ kind_0 ∧ kind_0 ≤ 127) (kz_0_8 : 0 ≤ number_0 ∧ number_0 ≤ 1000000) : (0 ≤ x9) ∧ ((0 ≤ x11) ∧ (((x9 * 65536) + x11) ≤ 851970)) := by
  first
    | omega
  
def o_Sy_compileValue_at_k1_0 : or_T := (108, 12, [(0, (2, 0, 0, [11])), (3, (0, 3, 3, [])), (4, (0, 40, 40, [])), (7, (0, 3, 3, [])), (8, (0, 3, 3, [])), (9, (0, 0, 0, [])), (10, (0, 3, 3, [])), (11, (0, 0, 1000000, []))], [(9, [11, 0], [8]), (7, [3, 10], [0]), (9, [3, 0], [6]), (7, [3, 8], [0]), (7, [3, 7], [0]), (20, [0], [50, 2, 0, 6, 8, 3, 7, 7, 3, 2, 0, 6, 0, 3, 0, 3, 2, 0, 8, 0, 9999]), (102, [5], [0]), (7, [3, 4], [1])], [], [], [(20, [9, 11], [50, 0, 0, 2, 6, 0, 2, 0, 0, 1, 0, 2, 6, 0, 2, 0, 0, 1, 1, 0, 10, 4, 6, 6, 2, 1, 0, 0, 65536, 1, 1, 0, 851970])], [], [])
theorem oo_Sy_compileValue_at_k1_0 {kA : Nat → ClassId} : or_ok PRD kA GG o_Sy_compileValue_at_k1_0 := by
  refine or_mk fun A ta ws vs hD hth hl => ?_
  intro t0 r0 t3 k3 t4 k4 t7 k7 t8 k8 t9 k9 t10 k10 t11 k11 f0 f1 f2 f3 f4 f5 ta1 w1 le1 s1 f7
  replace f0 := shm_143 f0
  replace f2 := shm_110 f2
  have g0 : v_iv (n_v vs 11) = w_fi ws (n_v vs 0) 8 := congrArg v_iv f0
  have g2 : v_iv (n_v vs 3) = w_fi ws (n_v vs 0) 6 := congrArg v_iv f2
  have kz_0_6 := fdq_304 hD hth r0
  have kz_0_8 := fdq_305 hD hth r0
  have nf0 : fc_1 PRD (20, [9, 11], [50, 0, 0, 2, 6, 0, 2, 0, 0, 1, 0, 2, 6, 0, 2, 0, 0, 1, 1, 0, 10, 4, 6, 6, 2, 1, 0, 0, 65536, 1, 1, 0, 851970]) ws (vs) := ⟨nf_in hl rfl, sgq_487 (vc_Sy_compileValue_at_k1_0_0 (v_iv (n_v vs 3)) (v_iv (n_v vs 4)) (v_iv (n_v vs 9)) (v_iv (n_v vs 11)) (w_fi ws (n_v vs 0) 8) (w_fi ws (n_v vs 0) 6) k3 k4 k9 k11 g0 g2 (shm_1747 f5) (shm_40 f7) kz_0_6 kz_0_8)⟩
  refine ⟨(fun _ h => (by cases h)), [], trivial, ?_, (fun _ h => (by cases h))⟩
  rw [List.append_nil]
  exact List.forall_mem_cons.mpr ⟨⟨show (20 : Nat) < 100 from by decide, nf0⟩, (fun _ h => (by cases h))⟩
set_option maxHeartbeats 4000000 in
theorem vc_Sy_compileValue_at_k1_1_0 (x3 : Int) (x4 : Int) (x6 : Int) (x7 : Int) (x8 : Int) (x9 : Int) (x10 : Int) (x11 : Int) (kind_0 : Int) (number_0 : Int) (k3 : 0 ≤ x3 ∧ x3 ≤ 127) (k4 : 40 ≤ x4 ∧ x4 ≤ 40) (k6 : 0 ≤ x6 ∧ x6 ≤ 38) (k7 : 3 ≤ x7 ∧ x7 ≤ 3) (k8 : (-1) ≤ x8 ∧ x8 ≤ (-1)) (k9 : 3 ≤ x9 ∧ x9 ≤ 3) (k10 : 1 ≤ x10 ∧ x10 ≤ 1) (k11 : 3 ≤ x11 ∧ x11 ≤ 3) (f0 : x3 ≠ x11) (g1 : x3 = kind_0) (f2 : x3 ≠ x9) (f3 : x6 ≠ x8) (f4 : x3 ≠ x7) (f5 : (kind_0 ≠ 3) ∨ (number_0 ≤ 9999)) (f7 : x3 ≠ x4) (kz_0_6 : 0 ≤ kind_0 ∧ kind_0 ≤ 127) (kz_0_8 : 0 ≤ number_0 ∧ number_0 ≤ 1000000) : (0 ≤ x10) ∧ ((0 ≤ x6) ∧ (((x10 * 65536) + x6) ≤ 851970)) := by
  first
    | omega
  
def o_Sy_compileValue_at_k1_1 : or_T := (108, 12, [(0, (2, 0, 0, [11])), (3, (0, 0, 127, [])), (4, (0, 40, 40, [])), (6, (0, 0, 38, [])), (7, (0, 3, 3, [])), (8, (0, -1, -1, [])), (9, (0, 3, 3, [])), (10, (0, 1, 1, [])), (11, (0, 3, 3, []))], [(7, [3, 11], [1]), (9, [3, 0], [6]), (7, [3, 9], [1]), (7, [6, 8], [1]), (7, [3, 7], [1]), (20, [0], [50, 2, 0, 6, 8, 3, 7, 7, 3, 2, 0, 6, 0, 3, 0, 3, 2, 0, 8, 0, 9999]), (102, [5], [0]), (7, [3, 4], [1])], [], [], [(20, [10, 6], [50, 0, 0, 2, 6, 0, 2, 0, 0, 1, 0, 2, 6, 0, 2, 0, 0, 1, 1, 0, 10, 4, 6, 6, 2, 1, 0, 0, 65536, 1, 1, 0, 851970])], [], [])
theorem oo_Sy_compileValue_at_k1_1 {kA : Nat → ClassId} : or_ok PRD kA GG o_Sy_compileValue_at_k1_1 := by
  refine or_mk fun A ta ws vs hD hth hl => ?_
  intro t0 r0 t3 k3 t4 k4 t6 k6 t7 k7 t8 k8 t9 k9 t10 k10 t11 k11 f0 f1 f2 f3 f4 f5 ta1 w1 le1 s1 f7
  replace f1 := shm_110 f1
  have g1 : v_iv (n_v vs 3) = w_fi ws (n_v vs 0) 6 := congrArg v_iv f1
  have kz_0_6 := fdq_304 hD hth r0
  have kz_0_8 := fdq_305 hD hth r0
  have nf0 : fc_1 PRD (20, [10, 6], [50, 0, 0, 2, 6, 0, 2, 0, 0, 1, 0, 2, 6, 0, 2, 0, 0, 1, 1, 0, 10, 4, 6, 6, 2, 1, 0, 0, 65536, 1, 1, 0, 851970]) ws (vs) := ⟨nf_in hl rfl, sgq_487 (vc_Sy_compileValue_at_k1_1_0 (v_iv (n_v vs 3)) (v_iv (n_v vs 4)) (v_iv (n_v vs 6)) (v_iv (n_v vs 7)) (v_iv (n_v vs 8)) (v_iv (n_v vs 9)) (v_iv (n_v vs 10)) (v_iv (n_v vs 11)) (w_fi ws (n_v vs 0) 6) (w_fi ws (n_v vs 0) 8) k3 k4 k6 k7 k8 k9 k10 k11 (shm_40 f0) g1 (shm_40 f2) (shm_40 f3) (shm_40 f4) (shm_1747 f5) (shm_40 f7) kz_0_6 kz_0_8)⟩
  refine ⟨(fun _ h => (by cases h)), [], trivial, ?_, (fun _ h => (by cases h))⟩
  rw [List.append_nil]
  exact List.forall_mem_cons.mpr ⟨⟨show (20 : Nat) < 100 from by decide, nf0⟩, (fun _ h => (by cases h))⟩
set_option maxHeartbeats 4000000 in
theorem vc_Sy_compileValue_at_k1_2_0 (x3 : Int) (x4 : Int) (x10 : Int) (x12 : Int) (number_0 : Int) (kind_0 : Int) (k3 : 3 ≤ x3 ∧ x3 ≤ 3) (k4 : 40 ≤ x4 ∧ x4 ≤ 40) (k10 : 1 ≤ x10 ∧ x10 ≤ 1) (k12 : 0 ≤ x12 ∧ x12 ≤ 1000000) (g0 : x12 = number_0) (g2 : x3 = kind_0) (f5 : (kind_0 ≠ 3) ∨ (number_0 ≤ 9999)) (f7 : x3 ≠ x4) (kz_0_6 : 0 ≤ kind_0 ∧ kind_0 ≤ 127) (kz_0_8 : 0 ≤ number_0 ∧ number_0 ≤ 1000000) : (0 ≤ x10) ∧ ((0 ≤ x12) ∧ (((x10 * 65536) + x12) ≤ 851970)) := by
  first
    | omega
  
def o_Sy_compileValue_at_k1_2 : or_T := (108, 13, [(0, (2, 0, 0, [11])), (3, (0, 3, 3, [])), (4, (0, 40, 40, [])), (7, (0, 3, 3, [])), (9, (0, 3, 3, [])), (10, (0, 1, 1, [])), (11, (0, 3, 3, [])), (12, (0, 0, 1000000, []))], [(9, [12, 0], [8]), (7, [3, 11], [0]), (9, [3, 0], [6]), (7, [3, 9], [1]), (7, [3, 7], [1]), (20, [0], [50, 2, 0, 6, 8, 3, 7, 7, 3, 2, 0, 6, 0, 3, 0, 3, 2, 0, 8, 0, 9999]), (102, [5], [0]), (7, [3, 4], [1])], [], [], [(20, [10, 12], [50, 0, 0, 2, 6, 0, 2, 0, 0, 1, 0, 2, 6, 0, 2, 0, 0, 1, 1, 0, 10, 4, 6, 6, 2, 1, 0, 0, 65536, 1, 1, 0, 851970])], [], [])
theorem oo_Sy_compileValue_at_k1_2 {kA : Nat → ClassId} : or_ok PRD kA GG o_Sy_compileValue_at_k1_2 := by
  refine or_mk fun A ta ws vs hD hth hl => ?_
  intro t0 r0 t3 k3 t4 k4 t7 k7 t9 k9 t10 k10 t11 k11 t12 k12 f0 f1 f2 f3 f4 f5 ta1 w1 le1 s1 f7
  replace f0 := shm_143 f0
  replace f2 := shm_110 f2
  have g0 : v_iv (n_v vs 12) = w_fi ws (n_v vs 0) 8 := congrArg v_iv f0
  have g2 : v_iv (n_v vs 3) = w_fi ws (n_v vs 0) 6 := congrArg v_iv f2
  have kz_0_6 := fdq_304 hD hth r0
  have kz_0_8 := fdq_305 hD hth r0
  have nf0 : fc_1 PRD (20, [10, 12], [50, 0, 0, 2, 6, 0, 2, 0, 0, 1, 0, 2, 6, 0, 2, 0, 0, 1, 1, 0, 10, 4, 6, 6, 2, 1, 0, 0, 65536, 1, 1, 0, 851970]) ws (vs) := ⟨nf_in hl rfl, sgq_487 (vc_Sy_compileValue_at_k1_2_0 (v_iv (n_v vs 3)) (v_iv (n_v vs 4)) (v_iv (n_v vs 10)) (v_iv (n_v vs 12)) (w_fi ws (n_v vs 0) 8) (w_fi ws (n_v vs 0) 6) k3 k4 k10 k12 g0 g2 (shm_1747 f5) (shm_40 f7) kz_0_6 kz_0_8)⟩
  refine ⟨(fun _ h => (by cases h)), [], trivial, ?_, (fun _ h => (by cases h))⟩
  rw [List.append_nil]
  exact List.forall_mem_cons.mpr ⟨⟨show (20 : Nat) < 100 from by decide, nf0⟩, (fun _ h => (by cases h))⟩
set_option maxHeartbeats 4000000 in
theorem vc_Sy_compileValue_at_k1_3_0 (x3 : Int) (x4 : Int) (x10 : Int) (x12 : Int) (number_0 : Int) (kind_0 : Int) (k3 : 3 ≤ x3 ∧ x3 ≤ 3) (k4 : 40 ≤ x4 ∧ x4 ≤ 40) (k10 : 0 ≤ x10 ∧ x10 ≤ 0) (k12 : 0 ≤ x12 ∧ x12 ≤ 1000000) (g0 : x12 = number_0) (g2 : x3 = kind_0) (f5 : (kind_0 ≠ 3) ∨ (number_0 ≤ 9999)) (f7 : x3 ≠ x4) (kz_0_6 : 0 ≤ kind_0 ∧ kind_0 ≤ 127) (kz_0_8 : 0 ≤ number_0 ∧ number_0 ≤ 1000000) : (0 ≤ x10) ∧ ((0 ≤ x12) ∧ (((x10 * 65536) + x12) ≤ 851970)) := by
  first
    | omega
  
def o_Sy_compileValue_at_k1_3 : or_T := (108, 13, [(0, (2, 0, 0, [11])), (3, (0, 3, 3, [])), (4, (0, 40, 40, [])), (7, (0, 3, 3, [])), (9, (0, 3, 3, [])), (10, (0, 0, 0, [])), (11, (0, 3, 3, [])), (12, (0, 0, 1000000, []))], [(9, [12, 0], [8]), (7, [3, 11], [0]), (9, [3, 0], [6]), (7, [3, 9], [0]), (7, [3, 7], [1]), (20, [0], [50, 2, 0, 6, 8, 3, 7, 7, 3, 2, 0, 6, 0, 3, 0, 3, 2, 0, 8, 0, 9999]), (102, [5], [0]), (7, [3, 4], [1])], [], [], [(20, [10, 12], [50, 0, 0, 2, 6, 0, 2, 0, 0, 1, 0, 2, 6, 0, 2, 0, 0, 1, 1, 0, 10, 4, 6, 6, 2, 1, 0, 0, 65536, 1, 1, 0, 851970])], [], [])
theorem oo_Sy_compileValue_at_k1_3 {kA : Nat → ClassId} : or_ok PRD kA GG o_Sy_compileValue_at_k1_3 := by
  refine or_mk fun A ta ws vs hD hth hl => ?_
  intro t0 r0 t3 k3 t4 k4 t7 k7 t9 k9 t10 k10 t11 k11 t12 k12 f0 f1 f2 f3 f4 f5 ta1 w1 le1 s1 f7
  replace f0 := shm_143 f0
  replace f2 := shm_110 f2
  have g0 : v_iv (n_v vs 12) = w_fi ws (n_v vs 0) 8 := congrArg v_iv f0
  have g2 : v_iv (n_v vs 3) = w_fi ws (n_v vs 0) 6 := congrArg v_iv f2
  have kz_0_6 := fdq_304 hD hth r0
  have kz_0_8 := fdq_305 hD hth r0
  have nf0 : fc_1 PRD (20, [10, 12], [50, 0, 0, 2, 6, 0, 2, 0, 0, 1, 0, 2, 6, 0, 2, 0, 0, 1, 1, 0, 10, 4, 6, 6, 2, 1, 0, 0, 65536, 1, 1, 0, 851970]) ws (vs) := ⟨nf_in hl rfl, sgq_487 (vc_Sy_compileValue_at_k1_3_0 (v_iv (n_v vs 3)) (v_iv (n_v vs 4)) (v_iv (n_v vs 10)) (v_iv (n_v vs 12)) (w_fi ws (n_v vs 0) 8) (w_fi ws (n_v vs 0) 6) k3 k4 k10 k12 g0 g2 (shm_1747 f5) (shm_40 f7) kz_0_6 kz_0_8)⟩
  refine ⟨(fun _ h => (by cases h)), [], trivial, ?_, (fun _ h => (by cases h))⟩
  rw [List.append_nil]
  exact List.forall_mem_cons.mpr ⟨⟨show (20 : Nat) < 100 from by decide, nf0⟩, (fun _ h => (by cases h))⟩
set_option maxHeartbeats 4000000 in
theorem vc_Sy_compileValue_at_k1_4_0 (x3 : Int) (x4 : Int) (x6 : Int) (x7 : Int) (x8 : Int) (x9 : Int) (x10 : Int) (x11 : Int) (kind_0 : Int) (number_0 : Int) (k3 : 0 ≤ x3 ∧ x3 ≤ 127) (k4 : 40 ≤ x4 ∧ x4 ≤ 40) (k6 : 0 ≤ x6 ∧ x6 ≤ 43) (k7 : 3 ≤ x7 ∧ x7 ≤ 3) (k8 : (-1) ≤ x8 ∧ x8 ≤ (-1)) (k9 : 3 ≤ x9 ∧ x9 ≤ 3) (k10 : 1 ≤ x10 ∧ x10 ≤ 1) (k11 : 3 ≤ x11 ∧ x11 ≤ 3) (f0 : x3 ≠ x11) (g1 : x3 = kind_0) (f2 : x3 ≠ x9) (f3 : x6 ≠ x8) (f4 : x3 ≠ x7) (f5 : (kind_0 ≠ 3) ∨ (number_0 ≤ 9999)) (f7 : x3 ≠ x4) (kz_0_6 : 0 ≤ kind_0 ∧ kind_0 ≤ 127) (kz_0_8 : 0 ≤ number_0 ∧ number_0 ≤ 1000000) : (0 ≤ x10) ∧ ((0 ≤ x6) ∧ (((x10 * 65536) + x6) ≤ 851970)) := by
  first
    | omega
  
def o_Sy_compileValue_at_k1_4 : or_T := (108, 12, [(0, (2, 0, 0, [11])), (3, (0, 0, 127, [])), (4, (0, 40, 40, [])), (6, (0, 0, 43, [])), (7, (0, 3, 3, [])), (8, (0, -1, -1, [])), (9, (0, 3, 3, [])), (10, (0, 1, 1, [])), (11, (0, 3, 3, []))], [(7, [3, 11], [1]), (9, [3, 0], [6]), (7, [3, 9], [1]), (7, [6, 8], [1]), (7, [3, 7], [1]), (20, [0], [50, 2, 0, 6, 8, 3, 7, 7, 3, 2, 0, 6, 0, 3, 0, 3, 2, 0, 8, 0, 9999]), (102, [5], [0]), (7, [3, 4], [1])], [], [], [(20, [10, 6], [50, 0, 0, 2, 6, 0, 2, 0, 0, 1, 0, 2, 6, 0, 2, 0, 0, 1, 1, 0, 10, 4, 6, 6, 2, 1, 0, 0, 65536, 1, 1, 0, 851970])], [], [])
theorem oo_Sy_compileValue_at_k1_4 {kA : Nat → ClassId} : or_ok PRD kA GG o_Sy_compileValue_at_k1_4 := by
  refine or_mk fun A ta ws vs hD hth hl => ?_
  intro t0 r0 t3 k3 t4 k4 t6 k6 t7 k7 t8 k8 t9 k9 t10 k10 t11 k11 f0 f1 f2 f3 f4 f5 ta1 w1 le1 s1 f7
  replace f1 := shm_110 f1
  have g1 : v_iv (n_v vs 3) = w_fi ws (n_v vs 0) 6 := congrArg v_iv f1
  have kz_0_6 := fdq_304 hD hth r0
  have kz_0_8 := fdq_305 hD hth r0
  have nf0 : fc_1 PRD (20, [10, 6], [50, 0, 0, 2, 6, 0, 2, 0, 0, 1, 0, 2, 6, 0, 2, 0, 0, 1, 1, 0, 10, 4, 6, 6, 2, 1, 0, 0, 65536, 1, 1, 0, 851970]) ws (vs) := ⟨nf_in hl rfl, sgq_487 (vc_Sy_compileValue_at_k1_4_0 (v_iv (n_v vs 3)) (v_iv (n_v vs 4)) (v_iv (n_v vs 6)) (v_iv (n_v vs 7)) (v_iv (n_v vs 8)) (v_iv (n_v vs 9)) (v_iv (n_v vs 10)) (v_iv (n_v vs 11)) (w_fi ws (n_v vs 0) 6) (w_fi ws (n_v vs 0) 8) k3 k4 k6 k7 k8 k9 k10 k11 (shm_40 f0) g1 (shm_40 f2) (shm_40 f3) (shm_40 f4) (shm_1747 f5) (shm_40 f7) kz_0_6 kz_0_8)⟩
  refine ⟨(fun _ h => (by cases h)), [], trivial, ?_, (fun _ h => (by cases h))⟩
  rw [List.append_nil]
  exact List.forall_mem_cons.mpr ⟨⟨show (20 : Nat) < 100 from by decide, nf0⟩, (fun _ h => (by cases h))⟩
def n_Sy_compileValue_at_k1_an : List an_T := []
def t_Sy_compileValue_at_k1_ct : ct_L := [(1, 69, e_Sy_advance), (1, 118, e_Sy_fail), (1, 128, e_Sy_emit), (1, 152, e_Sy_closes), (91, 137, e_Sy_compileSum_at_k2), (169, 114, e_Sy_wordIn_at_s5007), (169, 114, e_Sy_wordIn_at_s5004)]
set_option maxRecDepth 100000 in
theorem c_Sy_compileValue_at_k1 {l : Launch} {D : va_G} {kA : Nat → ClassId} (h_Sy_advance : ct_ok PRD l D kA GG y_Sy_advance z_Sy_advance e_Sy_advance) (h_Sy_closes : ct_ok PRD l D kA GG y_Sy_closes z_Sy_closes e_Sy_closes) (h_Sy_compileSum_at_k2 : ct_ok PRD l D kA GG y_Sy_compileSum_at_k2 z_Sy_compileSum_at_k2 e_Sy_compileSum_at_k2) (h_Sy_emit : ct_ok PRD l D kA GG y_Sy_emit z_Sy_emit e_Sy_emit) (h_Sy_fail : ct_ok PRD l D kA GG y_Sy_fail z_Sy_fail e_Sy_fail) (h_Sy_wordIn_at_s5004 : ct_ok PRD l D kA GG y_Sy_wordIn_at_s5004 z_Sy_wordIn_at_s5004 e_Sy_wordIn_at_s5004) (h_Sy_wordIn_at_s5007 : ct_ok PRD l D kA GG y_Sy_wordIn_at_s5007 z_Sy_wordIn_at_s5007 e_Sy_wordIn_at_s5007) : ct_ok PRD l D kA GG y_Sy_compileValue_at_k1 z_Sy_compileValue_at_k1 e_Sy_compileValue_at_k1 := chk_all_ok (FT := [(31, 11, 6), (37, 11, 8), (42, 11, 9)]) (PT := []) (CT := t_Sy_compileValue_at_k1_ct) (KT := []) (NT := []) (AN := n_Sy_compileValue_at_k1_an) (OT := [o_Sy_compileValue_at_k1_0, o_Sy_compileValue_at_k1_1, o_Sy_compileValue_at_k1_2, o_Sy_compileValue_at_k1_3, o_Sy_compileValue_at_k1_4]) 0 684 (List.forall_mem_cons.mpr ⟨oo_Sy_compileValue_at_k1_0, List.forall_mem_cons.mpr ⟨oo_Sy_compileValue_at_k1_1, List.forall_mem_cons.mpr ⟨oo_Sy_compileValue_at_k1_2, List.forall_mem_cons.mpr ⟨oo_Sy_compileValue_at_k1_3, List.forall_mem_cons.mpr ⟨oo_Sy_compileValue_at_k1_4, List.forall_mem_nil _⟩⟩⟩⟩⟩) (by decide +kernel) ⟨List.forall_mem_cons.mpr ⟨gf_Sy_31, List.forall_mem_cons.mpr ⟨gf_Sy_37, List.forall_mem_cons.mpr ⟨gf_Sy_42, List.forall_mem_nil _⟩⟩⟩, List.forall_mem_nil _, List.forall_mem_cons.mpr ⟨cl_virtual (y := y_Sy_advance) (ci := 11) rfl rfl ⟨_, _, rfl⟩ (by decide +kernel) h_Sy_advance wm_2158 wm_23 wm_2155 wm_2157 wv_10_10 ⟨by decide, by decide, by decide +kernel⟩ (by decide), List.forall_mem_cons.mpr ⟨cl_virtual (y := y_Sy_fail) (ci := 11) rfl rfl ⟨_, _, rfl⟩ (by decide +kernel) h_Sy_fail wm_2239 wm_23 wm_2236 wm_2238 wv_10_14 ⟨by decide, by decide, by decide +kernel⟩ (by decide), List.forall_mem_cons.mpr ⟨cl_virtual (y := y_Sy_emit) (ci := 11) rfl rfl ⟨_, _, rfl⟩ (by decide +kernel) h_Sy_emit wm_2258 wm_23 wm_2255 wm_2257 wv_11_2 ⟨by decide, by decide, by decide +kernel⟩ (by decide), List.forall_mem_cons.mpr ⟨cl_virtual (y := y_Sy_closes) (ci := 11) rfl rfl ⟨_, _, rfl⟩ (by decide +kernel) h_Sy_closes wm_2262 wm_23 wm_2259 wm_2261 wv_11_3 ⟨by decide, by decide, by decide +kernel⟩ (by decide), List.forall_mem_cons.mpr ⟨cl_virtual (y := y_Sy_compileSum_at_k2) (ci := 11) rfl rfl ⟨_, _, rfl⟩ (by decide +kernel) h_Sy_compileSum_at_k2 wm_2266 wm_23 wm_2263 wm_2265 wv_11_4 ⟨by decide, by decide, by decide +kernel⟩ (by decide), List.forall_mem_cons.mpr ⟨cl_virtual (y := y_Sy_wordIn_at_s5007) (ci := 11) rfl rfl ⟨_, _, rfl⟩ (by decide +kernel) h_Sy_wordIn_at_s5007 wm_2229 wm_23 wm_2226 wm_2228 wv_10_12 ⟨by decide, by decide, by decide +kernel⟩ (by decide), List.forall_mem_cons.mpr ⟨cl_virtual (y := y_Sy_wordIn_at_s5004) (ci := 11) rfl rfl ⟨_, _, rfl⟩ (by decide +kernel) h_Sy_wordIn_at_s5004 wm_2229 wm_23 wm_2226 wm_2228 wv_10_12 ⟨by decide, by decide, by decide +kernel⟩ (by decide), List.forall_mem_nil _⟩⟩⟩⟩⟩⟩⟩, List.forall_mem_nil _, List.forall_mem_nil _, GG_pl⟩ (by decide +kernel)

set_option maxHeartbeats 4000000 in
theorem vc_Sy_compileValue_at_k10_0_0 (x3 : Int) (x4 : Int) (x9 : Int) (x11 : Int) (number_0 : Int) (kind_0 : Int) (k3 : 3 ≤ x3 ∧ x3 ≤ 3) (k4 : 40 ≤ x4 ∧ x4 ≤ 40) (k9 : 0 ≤ x9 ∧ x9 ≤ 0) (k11 : 0 ≤ x11 ∧ x11 ≤ 1000000) (g0 : x11 = number_0) (g2 : x3 = kind_0) (f5 : (kind_0 ≠ 3) ∨ (number_0 ≤ 9999)) (f7 : x3 ≠ x4) (kz_0_6 : 0 ≤ kind_0 ∧ kind_0 ≤ 127) (kz_0_8 : 0 ≤ number_0 ∧ number_0 ≤ 1000000) : (0 ≤ x9) ∧ ((0 ≤ x11) ∧ (((x9 * 65536) + x11) ≤ 851970)) := by
  first
    | omega
  
def o_Sy_compileValue_at_k10_0 : or_T := (108, 12, [(0, (2, 0, 0, [11])), (3, (0, 3, 3, [])), (4, (0, 40, 40, [])), (7, (0, 3, 3, [])), (8, (0, 3, 3, [])), (9, (0, 0, 0, [])), (10, (0, 3, 3, [])), (11, (0, 0, 1000000, []))], [(9, [11, 0], [8]), (7, [3, 10], [0]), (9, [3, 0], [6]), (7, [3, 8], [0]), (7, [3, 7], [0]), (20, [0], [50, 2, 0, 6, 8, 3, 7, 7, 3, 2, 0, 6, 0, 3, 0, 3, 2, 0, 8, 0, 9999]), (102, [5], [0]), (7, [3, 4], [1])], [], [], [(20, [9, 11], [50, 0, 0, 2, 6, 0, 2, 0, 0, 1, 0, 2, 6, 0, 2, 0, 0, 1, 1, 0, 10, 4, 6, 6, 2, 1, 0, 0, 65536, 1, 1, 0, 851970])], [], [])
theorem oo_Sy_compileValue_at_k10_0 {kA : Nat → ClassId} : or_ok PRD kA GG o_Sy_compileValue_at_k10_0 := by
  refine or_mk fun A ta ws vs hD hth hl => ?_
  intro t0 r0 t3 k3 t4 k4 t7 k7 t8 k8 t9 k9 t10 k10 t11 k11 f0 f1 f2 f3 f4 f5 ta1 w1 le1 s1 f7
  replace f0 := shm_143 f0
  replace f2 := shm_110 f2
  have g0 : v_iv (n_v vs 11) = w_fi ws (n_v vs 0) 8 := congrArg v_iv f0
  have g2 : v_iv (n_v vs 3) = w_fi ws (n_v vs 0) 6 := congrArg v_iv f2
  have kz_0_6 := fdq_304 hD hth r0
  have kz_0_8 := fdq_305 hD hth r0
  have nf0 : fc_1 PRD (20, [9, 11], [50, 0, 0, 2, 6, 0, 2, 0, 0, 1, 0, 2, 6, 0, 2, 0, 0, 1, 1, 0, 10, 4, 6, 6, 2, 1, 0, 0, 65536, 1, 1, 0, 851970]) ws (vs) := ⟨nf_in hl rfl, sgq_487 (vc_Sy_compileValue_at_k10_0_0 (v_iv (n_v vs 3)) (v_iv (n_v vs 4)) (v_iv (n_v vs 9)) (v_iv (n_v vs 11)) (w_fi ws (n_v vs 0) 8) (w_fi ws (n_v vs 0) 6) k3 k4 k9 k11 g0 g2 (shm_1747 f5) (shm_40 f7) kz_0_6 kz_0_8)⟩
  refine ⟨(fun _ h => (by cases h)), [], trivial, ?_, (fun _ h => (by cases h))⟩
  rw [List.append_nil]
  exact List.forall_mem_cons.mpr ⟨⟨show (20 : Nat) < 100 from by decide, nf0⟩, (fun _ h => (by cases h))⟩
set_option maxHeartbeats 4000000 in
theorem vc_Sy_compileValue_at_k10_1_0 (x3 : Int) (x4 : Int) (x6 : Int) (x7 : Int) (x8 : Int) (x9 : Int) (x10 : Int) (x11 : Int) (kind_0 : Int) (number_0 : Int) (k3 : 0 ≤ x3 ∧ x3 ≤ 127) (k4 : 40 ≤ x4 ∧ x4 ≤ 40) (k6 : 0 ≤ x6 ∧ x6 ≤ 38) (k7 : 3 ≤ x7 ∧ x7 ≤ 3) (k8 : (-1) ≤ x8 ∧ x8 ≤ (-1)) (k9 : 3 ≤ x9 ∧ x9 ≤ 3) (k10 : 1 ≤ x10 ∧ x10 ≤ 1) (k11 : 3 ≤ x11 ∧ x11 ≤ 3) (f0 : x3 ≠ x11) (g1 : x3 = kind_0) (f2 : x3 ≠ x9) (f3 : x6 ≠ x8) (f4 : x3 ≠ x7) (f5 : (kind_0 ≠ 3) ∨ (number_0 ≤ 9999)) (f7 : x3 ≠ x4) (kz_0_6 : 0 ≤ kind_0 ∧ kind_0 ≤ 127) (kz_0_8 : 0 ≤ number_0 ∧ number_0 ≤ 1000000) : (0 ≤ x10) ∧ ((0 ≤ x6) ∧ (((x10 * 65536) + x6) ≤ 851970)) := by
  first
    | omega
  
def o_Sy_compileValue_at_k10_1 : or_T := (108, 12, [(0, (2, 0, 0, [11])), (3, (0, 0, 127, [])), (4, (0, 40, 40, [])), (6, (0, 0, 38, [])), (7, (0, 3, 3, [])), (8, (0, -1, -1, [])), (9, (0, 3, 3, [])), (10, (0, 1, 1, [])), (11, (0, 3, 3, []))], [(7, [3, 11], [1]), (9, [3, 0], [6]), (7, [3, 9], [1]), (7, [6, 8], [1]), (7, [3, 7], [1]), (20, [0], [50, 2, 0, 6, 8, 3, 7, 7, 3, 2, 0, 6, 0, 3, 0, 3, 2, 0, 8, 0, 9999]), (102, [5], [0]), (7, [3, 4], [1])], [], [], [(20, [10, 6], [50, 0, 0, 2, 6, 0, 2, 0, 0, 1, 0, 2, 6, 0, 2, 0, 0, 1, 1, 0, 10, 4, 6, 6, 2, 1, 0, 0, 65536, 1, 1, 0, 851970])], [], [])
theorem oo_Sy_compileValue_at_k10_1 {kA : Nat → ClassId} : or_ok PRD kA GG o_Sy_compileValue_at_k10_1 := by
  refine or_mk fun A ta ws vs hD hth hl => ?_
  intro t0 r0 t3 k3 t4 k4 t6 k6 t7 k7 t8 k8 t9 k9 t10 k10 t11 k11 f0 f1 f2 f3 f4 f5 ta1 w1 le1 s1 f7
  replace f1 := shm_110 f1
  have g1 : v_iv (n_v vs 3) = w_fi ws (n_v vs 0) 6 := congrArg v_iv f1
  have kz_0_6 := fdq_304 hD hth r0
  have kz_0_8 := fdq_305 hD hth r0
  have nf0 : fc_1 PRD (20, [10, 6], [50, 0, 0, 2, 6, 0, 2, 0, 0, 1, 0, 2, 6, 0, 2, 0, 0, 1, 1, 0, 10, 4, 6, 6, 2, 1, 0, 0, 65536, 1, 1, 0, 851970]) ws (vs) := ⟨nf_in hl rfl, sgq_487 (vc_Sy_compileValue_at_k10_1_0 (v_iv (n_v vs 3)) (v_iv (n_v vs 4)) (v_iv (n_v vs 6)) (v_iv (n_v vs 7)) (v_iv (n_v vs 8)) (v_iv (n_v vs 9)) (v_iv (n_v vs 10)) (v_iv (n_v vs 11)) (w_fi ws (n_v vs 0) 6) (w_fi ws (n_v vs 0) 8) k3 k4 k6 k7 k8 k9 k10 k11 (shm_40 f0) g1 (shm_40 f2) (shm_40 f3) (shm_40 f4) (shm_1747 f5) (shm_40 f7) kz_0_6 kz_0_8)⟩
  refine ⟨(fun _ h => (by cases h)), [], trivial, ?_, (fun _ h => (by cases h))⟩
  rw [List.append_nil]
  exact List.forall_mem_cons.mpr ⟨⟨show (20 : Nat) < 100 from by decide, nf0⟩, (fun _ h => (by cases h))⟩
set_option maxHeartbeats 4000000 in
theorem vc_Sy_compileValue_at_k10_2_0 (x3 : Int) (x4 : Int) (x10 : Int) (x12 : Int) (number_0 : Int) (kind_0 : Int) (k3 : 3 ≤ x3 ∧ x3 ≤ 3) (k4 : 40 ≤ x4 ∧ x4 ≤ 40) (k10 : 1 ≤ x10 ∧ x10 ≤ 1) (k12 : 0 ≤ x12 ∧ x12 ≤ 1000000) (g0 : x12 = number_0) (g2 : x3 = kind_0) (f5 : (kind_0 ≠ 3) ∨ (number_0 ≤ 9999)) (f7 : x3 ≠ x4) (kz_0_6 : 0 ≤ kind_0 ∧ kind_0 ≤ 127) (kz_0_8 : 0 ≤ number_0 ∧ number_0 ≤ 1000000) : (0 ≤ x10) ∧ ((0 ≤ x12) ∧ (((x10 * 65536) + x12) ≤ 851970)) := by
  first
    | omega
  
def o_Sy_compileValue_at_k10_2 : or_T := (108, 13, [(0, (2, 0, 0, [11])), (3, (0, 3, 3, [])), (4, (0, 40, 40, [])), (7, (0, 3, 3, [])), (9, (0, 3, 3, [])), (10, (0, 1, 1, [])), (11, (0, 3, 3, [])), (12, (0, 0, 1000000, []))], [(9, [12, 0], [8]), (7, [3, 11], [0]), (9, [3, 0], [6]), (7, [3, 9], [1]), (7, [3, 7], [1]), (20, [0], [50, 2, 0, 6, 8, 3, 7, 7, 3, 2, 0, 6, 0, 3, 0, 3, 2, 0, 8, 0, 9999]), (102, [5], [0]), (7, [3, 4], [1])], [], [], [(20, [10, 12], [50, 0, 0, 2, 6, 0, 2, 0, 0, 1, 0, 2, 6, 0, 2, 0, 0, 1, 1, 0, 10, 4, 6, 6, 2, 1, 0, 0, 65536, 1, 1, 0, 851970])], [], [])
theorem oo_Sy_compileValue_at_k10_2 {kA : Nat → ClassId} : or_ok PRD kA GG o_Sy_compileValue_at_k10_2 := by
  refine or_mk fun A ta ws vs hD hth hl => ?_
  intro t0 r0 t3 k3 t4 k4 t7 k7 t9 k9 t10 k10 t11 k11 t12 k12 f0 f1 f2 f3 f4 f5 ta1 w1 le1 s1 f7
  replace f0 := shm_143 f0
  replace f2 := shm_110 f2
  have g0 : v_iv (n_v vs 12) = w_fi ws (n_v vs 0) 8 := congrArg v_iv f0
  have g2 : v_iv (n_v vs 3) = w_fi ws (n_v vs 0) 6 := congrArg v_iv f2
  have kz_0_6 := fdq_304 hD hth r0
  have kz_0_8 := fdq_305 hD hth r0
  have nf0 : fc_1 PRD (20, [10, 12], [50, 0, 0, 2, 6, 0, 2, 0, 0, 1, 0, 2, 6, 0, 2, 0, 0, 1, 1, 0, 10, 4, 6, 6, 2, 1, 0, 0, 65536, 1, 1, 0, 851970]) ws (vs) := ⟨nf_in hl rfl, sgq_487 (vc_Sy_compileValue_at_k10_2_0 (v_iv (n_v vs 3)) (v_iv (n_v vs 4)) (v_iv (n_v vs 10)) (v_iv (n_v vs 12)) (w_fi ws (n_v vs 0) 8) (w_fi ws (n_v vs 0) 6) k3 k4 k10 k12 g0 g2 (shm_1747 f5) (shm_40 f7) kz_0_6 kz_0_8)⟩
  refine ⟨(fun _ h => (by cases h)), [], trivial, ?_, (fun _ h => (by cases h))⟩
  rw [List.append_nil]
  exact List.forall_mem_cons.mpr ⟨⟨show (20 : Nat) < 100 from by decide, nf0⟩, (fun _ h => (by cases h))⟩
set_option maxHeartbeats 4000000 in
theorem vc_Sy_compileValue_at_k10_3_0 (x3 : Int) (x4 : Int) (x10 : Int) (x12 : Int) (number_0 : Int) (kind_0 : Int) (k3 : 3 ≤ x3 ∧ x3 ≤ 3) (k4 : 40 ≤ x4 ∧ x4 ≤ 40) (k10 : 0 ≤ x10 ∧ x10 ≤ 0) (k12 : 0 ≤ x12 ∧ x12 ≤ 1000000) (g0 : x12 = number_0) (g2 : x3 = kind_0) (f5 : (kind_0 ≠ 3) ∨ (number_0 ≤ 9999)) (f7 : x3 ≠ x4) (kz_0_6 : 0 ≤ kind_0 ∧ kind_0 ≤ 127) (kz_0_8 : 0 ≤ number_0 ∧ number_0 ≤ 1000000) : (0 ≤ x10) ∧ ((0 ≤ x12) ∧ (((x10 * 65536) + x12) ≤ 851970)) := by
  first
    | omega
  
def o_Sy_compileValue_at_k10_3 : or_T := (108, 13, [(0, (2, 0, 0, [11])), (3, (0, 3, 3, [])), (4, (0, 40, 40, [])), (7, (0, 3, 3, [])), (9, (0, 3, 3, [])), (10, (0, 0, 0, [])), (11, (0, 3, 3, [])), (12, (0, 0, 1000000, []))], [(9, [12, 0], [8]), (7, [3, 11], [0]), (9, [3, 0], [6]), (7, [3, 9], [0]), (7, [3, 7], [1]), (20, [0], [50, 2, 0, 6, 8, 3, 7, 7, 3, 2, 0, 6, 0, 3, 0, 3, 2, 0, 8, 0, 9999]), (102, [5], [0]), (7, [3, 4], [1])], [], [], [(20, [10, 12], [50, 0, 0, 2, 6, 0, 2, 0, 0, 1, 0, 2, 6, 0, 2, 0, 0, 1, 1, 0, 10, 4, 6, 6, 2, 1, 0, 0, 65536, 1, 1, 0, 851970])], [], [])
theorem oo_Sy_compileValue_at_k10_3 {kA : Nat → ClassId} : or_ok PRD kA GG o_Sy_compileValue_at_k10_3 := by
  refine or_mk fun A ta ws vs hD hth hl => ?_
  intro t0 r0 t3 k3 t4 k4 t7 k7 t9 k9 t10 k10 t11 k11 t12 k12 f0 f1 f2 f3 f4 f5 ta1 w1 le1 s1 f7
  replace f0 := shm_143 f0
  replace f2 := shm_110 f2
  have g0 : v_iv (n_v vs 12) = w_fi ws (n_v vs 0) 8 := congrArg v_iv f0
  have g2 : v_iv (n_v vs 3) = w_fi ws (n_v vs 0) 6 := congrArg v_iv f2
  have kz_0_6 := fdq_304 hD hth r0
  have kz_0_8 := fdq_305 hD hth r0
  have nf0 : fc_1 PRD (20, [10, 12], [50, 0, 0, 2, 6, 0, 2, 0, 0, 1, 0, 2, 6, 0, 2, 0, 0, 1, 1, 0, 10, 4, 6, 6, 2, 1, 0, 0, 65536, 1, 1, 0, 851970]) ws (vs) := ⟨nf_in hl rfl, sgq_487 (vc_Sy_compileValue_at_k10_3_0 (v_iv (n_v vs 3)) (v_iv (n_v vs 4)) (v_iv (n_v vs 10)) (v_iv (n_v vs 12)) (w_fi ws (n_v vs 0) 8) (w_fi ws (n_v vs 0) 6) k3 k4 k10 k12 g0 g2 (shm_1747 f5) (shm_40 f7) kz_0_6 kz_0_8)⟩
  refine ⟨(fun _ h => (by cases h)), [], trivial, ?_, (fun _ h => (by cases h))⟩
  rw [List.append_nil]
  exact List.forall_mem_cons.mpr ⟨⟨show (20 : Nat) < 100 from by decide, nf0⟩, (fun _ h => (by cases h))⟩
set_option maxHeartbeats 4000000 in
theorem vc_Sy_compileValue_at_k10_4_0 (x3 : Int) (x4 : Int) (x6 : Int) (x7 : Int) (x8 : Int) (x9 : Int) (x10 : Int) (x11 : Int) (kind_0 : Int) (number_0 : Int) (k3 : 0 ≤ x3 ∧ x3 ≤ 127) (k4 : 40 ≤ x4 ∧ x4 ≤ 40) (k6 : 0 ≤ x6 ∧ x6 ≤ 43) (k7 : 3 ≤ x7 ∧ x7 ≤ 3) (k8 : (-1) ≤ x8 ∧ x8 ≤ (-1)) (k9 : 3 ≤ x9 ∧ x9 ≤ 3) (k10 : 1 ≤ x10 ∧ x10 ≤ 1) (k11 : 3 ≤ x11 ∧ x11 ≤ 3) (f0 : x3 ≠ x11) (g1 : x3 = kind_0) (f2 : x3 ≠ x9) (f3 : x6 ≠ x8) (f4 : x3 ≠ x7) (f5 : (kind_0 ≠ 3) ∨ (number_0 ≤ 9999)) (f7 : x3 ≠ x4) (kz_0_6 : 0 ≤ kind_0 ∧ kind_0 ≤ 127) (kz_0_8 : 0 ≤ number_0 ∧ number_0 ≤ 1000000) : (0 ≤ x10) ∧ ((0 ≤ x6) ∧ (((x10 * 65536) + x6) ≤ 851970)) := by
  first
    | omega
  
def o_Sy_compileValue_at_k10_4 : or_T := (108, 12, [(0, (2, 0, 0, [11])), (3, (0, 0, 127, [])), (4, (0, 40, 40, [])), (6, (0, 0, 43, [])), (7, (0, 3, 3, [])), (8, (0, -1, -1, [])), (9, (0, 3, 3, [])), (10, (0, 1, 1, [])), (11, (0, 3, 3, []))], [(7, [3, 11], [1]), (9, [3, 0], [6]), (7, [3, 9], [1]), (7, [6, 8], [1]), (7, [3, 7], [1]), (20, [0], [50, 2, 0, 6, 8, 3, 7, 7, 3, 2, 0, 6, 0, 3, 0, 3, 2, 0, 8, 0, 9999]), (102, [5], [0]), (7, [3, 4], [1])], [], [], [(20, [10, 6], [50, 0, 0, 2, 6, 0, 2, 0, 0, 1, 0, 2, 6, 0, 2, 0, 0, 1, 1, 0, 10, 4, 6, 6, 2, 1, 0, 0, 65536, 1, 1, 0, 851970])], [], [])
theorem oo_Sy_compileValue_at_k10_4 {kA : Nat → ClassId} : or_ok PRD kA GG o_Sy_compileValue_at_k10_4 := by
  refine or_mk fun A ta ws vs hD hth hl => ?_
  intro t0 r0 t3 k3 t4 k4 t6 k6 t7 k7 t8 k8 t9 k9 t10 k10 t11 k11 f0 f1 f2 f3 f4 f5 ta1 w1 le1 s1 f7
  replace f1 := shm_110 f1
  have g1 : v_iv (n_v vs 3) = w_fi ws (n_v vs 0) 6 := congrArg v_iv f1
  have kz_0_6 := fdq_304 hD hth r0
  have kz_0_8 := fdq_305 hD hth r0
  have nf0 : fc_1 PRD (20, [10, 6], [50, 0, 0, 2, 6, 0, 2, 0, 0, 1, 0, 2, 6, 0, 2, 0, 0, 1, 1, 0, 10, 4, 6, 6, 2, 1, 0, 0, 65536, 1, 1, 0, 851970]) ws (vs) := ⟨nf_in hl rfl, sgq_487 (vc_Sy_compileValue_at_k10_4_0 (v_iv (n_v vs 3)) (v_iv (n_v vs 4)) (v_iv (n_v vs 6)) (v_iv (n_v vs 7)) (v_iv (n_v vs 8)) (v_iv (n_v vs 9)) (v_iv (n_v vs 10)) (v_iv (n_v vs 11)) (w_fi ws (n_v vs 0) 6) (w_fi ws (n_v vs 0) 8) k3 k4 k6 k7 k8 k9 k10 k11 (shm_40 f0) g1 (shm_40 f2) (shm_40 f3) (shm_40 f4) (shm_1747 f5) (shm_40 f7) kz_0_6 kz_0_8)⟩
  refine ⟨(fun _ h => (by cases h)), [], trivial, ?_, (fun _ h => (by cases h))⟩
  rw [List.append_nil]
  exact List.forall_mem_cons.mpr ⟨⟨show (20 : Nat) < 100 from by decide, nf0⟩, (fun _ h => (by cases h))⟩
def n_Sy_compileValue_at_k10_an : List an_T := []
def t_Sy_compileValue_at_k10_ct : ct_L := [(1, 69, e_Sy_advance), (1, 118, e_Sy_fail), (1, 128, e_Sy_emit), (1, 152, e_Sy_closes), (91, 137, e_Sy_compileSum_at_k11), (169, 114, e_Sy_wordIn_at_s5007), (169, 114, e_Sy_wordIn_at_s5004)]
set_option maxRecDepth 100000 in
theorem c_Sy_compileValue_at_k10 {l : Launch} {D : va_G} {kA : Nat → ClassId} (h_Sy_advance : ct_ok PRD l D kA GG y_Sy_advance z_Sy_advance e_Sy_advance) (h_Sy_closes : ct_ok PRD l D kA GG y_Sy_closes z_Sy_closes e_Sy_closes) (h_Sy_compileSum_at_k11 : ct_ok PRD l D kA GG y_Sy_compileSum_at_k11 z_Sy_compileSum_at_k11 e_Sy_compileSum_at_k11) (h_Sy_emit : ct_ok PRD l D kA GG y_Sy_emit z_Sy_emit e_Sy_emit) (h_Sy_fail : ct_ok PRD l D kA GG y_Sy_fail z_Sy_fail e_Sy_fail) (h_Sy_wordIn_at_s5004 : ct_ok PRD l D kA GG y_Sy_wordIn_at_s5004 z_Sy_wordIn_at_s5004 e_Sy_wordIn_at_s5004) (h_Sy_wordIn_at_s5007 : ct_ok PRD l D kA GG y_Sy_wordIn_at_s5007 z_Sy_wordIn_at_s5007 e_Sy_wordIn_at_s5007) : ct_ok PRD l D kA GG y_Sy_compileValue_at_k10 z_Sy_compileValue_at_k10 e_Sy_compileValue_at_k10 := chk_all_ok (FT := [(31, 11, 6), (37, 11, 8), (42, 11, 9)]) (PT := []) (CT := t_Sy_compileValue_at_k10_ct) (KT := []) (NT := []) (AN := n_Sy_compileValue_at_k10_an) (OT := [o_Sy_compileValue_at_k10_0, o_Sy_compileValue_at_k10_1, o_Sy_compileValue_at_k10_2, o_Sy_compileValue_at_k10_3, o_Sy_compileValue_at_k10_4]) 0 684 (List.forall_mem_cons.mpr ⟨oo_Sy_compileValue_at_k10_0, List.forall_mem_cons.mpr ⟨oo_Sy_compileValue_at_k10_1, List.forall_mem_cons.mpr ⟨oo_Sy_compileValue_at_k10_2, List.forall_mem_cons.mpr ⟨oo_Sy_compileValue_at_k10_3, List.forall_mem_cons.mpr ⟨oo_Sy_compileValue_at_k10_4, List.forall_mem_nil _⟩⟩⟩⟩⟩) (by decide +kernel) ⟨List.forall_mem_cons.mpr ⟨gf_Sy_31, List.forall_mem_cons.mpr ⟨gf_Sy_37, List.forall_mem_cons.mpr ⟨gf_Sy_42, List.forall_mem_nil _⟩⟩⟩, List.forall_mem_nil _, List.forall_mem_cons.mpr ⟨cl_virtual (y := y_Sy_advance) (ci := 11) rfl rfl ⟨_, _, rfl⟩ (by decide +kernel) h_Sy_advance wm_2158 wm_23 wm_2155 wm_2157 wv_10_10 ⟨by decide, by decide, by decide +kernel⟩ (by decide), List.forall_mem_cons.mpr ⟨cl_virtual (y := y_Sy_fail) (ci := 11) rfl rfl ⟨_, _, rfl⟩ (by decide +kernel) h_Sy_fail wm_2239 wm_23 wm_2236 wm_2238 wv_10_14 ⟨by decide, by decide, by decide +kernel⟩ (by decide), List.forall_mem_cons.mpr ⟨cl_virtual (y := y_Sy_emit) (ci := 11) rfl rfl ⟨_, _, rfl⟩ (by decide +kernel) h_Sy_emit wm_2258 wm_23 wm_2255 wm_2257 wv_11_2 ⟨by decide, by decide, by decide +kernel⟩ (by decide), List.forall_mem_cons.mpr ⟨cl_virtual (y := y_Sy_closes) (ci := 11) rfl rfl ⟨_, _, rfl⟩ (by decide +kernel) h_Sy_closes wm_2262 wm_23 wm_2259 wm_2261 wv_11_3 ⟨by decide, by decide, by decide +kernel⟩ (by decide), List.forall_mem_cons.mpr ⟨cl_virtual (y := y_Sy_compileSum_at_k11) (ci := 11) rfl rfl ⟨_, _, rfl⟩ (by decide +kernel) h_Sy_compileSum_at_k11 wm_2266 wm_23 wm_2263 wm_2265 wv_11_4 ⟨by decide, by decide, by decide +kernel⟩ (by decide), List.forall_mem_cons.mpr ⟨cl_virtual (y := y_Sy_wordIn_at_s5007) (ci := 11) rfl rfl ⟨_, _, rfl⟩ (by decide +kernel) h_Sy_wordIn_at_s5007 wm_2229 wm_23 wm_2226 wm_2228 wv_10_12 ⟨by decide, by decide, by decide +kernel⟩ (by decide), List.forall_mem_cons.mpr ⟨cl_virtual (y := y_Sy_wordIn_at_s5004) (ci := 11) rfl rfl ⟨_, _, rfl⟩ (by decide +kernel) h_Sy_wordIn_at_s5004 wm_2229 wm_23 wm_2226 wm_2228 wv_10_12 ⟨by decide, by decide, by decide +kernel⟩ (by decide), List.forall_mem_nil _⟩⟩⟩⟩⟩⟩⟩, List.forall_mem_nil _, List.forall_mem_nil _, GG_pl⟩ (by decide +kernel)
set_option maxHeartbeats 4000000 in
theorem vc_Sy_compileValue_at_k11_0_0 (x3 : Int) (x4 : Int) (x9 : Int) (x11 : Int) (number_0 : Int) (kind_0 : Int) (k3 : 3 ≤ x3 ∧ x3 ≤ 3) (k4 : 40 ≤ x4 ∧ x4 ≤ 40) (k9 : 0 ≤ x9 ∧ x9 ≤ 0) (k11 : 0 ≤ x11 ∧ x11 ≤ 1000000) (g0 : x11 = number_0) (g2 : x3 = kind_0) (f5 : (kind_0 ≠ 3) ∨ (number_0 ≤ 9999)) (f7 : x3 ≠ x4) (kz_0_6 : 0 ≤ kind_0 ∧ kind_0 ≤ 127) (kz_0_8 : 0 ≤ number_0 ∧ number_0 ≤ 1000000) : (0 ≤ x9) ∧ ((0 ≤ x11) ∧ (((x9 * 65536) + x11) ≤ 851970)) := by
  first
    | omega
  
def o_Sy_compileValue_at_k11_0 : or_T := (108, 12, [(0, (2, 0, 0, [11])), (3, (0, 3, 3, [])), (4, (0, 40, 40, [])), (7, (0, 3, 3, [])), (8, (0, 3, 3, [])), (9, (0, 0, 0, [])), (10, (0, 3, 3, [])), (11, (0, 0, 1000000, []))], [(9, [11, 0], [8]), (7, [3, 10], [0]), (9, [3, 0], [6]), (7, [3, 8], [0]), (7, [3, 7], [0]), (20, [0], [50, 2, 0, 6, 8, 3, 7, 7, 3, 2, 0, 6, 0, 3, 0, 3, 2, 0, 8, 0, 9999]), (102, [5], [0]), (7, [3, 4], [1])], [], [], [(20, [9, 11], [50, 0, 0, 2, 6, 0, 2, 0, 0, 1, 0, 2, 6, 0, 2, 0, 0, 1, 1, 0, 10, 4, 6, 6, 2, 1, 0, 0, 65536, 1, 1, 0, 851970])], [], [])
theorem oo_Sy_compileValue_at_k11_0 {kA : Nat → ClassId} : or_ok PRD kA GG o_Sy_compileValue_at_k11_0 := by
  refine or_mk fun A ta ws vs hD hth hl => ?_
  intro t0 r0 t3 k3 t4 k4 t7 k7 t8 k8 t9 k9 t10 k10 t11 k11 f0 f1 f2 f3 f4 f5 ta1 w1 le1 s1 f7
  replace f0 := shm_143 f0
  replace f2 := shm_110 f2
  have g0 : v_iv (n_v vs 11) = w_fi ws (n_v vs 0) 8 := congrArg v_iv f0
  have g2 : v_iv (n_v vs 3) = w_fi ws (n_v vs 0) 6 := congrArg v_iv f2
  have kz_0_6 := fdq_304 hD hth r0
  have kz_0_8 := fdq_305 hD hth r0
  have nf0 : fc_1 PRD (20, [9, 11], [50, 0, 0, 2, 6, 0, 2, 0, 0, 1, 0, 2, 6, 0, 2, 0, 0, 1, 1, 0, 10, 4, 6, 6, 2, 1, 0, 0, 65536, 1, 1, 0, 851970]) ws (vs) := ⟨nf_in hl rfl, sgq_487 (vc_Sy_compileValue_at_k11_0_0 (v_iv (n_v vs 3)) (v_iv (n_v vs 4)) (v_iv (n_v vs 9)) (v_iv (n_v vs 11)) (w_fi ws (n_v vs 0) 8) (w_fi ws (n_v vs 0) 6) k3 k4 k9 k11 g0 g2 (shm_1747 f5) (shm_40 f7) kz_0_6 kz_0_8)⟩
  refine ⟨(fun _ h => (by cases h)), [], trivial, ?_, (fun _ h => (by cases h))⟩
  rw [List.append_nil]
  exact List.forall_mem_cons.mpr ⟨⟨show (20 : Nat) < 100 from by decide, nf0⟩, (fun _ h => (by cases h))⟩
set_option maxHeartbeats 4000000 in
theorem vc_Sy_compileValue_at_k11_1_0 (x3 : Int) (x4 : Int) (x6 : Int) (x7 : Int) (x8 : Int) (x9 : Int) (x10 : Int) (x11 : Int) (kind_0 : Int) (number_0 : Int) (k3 : 0 ≤ x3 ∧ x3 ≤ 127) (k4 : 40 ≤ x4 ∧ x4 ≤ 40) (k6 : 0 ≤ x6 ∧ x6 ≤ 38) (k7 : 3 ≤ x7 ∧ x7 ≤ 3) (k8 : (-1) ≤ x8 ∧ x8 ≤ (-1)) (k9 : 3 ≤ x9 ∧ x9 ≤ 3) (k10 : 1 ≤ x10 ∧ x10 ≤ 1) (k11 : 3 ≤ x11 ∧ x11 ≤ 3) (f0 : x3 ≠ x11) (g1 : x3 = kind_0) (f2 : x3 ≠ x9) (f3 : x6 ≠ x8) (f4 : x3 ≠ x7) (f5 : (kind_0 ≠ 3) ∨ (number_0 ≤ 9999)) (f7 : x3 ≠ x4) (kz_0_6 : 0 ≤ kind_0 ∧ kind_0 ≤ 127) (kz_0_8 : 0 ≤ number_0 ∧ number_0 ≤ 1000000) : (0 ≤ x10) ∧ ((0 ≤ x6) ∧ (((x10 * 65536) + x6) ≤ 851970)) := by
  first
    | omega
  
def o_Sy_compileValue_at_k11_1 : or_T := (108, 12, [(0, (2, 0, 0, [11])), (3, (0, 0, 127, [])), (4, (0, 40, 40, [])), (6, (0, 0, 38, [])), (7, (0, 3, 3, [])), (8, (0, -1, -1, [])), (9, (0, 3, 3, [])), (10, (0, 1, 1, [])), (11, (0, 3, 3, []))], [(7, [3, 11], [1]), (9, [3, 0], [6]), (7, [3, 9], [1]), (7, [6, 8], [1]), (7, [3, 7], [1]), (20, [0], [50, 2, 0, 6, 8, 3, 7, 7, 3, 2, 0, 6, 0, 3, 0, 3, 2, 0, 8, 0, 9999]), (102, [5], [0]), (7, [3, 4], [1])], [], [], [(20, [10, 6], [50, 0, 0, 2, 6, 0, 2, 0, 0, 1, 0, 2, 6, 0, 2, 0, 0, 1, 1, 0, 10, 4, 6, 6, 2, 1, 0, 0, 65536, 1, 1, 0, 851970])], [], [])
theorem oo_Sy_compileValue_at_k11_1 {kA : Nat → ClassId} : or_ok PRD kA GG o_Sy_compileValue_at_k11_1 := by
  refine or_mk fun A ta ws vs hD hth hl => ?_
  intro t0 r0 t3 k3 t4 k4 t6 k6 t7 k7 t8 k8 t9 k9 t10 k10 t11 k11 f0 f1 f2 f3 f4 f5 ta1 w1 le1 s1 f7
  replace f1 := shm_110 f1
  have g1 : v_iv (n_v vs 3) = w_fi ws (n_v vs 0) 6 := congrArg v_iv f1
  have kz_0_6 := fdq_304 hD hth r0
  have kz_0_8 := fdq_305 hD hth r0
  have nf0 : fc_1 PRD (20, [10, 6], [50, 0, 0, 2, 6, 0, 2, 0, 0, 1, 0, 2, 6, 0, 2, 0, 0, 1, 1, 0, 10, 4, 6, 6, 2, 1, 0, 0, 65536, 1, 1, 0, 851970]) ws (vs) := ⟨nf_in hl rfl, sgq_487 (vc_Sy_compileValue_at_k11_1_0 (v_iv (n_v vs 3)) (v_iv (n_v vs 4)) (v_iv (n_v vs 6)) (v_iv (n_v vs 7)) (v_iv (n_v vs 8)) (v_iv (n_v vs 9)) (v_iv (n_v vs 10)) (v_iv (n_v vs 11)) (w_fi ws (n_v vs 0) 6) (w_fi ws (n_v vs 0) 8) k3 k4 k6 k7 k8 k9 k10 k11 (shm_40 f0) g1 (shm_40 f2) (shm_40 f3) (shm_40 f4) (shm_1747 f5) (shm_40 f7) kz_0_6 kz_0_8)⟩
  refine ⟨(fun _ h => (by cases h)), [], trivial, ?_, (fun _ h => (by cases h))⟩
  rw [List.append_nil]
  exact List.forall_mem_cons.mpr ⟨⟨show (20 : Nat) < 100 from by decide, nf0⟩, (fun _ h => (by cases h))⟩
set_option maxHeartbeats 4000000 in
theorem vc_Sy_compileValue_at_k11_2_0 (x3 : Int) (x4 : Int) (x10 : Int) (x12 : Int) (number_0 : Int) (kind_0 : Int) (k3 : 3 ≤ x3 ∧ x3 ≤ 3) (k4 : 40 ≤ x4 ∧ x4 ≤ 40) (k10 : 1 ≤ x10 ∧ x10 ≤ 1) (k12 : 0 ≤ x12 ∧ x12 ≤ 1000000) (g0 : x12 = number_0) (g2 : x3 = kind_0) (f5 : (kind_0 ≠ 3) ∨ (number_0 ≤ 9999)) (f7 : x3 ≠ x4) (kz_0_6 : 0 ≤ kind_0 ∧ kind_0 ≤ 127) (kz_0_8 : 0 ≤ number_0 ∧ number_0 ≤ 1000000) : (0 ≤ x10) ∧ ((0 ≤ x12) ∧ (((x10 * 65536) + x12) ≤ 851970)) := by
  first
    | omega
  
def o_Sy_compileValue_at_k11_2 : or_T := (108, 13, [(0, (2, 0, 0, [11])), (3, (0, 3, 3, [])), (4, (0, 40, 40, [])), (7, (0, 3, 3, [])), (9, (0, 3, 3, [])), (10, (0, 1, 1, [])), (11, (0, 3, 3, [])), (12, (0, 0, 1000000, []))], [(9, [12, 0], [8]), (7, [3, 11], [0]), (9, [3, 0], [6]), (7, [3, 9], [1]), (7, [3, 7], [1]), (20, [0], [50, 2, 0, 6, 8, 3, 7, 7, 3, 2, 0, 6, 0, 3, 0, 3, 2, 0, 8, 0, 9999]), (102, [5], [0]), (7, [3, 4], [1])], [], [], [(20, [10, 12], [50, 0, 0, 2, 6, 0, 2, 0, 0, 1, 0, 2, 6, 0, 2, 0, 0, 1, 1, 0, 10, 4, 6, 6, 2, 1, 0, 0, 65536, 1, 1, 0, 851970])], [], [])
theorem oo_Sy_compileValue_at_k11_2 {kA : Nat → ClassId} : or_ok PRD kA GG o_Sy_compileValue_at_k11_2 := by
  refine or_mk fun A ta ws vs hD hth hl => ?_
  intro t0 r0 t3 k3 t4 k4 t7 k7 t9 k9 t10 k10 t11 k11 t12 k12 f0 f1 f2 f3 f4 f5 ta1 w1 le1 s1 f7
  replace f0 := shm_143 f0
  replace f2 := shm_110 f2
  have g0 : v_iv (n_v vs 12) = w_fi ws (n_v vs 0) 8 := congrArg v_iv f0
  have g2 : v_iv (n_v vs 3) = w_fi ws (n_v vs 0) 6 := congrArg v_iv f2
  have kz_0_6 := fdq_304 hD hth r0
  have kz_0_8 := fdq_305 hD hth r0
  have nf0 : fc_1 PRD (20, [10, 12], [50, 0, 0, 2, 6, 0, 2, 0, 0, 1, 0, 2, 6, 0, 2, 0, 0, 1, 1, 0, 10, 4, 6, 6, 2, 1, 0, 0, 65536, 1, 1, 0, 851970]) ws (vs) := ⟨nf_in hl rfl, sgq_487 (vc_Sy_compileValue_at_k11_2_0 (v_iv (n_v vs 3)) (v_iv (n_v vs 4)) (v_iv (n_v vs 10)) (v_iv (n_v vs 12)) (w_fi ws (n_v vs 0) 8) (w_fi ws (n_v vs 0) 6) k3 k4 k10 k12 g0 g2 (shm_1747 f5) (shm_40 f7) kz_0_6 kz_0_8)⟩
  refine ⟨(fun _ h => (by cases h)), [], trivial, ?_, (fun _ h => (by cases h))⟩
  rw [List.append_nil]
  exact List.forall_mem_cons.mpr ⟨⟨show (20 : Nat) < 100 from by decide, nf0⟩, (fun _ h => (by cases h))⟩
set_option maxHeartbeats 4000000 in
theorem vc_Sy_compileValue_at_k11_3_0 (x3 : Int) (x4 : Int) (x10 : Int) (x12 : Int) (number_0 : Int) (kind_0 : Int) (k3 : 3 ≤ x3 ∧ x3 ≤ 3) (k4 : 40 ≤ x4 ∧ x4 ≤ 40) (k10 : 0 ≤ x10 ∧ x10 ≤ 0) (k12 : 0 ≤ x12 ∧ x12 ≤ 1000000) (g0 : x12 = number_0) (g2 : x3 = kind_0) (f5 : (kind_0 ≠ 3) ∨ (number_0 ≤ 9999)) (f7 : x3 ≠ x4) (kz_0_6 : 0 ≤ kind_0 ∧ kind_0 ≤ 127) (kz_0_8 : 0 ≤ number_0 ∧ number_0 ≤ 1000000) : (0 ≤ x10) ∧ ((0 ≤ x12) ∧ (((x10 * 65536) + x12) ≤ 851970)) := by
  first
    | omega
  
def o_Sy_compileValue_at_k11_3 : or_T := (108, 13, [(0, (2, 0, 0, [11])), (3, (0, 3, 3, [])), (4, (0, 40, 40, [])), (7, (0, 3, 3, [])), (9, (0, 3, 3, [])), (10, (0, 0, 0, [])), (11, (0, 3, 3, [])), (12, (0, 0, 1000000, []))], [(9, [12, 0], [8]), (7, [3, 11], [0]), (9, [3, 0], [6]), (7, [3, 9], [0]), (7, [3, 7], [1]), (20, [0], [50, 2, 0, 6, 8, 3, 7, 7, 3, 2, 0, 6, 0, 3, 0, 3, 2, 0, 8, 0, 9999]), (102, [5], [0]), (7, [3, 4], [1])], [], [], [(20, [10, 12], [50, 0, 0, 2, 6, 0, 2, 0, 0, 1, 0, 2, 6, 0, 2, 0, 0, 1, 1, 0, 10, 4, 6, 6, 2, 1, 0, 0, 65536, 1, 1, 0, 851970])], [], [])
theorem oo_Sy_compileValue_at_k11_3 {kA : Nat → ClassId} : or_ok PRD kA GG o_Sy_compileValue_at_k11_3 := by
  refine or_mk fun A ta ws vs hD hth hl => ?_
  intro t0 r0 t3 k3 t4 k4 t7 k7 t9 k9 t10 k10 t11 k11 t12 k12 f0 f1 f2 f3 f4 f5 ta1 w1 le1 s1 f7
  replace f0 := shm_143 f0
  replace f2 := shm_110 f2
  have g0 : v_iv (n_v vs 12) = w_fi ws (n_v vs 0) 8 := congrArg v_iv f0
  have g2 : v_iv (n_v vs 3) = w_fi ws (n_v vs 0) 6 := congrArg v_iv f2
  have kz_0_6 := fdq_304 hD hth r0
  have kz_0_8 := fdq_305 hD hth r0
  have nf0 : fc_1 PRD (20, [10, 12], [50, 0, 0, 2, 6, 0, 2, 0, 0, 1, 0, 2, 6, 0, 2, 0, 0, 1, 1, 0, 10, 4, 6, 6, 2, 1, 0, 0, 65536, 1, 1, 0, 851970]) ws (vs) := ⟨nf_in hl rfl, sgq_487 (vc_Sy_compileValue_at_k11_3_0 (v_iv (n_v vs 3)) (v_iv (n_v vs 4)) (v_iv (n_v vs 10)) (v_iv (n_v vs 12)) (w_fi ws (n_v vs 0) 8) (w_fi ws (n_v vs 0) 6) k3 k4 k10 k12 g0 g2 (shm_1747 f5) (shm_40 f7) kz_0_6 kz_0_8)⟩
  refine ⟨(fun _ h => (by cases h)), [], trivial, ?_, (fun _ h => (by cases h))⟩
  rw [List.append_nil]
  exact List.forall_mem_cons.mpr ⟨⟨show (20 : Nat) < 100 from by decide, nf0⟩, (fun _ h => (by cases h))⟩
set_option maxHeartbeats 4000000 in
theorem vc_Sy_compileValue_at_k11_4_0 (x3 : Int) (x4 : Int) (x6 : Int) (x7 : Int) (x8 : Int) (x9 : Int) (x10 : Int) (x11 : Int) (kind_0 : Int) (number_0 : Int) (k3 : 0 ≤ x3 ∧ x3 ≤ 127) (k4 : 40 ≤ x4 ∧ x4 ≤ 40) (k6 : 0 ≤ x6 ∧ x6 ≤ 43) (k7 : 3 ≤ x7 ∧ x7 ≤ 3) (k8 : (-1) ≤ x8 ∧ x8 ≤ (-1)) (k9 : 3 ≤ x9 ∧ x9 ≤ 3) (k10 : 1 ≤ x10 ∧ x10 ≤ 1) (k11 : 3 ≤ x11 ∧ x11 ≤ 3) (f0 : x3 ≠ x11) (g1 : x3 = kind_0) (f2 : x3 ≠ x9) (f3 : x6 ≠ x8) (f4 : x3 ≠ x7) (f5 : (kind_0 ≠ 3) ∨ (number_0 ≤ 9999)) (f7 : x3 ≠ x4) (kz_0_6 : 0 ≤ kind_0 ∧ kind_0 ≤ 127) (kz_0_8 : 0 ≤ number_0 ∧ number_0 ≤ 1000000) : (0 ≤ x10) ∧ ((0 ≤ x6) ∧ (((x10 * 65536) + x6) ≤ 851970)) := by
  first
    | omega
  
def o_Sy_compileValue_at_k11_4 : or_T := (108, 12, [(0, (2, 0, 0, [11])), (3, (0, 0, 127, [])), (4, (0, 40, 40, [])), (6, (0, 0, 43, [])), (7, (0, 3, 3, [])), (8, (0, -1, -1, [])), (9, (0, 3, 3, [])), (10, (0, 1, 1, [])), (11, (0, 3, 3, []))], [(7, [3, 11], [1]), (9, [3, 0], [6]), (7, [3, 9], [1]), (7, [6, 8], [1]), (7, [3, 7], [1]), (20, [0], [50, 2, 0, 6, 8, 3, 7, 7, 3, 2, 0, 6, 0, 3, 0, 3, 2, 0, 8, 0, 9999]), (102, [5], [0]), (7, [3, 4], [1])], [], [], [(20, [10, 6], [50, 0, 0, 2, 6, 0, 2, 0, 0, 1, 0, 2, 6, 0, 2, 0, 0, 1, 1, 0, 10, 4, 6, 6, 2, 1, 0, 0, 65536, 1, 1, 0, 851970])], [], [])
theorem oo_Sy_compileValue_at_k11_4 {kA : Nat → ClassId} : or_ok PRD kA GG o_Sy_compileValue_at_k11_4 := by
  refine or_mk fun A ta ws vs hD hth hl => ?_
  intro t0 r0 t3 k3 t4 k4 t6 k6 t7 k7 t8 k8 t9 k9 t10 k10 t11 k11 f0 f1 f2 f3 f4 f5 ta1 w1 le1 s1 f7
  replace f1 := shm_110 f1
  have g1 : v_iv (n_v vs 3) = w_fi ws (n_v vs 0) 6 := congrArg v_iv f1
  have kz_0_6 := fdq_304 hD hth r0
  have kz_0_8 := fdq_305 hD hth r0
  have nf0 : fc_1 PRD (20, [10, 6], [50, 0, 0, 2, 6, 0, 2, 0, 0, 1, 0, 2, 6, 0, 2, 0, 0, 1, 1, 0, 10, 4, 6, 6, 2, 1, 0, 0, 65536, 1, 1, 0, 851970]) ws (vs) := ⟨nf_in hl rfl, sgq_487 (vc_Sy_compileValue_at_k11_4_0 (v_iv (n_v vs 3)) (v_iv (n_v vs 4)) (v_iv (n_v vs 6)) (v_iv (n_v vs 7)) (v_iv (n_v vs 8)) (v_iv (n_v vs 9)) (v_iv (n_v vs 10)) (v_iv (n_v vs 11)) (w_fi ws (n_v vs 0) 6) (w_fi ws (n_v vs 0) 8) k3 k4 k6 k7 k8 k9 k10 k11 (shm_40 f0) g1 (shm_40 f2) (shm_40 f3) (shm_40 f4) (shm_1747 f5) (shm_40 f7) kz_0_6 kz_0_8)⟩
  refine ⟨(fun _ h => (by cases h)), [], trivial, ?_, (fun _ h => (by cases h))⟩
  rw [List.append_nil]
  exact List.forall_mem_cons.mpr ⟨⟨show (20 : Nat) < 100 from by decide, nf0⟩, (fun _ h => (by cases h))⟩
def n_Sy_compileValue_at_k11_an : List an_T := []
def t_Sy_compileValue_at_k11_ct : ct_L := [(1, 69, e_Sy_advance), (1, 118, e_Sy_fail), (1, 128, e_Sy_emit), (1, 152, e_Sy_closes), (91, 137, e_Sy_compileSum_at_k12), (169, 114, e_Sy_wordIn_at_s5007), (169, 114, e_Sy_wordIn_at_s5004)]
set_option maxRecDepth 100000 in
theorem c_Sy_compileValue_at_k11 {l : Launch} {D : va_G} {kA : Nat → ClassId} (h_Sy_advance : ct_ok PRD l D kA GG y_Sy_advance z_Sy_advance e_Sy_advance) (h_Sy_closes : ct_ok PRD l D kA GG y_Sy_closes z_Sy_closes e_Sy_closes) (h_Sy_compileSum_at_k12 : ct_ok PRD l D kA GG y_Sy_compileSum_at_k12 z_Sy_compileSum_at_k12 e_Sy_compileSum_at_k12) (h_Sy_emit : ct_ok PRD l D kA GG y_Sy_emit z_Sy_emit e_Sy_emit) (h_Sy_fail : ct_ok PRD l D kA GG y_Sy_fail z_Sy_fail e_Sy_fail) (h_Sy_wordIn_at_s5004 : ct_ok PRD l D kA GG y_Sy_wordIn_at_s5004 z_Sy_wordIn_at_s5004 e_Sy_wordIn_at_s5004) (h_Sy_wordIn_at_s5007 : ct_ok PRD l D kA GG y_Sy_wordIn_at_s5007 z_Sy_wordIn_at_s5007 e_Sy_wordIn_at_s5007) : ct_ok PRD l D kA GG y_Sy_compileValue_at_k11 z_Sy_compileValue_at_k11 e_Sy_compileValue_at_k11 := chk_all_ok (FT := [(31, 11, 6), (37, 11, 8), (42, 11, 9)]) (PT := []) (CT := t_Sy_compileValue_at_k11_ct) (KT := []) (NT := []) (AN := n_Sy_compileValue_at_k11_an) (OT := [o_Sy_compileValue_at_k11_0, o_Sy_compileValue_at_k11_1, o_Sy_compileValue_at_k11_2, o_Sy_compileValue_at_k11_3, o_Sy_compileValue_at_k11_4]) 0 684 (List.forall_mem_cons.mpr ⟨oo_Sy_compileValue_at_k11_0, List.forall_mem_cons.mpr ⟨oo_Sy_compileValue_at_k11_1, List.forall_mem_cons.mpr ⟨oo_Sy_compileValue_at_k11_2, List.forall_mem_cons.mpr ⟨oo_Sy_compileValue_at_k11_3, List.forall_mem_cons.mpr ⟨oo_Sy_compileValue_at_k11_4, List.forall_mem_nil _⟩⟩⟩⟩⟩) (by decide +kernel) ⟨List.forall_mem_cons.mpr ⟨gf_Sy_31, List.forall_mem_cons.mpr ⟨gf_Sy_37, List.forall_mem_cons.mpr ⟨gf_Sy_42, List.forall_mem_nil _⟩⟩⟩, List.forall_mem_nil _, List.forall_mem_cons.mpr ⟨cl_virtual (y := y_Sy_advance) (ci := 11) rfl rfl ⟨_, _, rfl⟩ (by decide +kernel) h_Sy_advance wm_2158 wm_23 wm_2155 wm_2157 wv_10_10 ⟨by decide, by decide, by decide +kernel⟩ (by decide), List.forall_mem_cons.mpr ⟨cl_virtual (y := y_Sy_fail) (ci := 11) rfl rfl ⟨_, _, rfl⟩ (by decide +kernel) h_Sy_fail wm_2239 wm_23 wm_2236 wm_2238 wv_10_14 ⟨by decide, by decide, by decide +kernel⟩ (by decide), List.forall_mem_cons.mpr ⟨cl_virtual (y := y_Sy_emit) (ci := 11) rfl rfl ⟨_, _, rfl⟩ (by decide +kernel) h_Sy_emit wm_2258 wm_23 wm_2255 wm_2257 wv_11_2 ⟨by decide, by decide, by decide +kernel⟩ (by decide), List.forall_mem_cons.mpr ⟨cl_virtual (y := y_Sy_closes) (ci := 11) rfl rfl ⟨_, _, rfl⟩ (by decide +kernel) h_Sy_closes wm_2262 wm_23 wm_2259 wm_2261 wv_11_3 ⟨by decide, by decide, by decide +kernel⟩ (by decide), List.forall_mem_cons.mpr ⟨cl_virtual (y := y_Sy_compileSum_at_k12) (ci := 11) rfl rfl ⟨_, _, rfl⟩ (by decide +kernel) h_Sy_compileSum_at_k12 wm_2266 wm_23 wm_2263 wm_2265 wv_11_4 ⟨by decide, by decide, by decide +kernel⟩ (by decide), List.forall_mem_cons.mpr ⟨cl_virtual (y := y_Sy_wordIn_at_s5007) (ci := 11) rfl rfl ⟨_, _, rfl⟩ (by decide +kernel) h_Sy_wordIn_at_s5007 wm_2229 wm_23 wm_2226 wm_2228 wv_10_12 ⟨by decide, by decide, by decide +kernel⟩ (by decide), List.forall_mem_cons.mpr ⟨cl_virtual (y := y_Sy_wordIn_at_s5004) (ci := 11) rfl rfl ⟨_, _, rfl⟩ (by decide +kernel) h_Sy_wordIn_at_s5004 wm_2229 wm_23 wm_2226 wm_2228 wv_10_12 ⟨by decide, by decide, by decide +kernel⟩ (by decide), List.forall_mem_nil _⟩⟩⟩⟩⟩⟩⟩, List.forall_mem_nil _, List.forall_mem_nil _, GG_pl⟩ (by decide +kernel)
set_option maxHeartbeats 4000000 in
theorem vc_Sy_compileValue_at_k12_0_0 (x3 : Int) (x4 : Int) (x9 : Int) (x11 : Int) (number_0 : Int) (kind_0 : Int) (k3 : 3 ≤ x3 ∧ x3 ≤ 3) (k4 : 40 ≤ x4 ∧ x4 ≤ 40) (k9 : 0 ≤ x9 ∧ x9 ≤ 0) (k11 : 0 ≤ x11 ∧ x11 ≤ 1000000) (g0 : x11 = number_0) (g2 : x3 = kind_0) (f5 : (kind_0 ≠ 3) ∨ (number_0 ≤ 9999)) (f7 : x3 ≠ x4) (kz_0_6 : 0 ≤ kind_0 ∧ kind_0 ≤ 127) (kz_0_8 : 0 ≤ number_0 ∧ number_0 ≤ 1000000) : (0 ≤ x9) ∧ ((0 ≤ x11) ∧ (((x9 * 65536) + x11) ≤ 851970)) := by
  first
    | omega
  
def o_Sy_compileValue_at_k12_0 : or_T := (108, 12, [(0, (2, 0, 0, [11])), (3, (0, 3, 3, [])), (4, (0, 40, 40, [])), (7, (0, 3, 3, [])), (8, (0, 3, 3, [])), (9, (0, 0, 0, [])), (10, (0, 3, 3, [])), (11, (0, 0, 1000000, []))], [(9, [11, 0], [8]), (7, [3, 10], [0]), (9, [3, 0], [6]), (7, [3, 8], [0]), (7, [3, 7], [0]), (20, [0], [50, 2, 0, 6, 8, 3, 7, 7, 3, 2, 0, 6, 0, 3, 0, 3, 2, 0, 8, 0, 9999]), (102, [5], [0]), (7, [3, 4], [1])], [], [], [(20, [9, 11], [50, 0, 0, 2, 6, 0, 2, 0, 0, 1, 0, 2, 6, 0, 2, 0, 0, 1, 1, 0, 10, 4, 6, 6, 2, 1, 0, 0, 65536, 1, 1, 0, 851970])], [], [])
theorem oo_Sy_compileValue_at_k12_0 {kA : Nat → ClassId} : or_ok PRD kA GG o_Sy_compileValue_at_k12_0 := by
  refine or_mk fun A ta ws vs hD hth hl => ?_
  intro t0 r0 t3 k3 t4 k4 t7 k7 t8 k8 t9 k9 t10 k10 t11 k11 f0 f1 f2 f3 f4 f5 ta1 w1 le1 s1 f7
  replace f0 := shm_143 f0
  replace f2 := shm_110 f2
  have g0 : v_iv (n_v vs 11) = w_fi ws (n_v vs 0) 8 := congrArg v_iv f0
  have g2 : v_iv (n_v vs 3) = w_fi ws (n_v vs 0) 6 := congrArg v_iv f2
  have kz_0_6 := fdq_304 hD hth r0
  have kz_0_8 := fdq_305 hD hth r0
  have nf0 : fc_1 PRD (20, [9, 11], [50, 0, 0, 2, 6, 0, 2, 0, 0, 1, 0, 2, 6, 0, 2, 0, 0, 1, 1, 0, 10, 4, 6, 6, 2, 1, 0, 0, 65536, 1, 1, 0, 851970]) ws (vs) := ⟨nf_in hl rfl, sgq_487 (vc_Sy_compileValue_at_k12_0_0 (v_iv (n_v vs 3)) (v_iv (n_v vs 4)) (v_iv (n_v vs 9)) (v_iv (n_v vs 11)) (w_fi ws (n_v vs 0) 8) (w_fi ws (n_v vs 0) 6) k3 k4 k9 k11 g0 g2 (shm_1747 f5) (shm_40 f7) kz_0_6 kz_0_8)⟩
  refine ⟨(fun _ h => (by cases h)), [], trivial, ?_, (fun _ h => (by cases h))⟩
  rw [List.append_nil]
  exact List.forall_mem_cons.mpr ⟨⟨show (20 : Nat) < 100 from by decide, nf0⟩, (fun _ h => (by cases h))⟩
set_option maxHeartbeats 4000000 in
theorem vc_Sy_compileValue_at_k12_1_0 (x3 : Int) (x4 : Int) (x6 : Int) (x7 : Int) (x8 : Int) (x9 : Int) (x10 : Int) (x11 : Int) (kind_0 : Int) (number_0 : Int) (k3 : 0 ≤ x3 ∧ x3 ≤ 127) (k4 : 40 ≤ x4 ∧ x4 ≤ 40) (k6 : 0 ≤ x6 ∧ x6 ≤ 38) (k7 : 3 ≤ x7 ∧ x7 ≤ 3) (k8 : (-1) ≤ x8 ∧ x8 ≤ (-1)) (k9 : 3 ≤ x9 ∧ x9 ≤ 3) (k10 : 1 ≤ x10 ∧ x10 ≤ 1) (k11 : 3 ≤ x11 ∧ x11 ≤ 3) (f0 : x3 ≠ x11) (g1 : x3 = kind_0) (f2 : x3 ≠ x9) (f3 : x6 ≠ x8) (f4 : x3 ≠ x7) (f5 : (kind_0 ≠ 3) ∨ (number_0 ≤ 9999)) (f7 : x3 ≠ x4) (kz_0_6 : 0 ≤ kind_0 ∧ kind_0 ≤ 127) (kz_0_8 : 0 ≤ number_0 ∧ number_0 ≤ 1000000) : (0 ≤ x10) ∧ ((0 ≤ x6) ∧ (((x10 * 65536) + x6) ≤ 851970)) := by
  first
    | omega
  
def o_Sy_compileValue_at_k12_1 : or_T := (108, 12, [(0, (2, 0, 0, [11])), (3, (0, 0, 127, [])), (4, (0, 40, 40, [])), (6, (0, 0, 38, [])), (7, (0, 3, 3, [])), (8, (0, -1, -1, [])), (9, (0, 3, 3, [])), (10, (0, 1, 1, [])), (11, (0, 3, 3, []))], [(7, [3, 11], [1]), (9, [3, 0], [6]), (7, [3, 9], [1]), (7, [6, 8], [1]), (7, [3, 7], [1]), (20, [0], [50, 2, 0, 6, 8, 3, 7, 7, 3, 2, 0, 6, 0, 3, 0, 3, 2, 0, 8, 0, 9999]), (102, [5], [0]), (7, [3, 4], [1])], [], [], [(20, [10, 6], [50, 0, 0, 2, 6, 0, 2, 0, 0, 1, 0, 2, 6, 0, 2, 0, 0, 1, 1, 0, 10, 4, 6, 6, 2, 1, 0, 0, 65536, 1, 1, 0, 851970])], [], [])
theorem oo_Sy_compileValue_at_k12_1 {kA : Nat → ClassId} : or_ok PRD kA GG o_Sy_compileValue_at_k12_1 := by
  refine or_mk fun A ta ws vs hD hth hl => ?_
  intro t0 r0 t3 k3 t4 k4 t6 k6 t7 k7 t8 k8 t9 k9 t10 k10 t11 k11 f0 f1 f2 f3 f4 f5 ta1 w1 le1 s1 f7
  replace f1 := shm_110 f1
  have g1 : v_iv (n_v vs 3) = w_fi ws (n_v vs 0) 6 := congrArg v_iv f1
  have kz_0_6 := fdq_304 hD hth r0
  have kz_0_8 := fdq_305 hD hth r0
  have nf0 : fc_1 PRD (20, [10, 6], [50, 0, 0, 2, 6, 0, 2, 0, 0, 1, 0, 2, 6, 0, 2, 0, 0, 1, 1, 0, 10, 4, 6, 6, 2, 1, 0, 0, 65536, 1, 1, 0, 851970]) ws (vs) := ⟨nf_in hl rfl, sgq_487 (vc_Sy_compileValue_at_k12_1_0 (v_iv (n_v vs 3)) (v_iv (n_v vs 4)) (v_iv (n_v vs 6)) (v_iv (n_v vs 7)) (v_iv (n_v vs 8)) (v_iv (n_v vs 9)) (v_iv (n_v vs 10)) (v_iv (n_v vs 11)) (w_fi ws (n_v vs 0) 6) (w_fi ws (n_v vs 0) 8) k3 k4 k6 k7 k8 k9 k10 k11 (shm_40 f0) g1 (shm_40 f2) (shm_40 f3) (shm_40 f4) (shm_1747 f5) (shm_40 f7) kz_0_6 kz_0_8)⟩
  refine ⟨(fun _ h => (by cases h)), [], trivial, ?_, (fun _ h => (by cases h))⟩
  rw [List.append_nil]
  exact List.forall_mem_cons.mpr ⟨⟨show (20 : Nat) < 100 from by decide, nf0⟩, (fun _ h => (by cases h))⟩
set_option maxHeartbeats 4000000 in
theorem vc_Sy_compileValue_at_k12_2_0 (x3 : Int) (x4 : Int) (x10 : Int) (x12 : Int) (number_0 : Int) (kind_0 : Int) (k3 : 3 ≤ x3 ∧ x3 ≤ 3) (k4 : 40 ≤ x4 ∧ x4 ≤ 40) (k10 : 1 ≤ x10 ∧ x10 ≤ 1) (k12 : 0 ≤ x12 ∧ x12 ≤ 1000000) (g0 : x12 = number_0) (g2 : x3 = kind_0) (f5 : (kind_0 ≠ 3) ∨ (number_0 ≤ 9999)) (f7 : x3 ≠ x4) (kz_0_6 : 0 ≤ kind_0 ∧ kind_0 ≤ 127) (kz_0_8 : 0 ≤ number_0 ∧ number_0 ≤ 1000000) : (0 ≤ x10) ∧ ((0 ≤ x12) ∧ (((x10 * 65536) + x12) ≤ 851970)) := by
  first
    | omega
  
def o_Sy_compileValue_at_k12_2 : or_T := (108, 13, [(0, (2, 0, 0, [11])), (3, (0, 3, 3, [])), (4, (0, 40, 40, [])), (7, (0, 3, 3, [])), (9, (0, 3, 3, [])), (10, (0, 1, 1, [])), (11, (0, 3, 3, [])), (12, (0, 0, 1000000, []))], [(9, [12, 0], [8]), (7, [3, 11], [0]), (9, [3, 0], [6]), (7, [3, 9], [1]), (7, [3, 7], [1]), (20, [0], [50, 2, 0, 6, 8, 3, 7, 7, 3, 2, 0, 6, 0, 3, 0, 3, 2, 0, 8, 0, 9999]), (102, [5], [0]), (7, [3, 4], [1])], [], [], [(20, [10, 12], [50, 0, 0, 2, 6, 0, 2, 0, 0, 1, 0, 2, 6, 0, 2, 0, 0, 1, 1, 0, 10, 4, 6, 6, 2, 1, 0, 0, 65536, 1, 1, 0, 851970])], [], [])
theorem oo_Sy_compileValue_at_k12_2 {kA : Nat → ClassId} : or_ok PRD kA GG o_Sy_compileValue_at_k12_2 := by
  refine or_mk fun A ta ws vs hD hth hl => ?_
  intro t0 r0 t3 k3 t4 k4 t7 k7 t9 k9 t10 k10 t11 k11 t12 k12 f0 f1 f2 f3 f4 f5 ta1 w1 le1 s1 f7
  replace f0 := shm_143 f0
  replace f2 := shm_110 f2
  have g0 : v_iv (n_v vs 12) = w_fi ws (n_v vs 0) 8 := congrArg v_iv f0
  have g2 : v_iv (n_v vs 3) = w_fi ws (n_v vs 0) 6 := congrArg v_iv f2
  have kz_0_6 := fdq_304 hD hth r0
  have kz_0_8 := fdq_305 hD hth r0
  have nf0 : fc_1 PRD (20, [10, 12], [50, 0, 0, 2, 6, 0, 2, 0, 0, 1, 0, 2, 6, 0, 2, 0, 0, 1, 1, 0, 10, 4, 6, 6, 2, 1, 0, 0, 65536, 1, 1, 0, 851970]) ws (vs) := ⟨nf_in hl rfl, sgq_487 (vc_Sy_compileValue_at_k12_2_0 (v_iv (n_v vs 3)) (v_iv (n_v vs 4)) (v_iv (n_v vs 10)) (v_iv (n_v vs 12)) (w_fi ws (n_v vs 0) 8) (w_fi ws (n_v vs 0) 6) k3 k4 k10 k12 g0 g2 (shm_1747 f5) (shm_40 f7) kz_0_6 kz_0_8)⟩
  refine ⟨(fun _ h => (by cases h)), [], trivial, ?_, (fun _ h => (by cases h))⟩
  rw [List.append_nil]
  exact List.forall_mem_cons.mpr ⟨⟨show (20 : Nat) < 100 from by decide, nf0⟩, (fun _ h => (by cases h))⟩
set_option maxHeartbeats 4000000 in
theorem vc_Sy_compileValue_at_k12_3_0 (x3 : Int) (x4 : Int) (x10 : Int) (x12 : Int) (number_0 : Int) (kind_0 : Int) (k3 : 3 ≤ x3 ∧ x3 ≤ 3) (k4 : 40 ≤ x4 ∧ x4 ≤ 40) (k10 : 0 ≤ x10 ∧ x10 ≤ 0) (k12 : 0 ≤ x12 ∧ x12 ≤ 1000000) (g0 : x12 = number_0) (g2 : x3 = kind_0) (f5 : (kind_0 ≠ 3) ∨ (number_0 ≤ 9999)) (f7 : x3 ≠ x4) (kz_0_6 : 0 ≤ kind_0 ∧ kind_0 ≤ 127) (kz_0_8 : 0 ≤ number_0 ∧ number_0 ≤ 1000000) : (0 ≤ x10) ∧ ((0 ≤ x12) ∧ (((x10 * 65536) + x12) ≤ 851970)) := by
  first
    | omega
  
def o_Sy_compileValue_at_k12_3 : or_T := (108, 13, [(0, (2, 0, 0, [11])), (3, (0, 3, 3, [])), (4, (0, 40, 40, [])), (7, (0, 3, 3, [])), (9, (0, 3, 3, [])), (10, (0, 0, 0, [])), (11, (0, 3, 3, [])), (12, (0, 0, 1000000, []))], [(9, [12, 0], [8]), (7, [3, 11], [0]), (9, [3, 0], [6]), (7, [3, 9], [0]), (7, [3, 7], [1]), (20, [0], [50, 2, 0, 6, 8, 3, 7, 7, 3, 2, 0, 6, 0, 3, 0, 3, 2, 0, 8, 0, 9999]), (102, [5], [0]), (7, [3, 4], [1])], [], [], [(20, [10, 12], [50, 0, 0, 2, 6, 0, 2, 0, 0, 1, 0, 2, 6, 0, 2, 0, 0, 1, 1, 0, 10, 4, 6, 6, 2, 1, 0, 0, 65536, 1, 1, 0, 851970])], [], [])
theorem oo_Sy_compileValue_at_k12_3 {kA : Nat → ClassId} : or_ok PRD kA GG o_Sy_compileValue_at_k12_3 := by
  refine or_mk fun A ta ws vs hD hth hl => ?_
  intro t0 r0 t3 k3 t4 k4 t7 k7 t9 k9 t10 k10 t11 k11 t12 k12 f0 f1 f2 f3 f4 f5 ta1 w1 le1 s1 f7
  replace f0 := shm_143 f0
  replace f2 := shm_110 f2
  have g0 : v_iv (n_v vs 12) = w_fi ws (n_v vs 0) 8 := congrArg v_iv f0
  have g2 : v_iv (n_v vs 3) = w_fi ws (n_v vs 0) 6 := congrArg v_iv f2
  have kz_0_6 := fdq_304 hD hth r0
  have kz_0_8 := fdq_305 hD hth r0
  have nf0 : fc_1 PRD (20, [10, 12], [50, 0, 0, 2, 6, 0, 2, 0, 0, 1, 0, 2, 6, 0, 2, 0, 0, 1, 1, 0, 10, 4, 6, 6, 2, 1, 0, 0, 65536, 1, 1, 0, 851970]) ws (vs) := ⟨nf_in hl rfl, sgq_487 (vc_Sy_compileValue_at_k12_3_0 (v_iv (n_v vs 3)) (v_iv (n_v vs 4)) (v_iv (n_v vs 10)) (v_iv (n_v vs 12)) (w_fi ws (n_v vs 0) 8) (w_fi ws (n_v vs 0) 6) k3 k4 k10 k12 g0 g2 (shm_1747 f5) (shm_40 f7) kz_0_6 kz_0_8)⟩
  refine ⟨(fun _ h => (by cases h)), [], trivial, ?_, (fun _ h => (by cases h))⟩
  rw [List.append_nil]
  exact List.forall_mem_cons.mpr ⟨⟨show (20 : Nat) < 100 from by decide, nf0⟩, (fun _ h => (by cases h))⟩
set_option maxHeartbeats 4000000 in
theorem vc_Sy_compileValue_at_k12_4_0 (x3 : Int) (x4 : Int) (x6 : Int) (x7 : Int) (x8 : Int) (x9 : Int) (x10 : Int) (x11 : Int) (kind_0 : Int) (number_0 : Int) (k3 : 0 ≤ x3 ∧ x3 ≤ 127) (k4 : 40 ≤ x4 ∧ x4 ≤ 40) (k6 : 0 ≤ x6 ∧ x6 ≤ 43) (k7 : 3 ≤ x7 ∧ x7 ≤ 3) (k8 : (-1) ≤ x8 ∧ x8 ≤ (-1)) (k9 : 3 ≤ x9 ∧ x9 ≤ 3) (k10 : 1 ≤ x10 ∧ x10 ≤ 1) (k11 : 3 ≤ x11 ∧ x11 ≤ 3) (f0 : x3 ≠ x11) (g1 : x3 = kind_0) (f2 : x3 ≠ x9) (f3 : x6 ≠ x8) (f4 : x3 ≠ x7) (f5 : (kind_0 ≠ 3) ∨ (number_0 ≤ 9999)) (f7 : x3 ≠ x4) (kz_0_6 : 0 ≤ kind_0 ∧ kind_0 ≤ 127) (kz_0_8 : 0 ≤ number_0 ∧ number_0 ≤ 1000000) : (0 ≤ x10) ∧ ((0 ≤ x6) ∧ (((x10 * 65536) + x6) ≤ 851970)) := by
  first
    | omega
  
def o_Sy_compileValue_at_k12_4 : or_T := (108, 12, [(0, (2, 0, 0, [11])), (3, (0, 0, 127, [])), (4, (0, 40, 40, [])), (6, (0, 0, 43, [])), (7, (0, 3, 3, [])), (8, (0, -1, -1, [])), (9, (0, 3, 3, [])), (10, (0, 1, 1, [])), (11, (0, 3, 3, []))], [(7, [3, 11], [1]), (9, [3, 0], [6]), (7, [3, 9], [1]), (7, [6, 8], [1]), (7, [3, 7], [1]), (20, [0], [50, 2, 0, 6, 8, 3, 7, 7, 3, 2, 0, 6, 0, 3, 0, 3, 2, 0, 8, 0, 9999]), (102, [5], [0]), (7, [3, 4], [1])], [], [], [(20, [10, 6], [50, 0, 0, 2, 6, 0, 2, 0, 0, 1, 0, 2, 6, 0, 2, 0, 0, 1, 1, 0, 10, 4, 6, 6, 2, 1, 0, 0, 65536, 1, 1, 0, 851970])], [], [])
theorem oo_Sy_compileValue_at_k12_4 {kA : Nat → ClassId} : or_ok PRD kA GG o_Sy_compileValue_at_k12_4 := by
  refine or_mk fun A ta ws vs hD hth hl => ?_
  intro t0 r0 t3 k3 t4 k4 t6 k6 t7 k7 t8 k8 t9 k9 t10 k10 t11 k11 f0 f1 f2 f3 f4 f5 ta1 w1 le1 s1 f7
  replace f1 := shm_110 f1
  have g1 : v_iv (n_v vs 3) = w_fi ws (n_v vs 0) 6 := congrArg v_iv f1
  have kz_0_6 := fdq_304 hD hth r0
  have kz_0_8 := fdq_305 hD hth r0
  have nf0 : fc_1 PRD (20, [10, 6], [50, 0, 0, 2, 6, 0, 2, 0, 0, 1, 0, 2, 6, 0, 2, 0, 0, 1, 1, 0, 10, 4, 6, 6, 2, 1, 0, 0, 65536, 1, 1, 0, 851970]) ws (vs) := ⟨nf_in hl rfl, sgq_487 (vc_Sy_compileValue_at_k12_4_0 (v_iv (n_v vs 3)) (v_iv (n_v vs 4)) (v_iv (n_v vs 6)) (v_iv (n_v vs 7)) (v_iv (n_v vs 8)) (v_iv (n_v vs 9)) (v_iv (n_v vs 10)) (v_iv (n_v vs 11)) (w_fi ws (n_v vs 0) 6) (w_fi ws (n_v vs 0) 8) k3 k4 k6 k7 k8 k9 k10 k11 (shm_40 f0) g1 (shm_40 f2) (shm_40 f3) (shm_40 f4) (shm_1747 f5) (shm_40 f7) kz_0_6 kz_0_8)⟩
  refine ⟨(fun _ h => (by cases h)), [], trivial, ?_, (fun _ h => (by cases h))⟩
  rw [List.append_nil]
  exact List.forall_mem_cons.mpr ⟨⟨show (20 : Nat) < 100 from by decide, nf0⟩, (fun _ h => (by cases h))⟩
def n_Sy_compileValue_at_k12_an : List an_T := []
def t_Sy_compileValue_at_k12_ct : ct_L := [(1, 69, e_Sy_advance), (1, 118, e_Sy_fail), (1, 128, e_Sy_emit), (169, 114, e_Sy_wordIn_at_s5007), (169, 114, e_Sy_wordIn_at_s5004)]
set_option maxRecDepth 100000 in
theorem c_Sy_compileValue_at_k12 {l : Launch} {D : va_G} {kA : Nat → ClassId} (h_Sy_advance : ct_ok PRD l D kA GG y_Sy_advance z_Sy_advance e_Sy_advance) (h_Sy_emit : ct_ok PRD l D kA GG y_Sy_emit z_Sy_emit e_Sy_emit) (h_Sy_fail : ct_ok PRD l D kA GG y_Sy_fail z_Sy_fail e_Sy_fail) (h_Sy_wordIn_at_s5004 : ct_ok PRD l D kA GG y_Sy_wordIn_at_s5004 z_Sy_wordIn_at_s5004 e_Sy_wordIn_at_s5004) (h_Sy_wordIn_at_s5007 : ct_ok PRD l D kA GG y_Sy_wordIn_at_s5007 z_Sy_wordIn_at_s5007 e_Sy_wordIn_at_s5007) : ct_ok PRD l D kA GG y_Sy_compileValue_at_k12 z_Sy_compileValue_at_k12 e_Sy_compileValue_at_k12 := chk_all_ok (FT := [(31, 11, 6), (37, 11, 8), (42, 11, 9)]) (PT := []) (CT := t_Sy_compileValue_at_k12_ct) (KT := []) (NT := []) (AN := n_Sy_compileValue_at_k12_an) (OT := [o_Sy_compileValue_at_k12_0, o_Sy_compileValue_at_k12_1, o_Sy_compileValue_at_k12_2, o_Sy_compileValue_at_k12_3, o_Sy_compileValue_at_k12_4]) 0 620 (List.forall_mem_cons.mpr ⟨oo_Sy_compileValue_at_k12_0, List.forall_mem_cons.mpr ⟨oo_Sy_compileValue_at_k12_1, List.forall_mem_cons.mpr ⟨oo_Sy_compileValue_at_k12_2, List.forall_mem_cons.mpr ⟨oo_Sy_compileValue_at_k12_3, List.forall_mem_cons.mpr ⟨oo_Sy_compileValue_at_k12_4, List.forall_mem_nil _⟩⟩⟩⟩⟩) (by decide +kernel) ⟨List.forall_mem_cons.mpr ⟨gf_Sy_31, List.forall_mem_cons.mpr ⟨gf_Sy_37, List.forall_mem_cons.mpr ⟨gf_Sy_42, List.forall_mem_nil _⟩⟩⟩, List.forall_mem_nil _, List.forall_mem_cons.mpr ⟨cl_virtual (y := y_Sy_advance) (ci := 11) rfl rfl ⟨_, _, rfl⟩ (by decide +kernel) h_Sy_advance wm_2158 wm_23 wm_2155 wm_2157 wv_10_10 ⟨by decide, by decide, by decide +kernel⟩ (by decide), List.forall_mem_cons.mpr ⟨cl_virtual (y := y_Sy_fail) (ci := 11) rfl rfl ⟨_, _, rfl⟩ (by decide +kernel) h_Sy_fail wm_2239 wm_23 wm_2236 wm_2238 wv_10_14 ⟨by decide, by decide, by decide +kernel⟩ (by decide), List.forall_mem_cons.mpr ⟨cl_virtual (y := y_Sy_emit) (ci := 11) rfl rfl ⟨_, _, rfl⟩ (by decide +kernel) h_Sy_emit wm_2258 wm_23 wm_2255 wm_2257 wv_11_2 ⟨by decide, by decide, by decide +kernel⟩ (by decide), List.forall_mem_cons.mpr ⟨cl_virtual (y := y_Sy_wordIn_at_s5007) (ci := 11) rfl rfl ⟨_, _, rfl⟩ (by decide +kernel) h_Sy_wordIn_at_s5007 wm_2229 wm_23 wm_2226 wm_2228 wv_10_12 ⟨by decide, by decide, by decide +kernel⟩ (by decide), List.forall_mem_cons.mpr ⟨cl_virtual (y := y_Sy_wordIn_at_s5004) (ci := 11) rfl rfl ⟨_, _, rfl⟩ (by decide +kernel) h_Sy_wordIn_at_s5004 wm_2229 wm_23 wm_2226 wm_2228 wv_10_12 ⟨by decide, by decide, by decide +kernel⟩ (by decide), List.forall_mem_nil _⟩⟩⟩⟩⟩, List.forall_mem_nil _, List.forall_mem_nil _, GG_pl⟩ (by decide +kernel)
set_option maxHeartbeats 4000000 in
theorem vc_Sy_compileValue_at_k2_0_0 (x3 : Int) (x4 : Int) (x9 : Int) (x11 : Int) (number_0 : Int) (kind_0 : Int) (k3 : 3 ≤ x3 ∧ x3 ≤ 3) (k4 : 40 ≤ x4 ∧ x4 ≤ 40) (k9 : 0 ≤ x9 ∧ x9 ≤ 0) (k11 : 0 ≤ x11 ∧ x11 ≤ 1000000) (g0 : x11 = number_0) (g2 : x3 = kind_0) (f5 : (kind_0 ≠ 3) ∨ (number_0 ≤ 9999)) (f7 : x3 ≠ x4) (kz_0_6 : 0 ≤ kind_0 ∧ kind_0 ≤ 127) (kz_0_8 : 0 ≤ number_0 ∧ number_0 ≤ 1000000) : (0 ≤ x9) ∧ ((0 ≤ x11) ∧ (((x9 * 65536) + x11) ≤ 851970)) := by
  first
    | omega
  
def o_Sy_compileValue_at_k2_0 : or_T := (108, 12, [(0, (2, 0, 0, [11])), (3, (0, 3, 3, [])), (4, (0, 40, 40, [])), (7, (0, 3, 3, [])), (8, (0, 3, 3, [])), (9, (0, 0, 0, [])), (10, (0, 3, 3, [])), (11, (0, 0, 1000000, []))], [(9, [11, 0], [8]), (7, [3, 10], [0]), (9, [3, 0], [6]), (7, [3, 8], [0]), (7, [3, 7], [0]), (20, [0], [50, 2, 0, 6, 8, 3, 7, 7, 3, 2, 0, 6, 0, 3, 0, 3, 2, 0, 8, 0, 9999]), (102, [5], [0]), (7, [3, 4], [1])], [], [], [(20, [9, 11], [50, 0, 0, 2, 6, 0, 2, 0, 0, 1, 0, 2, 6, 0, 2, 0, 0, 1, 1, 0, 10, 4, 6, 6, 2, 1, 0, 0, 65536, 1, 1, 0, 851970])], [], [])
theorem oo_Sy_compileValue_at_k2_0 {kA : Nat → ClassId} : or_ok PRD kA GG o_Sy_compileValue_at_k2_0 := by
  refine or_mk fun A ta ws vs hD hth hl => ?_
  intro t0 r0 t3 k3 t4 k4 t7 k7 t8 k8 t9 k9 t10 k10 t11 k11 f0 f1 f2 f3 f4 f5 ta1 w1 le1 s1 f7
  replace f0 := shm_143 f0
  replace f2 := shm_110 f2
  have g0 : v_iv (n_v vs 11) = w_fi ws (n_v vs 0) 8 := congrArg v_iv f0
  have g2 : v_iv (n_v vs 3) = w_fi ws (n_v vs 0) 6 := congrArg v_iv f2
  have kz_0_6 := fdq_304 hD hth r0
  have kz_0_8 := fdq_305 hD hth r0
  have nf0 : fc_1 PRD (20, [9, 11], [50, 0, 0, 2, 6, 0, 2, 0, 0, 1, 0, 2, 6, 0, 2, 0, 0, 1, 1, 0, 10, 4, 6, 6, 2, 1, 0, 0, 65536, 1, 1, 0, 851970]) ws (vs) := ⟨nf_in hl rfl, sgq_487 (vc_Sy_compileValue_at_k2_0_0 (v_iv (n_v vs 3)) (v_iv (n_v vs 4)) (v_iv (n_v vs 9)) (v_iv (n_v vs 11)) (w_fi ws (n_v vs 0) 8) (w_fi ws (n_v vs 0) 6) k3 k4 k9 k11 g0 g2 (shm_1747 f5) (shm_40 f7) kz_0_6 kz_0_8)⟩
  refine ⟨(fun _ h => (by cases h)), [], trivial, ?_, (fun _ h => (by cases h))⟩
  rw [List.append_nil]
  exact List.forall_mem_cons.mpr ⟨⟨show (20 : Nat) < 100 from by decide, nf0⟩, (fun _ h => (by cases h))⟩
set_option maxHeartbeats 4000000 in
theorem vc_Sy_compileValue_at_k2_1_0 (x3 : Int) (x4 : Int) (x6 : Int) (x7 : Int) (x8 : Int) (x9 : Int) (x10 : Int) (x11 : Int) (kind_0 : Int) (number_0 : Int) (k3 : 0 ≤ x3 ∧ x3 ≤ 127) (k4 : 40 ≤ x4 ∧ x4 ≤ 40) (k6 : 0 ≤ x6 ∧ x6 ≤ 38) (k7 : 3 ≤ x7 ∧ x7 ≤ 3) (k8 : (-1) ≤ x8 ∧ x8 ≤ (-1)) (k9 : 3 ≤ x9 ∧ x9 ≤ 3) (k10 : 1 ≤ x10 ∧ x10 ≤ 1) (k11 : 3 ≤ x11 ∧ x11 ≤ 3) (f0 : x3 ≠ x11) (g1 : x3 = kind_0) (f2 : x3 ≠ x9) (f3 : x6 ≠ x8) (f4 : x3 ≠ x7) (f5 : (kind_0 ≠ 3) ∨ (number_0 ≤ 9999)) (f7 : x3 ≠ x4) (kz_0_6 : 0 ≤ kind_0 ∧ kind_0 ≤ 127) (kz_0_8 : 0 ≤ number_0 ∧ number_0 ≤ 1000000) : (0 ≤ x10) ∧ ((0 ≤ x6) ∧ (((x10 * 65536) + x6) ≤ 851970)) := by
  first
    | omega
  
def o_Sy_compileValue_at_k2_1 : or_T := (108, 12, [(0, (2, 0, 0, [11])), (3, (0, 0, 127, [])), (4, (0, 40, 40, [])), (6, (0, 0, 38, [])), (7, (0, 3, 3, [])), (8, (0, -1, -1, [])), (9, (0, 3, 3, [])), (10, (0, 1, 1, [])), (11, (0, 3, 3, []))], [(7, [3, 11], [1]), (9, [3, 0], [6]), (7, [3, 9], [1]), (7, [6, 8], [1]), (7, [3, 7], [1]), (20, [0], [50, 2, 0, 6, 8, 3, 7, 7, 3, 2, 0, 6, 0, 3, 0, 3, 2, 0, 8, 0, 9999]), (102, [5], [0]), (7, [3, 4], [1])], [], [], [(20, [10, 6], [50, 0, 0, 2, 6, 0, 2, 0, 0, 1, 0, 2, 6, 0, 2, 0, 0, 1, 1, 0, 10, 4, 6, 6, 2, 1, 0, 0, 65536, 1, 1, 0, 851970])], [], [])
theorem oo_Sy_compileValue_at_k2_1 {kA : Nat → ClassId} : or_ok PRD kA GG o_Sy_compileValue_at_k2_1 := by
  refine or_mk fun A ta ws vs hD hth hl => ?_
  intro t0 r0 t3 k3 t4 k4 t6 k6 t7 k7 t8 k8 t9 k9 t10 k10 t11 k11 f0 f1 f2 f3 f4 f5 ta1 w1 le1 s1 f7
  replace f1 := shm_110 f1
  have g1 : v_iv (n_v vs 3) = w_fi ws (n_v vs 0) 6 := congrArg v_iv f1
  have kz_0_6 := fdq_304 hD hth r0
  have kz_0_8 := fdq_305 hD hth r0
  have nf0 : fc_1 PRD (20, [10, 6], [50, 0, 0, 2, 6, 0, 2, 0, 0, 1, 0, 2, 6, 0, 2, 0, 0, 1, 1, 0, 10, 4, 6, 6, 2, 1, 0, 0, 65536, 1, 1, 0, 851970]) ws (vs) := ⟨nf_in hl rfl, sgq_487 (vc_Sy_compileValue_at_k2_1_0 (v_iv (n_v vs 3)) (v_iv (n_v vs 4)) (v_iv (n_v vs 6)) (v_iv (n_v vs 7)) (v_iv (n_v vs 8)) (v_iv (n_v vs 9)) (v_iv (n_v vs 10)) (v_iv (n_v vs 11)) (w_fi ws (n_v vs 0) 6) (w_fi ws (n_v vs 0) 8) k3 k4 k6 k7 k8 k9 k10 k11 (shm_40 f0) g1 (shm_40 f2) (shm_40 f3) (shm_40 f4) (shm_1747 f5) (shm_40 f7) kz_0_6 kz_0_8)⟩
  refine ⟨(fun _ h => (by cases h)), [], trivial, ?_, (fun _ h => (by cases h))⟩
  rw [List.append_nil]
  exact List.forall_mem_cons.mpr ⟨⟨show (20 : Nat) < 100 from by decide, nf0⟩, (fun _ h => (by cases h))⟩
set_option maxHeartbeats 4000000 in
theorem vc_Sy_compileValue_at_k2_2_0 (x3 : Int) (x4 : Int) (x10 : Int) (x12 : Int) (number_0 : Int) (kind_0 : Int) (k3 : 3 ≤ x3 ∧ x3 ≤ 3) (k4 : 40 ≤ x4 ∧ x4 ≤ 40) (k10 : 1 ≤ x10 ∧ x10 ≤ 1) (k12 : 0 ≤ x12 ∧ x12 ≤ 1000000) (g0 : x12 = number_0) (g2 : x3 = kind_0) (f5 : (kind_0 ≠ 3) ∨ (number_0 ≤ 9999)) (f7 : x3 ≠ x4) (kz_0_6 : 0 ≤ kind_0 ∧ kind_0 ≤ 127) (kz_0_8 : 0 ≤ number_0 ∧ number_0 ≤ 1000000) : (0 ≤ x10) ∧ ((0 ≤ x12) ∧ (((x10 * 65536) + x12) ≤ 851970)) := by
  first
    | omega
  
def o_Sy_compileValue_at_k2_2 : or_T := (108, 13, [(0, (2, 0, 0, [11])), (3, (0, 3, 3, [])), (4, (0, 40, 40, [])), (7, (0, 3, 3, [])), (9, (0, 3, 3, [])), (10, (0, 1, 1, [])), (11, (0, 3, 3, [])), (12, (0, 0, 1000000, []))], [(9, [12, 0], [8]), (7, [3, 11], [0]), (9, [3, 0], [6]), (7, [3, 9], [1]), (7, [3, 7], [1]), (20, [0], [50, 2, 0, 6, 8, 3, 7, 7, 3, 2, 0, 6, 0, 3, 0, 3, 2, 0, 8, 0, 9999]), (102, [5], [0]), (7, [3, 4], [1])], [], [], [(20, [10, 12], [50, 0, 0, 2, 6, 0, 2, 0, 0, 1, 0, 2, 6, 0, 2, 0, 0, 1, 1, 0, 10, 4, 6, 6, 2, 1, 0, 0, 65536, 1, 1, 0, 851970])], [], [])
theorem oo_Sy_compileValue_at_k2_2 {kA : Nat → ClassId} : or_ok PRD kA GG o_Sy_compileValue_at_k2_2 := by
  refine or_mk fun A ta ws vs hD hth hl => ?_
  intro t0 r0 t3 k3 t4 k4 t7 k7 t9 k9 t10 k10 t11 k11 t12 k12 f0 f1 f2 f3 f4 f5 ta1 w1 le1 s1 f7
  replace f0 := shm_143 f0
  replace f2 := shm_110 f2
  have g0 : v_iv (n_v vs 12) = w_fi ws (n_v vs 0) 8 := congrArg v_iv f0
  have g2 : v_iv (n_v vs 3) = w_fi ws (n_v vs 0) 6 := congrArg v_iv f2
  have kz_0_6 := fdq_304 hD hth r0
  have kz_0_8 := fdq_305 hD hth r0
  have nf0 : fc_1 PRD (20, [10, 12], [50, 0, 0, 2, 6, 0, 2, 0, 0, 1, 0, 2, 6, 0, 2, 0, 0, 1, 1, 0, 10, 4, 6, 6, 2, 1, 0, 0, 65536, 1, 1, 0, 851970]) ws (vs) := ⟨nf_in hl rfl, sgq_487 (vc_Sy_compileValue_at_k2_2_0 (v_iv (n_v vs 3)) (v_iv (n_v vs 4)) (v_iv (n_v vs 10)) (v_iv (n_v vs 12)) (w_fi ws (n_v vs 0) 8) (w_fi ws (n_v vs 0) 6) k3 k4 k10 k12 g0 g2 (shm_1747 f5) (shm_40 f7) kz_0_6 kz_0_8)⟩
  refine ⟨(fun _ h => (by cases h)), [], trivial, ?_, (fun _ h => (by cases h))⟩
  rw [List.append_nil]
  exact List.forall_mem_cons.mpr ⟨⟨show (20 : Nat) < 100 from by decide, nf0⟩, (fun _ h => (by cases h))⟩
set_option maxHeartbeats 4000000 in
theorem vc_Sy_compileValue_at_k2_3_0 (x3 : Int) (x4 : Int) (x10 : Int) (x12 : Int) (number_0 : Int) (kind_0 : Int) (k3 : 3 ≤ x3 ∧ x3 ≤ 3) (k4 : 40 ≤ x4 ∧ x4 ≤ 40) (k10 : 0 ≤ x10 ∧ x10 ≤ 0) (k12 : 0 ≤ x12 ∧ x12 ≤ 1000000) (g0 : x12 = number_0) (g2 : x3 = kind_0) (f5 : (kind_0 ≠ 3) ∨ (number_0 ≤ 9999)) (f7 : x3 ≠ x4) (kz_0_6 : 0 ≤ kind_0 ∧ kind_0 ≤ 127) (kz_0_8 : 0 ≤ number_0 ∧ number_0 ≤ 1000000) : (0 ≤ x10) ∧ ((0 ≤ x12) ∧ (((x10 * 65536) + x12) ≤ 851970)) := by
  first
    | omega
  
def o_Sy_compileValue_at_k2_3 : or_T := (108, 13, [(0, (2, 0, 0, [11])), (3, (0, 3, 3, [])), (4, (0, 40, 40, [])), (7, (0, 3, 3, [])), (9, (0, 3, 3, [])), (10, (0, 0, 0, [])), (11, (0, 3, 3, [])), (12, (0, 0, 1000000, []))], [(9, [12, 0], [8]), (7, [3, 11], [0]), (9, [3, 0], [6]), (7, [3, 9], [0]), (7, [3, 7], [1]), (20, [0], [50, 2, 0, 6, 8, 3, 7, 7, 3, 2, 0, 6, 0, 3, 0, 3, 2, 0, 8, 0, 9999]), (102, [5], [0]), (7, [3, 4], [1])], [], [], [(20, [10, 12], [50, 0, 0, 2, 6, 0, 2, 0, 0, 1, 0, 2, 6, 0, 2, 0, 0, 1, 1, 0, 10, 4, 6, 6, 2, 1, 0, 0, 65536, 1, 1, 0, 851970])], [], [])
theorem oo_Sy_compileValue_at_k2_3 {kA : Nat → ClassId} : or_ok PRD kA GG o_Sy_compileValue_at_k2_3 := by
  refine or_mk fun A ta ws vs hD hth hl => ?_
  intro t0 r0 t3 k3 t4 k4 t7 k7 t9 k9 t10 k10 t11 k11 t12 k12 f0 f1 f2 f3 f4 f5 ta1 w1 le1 s1 f7
  replace f0 := shm_143 f0
  replace f2 := shm_110 f2
  have g0 : v_iv (n_v vs 12) = w_fi ws (n_v vs 0) 8 := congrArg v_iv f0
  have g2 : v_iv (n_v vs 3) = w_fi ws (n_v vs 0) 6 := congrArg v_iv f2
  have kz_0_6 := fdq_304 hD hth r0
  have kz_0_8 := fdq_305 hD hth r0
  have nf0 : fc_1 PRD (20, [10, 12], [50, 0, 0, 2, 6, 0, 2, 0, 0, 1, 0, 2, 6, 0, 2, 0, 0, 1, 1, 0, 10, 4, 6, 6, 2, 1, 0, 0, 65536, 1, 1, 0, 851970]) ws (vs) := ⟨nf_in hl rfl, sgq_487 (vc_Sy_compileValue_at_k2_3_0 (v_iv (n_v vs 3)) (v_iv (n_v vs 4)) (v_iv (n_v vs 10)) (v_iv (n_v vs 12)) (w_fi ws (n_v vs 0) 8) (w_fi ws (n_v vs 0) 6) k3 k4 k10 k12 g0 g2 (shm_1747 f5) (shm_40 f7) kz_0_6 kz_0_8)⟩
  refine ⟨(fun _ h => (by cases h)), [], trivial, ?_, (fun _ h => (by cases h))⟩
  rw [List.append_nil]
  exact List.forall_mem_cons.mpr ⟨⟨show (20 : Nat) < 100 from by decide, nf0⟩, (fun _ h => (by cases h))⟩
set_option maxHeartbeats 4000000 in
theorem vc_Sy_compileValue_at_k2_4_0 (x3 : Int) (x4 : Int) (x6 : Int) (x7 : Int) (x8 : Int) (x9 : Int) (x10 : Int) (x11 : Int) (kind_0 : Int) (number_0 : Int) (k3 : 0 ≤ x3 ∧ x3 ≤ 127) (k4 : 40 ≤ x4 ∧ x4 ≤ 40) (k6 : 0 ≤ x6 ∧ x6 ≤ 43) (k7 : 3 ≤ x7 ∧ x7 ≤ 3) (k8 : (-1) ≤ x8 ∧ x8 ≤ (-1)) (k9 : 3 ≤ x9 ∧ x9 ≤ 3) (k10 : 1 ≤ x10 ∧ x10 ≤ 1) (k11 : 3 ≤ x11 ∧ x11 ≤ 3) (f0 : x3 ≠ x11) (g1 : x3 = kind_0) (f2 : x3 ≠ x9) (f3 : x6 ≠ x8) (f4 : x3 ≠ x7) (f5 : (kind_0 ≠ 3) ∨ (number_0 ≤ 9999)) (f7 : x3 ≠ x4) (kz_0_6 : 0 ≤ kind_0 ∧ kind_0 ≤ 127) (kz_0_8 : 0 ≤ number_0 ∧ number_0 ≤ 1000000) : (0 ≤ x10) ∧ ((0 ≤ x6) ∧ (((x10 * 65536) + x6) ≤ 851970)) := by
  first
    | omega
  
def o_Sy_compileValue_at_k2_4 : or_T := (108, 12, [(0, (2, 0, 0, [11])), (3, (0, 0, 127, [])), (4, (0, 40, 40, [])), (6, (0, 0, 43, [])), (7, (0, 3, 3, [])), (8, (0, -1, -1, [])), (9, (0, 3, 3, [])), (10, (0, 1, 1, [])), (11, (0, 3, 3, []))], [(7, [3, 11], [1]), (9, [3, 0], [6]), (7, [3, 9], [1]), (7, [6, 8], [1]), (7, [3, 7], [1]), (20, [0], [50, 2, 0, 6, 8, 3, 7, 7, 3, 2, 0, 6, 0, 3, 0, 3, 2, 0, 8, 0, 9999]), (102, [5], [0]), (7, [3, 4], [1])], [], [], [(20, [10, 6], [50, 0, 0, 2, 6, 0, 2, 0, 0, 1, 0, 2, 6, 0, 2, 0, 0, 1, 1, 0, 10, 4, 6, 6, 2, 1, 0, 0, 65536, 1, 1, 0, 851970])], [], [])
theorem oo_Sy_compileValue_at_k2_4 {kA : Nat → ClassId} : or_ok PRD kA GG o_Sy_compileValue_at_k2_4 := by
  refine or_mk fun A ta ws vs hD hth hl => ?_
  intro t0 r0 t3 k3 t4 k4 t6 k6 t7 k7 t8 k8 t9 k9 t10 k10 t11 k11 f0 f1 f2 f3 f4 f5 ta1 w1 le1 s1 f7
  replace f1 := shm_110 f1
  have g1 : v_iv (n_v vs 3) = w_fi ws (n_v vs 0) 6 := congrArg v_iv f1
  have kz_0_6 := fdq_304 hD hth r0
  have kz_0_8 := fdq_305 hD hth r0
  have nf0 : fc_1 PRD (20, [10, 6], [50, 0, 0, 2, 6, 0, 2, 0, 0, 1, 0, 2, 6, 0, 2, 0, 0, 1, 1, 0, 10, 4, 6, 6, 2, 1, 0, 0, 65536, 1, 1, 0, 851970]) ws (vs) := ⟨nf_in hl rfl, sgq_487 (vc_Sy_compileValue_at_k2_4_0 (v_iv (n_v vs 3)) (v_iv (n_v vs 4)) (v_iv (n_v vs 6)) (v_iv (n_v vs 7)) (v_iv (n_v vs 8)) (v_iv (n_v vs 9)) (v_iv (n_v vs 10)) (v_iv (n_v vs 11)) (w_fi ws (n_v vs 0) 6) (w_fi ws (n_v vs 0) 8) k3 k4 k6 k7 k8 k9 k10 k11 (shm_40 f0) g1 (shm_40 f2) (shm_40 f3) (shm_40 f4) (shm_1747 f5) (shm_40 f7) kz_0_6 kz_0_8)⟩
  refine ⟨(fun _ h => (by cases h)), [], trivial, ?_, (fun _ h => (by cases h))⟩
  rw [List.append_nil]
  exact List.forall_mem_cons.mpr ⟨⟨show (20 : Nat) < 100 from by decide, nf0⟩, (fun _ h => (by cases h))⟩
def n_Sy_compileValue_at_k2_an : List an_T := []
def t_Sy_compileValue_at_k2_ct : ct_L := [(1, 69, e_Sy_advance), (1, 118, e_Sy_fail), (1, 128, e_Sy_emit), (1, 152, e_Sy_closes), (91, 137, e_Sy_compileSum_at_k3), (169, 114, e_Sy_wordIn_at_s5007), (169, 114, e_Sy_wordIn_at_s5004)]
set_option maxRecDepth 100000 in
theorem c_Sy_compileValue_at_k2 {l : Launch} {D : va_G} {kA : Nat → ClassId} (h_Sy_advance : ct_ok PRD l D kA GG y_Sy_advance z_Sy_advance e_Sy_advance) (h_Sy_closes : ct_ok PRD l D kA GG y_Sy_closes z_Sy_closes e_Sy_closes) (h_Sy_compileSum_at_k3 : ct_ok PRD l D kA GG y_Sy_compileSum_at_k3 z_Sy_compileSum_at_k3 e_Sy_compileSum_at_k3) (h_Sy_emit : ct_ok PRD l D kA GG y_Sy_emit z_Sy_emit e_Sy_emit) (h_Sy_fail : ct_ok PRD l D kA GG y_Sy_fail z_Sy_fail e_Sy_fail) (h_Sy_wordIn_at_s5004 : ct_ok PRD l D kA GG y_Sy_wordIn_at_s5004 z_Sy_wordIn_at_s5004 e_Sy_wordIn_at_s5004) (h_Sy_wordIn_at_s5007 : ct_ok PRD l D kA GG y_Sy_wordIn_at_s5007 z_Sy_wordIn_at_s5007 e_Sy_wordIn_at_s5007) : ct_ok PRD l D kA GG y_Sy_compileValue_at_k2 z_Sy_compileValue_at_k2 e_Sy_compileValue_at_k2 := chk_all_ok (FT := [(31, 11, 6), (37, 11, 8), (42, 11, 9)]) (PT := []) (CT := t_Sy_compileValue_at_k2_ct) (KT := []) (NT := []) (AN := n_Sy_compileValue_at_k2_an) (OT := [o_Sy_compileValue_at_k2_0, o_Sy_compileValue_at_k2_1, o_Sy_compileValue_at_k2_2, o_Sy_compileValue_at_k2_3, o_Sy_compileValue_at_k2_4]) 0 684 (List.forall_mem_cons.mpr ⟨oo_Sy_compileValue_at_k2_0, List.forall_mem_cons.mpr ⟨oo_Sy_compileValue_at_k2_1, List.forall_mem_cons.mpr ⟨oo_Sy_compileValue_at_k2_2, List.forall_mem_cons.mpr ⟨oo_Sy_compileValue_at_k2_3, List.forall_mem_cons.mpr ⟨oo_Sy_compileValue_at_k2_4, List.forall_mem_nil _⟩⟩⟩⟩⟩) (by decide +kernel) ⟨List.forall_mem_cons.mpr ⟨gf_Sy_31, List.forall_mem_cons.mpr ⟨gf_Sy_37, List.forall_mem_cons.mpr ⟨gf_Sy_42, List.forall_mem_nil _⟩⟩⟩, List.forall_mem_nil _, List.forall_mem_cons.mpr ⟨cl_virtual (y := y_Sy_advance) (ci := 11) rfl rfl ⟨_, _, rfl⟩ (by decide +kernel) h_Sy_advance wm_2158 wm_23 wm_2155 wm_2157 wv_10_10 ⟨by decide, by decide, by decide +kernel⟩ (by decide), List.forall_mem_cons.mpr ⟨cl_virtual (y := y_Sy_fail) (ci := 11) rfl rfl ⟨_, _, rfl⟩ (by decide +kernel) h_Sy_fail wm_2239 wm_23 wm_2236 wm_2238 wv_10_14 ⟨by decide, by decide, by decide +kernel⟩ (by decide), List.forall_mem_cons.mpr ⟨cl_virtual (y := y_Sy_emit) (ci := 11) rfl rfl ⟨_, _, rfl⟩ (by decide +kernel) h_Sy_emit wm_2258 wm_23 wm_2255 wm_2257 wv_11_2 ⟨by decide, by decide, by decide +kernel⟩ (by decide), List.forall_mem_cons.mpr ⟨cl_virtual (y := y_Sy_closes) (ci := 11) rfl rfl ⟨_, _, rfl⟩ (by decide +kernel) h_Sy_closes wm_2262 wm_23 wm_2259 wm_2261 wv_11_3 ⟨by decide, by decide, by decide +kernel⟩ (by decide), List.forall_mem_cons.mpr ⟨cl_virtual (y := y_Sy_compileSum_at_k3) (ci := 11) rfl rfl ⟨_, _, rfl⟩ (by decide +kernel) h_Sy_compileSum_at_k3 wm_2266 wm_23 wm_2263 wm_2265 wv_11_4 ⟨by decide, by decide, by decide +kernel⟩ (by decide), List.forall_mem_cons.mpr ⟨cl_virtual (y := y_Sy_wordIn_at_s5007) (ci := 11) rfl rfl ⟨_, _, rfl⟩ (by decide +kernel) h_Sy_wordIn_at_s5007 wm_2229 wm_23 wm_2226 wm_2228 wv_10_12 ⟨by decide, by decide, by decide +kernel⟩ (by decide), List.forall_mem_cons.mpr ⟨cl_virtual (y := y_Sy_wordIn_at_s5004) (ci := 11) rfl rfl ⟨_, _, rfl⟩ (by decide +kernel) h_Sy_wordIn_at_s5004 wm_2229 wm_23 wm_2226 wm_2228 wv_10_12 ⟨by decide, by decide, by decide +kernel⟩ (by decide), List.forall_mem_nil _⟩⟩⟩⟩⟩⟩⟩, List.forall_mem_nil _, List.forall_mem_nil _, GG_pl⟩ (by decide +kernel)
set_option maxHeartbeats 4000000 in
theorem vc_Sy_compileValue_at_k3_0_0 (x3 : Int) (x4 : Int) (x9 : Int) (x11 : Int) (number_0 : Int) (kind_0 : Int) (k3 : 3 ≤ x3 ∧ x3 ≤ 3) (k4 : 40 ≤ x4 ∧ x4 ≤ 40) (k9 : 0 ≤ x9 ∧ x9 ≤ 0) (k11 : 0 ≤ x11 ∧ x11 ≤ 1000000) (g0 : x11 = number_0) (g2 : x3 = kind_0) (f5 : (kind_0 ≠ 3) ∨ (number_0 ≤ 9999)) (f7 : x3 ≠ x4) (kz_0_6 : 0 ≤ kind_0 ∧ kind_0 ≤ 127) (kz_0_8 : 0 ≤ number_0 ∧ number_0 ≤ 1000000) : (0 ≤ x9) ∧ ((0 ≤ x11) ∧ (((x9 * 65536) + x11) ≤ 851970)) := by
  first
    | omega
  
def o_Sy_compileValue_at_k3_0 : or_T := (108, 12, [(0, (2, 0, 0, [11])), (3, (0, 3, 3, [])), (4, (0, 40, 40, [])), (7, (0, 3, 3, [])), (8, (0, 3, 3, [])), (9, (0, 0, 0, [])), (10, (0, 3, 3, [])), (11, (0, 0, 1000000, []))], [(9, [11, 0], [8]), (7, [3, 10], [0]), (9, [3, 0], [6]), (7, [3, 8], [0]), (7, [3, 7], [0]), (20, [0], [50, 2, 0, 6, 8, 3, 7, 7, 3, 2, 0, 6, 0, 3, 0, 3, 2, 0, 8, 0, 9999]), (102, [5], [0]), (7, [3, 4], [1])], [], [], [(20, [9, 11], [50, 0, 0, 2, 6, 0, 2, 0, 0, 1, 0, 2, 6, 0, 2, 0, 0, 1, 1, 0, 10, 4, 6, 6, 2, 1, 0, 0, 65536, 1, 1, 0, 851970])], [], [])
theorem oo_Sy_compileValue_at_k3_0 {kA : Nat → ClassId} : or_ok PRD kA GG o_Sy_compileValue_at_k3_0 := by
  refine or_mk fun A ta ws vs hD hth hl => ?_
  intro t0 r0 t3 k3 t4 k4 t7 k7 t8 k8 t9 k9 t10 k10 t11 k11 f0 f1 f2 f3 f4 f5 ta1 w1 le1 s1 f7
  replace f0 := shm_143 f0
  replace f2 := shm_110 f2
  have g0 : v_iv (n_v vs 11) = w_fi ws (n_v vs 0) 8 := congrArg v_iv f0
  have g2 : v_iv (n_v vs 3) = w_fi ws (n_v vs 0) 6 := congrArg v_iv f2
  have kz_0_6 := fdq_304 hD hth r0
  have kz_0_8 := fdq_305 hD hth r0
  have nf0 : fc_1 PRD (20, [9, 11], [50, 0, 0, 2, 6, 0, 2, 0, 0, 1, 0, 2, 6, 0, 2, 0, 0, 1, 1, 0, 10, 4, 6, 6, 2, 1, 0, 0, 65536, 1, 1, 0, 851970]) ws (vs) := ⟨nf_in hl rfl, sgq_487 (vc_Sy_compileValue_at_k3_0_0 (v_iv (n_v vs 3)) (v_iv (n_v vs 4)) (v_iv (n_v vs 9)) (v_iv (n_v vs 11)) (w_fi ws (n_v vs 0) 8) (w_fi ws (n_v vs 0) 6) k3 k4 k9 k11 g0 g2 (shm_1747 f5) (shm_40 f7) kz_0_6 kz_0_8)⟩
  refine ⟨(fun _ h => (by cases h)), [], trivial, ?_, (fun _ h => (by cases h))⟩
  rw [List.append_nil]
  exact List.forall_mem_cons.mpr ⟨⟨show (20 : Nat) < 100 from by decide, nf0⟩, (fun _ h => (by cases h))⟩
set_option maxHeartbeats 4000000 in
theorem vc_Sy_compileValue_at_k3_1_0 (x3 : Int) (x4 : Int) (x6 : Int) (x7 : Int) (x8 : Int) (x9 : Int) (x10 : Int) (x11 : Int) (kind_0 : Int) (number_0 : Int) (k3 : 0 ≤ x3 ∧ x3 ≤ 127) (k4 : 40 ≤ x4 ∧ x4 ≤ 40) (k6 : 0 ≤ x6 ∧ x6 ≤ 38) (k7 : 3 ≤ x7 ∧ x7 ≤ 3) (k8 : (-1) ≤ x8 ∧ x8 ≤ (-1)) (k9 : 3 ≤ x9 ∧ x9 ≤ 3) (k10 : 1 ≤ x10 ∧ x10 ≤ 1) (k11 : 3 ≤ x11 ∧ x11 ≤ 3) (f0 : x3 ≠ x11) (g1 : x3 = kind_0) (f2 : x3 ≠ x9) (f3 : x6 ≠ x8) (f4 : x3 ≠ x7) (f5 : (kind_0 ≠ 3) ∨ (number_0 ≤ 9999)) (f7 : x3 ≠ x4) (kz_0_6 : 0 ≤ kind_0 ∧ kind_0 ≤ 127) (kz_0_8 : 0 ≤ number_0 ∧ number_0 ≤ 1000000) : (0 ≤ x10) ∧ ((0 ≤ x6) ∧ (((x10 * 65536) + x6) ≤ 851970)) := by
  first
    | omega
  
def o_Sy_compileValue_at_k3_1 : or_T := (108, 12, [(0, (2, 0, 0, [11])), (3, (0, 0, 127, [])), (4, (0, 40, 40, [])), (6, (0, 0, 38, [])), (7, (0, 3, 3, [])), (8, (0, -1, -1, [])), (9, (0, 3, 3, [])), (10, (0, 1, 1, [])), (11, (0, 3, 3, []))], [(7, [3, 11], [1]), (9, [3, 0], [6]), (7, [3, 9], [1]), (7, [6, 8], [1]), (7, [3, 7], [1]), (20, [0], [50, 2, 0, 6, 8, 3, 7, 7, 3, 2, 0, 6, 0, 3, 0, 3, 2, 0, 8, 0, 9999]), (102, [5], [0]), (7, [3, 4], [1])], [], [], [(20, [10, 6], [50, 0, 0, 2, 6, 0, 2, 0, 0, 1, 0, 2, 6, 0, 2, 0, 0, 1, 1, 0, 10, 4, 6, 6, 2, 1, 0, 0, 65536, 1, 1, 0, 851970])], [], [])
theorem oo_Sy_compileValue_at_k3_1 {kA : Nat → ClassId} : or_ok PRD kA GG o_Sy_compileValue_at_k3_1 := by
  refine or_mk fun A ta ws vs hD hth hl => ?_
  intro t0 r0 t3 k3 t4 k4 t6 k6 t7 k7 t8 k8 t9 k9 t10 k10 t11 k11 f0 f1 f2 f3 f4 f5 ta1 w1 le1 s1 f7
  replace f1 := shm_110 f1
  have g1 : v_iv (n_v vs 3) = w_fi ws (n_v vs 0) 6 := congrArg v_iv f1
  have kz_0_6 := fdq_304 hD hth r0
  have kz_0_8 := fdq_305 hD hth r0
  have nf0 : fc_1 PRD (20, [10, 6], [50, 0, 0, 2, 6, 0, 2, 0, 0, 1, 0, 2, 6, 0, 2, 0, 0, 1, 1, 0, 10, 4, 6, 6, 2, 1, 0, 0, 65536, 1, 1, 0, 851970]) ws (vs) := ⟨nf_in hl rfl, sgq_487 (vc_Sy_compileValue_at_k3_1_0 (v_iv (n_v vs 3)) (v_iv (n_v vs 4)) (v_iv (n_v vs 6)) (v_iv (n_v vs 7)) (v_iv (n_v vs 8)) (v_iv (n_v vs 9)) (v_iv (n_v vs 10)) (v_iv (n_v vs 11)) (w_fi ws (n_v vs 0) 6) (w_fi ws (n_v vs 0) 8) k3 k4 k6 k7 k8 k9 k10 k11 (shm_40 f0) g1 (shm_40 f2) (shm_40 f3) (shm_40 f4) (shm_1747 f5) (shm_40 f7) kz_0_6 kz_0_8)⟩
  refine ⟨(fun _ h => (by cases h)), [], trivial, ?_, (fun _ h => (by cases h))⟩
  rw [List.append_nil]
  exact List.forall_mem_cons.mpr ⟨⟨show (20 : Nat) < 100 from by decide, nf0⟩, (fun _ h => (by cases h))⟩
set_option maxHeartbeats 4000000 in
theorem vc_Sy_compileValue_at_k3_2_0 (x3 : Int) (x4 : Int) (x10 : Int) (x12 : Int) (number_0 : Int) (kind_0 : Int) (k3 : 3 ≤ x3 ∧ x3 ≤ 3) (k4 : 40 ≤ x4 ∧ x4 ≤ 40) (k10 : 1 ≤ x10 ∧ x10 ≤ 1) (k12 : 0 ≤ x12 ∧ x12 ≤ 1000000) (g0 : x12 = number_0) (g2 : x3 = kind_0) (f5 : (kind_0 ≠ 3) ∨ (number_0 ≤ 9999)) (f7 : x3 ≠ x4) (kz_0_6 : 0 ≤ kind_0 ∧ kind_0 ≤ 127) (kz_0_8 : 0 ≤ number_0 ∧ number_0 ≤ 1000000) : (0 ≤ x10) ∧ ((0 ≤ x12) ∧ (((x10 * 65536) + x12) ≤ 851970)) := by
  first
    | omega
  
def o_Sy_compileValue_at_k3_2 : or_T := (108, 13, [(0, (2, 0, 0, [11])), (3, (0, 3, 3, [])), (4, (0, 40, 40, [])), (7, (0, 3, 3, [])), (9, (0, 3, 3, [])), (10, (0, 1, 1, [])), (11, (0, 3, 3, [])), (12, (0, 0, 1000000, []))], [(9, [12, 0], [8]), (7, [3, 11], [0]), (9, [3, 0], [6]), (7, [3, 9], [1]), (7, [3, 7], [1]), (20, [0], [50, 2, 0, 6, 8, 3, 7, 7, 3, 2, 0, 6, 0, 3, 0, 3, 2, 0, 8, 0, 9999]), (102, [5], [0]), (7, [3, 4], [1])], [], [], [(20, [10, 12], [50, 0, 0, 2, 6, 0, 2, 0, 0, 1, 0, 2, 6, 0, 2, 0, 0, 1, 1, 0, 10, 4, 6, 6, 2, 1, 0, 0, 65536, 1, 1, 0, 851970])], [], [])
theorem oo_Sy_compileValue_at_k3_2 {kA : Nat → ClassId} : or_ok PRD kA GG o_Sy_compileValue_at_k3_2 := by
  refine or_mk fun A ta ws vs hD hth hl => ?_
  intro t0 r0 t3 k3 t4 k4 t7 k7 t9 k9 t10 k10 t11 k11 t12 k12 f0 f1 f2 f3 f4 f5 ta1 w1 le1 s1 f7
  replace f0 := shm_143 f0
  replace f2 := shm_110 f2
  have g0 : v_iv (n_v vs 12) = w_fi ws (n_v vs 0) 8 := congrArg v_iv f0
  have g2 : v_iv (n_v vs 3) = w_fi ws (n_v vs 0) 6 := congrArg v_iv f2
  have kz_0_6 := fdq_304 hD hth r0
  have kz_0_8 := fdq_305 hD hth r0
  have nf0 : fc_1 PRD (20, [10, 12], [50, 0, 0, 2, 6, 0, 2, 0, 0, 1, 0, 2, 6, 0, 2, 0, 0, 1, 1, 0, 10, 4, 6, 6, 2, 1, 0, 0, 65536, 1, 1, 0, 851970]) ws (vs) := ⟨nf_in hl rfl, sgq_487 (vc_Sy_compileValue_at_k3_2_0 (v_iv (n_v vs 3)) (v_iv (n_v vs 4)) (v_iv (n_v vs 10)) (v_iv (n_v vs 12)) (w_fi ws (n_v vs 0) 8) (w_fi ws (n_v vs 0) 6) k3 k4 k10 k12 g0 g2 (shm_1747 f5) (shm_40 f7) kz_0_6 kz_0_8)⟩
  refine ⟨(fun _ h => (by cases h)), [], trivial, ?_, (fun _ h => (by cases h))⟩
  rw [List.append_nil]
  exact List.forall_mem_cons.mpr ⟨⟨show (20 : Nat) < 100 from by decide, nf0⟩, (fun _ h => (by cases h))⟩
set_option maxHeartbeats 4000000 in
theorem vc_Sy_compileValue_at_k3_3_0 (x3 : Int) (x4 : Int) (x10 : Int) (x12 : Int) (number_0 : Int) (kind_0 : Int) (k3 : 3 ≤ x3 ∧ x3 ≤ 3) (k4 : 40 ≤ x4 ∧ x4 ≤ 40) (k10 : 0 ≤ x10 ∧ x10 ≤ 0) (k12 : 0 ≤ x12 ∧ x12 ≤ 1000000) (g0 : x12 = number_0) (g2 : x3 = kind_0) (f5 : (kind_0 ≠ 3) ∨ (number_0 ≤ 9999)) (f7 : x3 ≠ x4) (kz_0_6 : 0 ≤ kind_0 ∧ kind_0 ≤ 127) (kz_0_8 : 0 ≤ number_0 ∧ number_0 ≤ 1000000) : (0 ≤ x10) ∧ ((0 ≤ x12) ∧ (((x10 * 65536) + x12) ≤ 851970)) := by
  first
    | omega
  
def o_Sy_compileValue_at_k3_3 : or_T := (108, 13, [(0, (2, 0, 0, [11])), (3, (0, 3, 3, [])), (4, (0, 40, 40, [])), (7, (0, 3, 3, [])), (9, (0, 3, 3, [])), (10, (0, 0, 0, [])), (11, (0, 3, 3, [])), (12, (0, 0, 1000000, []))], [(9, [12, 0], [8]), (7, [3, 11], [0]), (9, [3, 0], [6]), (7, [3, 9], [0]), (7, [3, 7], [1]), (20, [0], [50, 2, 0, 6, 8, 3, 7, 7, 3, 2, 0, 6, 0, 3, 0, 3, 2, 0, 8, 0, 9999]), (102, [5], [0]), (7, [3, 4], [1])], [], [], [(20, [10, 12], [50, 0, 0, 2, 6, 0, 2, 0, 0, 1, 0, 2, 6, 0, 2, 0, 0, 1, 1, 0, 10, 4, 6, 6, 2, 1, 0, 0, 65536, 1, 1, 0, 851970])], [], [])
theorem oo_Sy_compileValue_at_k3_3 {kA : Nat → ClassId} : or_ok PRD kA GG o_Sy_compileValue_at_k3_3 := by
  refine or_mk fun A ta ws vs hD hth hl => ?_
  intro t0 r0 t3 k3 t4 k4 t7 k7 t9 k9 t10 k10 t11 k11 t12 k12 f0 f1 f2 f3 f4 f5 ta1 w1 le1 s1 f7
  replace f0 := shm_143 f0
  replace f2 := shm_110 f2
  have g0 : v_iv (n_v vs 12) = w_fi ws (n_v vs 0) 8 := congrArg v_iv f0
  have g2 : v_iv (n_v vs 3) = w_fi ws (n_v vs 0) 6 := congrArg v_iv f2
  have kz_0_6 := fdq_304 hD hth r0
  have kz_0_8 := fdq_305 hD hth r0
  have nf0 : fc_1 PRD (20, [10, 12], [50, 0, 0, 2, 6, 0, 2, 0, 0, 1, 0, 2, 6, 0, 2, 0, 0, 1, 1, 0, 10, 4, 6, 6, 2, 1, 0, 0, 65536, 1, 1, 0, 851970]) ws (vs) := ⟨nf_in hl rfl, sgq_487 (vc_Sy_compileValue_at_k3_3_0 (v_iv (n_v vs 3)) (v_iv (n_v vs 4)) (v_iv (n_v vs 10)) (v_iv (n_v vs 12)) (w_fi ws (n_v vs 0) 8) (w_fi ws (n_v vs 0) 6) k3 k4 k10 k12 g0 g2 (shm_1747 f5) (shm_40 f7) kz_0_6 kz_0_8)⟩
  refine ⟨(fun _ h => (by cases h)), [], trivial, ?_, (fun _ h => (by cases h))⟩
  rw [List.append_nil]
  exact List.forall_mem_cons.mpr ⟨⟨show (20 : Nat) < 100 from by decide, nf0⟩, (fun _ h => (by cases h))⟩
set_option maxHeartbeats 4000000 in
theorem vc_Sy_compileValue_at_k3_4_0 (x3 : Int) (x4 : Int) (x6 : Int) (x7 : Int) (x8 : Int) (x9 : Int) (x10 : Int) (x11 : Int) (kind_0 : Int) (number_0 : Int) (k3 : 0 ≤ x3 ∧ x3 ≤ 127) (k4 : 40 ≤ x4 ∧ x4 ≤ 40) (k6 : 0 ≤ x6 ∧ x6 ≤ 43) (k7 : 3 ≤ x7 ∧ x7 ≤ 3) (k8 : (-1) ≤ x8 ∧ x8 ≤ (-1)) (k9 : 3 ≤ x9 ∧ x9 ≤ 3) (k10 : 1 ≤ x10 ∧ x10 ≤ 1) (k11 : 3 ≤ x11 ∧ x11 ≤ 3) (f0 : x3 ≠ x11) (g1 : x3 = kind_0) (f2 : x3 ≠ x9) (f3 : x6 ≠ x8) (f4 : x3 ≠ x7) (f5 : (kind_0 ≠ 3) ∨ (number_0 ≤ 9999)) (f7 : x3 ≠ x4) (kz_0_6 : 0 ≤ kind_0 ∧ kind_0 ≤ 127) (kz_0_8 : 0 ≤ number_0 ∧ number_0 ≤ 1000000) : (0 ≤ x10) ∧ ((0 ≤ x6) ∧ (((x10 * 65536) + x6) ≤ 851970)) := by
  first
    | omega
  
def o_Sy_compileValue_at_k3_4 : or_T := (108, 12, [(0, (2, 0, 0, [11])), (3, (0, 0, 127, [])), (4, (0, 40, 40, [])), (6, (0, 0, 43, [])), (7, (0, 3, 3, [])), (8, (0, -1, -1, [])), (9, (0, 3, 3, [])), (10, (0, 1, 1, [])), (11, (0, 3, 3, []))], [(7, [3, 11], [1]), (9, [3, 0], [6]), (7, [3, 9], [1]), (7, [6, 8], [1]), (7, [3, 7], [1]), (20, [0], [50, 2, 0, 6, 8, 3, 7, 7, 3, 2, 0, 6, 0, 3, 0, 3, 2, 0, 8, 0, 9999]), (102, [5], [0]), (7, [3, 4], [1])], [], [], [(20, [10, 6], [50, 0, 0, 2, 6, 0, 2, 0, 0, 1, 0, 2, 6, 0, 2, 0, 0, 1, 1, 0, 10, 4, 6, 6, 2, 1, 0, 0, 65536, 1, 1, 0, 851970])], [], [])
theorem oo_Sy_compileValue_at_k3_4 {kA : Nat → ClassId} : or_ok PRD kA GG o_Sy_compileValue_at_k3_4 := by
  refine or_mk fun A ta ws vs hD hth hl => ?_
  intro t0 r0 t3 k3 t4 k4 t6 k6 t7 k7 t8 k8 t9 k9 t10 k10 t11 k11 f0 f1 f2 f3 f4 f5 ta1 w1 le1 s1 f7
  replace f1 := shm_110 f1
  have g1 : v_iv (n_v vs 3) = w_fi ws (n_v vs 0) 6 := congrArg v_iv f1
  have kz_0_6 := fdq_304 hD hth r0
  have kz_0_8 := fdq_305 hD hth r0
  have nf0 : fc_1 PRD (20, [10, 6], [50, 0, 0, 2, 6, 0, 2, 0, 0, 1, 0, 2, 6, 0, 2, 0, 0, 1, 1, 0, 10, 4, 6, 6, 2, 1, 0, 0, 65536, 1, 1, 0, 851970]) ws (vs) := ⟨nf_in hl rfl, sgq_487 (vc_Sy_compileValue_at_k3_4_0 (v_iv (n_v vs 3)) (v_iv (n_v vs 4)) (v_iv (n_v vs 6)) (v_iv (n_v vs 7)) (v_iv (n_v vs 8)) (v_iv (n_v vs 9)) (v_iv (n_v vs 10)) (v_iv (n_v vs 11)) (w_fi ws (n_v vs 0) 6) (w_fi ws (n_v vs 0) 8) k3 k4 k6 k7 k8 k9 k10 k11 (shm_40 f0) g1 (shm_40 f2) (shm_40 f3) (shm_40 f4) (shm_1747 f5) (shm_40 f7) kz_0_6 kz_0_8)⟩
  refine ⟨(fun _ h => (by cases h)), [], trivial, ?_, (fun _ h => (by cases h))⟩
  rw [List.append_nil]
  exact List.forall_mem_cons.mpr ⟨⟨show (20 : Nat) < 100 from by decide, nf0⟩, (fun _ h => (by cases h))⟩
def n_Sy_compileValue_at_k3_an : List an_T := []
def t_Sy_compileValue_at_k3_ct : ct_L := [(1, 69, e_Sy_advance), (1, 118, e_Sy_fail), (1, 128, e_Sy_emit), (1, 152, e_Sy_closes), (91, 137, e_Sy_compileSum_at_k4), (169, 114, e_Sy_wordIn_at_s5007), (169, 114, e_Sy_wordIn_at_s5004)]
set_option maxRecDepth 100000 in
theorem c_Sy_compileValue_at_k3 {l : Launch} {D : va_G} {kA : Nat → ClassId} (h_Sy_advance : ct_ok PRD l D kA GG y_Sy_advance z_Sy_advance e_Sy_advance) (h_Sy_closes : ct_ok PRD l D kA GG y_Sy_closes z_Sy_closes e_Sy_closes) (h_Sy_compileSum_at_k4 : ct_ok PRD l D kA GG y_Sy_compileSum_at_k4 z_Sy_compileSum_at_k4 e_Sy_compileSum_at_k4) (h_Sy_emit : ct_ok PRD l D kA GG y_Sy_emit z_Sy_emit e_Sy_emit) (h_Sy_fail : ct_ok PRD l D kA GG y_Sy_fail z_Sy_fail e_Sy_fail) (h_Sy_wordIn_at_s5004 : ct_ok PRD l D kA GG y_Sy_wordIn_at_s5004 z_Sy_wordIn_at_s5004 e_Sy_wordIn_at_s5004) (h_Sy_wordIn_at_s5007 : ct_ok PRD l D kA GG y_Sy_wordIn_at_s5007 z_Sy_wordIn_at_s5007 e_Sy_wordIn_at_s5007) : ct_ok PRD l D kA GG y_Sy_compileValue_at_k3 z_Sy_compileValue_at_k3 e_Sy_compileValue_at_k3 := chk_all_ok (FT := [(31, 11, 6), (37, 11, 8), (42, 11, 9)]) (PT := []) (CT := t_Sy_compileValue_at_k3_ct) (KT := []) (NT := []) (AN := n_Sy_compileValue_at_k3_an) (OT := [o_Sy_compileValue_at_k3_0, o_Sy_compileValue_at_k3_1, o_Sy_compileValue_at_k3_2, o_Sy_compileValue_at_k3_3, o_Sy_compileValue_at_k3_4]) 0 684 (List.forall_mem_cons.mpr ⟨oo_Sy_compileValue_at_k3_0, List.forall_mem_cons.mpr ⟨oo_Sy_compileValue_at_k3_1, List.forall_mem_cons.mpr ⟨oo_Sy_compileValue_at_k3_2, List.forall_mem_cons.mpr ⟨oo_Sy_compileValue_at_k3_3, List.forall_mem_cons.mpr ⟨oo_Sy_compileValue_at_k3_4, List.forall_mem_nil _⟩⟩⟩⟩⟩) (by decide +kernel) ⟨List.forall_mem_cons.mpr ⟨gf_Sy_31, List.forall_mem_cons.mpr ⟨gf_Sy_37, List.forall_mem_cons.mpr ⟨gf_Sy_42, List.forall_mem_nil _⟩⟩⟩, List.forall_mem_nil _, List.forall_mem_cons.mpr ⟨cl_virtual (y := y_Sy_advance) (ci := 11) rfl rfl ⟨_, _, rfl⟩ (by decide +kernel) h_Sy_advance wm_2158 wm_23 wm_2155 wm_2157 wv_10_10 ⟨by decide, by decide, by decide +kernel⟩ (by decide), List.forall_mem_cons.mpr ⟨cl_virtual (y := y_Sy_fail) (ci := 11) rfl rfl ⟨_, _, rfl⟩ (by decide +kernel) h_Sy_fail wm_2239 wm_23 wm_2236 wm_2238 wv_10_14 ⟨by decide, by decide, by decide +kernel⟩ (by decide), List.forall_mem_cons.mpr ⟨cl_virtual (y := y_Sy_emit) (ci := 11) rfl rfl ⟨_, _, rfl⟩ (by decide +kernel) h_Sy_emit wm_2258 wm_23 wm_2255 wm_2257 wv_11_2 ⟨by decide, by decide, by decide +kernel⟩ (by decide), List.forall_mem_cons.mpr ⟨cl_virtual (y := y_Sy_closes) (ci := 11) rfl rfl ⟨_, _, rfl⟩ (by decide +kernel) h_Sy_closes wm_2262 wm_23 wm_2259 wm_2261 wv_11_3 ⟨by decide, by decide, by decide +kernel⟩ (by decide), List.forall_mem_cons.mpr ⟨cl_virtual (y := y_Sy_compileSum_at_k4) (ci := 11) rfl rfl ⟨_, _, rfl⟩ (by decide +kernel) h_Sy_compileSum_at_k4 wm_2266 wm_23 wm_2263 wm_2265 wv_11_4 ⟨by decide, by decide, by decide +kernel⟩ (by decide), List.forall_mem_cons.mpr ⟨cl_virtual (y := y_Sy_wordIn_at_s5007) (ci := 11) rfl rfl ⟨_, _, rfl⟩ (by decide +kernel) h_Sy_wordIn_at_s5007 wm_2229 wm_23 wm_2226 wm_2228 wv_10_12 ⟨by decide, by decide, by decide +kernel⟩ (by decide), List.forall_mem_cons.mpr ⟨cl_virtual (y := y_Sy_wordIn_at_s5004) (ci := 11) rfl rfl ⟨_, _, rfl⟩ (by decide +kernel) h_Sy_wordIn_at_s5004 wm_2229 wm_23 wm_2226 wm_2228 wv_10_12 ⟨by decide, by decide, by decide +kernel⟩ (by decide), List.forall_mem_nil _⟩⟩⟩⟩⟩⟩⟩, List.forall_mem_nil _, List.forall_mem_nil _, GG_pl⟩ (by decide +kernel)
set_option maxHeartbeats 4000000 in
theorem vc_Sy_compileValue_at_k4_0_0 (x3 : Int) (x4 : Int) (x9 : Int) (x11 : Int) (number_0 : Int) (kind_0 : Int) (k3 : 3 ≤ x3 ∧ x3 ≤ 3) (k4 : 40 ≤ x4 ∧ x4 ≤ 40) (k9 : 0 ≤ x9 ∧ x9 ≤ 0) (k11 : 0 ≤ x11 ∧ x11 ≤ 1000000) (g0 : x11 = number_0) (g2 : x3 = kind_0) (f5 : (kind_0 ≠ 3) ∨ (number_0 ≤ 9999)) (f7 : x3 ≠ x4) (kz_0_6 : 0 ≤ kind_0 ∧ kind_0 ≤ 127) (kz_0_8 : 0 ≤ number_0 ∧ number_0 ≤ 1000000) : (0 ≤ x9) ∧ ((0 ≤ x11) ∧ (((x9 * 65536) + x11) ≤ 851970)) := by
  first
    | omega
  
def o_Sy_compileValue_at_k4_0 : or_T := (108, 12, [(0, (2, 0, 0, [11])), (3, (0, 3, 3, [])), (4, (0, 40, 40, [])), (7, (0, 3, 3, [])), (8, (0, 3, 3, [])), (9, (0, 0, 0, [])), (10, (0, 3, 3, [])), (11, (0, 0, 1000000, []))], [(9, [11, 0], [8]), (7, [3, 10], [0]), (9, [3, 0], [6]), (7, [3, 8], [0]), (7, [3, 7], [0]), (20, [0], [50, 2, 0, 6, 8, 3, 7, 7, 3, 2, 0, 6, 0, 3, 0, 3, 2, 0, 8, 0, 9999]), (102, [5], [0]), (7, [3, 4], [1])], [], [], [(20, [9, 11], [50, 0, 0, 2, 6, 0, 2, 0, 0, 1, 0, 2, 6, 0, 2, 0, 0, 1, 1, 0, 10, 4, 6, 6, 2, 1, 0, 0, 65536, 1, 1, 0, 851970])], [], [])
theorem oo_Sy_compileValue_at_k4_0 {kA : Nat → ClassId} : or_ok PRD kA GG o_Sy_compileValue_at_k4_0 := by
  refine or_mk fun A ta ws vs hD hth hl => ?_
  intro t0 r0 t3 k3 t4 k4 t7 k7 t8 k8 t9 k9 t10 k10 t11 k11 f0 f1 f2 f3 f4 f5 ta1 w1 le1 s1 f7
  replace f0 := shm_143 f0
  replace f2 := shm_110 f2
  have g0 : v_iv (n_v vs 11) = w_fi ws (n_v vs 0) 8 := congrArg v_iv f0
  have g2 : v_iv (n_v vs 3) = w_fi ws (n_v vs 0) 6 := congrArg v_iv f2
  have kz_0_6 := fdq_304 hD hth r0
  have kz_0_8 := fdq_305 hD hth r0
  have nf0 : fc_1 PRD (20, [9, 11], [50, 0, 0, 2, 6, 0, 2, 0, 0, 1, 0, 2, 6, 0, 2, 0, 0, 1, 1, 0, 10, 4, 6, 6, 2, 1, 0, 0, 65536, 1, 1, 0, 851970]) ws (vs) := ⟨nf_in hl rfl, sgq_487 (vc_Sy_compileValue_at_k4_0_0 (v_iv (n_v vs 3)) (v_iv (n_v vs 4)) (v_iv (n_v vs 9)) (v_iv (n_v vs 11)) (w_fi ws (n_v vs 0) 8) (w_fi ws (n_v vs 0) 6) k3 k4 k9 k11 g0 g2 (shm_1747 f5) (shm_40 f7) kz_0_6 kz_0_8)⟩
  refine ⟨(fun _ h => (by cases h)), [], trivial, ?_, (fun _ h => (by cases h))⟩
  rw [List.append_nil]
  exact List.forall_mem_cons.mpr ⟨⟨show (20 : Nat) < 100 from by decide, nf0⟩, (fun _ h => (by cases h))⟩
set_option maxHeartbeats 4000000 in
theorem vc_Sy_compileValue_at_k4_1_0 (x3 : Int) (x4 : Int) (x6 : Int) (x7 : Int) (x8 : Int) (x9 : Int) (x10 : Int) (x11 : Int) (kind_0 : Int) (number_0 : Int) (k3 : 0 ≤ x3 ∧ x3 ≤ 127) (k4 : 40 ≤ x4 ∧ x4 ≤ 40) (k6 : 0 ≤ x6 ∧ x6 ≤ 38) (k7 : 3 ≤ x7 ∧ x7 ≤ 3) (k8 : (-1) ≤ x8 ∧ x8 ≤ (-1)) (k9 : 3 ≤ x9 ∧ x9 ≤ 3) (k10 : 1 ≤ x10 ∧ x10 ≤ 1) (k11 : 3 ≤ x11 ∧ x11 ≤ 3) (f0 : x3 ≠ x11) (g1 : x3 = kind_0) (f2 : x3 ≠ x9) (f3 : x6 ≠ x8) (f4 : x3 ≠ x7) (f5 : (kind_0 ≠ 3) ∨ (number_0 ≤ 9999)) (f7 : x3 ≠ x4) (kz_0_6 : 0 ≤ kind_0 ∧ kind_0 ≤ 127) (kz_0_8 : 0 ≤ number_0 ∧ number_0 ≤ 1000000) : (0 ≤ x10) ∧ ((0 ≤ x6) ∧ (((x10 * 65536) + x6) ≤ 851970)) := by
  first
    | omega
  
def o_Sy_compileValue_at_k4_1 : or_T := (108, 12, [(0, (2, 0, 0, [11])), (3, (0, 0, 127, [])), (4, (0, 40, 40, [])), (6, (0, 0, 38, [])), (7, (0, 3, 3, [])), (8, (0, -1, -1, [])), (9, (0, 3, 3, [])), (10, (0, 1, 1, [])), (11, (0, 3, 3, []))], [(7, [3, 11], [1]), (9, [3, 0], [6]), (7, [3, 9], [1]), (7, [6, 8], [1]), (7, [3, 7], [1]), (20, [0], [50, 2, 0, 6, 8, 3, 7, 7, 3, 2, 0, 6, 0, 3, 0, 3, 2, 0, 8, 0, 9999]), (102, [5], [0]), (7, [3, 4], [1])], [], [], [(20, [10, 6], [50, 0, 0, 2, 6, 0, 2, 0, 0, 1, 0, 2, 6, 0, 2, 0, 0, 1, 1, 0, 10, 4, 6, 6, 2, 1, 0, 0, 65536, 1, 1, 0, 851970])], [], [])
theorem oo_Sy_compileValue_at_k4_1 {kA : Nat → ClassId} : or_ok PRD kA GG o_Sy_compileValue_at_k4_1 := by
  refine or_mk fun A ta ws vs hD hth hl => ?_
  intro t0 r0 t3 k3 t4 k4 t6 k6 t7 k7 t8 k8 t9 k9 t10 k10 t11 k11 f0 f1 f2 f3 f4 f5 ta1 w1 le1 s1 f7
  replace f1 := shm_110 f1
  have g1 : v_iv (n_v vs 3) = w_fi ws (n_v vs 0) 6 := congrArg v_iv f1
  have kz_0_6 := fdq_304 hD hth r0
  have kz_0_8 := fdq_305 hD hth r0
  have nf0 : fc_1 PRD (20, [10, 6], [50, 0, 0, 2, 6, 0, 2, 0, 0, 1, 0, 2, 6, 0, 2, 0, 0, 1, 1, 0, 10, 4, 6, 6, 2, 1, 0, 0, 65536, 1, 1, 0, 851970]) ws (vs) := ⟨nf_in hl rfl, sgq_487 (vc_Sy_compileValue_at_k4_1_0 (v_iv (n_v vs 3)) (v_iv (n_v vs 4)) (v_iv (n_v vs 6)) (v_iv (n_v vs 7)) (v_iv (n_v vs 8)) (v_iv (n_v vs 9)) (v_iv (n_v vs 10)) (v_iv (n_v vs 11)) (w_fi ws (n_v vs 0) 6) (w_fi ws (n_v vs 0) 8) k3 k4 k6 k7 k8 k9 k10 k11 (shm_40 f0) g1 (shm_40 f2) (shm_40 f3) (shm_40 f4) (shm_1747 f5) (shm_40 f7) kz_0_6 kz_0_8)⟩
  refine ⟨(fun _ h => (by cases h)), [], trivial, ?_, (fun _ h => (by cases h))⟩
  rw [List.append_nil]
  exact List.forall_mem_cons.mpr ⟨⟨show (20 : Nat) < 100 from by decide, nf0⟩, (fun _ h => (by cases h))⟩
set_option maxHeartbeats 4000000 in
theorem vc_Sy_compileValue_at_k4_2_0 (x3 : Int) (x4 : Int) (x10 : Int) (x12 : Int) (number_0 : Int) (kind_0 : Int) (k3 : 3 ≤ x3 ∧ x3 ≤ 3) (k4 : 40 ≤ x4 ∧ x4 ≤ 40) (k10 : 1 ≤ x10 ∧ x10 ≤ 1) (k12 : 0 ≤ x12 ∧ x12 ≤ 1000000) (g0 : x12 = number_0) (g2 : x3 = kind_0) (f5 : (kind_0 ≠ 3) ∨ (number_0 ≤ 9999)) (f7 : x3 ≠ x4) (kz_0_6 : 0 ≤ kind_0 ∧ kind_0 ≤ 127) (kz_0_8 : 0 ≤ number_0 ∧ number_0 ≤ 1000000) : (0 ≤ x10) ∧ ((0 ≤ x12) ∧ (((x10 * 65536) + x12) ≤ 851970)) := by
  first
    | omega
  
def o_Sy_compileValue_at_k4_2 : or_T := (108, 13, [(0, (2, 0, 0, [11])), (3, (0, 3, 3, [])), (4, (0, 40, 40, [])), (7, (0, 3, 3, [])), (9, (0, 3, 3, [])), (10, (0, 1, 1, [])), (11, (0, 3, 3, [])), (12, (0, 0, 1000000, []))], [(9, [12, 0], [8]), (7, [3, 11], [0]), (9, [3, 0], [6]), (7, [3, 9], [1]), (7, [3, 7], [1]), (20, [0], [50, 2, 0, 6, 8, 3, 7, 7, 3, 2, 0, 6, 0, 3, 0, 3, 2, 0, 8, 0, 9999]), (102, [5], [0]), (7, [3, 4], [1])], [], [], [(20, [10, 12], [50, 0, 0, 2, 6, 0, 2, 0, 0, 1, 0, 2, 6, 0, 2, 0, 0, 1, 1, 0, 10, 4, 6, 6, 2, 1, 0, 0, 65536, 1, 1, 0, 851970])], [], [])
theorem oo_Sy_compileValue_at_k4_2 {kA : Nat → ClassId} : or_ok PRD kA GG o_Sy_compileValue_at_k4_2 := by
  refine or_mk fun A ta ws vs hD hth hl => ?_
  intro t0 r0 t3 k3 t4 k4 t7 k7 t9 k9 t10 k10 t11 k11 t12 k12 f0 f1 f2 f3 f4 f5 ta1 w1 le1 s1 f7
  replace f0 := shm_143 f0
  replace f2 := shm_110 f2
  have g0 : v_iv (n_v vs 12) = w_fi ws (n_v vs 0) 8 := congrArg v_iv f0
  have g2 : v_iv (n_v vs 3) = w_fi ws (n_v vs 0) 6 := congrArg v_iv f2
  have kz_0_6 := fdq_304 hD hth r0
  have kz_0_8 := fdq_305 hD hth r0
  have nf0 : fc_1 PRD (20, [10, 12], [50, 0, 0, 2, 6, 0, 2, 0, 0, 1, 0, 2, 6, 0, 2, 0, 0, 1, 1, 0, 10, 4, 6, 6, 2, 1, 0, 0, 65536, 1, 1, 0, 851970]) ws (vs) := ⟨nf_in hl rfl, sgq_487 (vc_Sy_compileValue_at_k4_2_0 (v_iv (n_v vs 3)) (v_iv (n_v vs 4)) (v_iv (n_v vs 10)) (v_iv (n_v vs 12)) (w_fi ws (n_v vs 0) 8) (w_fi ws (n_v vs 0) 6) k3 k4 k10 k12 g0 g2 (shm_1747 f5) (shm_40 f7) kz_0_6 kz_0_8)⟩
  refine ⟨(fun _ h => (by cases h)), [], trivial, ?_, (fun _ h => (by cases h))⟩
  rw [List.append_nil]
  exact List.forall_mem_cons.mpr ⟨⟨show (20 : Nat) < 100 from by decide, nf0⟩, (fun _ h => (by cases h))⟩
set_option maxHeartbeats 4000000 in
theorem vc_Sy_compileValue_at_k4_3_0 (x3 : Int) (x4 : Int) (x10 : Int) (x12 : Int) (number_0 : Int) (kind_0 : Int) (k3 : 3 ≤ x3 ∧ x3 ≤ 3) (k4 : 40 ≤ x4 ∧ x4 ≤ 40) (k10 : 0 ≤ x10 ∧ x10 ≤ 0) (k12 : 0 ≤ x12 ∧ x12 ≤ 1000000) (g0 : x12 = number_0) (g2 : x3 = kind_0) (f5 : (kind_0 ≠ 3) ∨ (number_0 ≤ 9999)) (f7 : x3 ≠ x4) (kz_0_6 : 0 ≤ kind_0 ∧ kind_0 ≤ 127) (kz_0_8 : 0 ≤ number_0 ∧ number_0 ≤ 1000000) : (0 ≤ x10) ∧ ((0 ≤ x12) ∧ (((x10 * 65536) + x12) ≤ 851970)) := by
  first
    | omega
  
def o_Sy_compileValue_at_k4_3 : or_T := (108, 13, [(0, (2, 0, 0, [11])), (3, (0, 3, 3, [])), (4, (0, 40, 40, [])), (7, (0, 3, 3, [])), (9, (0, 3, 3, [])), (10, (0, 0, 0, [])), (11, (0, 3, 3, [])), (12, (0, 0, 1000000, []))], [(9, [12, 0], [8]), (7, [3, 11], [0]), (9, [3, 0], [6]), (7, [3, 9], [0]), (7, [3, 7], [1]), (20, [0], [50, 2, 0, 6, 8, 3, 7, 7, 3, 2, 0, 6, 0, 3, 0, 3, 2, 0, 8, 0, 9999]), (102, [5], [0]), (7, [3, 4], [1])], [], [], [(20, [10, 12], [50, 0, 0, 2, 6, 0, 2, 0, 0, 1, 0, 2, 6, 0, 2, 0, 0, 1, 1, 0, 10, 4, 6, 6, 2, 1, 0, 0, 65536, 1, 1, 0, 851970])], [], [])
theorem oo_Sy_compileValue_at_k4_3 {kA : Nat → ClassId} : or_ok PRD kA GG o_Sy_compileValue_at_k4_3 := by
  refine or_mk fun A ta ws vs hD hth hl => ?_
  intro t0 r0 t3 k3 t4 k4 t7 k7 t9 k9 t10 k10 t11 k11 t12 k12 f0 f1 f2 f3 f4 f5 ta1 w1 le1 s1 f7
  replace f0 := shm_143 f0
  replace f2 := shm_110 f2
  have g0 : v_iv (n_v vs 12) = w_fi ws (n_v vs 0) 8 := congrArg v_iv f0
  have g2 : v_iv (n_v vs 3) = w_fi ws (n_v vs 0) 6 := congrArg v_iv f2
  have kz_0_6 := fdq_304 hD hth r0
  have kz_0_8 := fdq_305 hD hth r0
  have nf0 : fc_1 PRD (20, [10, 12], [50, 0, 0, 2, 6, 0, 2, 0, 0, 1, 0, 2, 6, 0, 2, 0, 0, 1, 1, 0, 10, 4, 6, 6, 2, 1, 0, 0, 65536, 1, 1, 0, 851970]) ws (vs) := ⟨nf_in hl rfl, sgq_487 (vc_Sy_compileValue_at_k4_3_0 (v_iv (n_v vs 3)) (v_iv (n_v vs 4)) (v_iv (n_v vs 10)) (v_iv (n_v vs 12)) (w_fi ws (n_v vs 0) 8) (w_fi ws (n_v vs 0) 6) k3 k4 k10 k12 g0 g2 (shm_1747 f5) (shm_40 f7) kz_0_6 kz_0_8)⟩
  refine ⟨(fun _ h => (by cases h)), [], trivial, ?_, (fun _ h => (by cases h))⟩
  rw [List.append_nil]
  exact List.forall_mem_cons.mpr ⟨⟨show (20 : Nat) < 100 from by decide, nf0⟩, (fun _ h => (by cases h))⟩
set_option maxHeartbeats 4000000 in
theorem vc_Sy_compileValue_at_k4_4_0 (x3 : Int) (x4 : Int) (x6 : Int) (x7 : Int) (x8 : Int) (x9 : Int) (x10 : Int) (x11 : Int) (kind_0 : Int) (number_0 : Int) (k3 : 0 ≤ x3 ∧ x3 ≤ 127) (k4 : 40 ≤ x4 ∧ x4 ≤ 40) (k6 : 0 ≤ x6 ∧ x6 ≤ 43) (k7 : 3 ≤ x7 ∧ x7 ≤ 3) (k8 : (-1) ≤ x8 ∧ x8 ≤ (-1)) (k9 : 3 ≤ x9 ∧ x9 ≤ 3) (k10 : 1 ≤ x10 ∧ x10 ≤ 1) (k11 : 3 ≤ x11 ∧ x11 ≤ 3) (f0 : x3 ≠ x11) (g1 : x3 = kind_0) (f2 : x3 ≠ x9) (f3 : x6 ≠ x8) (f4 : x3 ≠ x7) (f5 : (kind_0 ≠ 3) ∨ (number_0 ≤ 9999)) (f7 : x3 ≠ x4) (kz_0_6 : 0 ≤ kind_0 ∧ kind_0 ≤ 127) (kz_0_8 : 0 ≤ number_0 ∧ number_0 ≤ 1000000) : (0 ≤ x10) ∧ ((0 ≤ x6) ∧ (((x10 * 65536) + x6) ≤ 851970)) := by
  first
    | omega
  
def o_Sy_compileValue_at_k4_4 : or_T := (108, 12, [(0, (2, 0, 0, [11])), (3, (0, 0, 127, [])), (4, (0, 40, 40, [])), (6, (0, 0, 43, [])), (7, (0, 3, 3, [])), (8, (0, -1, -1, [])), (9, (0, 3, 3, [])), (10, (0, 1, 1, [])), (11, (0, 3, 3, []))], [(7, [3, 11], [1]), (9, [3, 0], [6]), (7, [3, 9], [1]), (7, [6, 8], [1]), (7, [3, 7], [1]), (20, [0], [50, 2, 0, 6, 8, 3, 7, 7, 3, 2, 0, 6, 0, 3, 0, 3, 2, 0, 8, 0, 9999]), (102, [5], [0]), (7, [3, 4], [1])], [], [], [(20, [10, 6], [50, 0, 0, 2, 6, 0, 2, 0, 0, 1, 0, 2, 6, 0, 2, 0, 0, 1, 1, 0, 10, 4, 6, 6, 2, 1, 0, 0, 65536, 1, 1, 0, 851970])], [], [])
theorem oo_Sy_compileValue_at_k4_4 {kA : Nat → ClassId} : or_ok PRD kA GG o_Sy_compileValue_at_k4_4 := by
  refine or_mk fun A ta ws vs hD hth hl => ?_
  intro t0 r0 t3 k3 t4 k4 t6 k6 t7 k7 t8 k8 t9 k9 t10 k10 t11 k11 f0 f1 f2 f3 f4 f5 ta1 w1 le1 s1 f7
  replace f1 := shm_110 f1
  have g1 : v_iv (n_v vs 3) = w_fi ws (n_v vs 0) 6 := congrArg v_iv f1
  have kz_0_6 := fdq_304 hD hth r0
  have kz_0_8 := fdq_305 hD hth r0
  have nf0 : fc_1 PRD (20, [10, 6], [50, 0, 0, 2, 6, 0, 2, 0, 0, 1, 0, 2, 6, 0, 2, 0, 0, 1, 1, 0, 10, 4, 6, 6, 2, 1, 0, 0, 65536, 1, 1, 0, 851970]) ws (vs) := ⟨nf_in hl rfl, sgq_487 (vc_Sy_compileValue_at_k4_4_0 (v_iv (n_v vs 3)) (v_iv (n_v vs 4)) (v_iv (n_v vs 6)) (v_iv (n_v vs 7)) (v_iv (n_v vs 8)) (v_iv (n_v vs 9)) (v_iv (n_v vs 10)) (v_iv (n_v vs 11)) (w_fi ws (n_v vs 0) 6) (w_fi ws (n_v vs 0) 8) k3 k4 k6 k7 k8 k9 k10 k11 (shm_40 f0) g1 (shm_40 f2) (shm_40 f3) (shm_40 f4) (shm_1747 f5) (shm_40 f7) kz_0_6 kz_0_8)⟩
  refine ⟨(fun _ h => (by cases h)), [], trivial, ?_, (fun _ h => (by cases h))⟩
  rw [List.append_nil]
  exact List.forall_mem_cons.mpr ⟨⟨show (20 : Nat) < 100 from by decide, nf0⟩, (fun _ h => (by cases h))⟩
def n_Sy_compileValue_at_k4_an : List an_T := []
def t_Sy_compileValue_at_k4_ct : ct_L := [(1, 69, e_Sy_advance), (1, 118, e_Sy_fail), (1, 128, e_Sy_emit), (1, 152, e_Sy_closes), (91, 137, e_Sy_compileSum_at_k5), (169, 114, e_Sy_wordIn_at_s5007), (169, 114, e_Sy_wordIn_at_s5004)]
set_option maxRecDepth 100000 in
theorem c_Sy_compileValue_at_k4 {l : Launch} {D : va_G} {kA : Nat → ClassId} (h_Sy_advance : ct_ok PRD l D kA GG y_Sy_advance z_Sy_advance e_Sy_advance) (h_Sy_closes : ct_ok PRD l D kA GG y_Sy_closes z_Sy_closes e_Sy_closes) (h_Sy_compileSum_at_k5 : ct_ok PRD l D kA GG y_Sy_compileSum_at_k5 z_Sy_compileSum_at_k5 e_Sy_compileSum_at_k5) (h_Sy_emit : ct_ok PRD l D kA GG y_Sy_emit z_Sy_emit e_Sy_emit) (h_Sy_fail : ct_ok PRD l D kA GG y_Sy_fail z_Sy_fail e_Sy_fail) (h_Sy_wordIn_at_s5004 : ct_ok PRD l D kA GG y_Sy_wordIn_at_s5004 z_Sy_wordIn_at_s5004 e_Sy_wordIn_at_s5004) (h_Sy_wordIn_at_s5007 : ct_ok PRD l D kA GG y_Sy_wordIn_at_s5007 z_Sy_wordIn_at_s5007 e_Sy_wordIn_at_s5007) : ct_ok PRD l D kA GG y_Sy_compileValue_at_k4 z_Sy_compileValue_at_k4 e_Sy_compileValue_at_k4 := chk_all_ok (FT := [(31, 11, 6), (37, 11, 8), (42, 11, 9)]) (PT := []) (CT := t_Sy_compileValue_at_k4_ct) (KT := []) (NT := []) (AN := n_Sy_compileValue_at_k4_an) (OT := [o_Sy_compileValue_at_k4_0, o_Sy_compileValue_at_k4_1, o_Sy_compileValue_at_k4_2, o_Sy_compileValue_at_k4_3, o_Sy_compileValue_at_k4_4]) 0 684 (List.forall_mem_cons.mpr ⟨oo_Sy_compileValue_at_k4_0, List.forall_mem_cons.mpr ⟨oo_Sy_compileValue_at_k4_1, List.forall_mem_cons.mpr ⟨oo_Sy_compileValue_at_k4_2, List.forall_mem_cons.mpr ⟨oo_Sy_compileValue_at_k4_3, List.forall_mem_cons.mpr ⟨oo_Sy_compileValue_at_k4_4, List.forall_mem_nil _⟩⟩⟩⟩⟩) (by decide +kernel) ⟨List.forall_mem_cons.mpr ⟨gf_Sy_31, List.forall_mem_cons.mpr ⟨gf_Sy_37, List.forall_mem_cons.mpr ⟨gf_Sy_42, List.forall_mem_nil _⟩⟩⟩, List.forall_mem_nil _, List.forall_mem_cons.mpr ⟨cl_virtual (y := y_Sy_advance) (ci := 11) rfl rfl ⟨_, _, rfl⟩ (by decide +kernel) h_Sy_advance wm_2158 wm_23 wm_2155 wm_2157 wv_10_10 ⟨by decide, by decide, by decide +kernel⟩ (by decide), List.forall_mem_cons.mpr ⟨cl_virtual (y := y_Sy_fail) (ci := 11) rfl rfl ⟨_, _, rfl⟩ (by decide +kernel) h_Sy_fail wm_2239 wm_23 wm_2236 wm_2238 wv_10_14 ⟨by decide, by decide, by decide +kernel⟩ (by decide), List.forall_mem_cons.mpr ⟨cl_virtual (y := y_Sy_emit) (ci := 11) rfl rfl ⟨_, _, rfl⟩ (by decide +kernel) h_Sy_emit wm_2258 wm_23 wm_2255 wm_2257 wv_11_2 ⟨by decide, by decide, by decide +kernel⟩ (by decide), List.forall_mem_cons.mpr ⟨cl_virtual (y := y_Sy_closes) (ci := 11) rfl rfl ⟨_, _, rfl⟩ (by decide +kernel) h_Sy_closes wm_2262 wm_23 wm_2259 wm_2261 wv_11_3 ⟨by decide, by decide, by decide +kernel⟩ (by decide), List.forall_mem_cons.mpr ⟨cl_virtual (y := y_Sy_compileSum_at_k5) (ci := 11) rfl rfl ⟨_, _, rfl⟩ (by decide +kernel) h_Sy_compileSum_at_k5 wm_2266 wm_23 wm_2263 wm_2265 wv_11_4 ⟨by decide, by decide, by decide +kernel⟩ (by decide), List.forall_mem_cons.mpr ⟨cl_virtual (y := y_Sy_wordIn_at_s5007) (ci := 11) rfl rfl ⟨_, _, rfl⟩ (by decide +kernel) h_Sy_wordIn_at_s5007 wm_2229 wm_23 wm_2226 wm_2228 wv_10_12 ⟨by decide, by decide, by decide +kernel⟩ (by decide), List.forall_mem_cons.mpr ⟨cl_virtual (y := y_Sy_wordIn_at_s5004) (ci := 11) rfl rfl ⟨_, _, rfl⟩ (by decide +kernel) h_Sy_wordIn_at_s5004 wm_2229 wm_23 wm_2226 wm_2228 wv_10_12 ⟨by decide, by decide, by decide +kernel⟩ (by decide), List.forall_mem_nil _⟩⟩⟩⟩⟩⟩⟩, List.forall_mem_nil _, List.forall_mem_nil _, GG_pl⟩ (by decide +kernel)
set_option maxHeartbeats 4000000 in
theorem vc_Sy_compileValue_at_k5_0_0 (x3 : Int) (x4 : Int) (x9 : Int) (x11 : Int) (number_0 : Int) (kind_0 : Int) (k3 : 3 ≤ x3 ∧ x3 ≤ 3) (k4 : 40 ≤ x4 ∧ x4 ≤ 40) (k9 : 0 ≤ x9 ∧ x9 ≤ 0) (k11 : 0 ≤ x11 ∧ x11 ≤ 1000000) (g0 : x11 = number_0) (g2 : x3 = kind_0) (f5 : (kind_0 ≠ 3) ∨ (number_0 ≤ 9999)) (f7 : x3 ≠ x4) (kz_0_6 : 0 ≤ kind_0 ∧ kind_0 ≤ 127) (kz_0_8 : 0 ≤ number_0 ∧ number_0 ≤ 1000000) : (0 ≤ x9) ∧ ((0 ≤ x11) ∧ (((x9 * 65536) + x11) ≤ 851970)) := by
  first
    | omega
  
def o_Sy_compileValue_at_k5_0 : or_T := (108, 12, [(0, (2, 0, 0, [11])), (3, (0, 3, 3, [])), (4, (0, 40, 40, [])), (7, (0, 3, 3, [])), (8, (0, 3, 3, [])), (9, (0, 0, 0, [])), (10, (0, 3, 3, [])), (11, (0, 0, 1000000, []))], [(9, [11, 0], [8]), (7, [3, 10], [0]), (9, [3, 0], [6]), (7, [3, 8], [0]), (7, [3, 7], [0]), (20, [0], [50, 2, 0, 6, 8, 3, 7, 7, 3, 2, 0, 6, 0, 3, 0, 3, 2, 0, 8, 0, 9999]), (102, [5], [0]), (7, [3, 4], [1])], [], [], [(20, [9, 11], [50, 0, 0, 2, 6, 0, 2, 0, 0, 1, 0, 2, 6, 0, 2, 0, 0, 1, 1, 0, 10, 4, 6, 6, 2, 1, 0, 0, 65536, 1, 1, 0, 851970])], [], [])
theorem oo_Sy_compileValue_at_k5_0 {kA : Nat → ClassId} : or_ok PRD kA GG o_Sy_compileValue_at_k5_0 := by
  refine or_mk fun A ta ws vs hD hth hl => ?_
  intro t0 r0 t3 k3 t4 k4 t7 k7 t8 k8 t9 k9 t10 k10 t11 k11 f0 f1 f2 f3 f4 f5 ta1 w1 le1 s1 f7
  replace f0 := shm_143 f0
  replace f2 := shm_110 f2
  have g0 : v_iv (n_v vs 11) = w_fi ws (n_v vs 0) 8 := congrArg v_iv f0
  have g2 : v_iv (n_v vs 3) = w_fi ws (n_v vs 0) 6 := congrArg v_iv f2
  have kz_0_6 := fdq_304 hD hth r0
  have kz_0_8 := fdq_305 hD hth r0
  have nf0 : fc_1 PRD (20, [9, 11], [50, 0, 0, 2, 6, 0, 2, 0, 0, 1, 0, 2, 6, 0, 2, 0, 0, 1, 1, 0, 10, 4, 6, 6, 2, 1, 0, 0, 65536, 1, 1, 0, 851970]) ws (vs) := ⟨nf_in hl rfl, sgq_487 (vc_Sy_compileValue_at_k5_0_0 (v_iv (n_v vs 3)) (v_iv (n_v vs 4)) (v_iv (n_v vs 9)) (v_iv (n_v vs 11)) (w_fi ws (n_v vs 0) 8) (w_fi ws (n_v vs 0) 6) k3 k4 k9 k11 g0 g2 (shm_1747 f5) (shm_40 f7) kz_0_6 kz_0_8)⟩
  refine ⟨(fun _ h => (by cases h)), [], trivial, ?_, (fun _ h => (by cases h))⟩
  rw [List.append_nil]
  exact List.forall_mem_cons.mpr ⟨⟨show (20 : Nat) < 100 from by decide, nf0⟩, (fun _ h => (by cases h))⟩
set_option maxHeartbeats 4000000 in
theorem vc_Sy_compileValue_at_k5_1_0 (x3 : Int) (x4 : Int) (x6 : Int) (x7 : Int) (x8 : Int) (x9 : Int) (x10 : Int) (x11 : Int) (kind_0 : Int) (number_0 : Int) (k3 : 0 ≤ x3 ∧ x3 ≤ 127) (k4 : 40 ≤ x4 ∧ x4 ≤ 40) (k6 : 0 ≤ x6 ∧ x6 ≤ 38) (k7 : 3 ≤ x7 ∧ x7 ≤ 3) (k8 : (-1) ≤ x8 ∧ x8 ≤ (-1)) (k9 : 3 ≤ x9 ∧ x9 ≤ 3) (k10 : 1 ≤ x10 ∧ x10 ≤ 1) (k11 : 3 ≤ x11 ∧ x11 ≤ 3) (f0 : x3 ≠ x11) (g1 : x3 = kind_0) (f2 : x3 ≠ x9) (f3 : x6 ≠ x8) (f4 : x3 ≠ x7) (f5 : (kind_0 ≠ 3) ∨ (number_0 ≤ 9999)) (f7 : x3 ≠ x4) (kz_0_6 : 0 ≤ kind_0 ∧ kind_0 ≤ 127) (kz_0_8 : 0 ≤ number_0 ∧ number_0 ≤ 1000000) : (0 ≤ x10) ∧ ((0 ≤ x6) ∧ (((x10 * 65536) + x6) ≤ 851970)) := by
  first
    | omega
  
def o_Sy_compileValue_at_k5_1 : or_T := (108, 12, [(0, (2, 0, 0, [11])), (3, (0, 0, 127, [])), (4, (0, 40, 40, [])), (6, (0, 0, 38, [])), (7, (0, 3, 3, [])), (8, (0, -1, -1, [])), (9, (0, 3, 3, [])), (10, (0, 1, 1, [])), (11, (0, 3, 3, []))], [(7, [3, 11], [1]), (9, [3, 0], [6]), (7, [3, 9], [1]), (7, [6, 8], [1]), (7, [3, 7], [1]), (20, [0], [50, 2, 0, 6, 8, 3, 7, 7, 3, 2, 0, 6, 0, 3, 0, 3, 2, 0, 8, 0, 9999]), (102, [5], [0]), (7, [3, 4], [1])], [], [], [(20, [10, 6], [50, 0, 0, 2, 6, 0, 2, 0, 0, 1, 0, 2, 6, 0, 2, 0, 0, 1, 1, 0, 10, 4, 6, 6, 2, 1, 0, 0, 65536, 1, 1, 0, 851970])], [], [])
theorem oo_Sy_compileValue_at_k5_1 {kA : Nat → ClassId} : or_ok PRD kA GG o_Sy_compileValue_at_k5_1 := by
  refine or_mk fun A ta ws vs hD hth hl => ?_
  intro t0 r0 t3 k3 t4 k4 t6 k6 t7 k7 t8 k8 t9 k9 t10 k10 t11 k11 f0 f1 f2 f3 f4 f5 ta1 w1 le1 s1 f7
  replace f1 := shm_110 f1
  have g1 : v_iv (n_v vs 3) = w_fi ws (n_v vs 0) 6 := congrArg v_iv f1
  have kz_0_6 := fdq_304 hD hth r0
  have kz_0_8 := fdq_305 hD hth r0
  have nf0 : fc_1 PRD (20, [10, 6], [50, 0, 0, 2, 6, 0, 2, 0, 0, 1, 0, 2, 6, 0, 2, 0, 0, 1, 1, 0, 10, 4, 6, 6, 2, 1, 0, 0, 65536, 1, 1, 0, 851970]) ws (vs) := ⟨nf_in hl rfl, sgq_487 (vc_Sy_compileValue_at_k5_1_0 (v_iv (n_v vs 3)) (v_iv (n_v vs 4)) (v_iv (n_v vs 6)) (v_iv (n_v vs 7)) (v_iv (n_v vs 8)) (v_iv (n_v vs 9)) (v_iv (n_v vs 10)) (v_iv (n_v vs 11)) (w_fi ws (n_v vs 0) 6) (w_fi ws (n_v vs 0) 8) k3 k4 k6 k7 k8 k9 k10 k11 (shm_40 f0) g1 (shm_40 f2) (shm_40 f3) (shm_40 f4) (shm_1747 f5) (shm_40 f7) kz_0_6 kz_0_8)⟩
  refine ⟨(fun _ h => (by cases h)), [], trivial, ?_, (fun _ h => (by cases h))⟩
  rw [List.append_nil]
  exact List.forall_mem_cons.mpr ⟨⟨show (20 : Nat) < 100 from by decide, nf0⟩, (fun _ h => (by cases h))⟩
set_option maxHeartbeats 4000000 in
theorem vc_Sy_compileValue_at_k5_2_0 (x3 : Int) (x4 : Int) (x10 : Int) (x12 : Int) (number_0 : Int) (kind_0 : Int) (k3 : 3 ≤ x3 ∧ x3 ≤ 3) (k4 : 40 ≤ x4 ∧ x4 ≤ 40) (k10 : 1 ≤ x10 ∧ x10 ≤ 1) (k12 : 0 ≤ x12 ∧ x12 ≤ 1000000) (g0 : x12 = number_0) (g2 : x3 = kind_0) (f5 : (kind_0 ≠ 3) ∨ (number_0 ≤ 9999)) (f7 : x3 ≠ x4) (kz_0_6 : 0 ≤ kind_0 ∧ kind_0 ≤ 127) (kz_0_8 : 0 ≤ number_0 ∧ number_0 ≤ 1000000) : (0 ≤ x10) ∧ ((0 ≤ x12) ∧ (((x10 * 65536) + x12) ≤ 851970)) := by
  first
    | omega
  
def o_Sy_compileValue_at_k5_2 : or_T := (108, 13, [(0, (2, 0, 0, [11])), (3, (0, 3, 3, [])), (4, (0, 40, 40, [])), (7, (0, 3, 3, [])), (9, (0, 3, 3, [])), (10, (0, 1, 1, [])), (11, (0, 3, 3, [])), (12, (0, 0, 1000000, []))], [(9, [12, 0], [8]), (7, [3, 11], [0]), (9, [3, 0], [6]), (7, [3, 9], [1]), (7, [3, 7], [1]), (20, [0], [50, 2, 0, 6, 8, 3, 7, 7, 3, 2, 0, 6, 0, 3, 0, 3, 2, 0, 8, 0, 9999]), (102, [5], [0]), (7, [3, 4], [1])], [], [], [(20, [10, 12], [50, 0, 0, 2, 6, 0, 2, 0, 0, 1, 0, 2, 6, 0, 2, 0, 0, 1, 1, 0, 10, 4, 6, 6, 2, 1, 0, 0, 65536, 1, 1, 0, 851970])], [], [])
theorem oo_Sy_compileValue_at_k5_2 {kA : Nat → ClassId} : or_ok PRD kA GG o_Sy_compileValue_at_k5_2 := by
  refine or_mk fun A ta ws vs hD hth hl => ?_
  intro t0 r0 t3 k3 t4 k4 t7 k7 t9 k9 t10 k10 t11 k11 t12 k12 f0 f1 f2 f3 f4 f5 ta1 w1 le1 s1 f7
  replace f0 := shm_143 f0
  replace f2 := shm_110 f2
  have g0 : v_iv (n_v vs 12) = w_fi ws (n_v vs 0) 8 := congrArg v_iv f0
  have g2 : v_iv (n_v vs 3) = w_fi ws (n_v vs 0) 6 := congrArg v_iv f2
  have kz_0_6 := fdq_304 hD hth r0
  have kz_0_8 := fdq_305 hD hth r0
  have nf0 : fc_1 PRD (20, [10, 12], [50, 0, 0, 2, 6, 0, 2, 0, 0, 1, 0, 2, 6, 0, 2, 0, 0, 1, 1, 0, 10, 4, 6, 6, 2, 1, 0, 0, 65536, 1, 1, 0, 851970]) ws (vs) := ⟨nf_in hl rfl, sgq_487 (vc_Sy_compileValue_at_k5_2_0 (v_iv (n_v vs 3)) (v_iv (n_v vs 4)) (v_iv (n_v vs 10)) (v_iv (n_v vs 12)) (w_fi ws (n_v vs 0) 8) (w_fi ws (n_v vs 0) 6) k3 k4 k10 k12 g0 g2 (shm_1747 f5) (shm_40 f7) kz_0_6 kz_0_8)⟩
  refine ⟨(fun _ h => (by cases h)), [], trivial, ?_, (fun _ h => (by cases h))⟩
  rw [List.append_nil]
  exact List.forall_mem_cons.mpr ⟨⟨show (20 : Nat) < 100 from by decide, nf0⟩, (fun _ h => (by cases h))⟩
set_option maxHeartbeats 4000000 in
theorem vc_Sy_compileValue_at_k5_3_0 (x3 : Int) (x4 : Int) (x10 : Int) (x12 : Int) (number_0 : Int) (kind_0 : Int) (k3 : 3 ≤ x3 ∧ x3 ≤ 3) (k4 : 40 ≤ x4 ∧ x4 ≤ 40) (k10 : 0 ≤ x10 ∧ x10 ≤ 0) (k12 : 0 ≤ x12 ∧ x12 ≤ 1000000) (g0 : x12 = number_0) (g2 : x3 = kind_0) (f5 : (kind_0 ≠ 3) ∨ (number_0 ≤ 9999)) (f7 : x3 ≠ x4) (kz_0_6 : 0 ≤ kind_0 ∧ kind_0 ≤ 127) (kz_0_8 : 0 ≤ number_0 ∧ number_0 ≤ 1000000) : (0 ≤ x10) ∧ ((0 ≤ x12) ∧ (((x10 * 65536) + x12) ≤ 851970)) := by
  first
    | omega
  
def o_Sy_compileValue_at_k5_3 : or_T := (108, 13, [(0, (2, 0, 0, [11])), (3, (0, 3, 3, [])), (4, (0, 40, 40, [])), (7, (0, 3, 3, [])), (9, (0, 3, 3, [])), (10, (0, 0, 0, [])), (11, (0, 3, 3, [])), (12, (0, 0, 1000000, []))], [(9, [12, 0], [8]), (7, [3, 11], [0]), (9, [3, 0], [6]), (7, [3, 9], [0]), (7, [3, 7], [1]), (20, [0], [50, 2, 0, 6, 8, 3, 7, 7, 3, 2, 0, 6, 0, 3, 0, 3, 2, 0, 8, 0, 9999]), (102, [5], [0]), (7, [3, 4], [1])], [], [], [(20, [10, 12], [50, 0, 0, 2, 6, 0, 2, 0, 0, 1, 0, 2, 6, 0, 2, 0, 0, 1, 1, 0, 10, 4, 6, 6, 2, 1, 0, 0, 65536, 1, 1, 0, 851970])], [], [])
theorem oo_Sy_compileValue_at_k5_3 {kA : Nat → ClassId} : or_ok PRD kA GG o_Sy_compileValue_at_k5_3 := by
  refine or_mk fun A ta ws vs hD hth hl => ?_
  intro t0 r0 t3 k3 t4 k4 t7 k7 t9 k9 t10 k10 t11 k11 t12 k12 f0 f1 f2 f3 f4 f5 ta1 w1 le1 s1 f7
  replace f0 := shm_143 f0
  replace f2 := shm_110 f2
  have g0 : v_iv (n_v vs 12) = w_fi ws (n_v vs 0) 8 := congrArg v_iv f0
  have g2 : v_iv (n_v vs 3) = w_fi ws (n_v vs 0) 6 := congrArg v_iv f2
  have kz_0_6 := fdq_304 hD hth r0
  have kz_0_8 := fdq_305 hD hth r0
  have nf0 : fc_1 PRD (20, [10, 12], [50, 0, 0, 2, 6, 0, 2, 0, 0, 1, 0, 2, 6, 0, 2, 0, 0, 1, 1, 0, 10, 4, 6, 6, 2, 1, 0, 0, 65536, 1, 1, 0, 851970]) ws (vs) := ⟨nf_in hl rfl, sgq_487 (vc_Sy_compileValue_at_k5_3_0 (v_iv (n_v vs 3)) (v_iv (n_v vs 4)) (v_iv (n_v vs 10)) (v_iv (n_v vs 12)) (w_fi ws (n_v vs 0) 8) (w_fi ws (n_v vs 0) 6) k3 k4 k10 k12 g0 g2 (shm_1747 f5) (shm_40 f7) kz_0_6 kz_0_8)⟩
  refine ⟨(fun _ h => (by cases h)), [], trivial, ?_, (fun _ h => (by cases h))⟩
  rw [List.append_nil]
  exact List.forall_mem_cons.mpr ⟨⟨show (20 : Nat) < 100 from by decide, nf0⟩, (fun _ h => (by cases h))⟩
set_option maxHeartbeats 4000000 in
theorem vc_Sy_compileValue_at_k5_4_0 (x3 : Int) (x4 : Int) (x6 : Int) (x7 : Int) (x8 : Int) (x9 : Int) (x10 : Int) (x11 : Int) (kind_0 : Int) (number_0 : Int) (k3 : 0 ≤ x3 ∧ x3 ≤ 127) (k4 : 40 ≤ x4 ∧ x4 ≤ 40) (k6 : 0 ≤ x6 ∧ x6 ≤ 43) (k7 : 3 ≤ x7 ∧ x7 ≤ 3) (k8 : (-1) ≤ x8 ∧ x8 ≤ (-1)) (k9 : 3 ≤ x9 ∧ x9 ≤ 3) (k10 : 1 ≤ x10 ∧ x10 ≤ 1) (k11 : 3 ≤ x11 ∧ x11 ≤ 3) (f0 : x3 ≠ x11) (g1 : x3 = kind_0) (f2 : x3 ≠ x9) (f3 : x6 ≠ x8) (f4 : x3 ≠ x7) (f5 : (kind_0 ≠ 3) ∨ (number_0 ≤ 9999)) (f7 : x3 ≠ x4) (kz_0_6 : 0 ≤ kind_0 ∧ kind_0 ≤ 127) (kz_0_8 : 0 ≤ number_0 ∧ number_0 ≤ 1000000) : (0 ≤ x10) ∧ ((0 ≤ x6) ∧ (((x10 * 65536) + x6) ≤ 851970)) := by
  first
    | omega
  
def o_Sy_compileValue_at_k5_4 : or_T := (108, 12, [(0, (2, 0, 0, [11])), (3, (0, 0, 127, [])), (4, (0, 40, 40, [])), (6, (0, 0, 43, [])), (7, (0, 3, 3, [])), (8, (0, -1, -1, [])), (9, (0, 3, 3, [])), (10, (0, 1, 1, [])), (11, (0, 3, 3, []))], [(7, [3, 11], [1]), (9, [3, 0], [6]), (7, [3, 9], [1]), (7, [6, 8], [1]), (7, [3, 7], [1]), (20, [0], [50, 2, 0, 6, 8, 3, 7, 7, 3, 2, 0, 6, 0, 3, 0, 3, 2, 0, 8, 0, 9999]), (102, [5], [0]), (7, [3, 4], [1])], [], [], [(20, [10, 6], [50, 0, 0, 2, 6, 0, 2, 0, 0, 1, 0, 2, 6, 0, 2, 0, 0, 1, 1, 0, 10, 4, 6, 6, 2, 1, 0, 0, 65536, 1, 1, 0, 851970])], [], [])
theorem oo_Sy_compileValue_at_k5_4 {kA : Nat → ClassId} : or_ok PRD kA GG o_Sy_compileValue_at_k5_4 := by
  refine or_mk fun A ta ws vs hD hth hl => ?_
  intro t0 r0 t3 k3 t4 k4 t6 k6 t7 k7 t8 k8 t9 k9 t10 k10 t11 k11 f0 f1 f2 f3 f4 f5 ta1 w1 le1 s1 f7
  replace f1 := shm_110 f1
  have g1 : v_iv (n_v vs 3) = w_fi ws (n_v vs 0) 6 := congrArg v_iv f1
  have kz_0_6 := fdq_304 hD hth r0
  have kz_0_8 := fdq_305 hD hth r0
  have nf0 : fc_1 PRD (20, [10, 6], [50, 0, 0, 2, 6, 0, 2, 0, 0, 1, 0, 2, 6, 0, 2, 0, 0, 1, 1, 0, 10, 4, 6, 6, 2, 1, 0, 0, 65536, 1, 1, 0, 851970]) ws (vs) := ⟨nf_in hl rfl, sgq_487 (vc_Sy_compileValue_at_k5_4_0 (v_iv (n_v vs 3)) (v_iv (n_v vs 4)) (v_iv (n_v vs 6)) (v_iv (n_v vs 7)) (v_iv (n_v vs 8)) (v_iv (n_v vs 9)) (v_iv (n_v vs 10)) (v_iv (n_v vs 11)) (w_fi ws (n_v vs 0) 6) (w_fi ws (n_v vs 0) 8) k3 k4 k6 k7 k8 k9 k10 k11 (shm_40 f0) g1 (shm_40 f2) (shm_40 f3) (shm_40 f4) (shm_1747 f5) (shm_40 f7) kz_0_6 kz_0_8)⟩
  refine ⟨(fun _ h => (by cases h)), [], trivial, ?_, (fun _ h => (by cases h))⟩
  rw [List.append_nil]
  exact List.forall_mem_cons.mpr ⟨⟨show (20 : Nat) < 100 from by decide, nf0⟩, (fun _ h => (by cases h))⟩
def n_Sy_compileValue_at_k5_an : List an_T := []
def t_Sy_compileValue_at_k5_ct : ct_L := [(1, 69, e_Sy_advance), (1, 118, e_Sy_fail), (1, 128, e_Sy_emit), (1, 152, e_Sy_closes), (91, 137, e_Sy_compileSum_at_k6), (169, 114, e_Sy_wordIn_at_s5007), (169, 114, e_Sy_wordIn_at_s5004)]
set_option maxRecDepth 100000 in
theorem c_Sy_compileValue_at_k5 {l : Launch} {D : va_G} {kA : Nat → ClassId} (h_Sy_advance : ct_ok PRD l D kA GG y_Sy_advance z_Sy_advance e_Sy_advance) (h_Sy_closes : ct_ok PRD l D kA GG y_Sy_closes z_Sy_closes e_Sy_closes) (h_Sy_compileSum_at_k6 : ct_ok PRD l D kA GG y_Sy_compileSum_at_k6 z_Sy_compileSum_at_k6 e_Sy_compileSum_at_k6) (h_Sy_emit : ct_ok PRD l D kA GG y_Sy_emit z_Sy_emit e_Sy_emit) (h_Sy_fail : ct_ok PRD l D kA GG y_Sy_fail z_Sy_fail e_Sy_fail) (h_Sy_wordIn_at_s5004 : ct_ok PRD l D kA GG y_Sy_wordIn_at_s5004 z_Sy_wordIn_at_s5004 e_Sy_wordIn_at_s5004) (h_Sy_wordIn_at_s5007 : ct_ok PRD l D kA GG y_Sy_wordIn_at_s5007 z_Sy_wordIn_at_s5007 e_Sy_wordIn_at_s5007) : ct_ok PRD l D kA GG y_Sy_compileValue_at_k5 z_Sy_compileValue_at_k5 e_Sy_compileValue_at_k5 := chk_all_ok (FT := [(31, 11, 6), (37, 11, 8), (42, 11, 9)]) (PT := []) (CT := t_Sy_compileValue_at_k5_ct) (KT := []) (NT := []) (AN := n_Sy_compileValue_at_k5_an) (OT := [o_Sy_compileValue_at_k5_0, o_Sy_compileValue_at_k5_1, o_Sy_compileValue_at_k5_2, o_Sy_compileValue_at_k5_3, o_Sy_compileValue_at_k5_4]) 0 684 (List.forall_mem_cons.mpr ⟨oo_Sy_compileValue_at_k5_0, List.forall_mem_cons.mpr ⟨oo_Sy_compileValue_at_k5_1, List.forall_mem_cons.mpr ⟨oo_Sy_compileValue_at_k5_2, List.forall_mem_cons.mpr ⟨oo_Sy_compileValue_at_k5_3, List.forall_mem_cons.mpr ⟨oo_Sy_compileValue_at_k5_4, List.forall_mem_nil _⟩⟩⟩⟩⟩) (by decide +kernel) ⟨List.forall_mem_cons.mpr ⟨gf_Sy_31, List.forall_mem_cons.mpr ⟨gf_Sy_37, List.forall_mem_cons.mpr ⟨gf_Sy_42, List.forall_mem_nil _⟩⟩⟩, List.forall_mem_nil _, List.forall_mem_cons.mpr ⟨cl_virtual (y := y_Sy_advance) (ci := 11) rfl rfl ⟨_, _, rfl⟩ (by decide +kernel) h_Sy_advance wm_2158 wm_23 wm_2155 wm_2157 wv_10_10 ⟨by decide, by decide, by decide +kernel⟩ (by decide), List.forall_mem_cons.mpr ⟨cl_virtual (y := y_Sy_fail) (ci := 11) rfl rfl ⟨_, _, rfl⟩ (by decide +kernel) h_Sy_fail wm_2239 wm_23 wm_2236 wm_2238 wv_10_14 ⟨by decide, by decide, by decide +kernel⟩ (by decide), List.forall_mem_cons.mpr ⟨cl_virtual (y := y_Sy_emit) (ci := 11) rfl rfl ⟨_, _, rfl⟩ (by decide +kernel) h_Sy_emit wm_2258 wm_23 wm_2255 wm_2257 wv_11_2 ⟨by decide, by decide, by decide +kernel⟩ (by decide), List.forall_mem_cons.mpr ⟨cl_virtual (y := y_Sy_closes) (ci := 11) rfl rfl ⟨_, _, rfl⟩ (by decide +kernel) h_Sy_closes wm_2262 wm_23 wm_2259 wm_2261 wv_11_3 ⟨by decide, by decide, by decide +kernel⟩ (by decide), List.forall_mem_cons.mpr ⟨cl_virtual (y := y_Sy_compileSum_at_k6) (ci := 11) rfl rfl ⟨_, _, rfl⟩ (by decide +kernel) h_Sy_compileSum_at_k6 wm_2266 wm_23 wm_2263 wm_2265 wv_11_4 ⟨by decide, by decide, by decide +kernel⟩ (by decide), List.forall_mem_cons.mpr ⟨cl_virtual (y := y_Sy_wordIn_at_s5007) (ci := 11) rfl rfl ⟨_, _, rfl⟩ (by decide +kernel) h_Sy_wordIn_at_s5007 wm_2229 wm_23 wm_2226 wm_2228 wv_10_12 ⟨by decide, by decide, by decide +kernel⟩ (by decide), List.forall_mem_cons.mpr ⟨cl_virtual (y := y_Sy_wordIn_at_s5004) (ci := 11) rfl rfl ⟨_, _, rfl⟩ (by decide +kernel) h_Sy_wordIn_at_s5004 wm_2229 wm_23 wm_2226 wm_2228 wv_10_12 ⟨by decide, by decide, by decide +kernel⟩ (by decide), List.forall_mem_nil _⟩⟩⟩⟩⟩⟩⟩, List.forall_mem_nil _, List.forall_mem_nil _, GG_pl⟩ (by decide +kernel)
set_option maxHeartbeats 4000000 in
theorem vc_Sy_compileValue_at_k6_0_0 (x3 : Int) (x4 : Int) (x9 : Int) (x11 : Int) (number_0 : Int) (kind_0 : Int) (k3 : 3 ≤ x3 ∧ x3 ≤ 3) (k4 : 40 ≤ x4 ∧ x4 ≤ 40) (k9 : 0 ≤ x9 ∧ x9 ≤ 0) (k11 : 0 ≤ x11 ∧ x11 ≤ 1000000) (g0 : x11 = number_0) (g2 : x3 = kind_0) (f5 : (kind_0 ≠ 3) ∨ (number_0 ≤ 9999)) (f7 : x3 ≠ x4) (kz_0_6 : 0 ≤ kind_0 ∧ kind_0 ≤ 127) (kz_0_8 : 0 ≤ number_0 ∧ number_0 ≤ 1000000) : (0 ≤ x9) ∧ ((0 ≤ x11) ∧ (((x9 * 65536) + x11) ≤ 851970)) := by
  first
    | omega
  
def o_Sy_compileValue_at_k6_0 : or_T := (108, 12, [(0, (2, 0, 0, [11])), (3, (0, 3, 3, [])), (4, (0, 40, 40, [])), (7, (0, 3, 3, [])), (8, (0, 3, 3, [])), (9, (0, 0, 0, [])), (10, (0, 3, 3, [])), (11, (0, 0, 1000000, []))], [(9, [11, 0], [8]), (7, [3, 10], [0]), (9, [3, 0], [6]), (7, [3, 8], [0]), (7, [3, 7], [0]), (20, [0], [50, 2, 0, 6, 8, 3, 7, 7, 3, 2, 0, 6, 0, 3, 0, 3, 2, 0, 8, 0, 9999]), (102, [5], [0]), (7, [3, 4], [1])], [], [], [(20, [9, 11], [50, 0, 0, 2, 6, 0, 2, 0, 0, 1, 0, 2, 6, 0, 2, 0, 0, 1, 1, 0, 10, 4, 6, 6, 2, 1, 0, 0, 65536, 1, 1, 0, 851970])], [], [])
theorem oo_Sy_compileValue_at_k6_0 {kA : Nat → ClassId} : or_ok PRD kA GG o_Sy_compileValue_at_k6_0 := by
  refine or_mk fun A ta ws vs hD hth hl => ?_
  intro t0 r0 t3 k3 t4 k4 t7 k7 t8 k8 t9 k9 t10 k10 t11 k11 f0 f1 f2 f3 f4 f5 ta1 w1 le1 s1 f7
  replace f0 := shm_143 f0
  replace f2 := shm_110 f2
  have g0 : v_iv (n_v vs 11) = w_fi ws (n_v vs 0) 8 := congrArg v_iv f0
  have g2 : v_iv (n_v vs 3) = w_fi ws (n_v vs 0) 6 := congrArg v_iv f2
  have kz_0_6 := fdq_304 hD hth r0
  have kz_0_8 := fdq_305 hD hth r0
  have nf0 : fc_1 PRD (20, [9, 11], [50, 0, 0, 2, 6, 0, 2, 0, 0, 1, 0, 2, 6, 0, 2, 0, 0, 1, 1, 0, 10, 4, 6, 6, 2, 1, 0, 0, 65536, 1, 1, 0, 851970]) ws (vs) := ⟨nf_in hl rfl, sgq_487 (vc_Sy_compileValue_at_k6_0_0 (v_iv (n_v vs 3)) (v_iv (n_v vs 4)) (v_iv (n_v vs 9)) (v_iv (n_v vs 11)) (w_fi ws (n_v vs 0) 8) (w_fi ws (n_v vs 0) 6) k3 k4 k9 k11 g0 g2 (shm_1747 f5) (shm_40 f7) kz_0_6 kz_0_8)⟩
  refine ⟨(fun _ h => (by cases h)), [], trivial, ?_, (fun _ h => (by cases h))⟩
  rw [List.append_nil]
  exact List.forall_mem_cons.mpr ⟨⟨show (20 : Nat) < 100 from by decide, nf0⟩, (fun _ h => (by cases h))⟩
set_option maxHeartbeats 4000000 in
theorem vc_Sy_compileValue_at_k6_1_0 (x3 : Int) (x4 : Int) (x6 : Int) (x7 : Int) (x8 : Int) (x9 : Int) (x10 : Int) (x11 : Int) (kind_0 : Int) (number_0 : Int) (k3 : 0 ≤ x3 ∧ x3 ≤ 127) (k4 : 40 ≤ x4 ∧ x4 ≤ 40) (k6 : 0 ≤ x6 ∧ x6 ≤ 38) (k7 : 3 ≤ x7 ∧ x7 ≤ 3) (k8 : (-1) ≤ x8 ∧ x8 ≤ (-1)) (k9 : 3 ≤ x9 ∧ x9 ≤ 3) (k10 : 1 ≤ x10 ∧ x10 ≤ 1) (k11 : 3 ≤ x11 ∧ x11 ≤ 3) (f0 : x3 ≠ x11) (g1 : x3 = kind_0) (f2 : x3 ≠ x9) (f3 : x6 ≠ x8) (f4 : x3 ≠ x7) (f5 : (kind_0 ≠ 3) ∨ (number_0 ≤ 9999)) (f7 : x3 ≠ x4) (kz_0_6 : 0 ≤ kind_0 ∧ kind_0 ≤ 127) (kz_0_8 : 0 ≤ number_0 ∧ number_0 ≤ 1000000) : (0 ≤ x10) ∧ ((0 ≤ x6) ∧ (((x10 * 65536) + x6) ≤ 851970)) := by
  first
    | omega
  
def o_Sy_compileValue_at_k6_1 : or_T := (108, 12, [(0, (2, 0, 0, [11])), (3, (0, 0, 127, [])), (4, (0, 40, 40, [])), (6, (0, 0, 38, [])), (7, (0, 3, 3, [])), (8, (0, -1, -1, [])), (9, (0, 3, 3, [])), (10, (0, 1, 1, [])), (11, (0, 3, 3, []))], [(7, [3, 11], [1]), (9, [3, 0], [6]), (7, [3, 9], [1]), (7, [6, 8], [1]), (7, [3, 7], [1]), (20, [0], [50, 2, 0, 6, 8, 3, 7, 7, 3, 2, 0, 6, 0, 3, 0, 3, 2, 0, 8, 0, 9999]), (102, [5], [0]), (7, [3, 4], [1])], [], [], [(20, [10, 6], [50, 0, 0, 2, 6, 0, 2, 0, 0, 1, 0, 2, 6, 0, 2, 0, 0, 1, 1, 0, 10, 4, 6, 6, 2, 1, 0, 0, 65536, 1, 1, 0, 851970])], [], [])
theorem oo_Sy_compileValue_at_k6_1 {kA : Nat → ClassId} : or_ok PRD kA GG o_Sy_compileValue_at_k6_1 := by
  refine or_mk fun A ta ws vs hD hth hl => ?_
  intro t0 r0 t3 k3 t4 k4 t6 k6 t7 k7 t8 k8 t9 k9 t10 k10 t11 k11 f0 f1 f2 f3 f4 f5 ta1 w1 le1 s1 f7
  replace f1 := shm_110 f1
  have g1 : v_iv (n_v vs 3) = w_fi ws (n_v vs 0) 6 := congrArg v_iv f1
  have kz_0_6 := fdq_304 hD hth r0
  have kz_0_8 := fdq_305 hD hth r0
  have nf0 : fc_1 PRD (20, [10, 6], [50, 0, 0, 2, 6, 0, 2, 0, 0, 1, 0, 2, 6, 0, 2, 0, 0, 1, 1, 0, 10, 4, 6, 6, 2, 1, 0, 0, 65536, 1, 1, 0, 851970]) ws (vs) := ⟨nf_in hl rfl, sgq_487 (vc_Sy_compileValue_at_k6_1_0 (v_iv (n_v vs 3)) (v_iv (n_v vs 4)) (v_iv (n_v vs 6)) (v_iv (n_v vs 7)) (v_iv (n_v vs 8)) (v_iv (n_v vs 9)) (v_iv (n_v vs 10)) (v_iv (n_v vs 11)) (w_fi ws (n_v vs 0) 6) (w_fi ws (n_v vs 0) 8) k3 k4 k6 k7 k8 k9 k10 k11 (shm_40 f0) g1 (shm_40 f2) (shm_40 f3) (shm_40 f4) (shm_1747 f5) (shm_40 f7) kz_0_6 kz_0_8)⟩
  refine ⟨(fun _ h => (by cases h)), [], trivial, ?_, (fun _ h => (by cases h))⟩
  rw [List.append_nil]
  exact List.forall_mem_cons.mpr ⟨⟨show (20 : Nat) < 100 from by decide, nf0⟩, (fun _ h => (by cases h))⟩
set_option maxHeartbeats 4000000 in
theorem vc_Sy_compileValue_at_k6_2_0 (x3 : Int) (x4 : Int) (x10 : Int) (x12 : Int) (number_0 : Int) (kind_0 : Int) (k3 : 3 ≤ x3 ∧ x3 ≤ 3) (k4 : 40 ≤ x4 ∧ x4 ≤ 40) (k10 : 1 ≤ x10 ∧ x10 ≤ 1) (k12 : 0 ≤ x12 ∧ x12 ≤ 1000000) (g0 : x12 = number_0) (g2 : x3 = kind_0) (f5 : (kind_0 ≠ 3) ∨ (number_0 ≤ 9999)) (f7 : x3 ≠ x4) (kz_0_6 : 0 ≤ kind_0 ∧ kind_0 ≤ 127) (kz_0_8 : 0 ≤ number_0 ∧ number_0 ≤ 1000000) : (0 ≤ x10) ∧ ((0 ≤ x12) ∧ (((x10 * 65536) + x12) ≤ 851970)) := by
  first
    | omega
  
def o_Sy_compileValue_at_k6_2 : or_T := (108, 13, [(0, (2, 0, 0, [11])), (3, (0, 3, 3, [])), (4, (0, 40, 40, [])), (7, (0, 3, 3, [])), (9, (0, 3, 3, [])), (10, (0, 1, 1, [])), (11, (0, 3, 3, [])), (12, (0, 0, 1000000, []))], [(9, [12, 0], [8]), (7, [3, 11], [0]), (9, [3, 0], [6]), (7, [3, 9], [1]), (7, [3, 7], [1]), (20, [0], [50, 2, 0, 6, 8, 3, 7, 7, 3, 2, 0, 6, 0, 3, 0, 3, 2, 0, 8, 0, 9999]), (102, [5], [0]), (7, [3, 4], [1])], [], [], [(20, [10, 12], [50, 0, 0, 2, 6, 0, 2, 0, 0, 1, 0, 2, 6, 0, 2, 0, 0, 1, 1, 0, 10, 4, 6, 6, 2, 1, 0, 0, 65536, 1, 1, 0, 851970])], [], [])
theorem oo_Sy_compileValue_at_k6_2 {kA : Nat → ClassId} : or_ok PRD kA GG o_Sy_compileValue_at_k6_2 := by
  refine or_mk fun A ta ws vs hD hth hl => ?_
  intro t0 r0 t3 k3 t4 k4 t7 k7 t9 k9 t10 k10 t11 k11 t12 k12 f0 f1 f2 f3 f4 f5 ta1 w1 le1 s1 f7
  replace f0 := shm_143 f0
  replace f2 := shm_110 f2
  have g0 : v_iv (n_v vs 12) = w_fi ws (n_v vs 0) 8 := congrArg v_iv f0
  have g2 : v_iv (n_v vs 3) = w_fi ws (n_v vs 0) 6 := congrArg v_iv f2
  have kz_0_6 := fdq_304 hD hth r0
  have kz_0_8 := fdq_305 hD hth r0
  have nf0 : fc_1 PRD (20, [10, 12], [50, 0, 0, 2, 6, 0, 2, 0, 0, 1, 0, 2, 6, 0, 2, 0, 0, 1, 1, 0, 10, 4, 6, 6, 2, 1, 0, 0, 65536, 1, 1, 0, 851970]) ws (vs) := ⟨nf_in hl rfl, sgq_487 (vc_Sy_compileValue_at_k6_2_0 (v_iv (n_v vs 3)) (v_iv (n_v vs 4)) (v_iv (n_v vs 10)) (v_iv (n_v vs 12)) (w_fi ws (n_v vs 0) 8) (w_fi ws (n_v vs 0) 6) k3 k4 k10 k12 g0 g2 (shm_1747 f5) (shm_40 f7) kz_0_6 kz_0_8)⟩
  refine ⟨(fun _ h => (by cases h)), [], trivial, ?_, (fun _ h => (by cases h))⟩
  rw [List.append_nil]
  exact List.forall_mem_cons.mpr ⟨⟨show (20 : Nat) < 100 from by decide, nf0⟩, (fun _ h => (by cases h))⟩
set_option maxHeartbeats 4000000 in
theorem vc_Sy_compileValue_at_k6_3_0 (x3 : Int) (x4 : Int) (x10 : Int) (x12 : Int) (number_0 : Int) (kind_0 : Int) (k3 : 3 ≤ x3 ∧ x3 ≤ 3) (k4 : 40 ≤ x4 ∧ x4 ≤ 40) (k10 : 0 ≤ x10 ∧ x10 ≤ 0) (k12 : 0 ≤ x12 ∧ x12 ≤ 1000000) (g0 : x12 = number_0) (g2 : x3 = kind_0) (f5 : (kind_0 ≠ 3) ∨ (number_0 ≤ 9999)) (f7 : x3 ≠ x4) (kz_0_6 : 0 ≤ kind_0 ∧ kind_0 ≤ 127) (kz_0_8 : 0 ≤ number_0 ∧ number_0 ≤ 1000000) : (0 ≤ x10) ∧ ((0 ≤ x12) ∧ (((x10 * 65536) + x12) ≤ 851970)) := by
  first
    | omega
  
def o_Sy_compileValue_at_k6_3 : or_T := (108, 13, [(0, (2, 0, 0, [11])), (3, (0, 3, 3, [])), (4, (0, 40, 40, [])), (7, (0, 3, 3, [])), (9, (0, 3, 3, [])), (10, (0, 0, 0, [])), (11, (0, 3, 3, [])), (12, (0, 0, 1000000, []))], [(9, [12, 0], [8]), (7, [3, 11], [0]), (9, [3, 0], [6]), (7, [3, 9], [0]), (7, [3, 7], [1]), (20, [0], [50, 2, 0, 6, 8, 3, 7, 7, 3, 2, 0, 6, 0, 3, 0, 3, 2, 0, 8, 0, 9999]), (102, [5], [0]), (7, [3, 4], [1])], [], [], [(20, [10, 12], [50, 0, 0, 2, 6, 0, 2, 0, 0, 1, 0, 2, 6, 0, 2, 0, 0, 1, 1, 0, 10, 4, 6, 6, 2, 1, 0, 0, 65536, 1, 1, 0, 851970])], [], [])
theorem oo_Sy_compileValue_at_k6_3 {kA : Nat → ClassId} : or_ok PRD kA GG o_Sy_compileValue_at_k6_3 := by
  refine or_mk fun A ta ws vs hD hth hl => ?_
  intro t0 r0 t3 k3 t4 k4 t7 k7 t9 k9 t10 k10 t11 k11 t12 k12 f0 f1 f2 f3 f4 f5 ta1 w1 le1 s1 f7
  replace f0 := shm_143 f0
  replace f2 := shm_110 f2
  have g0 : v_iv (n_v vs 12) = w_fi ws (n_v vs 0) 8 := congrArg v_iv f0
  have g2 : v_iv (n_v vs 3) = w_fi ws (n_v vs 0) 6 := congrArg v_iv f2
  have kz_0_6 := fdq_304 hD hth r0
  have kz_0_8 := fdq_305 hD hth r0
  have nf0 : fc_1 PRD (20, [10, 12], [50, 0, 0, 2, 6, 0, 2, 0, 0, 1, 0, 2, 6, 0, 2, 0, 0, 1, 1, 0, 10, 4, 6, 6, 2, 1, 0, 0, 65536, 1, 1, 0, 851970]) ws (vs) := ⟨nf_in hl rfl, sgq_487 (vc_Sy_compileValue_at_k6_3_0 (v_iv (n_v vs 3)) (v_iv (n_v vs 4)) (v_iv (n_v vs 10)) (v_iv (n_v vs 12)) (w_fi ws (n_v vs 0) 8) (w_fi ws (n_v vs 0) 6) k3 k4 k10 k12 g0 g2 (shm_1747 f5) (shm_40 f7) kz_0_6 kz_0_8)⟩
  refine ⟨(fun _ h => (by cases h)), [], trivial, ?_, (fun _ h => (by cases h))⟩
  rw [List.append_nil]
  exact List.forall_mem_cons.mpr ⟨⟨show (20 : Nat) < 100 from by decide, nf0⟩, (fun _ h => (by cases h))⟩
set_option maxHeartbeats 4000000 in
theorem vc_Sy_compileValue_at_k6_4_0 (x3 : Int) (x4 : Int) (x6 : Int) (x7 : Int) (x8 : Int) (x9 : Int) (x10 : Int) (x11 : Int) (kind_0 : Int) (number_0 : Int) (k3 : 0 ≤ x3 ∧ x3 ≤ 127) (k4 : 40 ≤ x4 ∧ x4 ≤ 40) (k6 : 0 ≤ x6 ∧ x6 ≤ 43) (k7 : 3 ≤ x7 ∧ x7 ≤ 3) (k8 : (-1) ≤ x8 ∧ x8 ≤ (-1)) (k9 : 3 ≤ x9 ∧ x9 ≤ 3) (k10 : 1 ≤ x10 ∧ x10 ≤ 1) (k11 : 3 ≤ x11 ∧ x11 ≤ 3) (f0 : x3 ≠ x11) (g1 : x3 = kind_0) (f2 : x3 ≠ x9) (f3 : x6 ≠ x8) (f4 : x3 ≠ x7) (f5 : (kind_0 ≠ 3) ∨ (number_0 ≤ 9999)) (f7 : x3 ≠ x4) (kz_0_6 : 0 ≤ kind_0 ∧ kind_0 ≤ 127) (kz_0_8 : 0 ≤ number_0 ∧ number_0 ≤ 1000000) : (0 ≤ x10) ∧ ((0 ≤ x6) ∧ (((x10 * 65536) + x6) ≤ 851970)) := by
  first
    | omega
  
def o_Sy_compileValue_at_k6_4 : or_T := (108, 12, [(0, (2, 0, 0, [11])), (3, (0, 0, 127, [])), (4, (0, 40, 40, [])), (6, (0, 0, 43, [])), (7, (0, 3, 3, [])), (8, (0, -1, -1, [])), (9, (0, 3, 3, [])), (10, (0, 1, 1, [])), (11, (0, 3, 3, []))], [(7, [3, 11], [1]), (9, [3, 0], [6]), (7, [3, 9], [1]), (7, [6, 8], [1]), (7, [3, 7], [1]), (20, [0], [50, 2, 0, 6, 8, 3, 7, 7, 3, 2, 0, 6, 0, 3, 0, 3, 2, 0, 8, 0, 9999]), (102, [5], [0]), (7, [3, 4], [1])], [], [], [(20, [10, 6], [50, 0, 0, 2, 6, 0, 2, 0, 0, 1, 0, 2, 6, 0, 2, 0, 0, 1, 1, 0, 10, 4, 6, 6, 2, 1, 0, 0, 65536, 1, 1, 0, 851970])], [], [])
theorem oo_Sy_compileValue_at_k6_4 {kA : Nat → ClassId} : or_ok PRD kA GG o_Sy_compileValue_at_k6_4 := by
  refine or_mk fun A ta ws vs hD hth hl => ?_
  intro t0 r0 t3 k3 t4 k4 t6 k6 t7 k7 t8 k8 t9 k9 t10 k10 t11 k11 f0 f1 f2 f3 f4 f5 ta1 w1 le1 s1 f7
  replace f1 := shm_110 f1
  have g1 : v_iv (n_v vs 3) = w_fi ws (n_v vs 0) 6 := congrArg v_iv f1
  have kz_0_6 := fdq_304 hD hth r0
  have kz_0_8 := fdq_305 hD hth r0
  have nf0 : fc_1 PRD (20, [10, 6], [50, 0, 0, 2, 6, 0, 2, 0, 0, 1, 0, 2, 6, 0, 2, 0, 0, 1, 1, 0, 10, 4, 6, 6, 2, 1, 0, 0, 65536, 1, 1, 0, 851970]) ws (vs) := ⟨nf_in hl rfl, sgq_487 (vc_Sy_compileValue_at_k6_4_0 (v_iv (n_v vs 3)) (v_iv (n_v vs 4)) (v_iv (n_v vs 6)) (v_iv (n_v vs 7)) (v_iv (n_v vs 8)) (v_iv (n_v vs 9)) (v_iv (n_v vs 10)) (v_iv (n_v vs 11)) (w_fi ws (n_v vs 0) 6) (w_fi ws (n_v vs 0) 8) k3 k4 k6 k7 k8 k9 k10 k11 (shm_40 f0) g1 (shm_40 f2) (shm_40 f3) (shm_40 f4) (shm_1747 f5) (shm_40 f7) kz_0_6 kz_0_8)⟩
  refine ⟨(fun _ h => (by cases h)), [], trivial, ?_, (fun _ h => (by cases h))⟩
  rw [List.append_nil]
  exact List.forall_mem_cons.mpr ⟨⟨show (20 : Nat) < 100 from by decide, nf0⟩, (fun _ h => (by cases h))⟩
def n_Sy_compileValue_at_k6_an : List an_T := []
def t_Sy_compileValue_at_k6_ct : ct_L := [(1, 69, e_Sy_advance), (1, 118, e_Sy_fail), (1, 128, e_Sy_emit), (1, 152, e_Sy_closes), (91, 137, e_Sy_compileSum_at_k7), (169, 114, e_Sy_wordIn_at_s5007), (169, 114, e_Sy_wordIn_at_s5004)]
set_option maxRecDepth 100000 in
theorem c_Sy_compileValue_at_k6 {l : Launch} {D : va_G} {kA : Nat → ClassId} (h_Sy_advance : ct_ok PRD l D kA GG y_Sy_advance z_Sy_advance e_Sy_advance) (h_Sy_closes : ct_ok PRD l D kA GG y_Sy_closes z_Sy_closes e_Sy_closes) (h_Sy_compileSum_at_k7 : ct_ok PRD l D kA GG y_Sy_compileSum_at_k7 z_Sy_compileSum_at_k7 e_Sy_compileSum_at_k7) (h_Sy_emit : ct_ok PRD l D kA GG y_Sy_emit z_Sy_emit e_Sy_emit) (h_Sy_fail : ct_ok PRD l D kA GG y_Sy_fail z_Sy_fail e_Sy_fail) (h_Sy_wordIn_at_s5004 : ct_ok PRD l D kA GG y_Sy_wordIn_at_s5004 z_Sy_wordIn_at_s5004 e_Sy_wordIn_at_s5004) (h_Sy_wordIn_at_s5007 : ct_ok PRD l D kA GG y_Sy_wordIn_at_s5007 z_Sy_wordIn_at_s5007 e_Sy_wordIn_at_s5007) : ct_ok PRD l D kA GG y_Sy_compileValue_at_k6 z_Sy_compileValue_at_k6 e_Sy_compileValue_at_k6 := chk_all_ok (FT := [(31, 11, 6), (37, 11, 8), (42, 11, 9)]) (PT := []) (CT := t_Sy_compileValue_at_k6_ct) (KT := []) (NT := []) (AN := n_Sy_compileValue_at_k6_an) (OT := [o_Sy_compileValue_at_k6_0, o_Sy_compileValue_at_k6_1, o_Sy_compileValue_at_k6_2, o_Sy_compileValue_at_k6_3, o_Sy_compileValue_at_k6_4]) 0 684 (List.forall_mem_cons.mpr ⟨oo_Sy_compileValue_at_k6_0, List.forall_mem_cons.mpr ⟨oo_Sy_compileValue_at_k6_1, List.forall_mem_cons.mpr ⟨oo_Sy_compileValue_at_k6_2, List.forall_mem_cons.mpr ⟨oo_Sy_compileValue_at_k6_3, List.forall_mem_cons.mpr ⟨oo_Sy_compileValue_at_k6_4, List.forall_mem_nil _⟩⟩⟩⟩⟩) (by decide +kernel) ⟨List.forall_mem_cons.mpr ⟨gf_Sy_31, List.forall_mem_cons.mpr ⟨gf_Sy_37, List.forall_mem_cons.mpr ⟨gf_Sy_42, List.forall_mem_nil _⟩⟩⟩, List.forall_mem_nil _, List.forall_mem_cons.mpr ⟨cl_virtual (y := y_Sy_advance) (ci := 11) rfl rfl ⟨_, _, rfl⟩ (by decide +kernel) h_Sy_advance wm_2158 wm_23 wm_2155 wm_2157 wv_10_10 ⟨by decide, by decide, by decide +kernel⟩ (by decide), List.forall_mem_cons.mpr ⟨cl_virtual (y := y_Sy_fail) (ci := 11) rfl rfl ⟨_, _, rfl⟩ (by decide +kernel) h_Sy_fail wm_2239 wm_23 wm_2236 wm_2238 wv_10_14 ⟨by decide, by decide, by decide +kernel⟩ (by decide), List.forall_mem_cons.mpr ⟨cl_virtual (y := y_Sy_emit) (ci := 11) rfl rfl ⟨_, _, rfl⟩ (by decide +kernel) h_Sy_emit wm_2258 wm_23 wm_2255 wm_2257 wv_11_2 ⟨by decide, by decide, by decide +kernel⟩ (by decide), List.forall_mem_cons.mpr ⟨cl_virtual (y := y_Sy_closes) (ci := 11) rfl rfl ⟨_, _, rfl⟩ (by decide +kernel) h_Sy_closes wm_2262 wm_23 wm_2259 wm_2261 wv_11_3 ⟨by decide, by decide, by decide +kernel⟩ (by decide), List.forall_mem_cons.mpr ⟨cl_virtual (y := y_Sy_compileSum_at_k7) (ci := 11) rfl rfl ⟨_, _, rfl⟩ (by decide +kernel) h_Sy_compileSum_at_k7 wm_2266 wm_23 wm_2263 wm_2265 wv_11_4 ⟨by decide, by decide, by decide +kernel⟩ (by decide), List.forall_mem_cons.mpr ⟨cl_virtual (y := y_Sy_wordIn_at_s5007) (ci := 11) rfl rfl ⟨_, _, rfl⟩ (by decide +kernel) h_Sy_wordIn_at_s5007 wm_2229 wm_23 wm_2226 wm_2228 wv_10_12 ⟨by decide, by decide, by decide +kernel⟩ (by decide), List.forall_mem_cons.mpr ⟨cl_virtual (y := y_Sy_wordIn_at_s5004) (ci := 11) rfl rfl ⟨_, _, rfl⟩ (by decide +kernel) h_Sy_wordIn_at_s5004 wm_2229 wm_23 wm_2226 wm_2228 wv_10_12 ⟨by decide, by decide, by decide +kernel⟩ (by decide), List.forall_mem_nil _⟩⟩⟩⟩⟩⟩⟩, List.forall_mem_nil _, List.forall_mem_nil _, GG_pl⟩ (by decide +kernel)
set_option maxHeartbeats 4000000 in
theorem vc_Sy_compileValue_at_k7_0_0 (x3 : Int) (x4 : Int) (x9 : Int) (x11 : Int) (number_0 : Int) (kind_0 : Int) (k3 : 3 ≤ x3 ∧ x3 ≤ 3) (k4 : 40 ≤ x4 ∧ x4 ≤ 40) (k9 : 0 ≤ x9 ∧ x9 ≤ 0) (k11 : 0 ≤ x11 ∧ x11 ≤ 1000000) (g0 : x11 = number_0) (g2 : x3 = kind_0) (f5 : (kind_0 ≠ 3) ∨ (number_0 ≤ 9999)) (f7 : x3 ≠ x4) (kz_0_6 : 0 ≤ kind_0 ∧ kind_0 ≤ 127) (kz_0_8 : 0 ≤ number_0 ∧ number_0 ≤ 1000000) : (0 ≤ x9) ∧ ((0 ≤ x11) ∧ (((x9 * 65536) + x11) ≤ 851970)) := by
  first
    | omega
  
def o_Sy_compileValue_at_k7_0 : or_T := (108, 12, [(0, (2, 0, 0, [11])), (3, (0, 3, 3, [])), (4, (0, 40, 40, [])), (7, (0, 3, 3, [])), (8, (0, 3, 3, [])), (9, (0, 0, 0, [])), (10, (0, 3, 3, [])), (11, (0, 0, 1000000, []))], [(9, [11, 0], [8]), (7, [3, 10], [0]), (9, [3, 0], [6]), (7, [3, 8], [0]), (7, [3, 7], [0]), (20, [0], [50, 2, 0, 6, 8, 3, 7, 7, 3, 2, 0, 6, 0, 3, 0, 3, 2, 0, 8, 0, 9999]), (102, [5], [0]), (7, [3, 4], [1])], [], [], [(20, [9, 11], [50, 0, 0, 2, 6, 0, 2, 0, 0, 1, 0, 2, 6, 0, 2, 0, 0, 1, 1, 0, 10, 4, 6, 6, 2, 1, 0, 0, 65536, 1, 1, 0, 851970])], [], [])
theorem oo_Sy_compileValue_at_k7_0 {kA : Nat → ClassId} : or_ok PRD kA GG o_Sy_compileValue_at_k7_0 := by
  refine or_mk fun A ta ws vs hD hth hl => ?_
  intro t0 r0 t3 k3 t4 k4 t7 k7 t8 k8 t9 k9 t10 k10 t11 k11 f0 f1 f2 f3 f4 f5 ta1 w1 le1 s1 f7
  replace f0 := shm_143 f0
  replace f2 := shm_110 f2
  have g0 : v_iv (n_v vs 11) = w_fi ws (n_v vs 0) 8 := congrArg v_iv f0
  have g2 : v_iv (n_v vs 3) = w_fi ws (n_v vs 0) 6 := congrArg v_iv f2
  have kz_0_6 := fdq_304 hD hth r0
  have kz_0_8 := fdq_305 hD hth r0
  have nf0 : fc_1 PRD (20, [9, 11], [50, 0, 0, 2, 6, 0, 2, 0, 0, 1, 0, 2, 6, 0, 2, 0, 0, 1, 1, 0, 10, 4, 6, 6, 2, 1, 0, 0, 65536, 1, 1, 0, 851970]) ws (vs) := ⟨nf_in hl rfl, sgq_487 (vc_Sy_compileValue_at_k7_0_0 (v_iv (n_v vs 3)) (v_iv (n_v vs 4)) (v_iv (n_v vs 9)) (v_iv (n_v vs 11)) (w_fi ws (n_v vs 0) 8) (w_fi ws (n_v vs 0) 6) k3 k4 k9 k11 g0 g2 (shm_1747 f5) (shm_40 f7) kz_0_6 kz_0_8)⟩
  refine ⟨(fun _ h => (by cases h)), [], trivial, ?_, (fun _ h => (by cases h))⟩
  rw [List.append_nil]
  exact List.forall_mem_cons.mpr ⟨⟨show (20 : Nat) < 100 from by decide, nf0⟩, (fun _ h => (by cases h))⟩
set_option maxHeartbeats 4000000 in
theorem vc_Sy_compileValue_at_k7_1_0 (x3 : Int) (x4 : Int) (x6 : Int) (x7 : Int) (x8 : Int) (x9 : Int) (x10 : Int) (x11 : Int) (kind_0 : Int) (number_0 : Int) (k3 : 0 ≤ x3 ∧ x3 ≤ 127) (k4 : 40 ≤ x4 ∧ x4 ≤ 40) (k6 : 0 ≤ x6 ∧ x6 ≤ 38) (k7 : 3 ≤ x7 ∧ x7 ≤ 3) (k8 : (-1) ≤ x8 ∧ x8 ≤ (-1)) (k9 : 3 ≤ x9 ∧ x9 ≤ 3) (k10 : 1 ≤ x10 ∧ x10 ≤ 1) (k11 : 3 ≤ x11 ∧ x11 ≤ 3) (f0 : x3 ≠ x11) (g1 : x3 = kind_0) (f2 : x3 ≠ x9) (f3 : x6 ≠ x8) (f4 : x3 ≠ x7) (f5 : (kind_0 ≠ 3) ∨ (number_0 ≤ 9999)) (f7 : x3 ≠ x4) (kz_0_6 : 0 ≤ kind_0 ∧ kind_0 ≤ 127) (kz_0_8 : 0 ≤ number_0 ∧ number_0 ≤ 1000000) : (0 ≤ x10) ∧ ((0 ≤ x6) ∧ (((x10 * 65536) + x6) ≤ 851970)) := by
  first
    | omega
  
def o_Sy_compileValue_at_k7_1 : or_T := (108, 12, [(0, (2, 0, 0, [11])), (3, (0, 0, 127, [])), (4, (0, 40, 40, [])), (6, (0, 0, 38, [])), (7, (0, 3, 3, [])), (8, (0, -1, -1, [])), (9, (0, 3, 3, [])), (10, (0, 1, 1, [])), (11, (0, 3, 3, []))], [(7, [3, 11], [1]), (9, [3, 0], [6]), (7, [3, 9], [1]), (7, [6, 8], [1]), (7, [3, 7], [1]), (20, [0], [50, 2, 0, 6, 8, 3, 7, 7, 3, 2, 0, 6, 0, 3, 0, 3, 2, 0, 8, 0, 9999]), (102, [5], [0]), (7, [3, 4], [1])], [], [], [(20, [10, 6], [50, 0, 0, 2, 6, 0, 2, 0, 0, 1, 0, 2, 6, 0, 2, 0, 0, 1, 1, 0, 10, 4, 6, 6, 2, 1, 0, 0, 65536, 1, 1, 0, 851970])], [], [])
theorem oo_Sy_compileValue_at_k7_1 {kA : Nat → ClassId} : or_ok PRD kA GG o_Sy_compileValue_at_k7_1 := by
  refine or_mk fun A ta ws vs hD hth hl => ?_
  intro t0 r0 t3 k3 t4 k4 t6 k6 t7 k7 t8 k8 t9 k9 t10 k10 t11 k11 f0 f1 f2 f3 f4 f5 ta1 w1 le1 s1 f7
  replace f1 := shm_110 f1
  have g1 : v_iv (n_v vs 3) = w_fi ws (n_v vs 0) 6 := congrArg v_iv f1
  have kz_0_6 := fdq_304 hD hth r0
  have kz_0_8 := fdq_305 hD hth r0
  have nf0 : fc_1 PRD (20, [10, 6], [50, 0, 0, 2, 6, 0, 2, 0, 0, 1, 0, 2, 6, 0, 2, 0, 0, 1, 1, 0, 10, 4, 6, 6, 2, 1, 0, 0, 65536, 1, 1, 0, 851970]) ws (vs) := ⟨nf_in hl rfl, sgq_487 (vc_Sy_compileValue_at_k7_1_0 (v_iv (n_v vs 3)) (v_iv (n_v vs 4)) (v_iv (n_v vs 6)) (v_iv (n_v vs 7)) (v_iv (n_v vs 8)) (v_iv (n_v vs 9)) (v_iv (n_v vs 10)) (v_iv (n_v vs 11)) (w_fi ws (n_v vs 0) 6) (w_fi ws (n_v vs 0) 8) k3 k4 k6 k7 k8 k9 k10 k11 (shm_40 f0) g1 (shm_40 f2) (shm_40 f3) (shm_40 f4) (shm_1747 f5) (shm_40 f7) kz_0_6 kz_0_8)⟩
  refine ⟨(fun _ h => (by cases h)), [], trivial, ?_, (fun _ h => (by cases h))⟩
  rw [List.append_nil]
  exact List.forall_mem_cons.mpr ⟨⟨show (20 : Nat) < 100 from by decide, nf0⟩, (fun _ h => (by cases h))⟩
set_option maxHeartbeats 4000000 in
theorem vc_Sy_compileValue_at_k7_2_0 (x3 : Int) (x4 : Int) (x10 : Int) (x12 : Int) (number_0 : Int) (kind_0 : Int) (k3 : 3 ≤ x3 ∧ x3 ≤ 3) (k4 : 40 ≤ x4 ∧ x4 ≤ 40) (k10 : 1 ≤ x10 ∧ x10 ≤ 1) (k12 : 0 ≤ x12 ∧ x12 ≤ 1000000) (g0 : x12 = number_0) (g2 : x3 = kind_0) (f5 : (kind_0 ≠ 3) ∨ (number_0 ≤ 9999)) (f7 : x3 ≠ x4) (kz_0_6 : 0 ≤ kind_0 ∧ kind_0 ≤ 127) (kz_0_8 : 0 ≤ number_0 ∧ number_0 ≤ 1000000) : (0 ≤ x10) ∧ ((0 ≤ x12) ∧ (((x10 * 65536) + x12) ≤ 851970)) := by
  first
    | omega
  
def o_Sy_compileValue_at_k7_2 : or_T := (108, 13, [(0, (2, 0, 0, [11])), (3, (0, 3, 3, [])), (4, (0, 40, 40, [])), (7, (0, 3, 3, [])), (9, (0, 3, 3, [])), (10, (0, 1, 1, [])), (11, (0, 3, 3, [])), (12, (0, 0, 1000000, []))], [(9, [12, 0], [8]), (7, [3, 11], [0]), (9, [3, 0], [6]), (7, [3, 9], [1]), (7, [3, 7], [1]), (20, [0], [50, 2, 0, 6, 8, 3, 7, 7, 3, 2, 0, 6, 0, 3, 0, 3, 2, 0, 8, 0, 9999]), (102, [5], [0]), (7, [3, 4], [1])], [], [], [(20, [10, 12], [50, 0, 0, 2, 6, 0, 2, 0, 0, 1, 0, 2, 6, 0, 2, 0, 0, 1, 1, 0, 10, 4, 6, 6, 2, 1, 0, 0, 65536, 1, 1, 0, 851970])], [], [])
theorem oo_Sy_compileValue_at_k7_2 {kA : Nat → ClassId} : or_ok PRD kA GG o_Sy_compileValue_at_k7_2 := by
  refine or_mk fun A ta ws vs hD hth hl => ?_
  intro t0 r0 t3 k3 t4 k4 t7 k7 t9 k9 t10 k10 t11 k11 t12 k12 f0 f1 f2 f3 f4 f5 ta1 w1 le1 s1 f7
  replace f0 := shm_143 f0
  replace f2 := shm_110 f2
  have g0 : v_iv (n_v vs 12) = w_fi ws (n_v vs 0) 8 := congrArg v_iv f0
  have g2 : v_iv (n_v vs 3) = w_fi ws (n_v vs 0) 6 := congrArg v_iv f2
  have kz_0_6 := fdq_304 hD hth r0
  have kz_0_8 := fdq_305 hD hth r0
  have nf0 : fc_1 PRD (20, [10, 12], [50, 0, 0, 2, 6, 0, 2, 0, 0, 1, 0, 2, 6, 0, 2, 0, 0, 1, 1, 0, 10, 4, 6, 6, 2, 1, 0, 0, 65536, 1, 1, 0, 851970]) ws (vs) := ⟨nf_in hl rfl, sgq_487 (vc_Sy_compileValue_at_k7_2_0 (v_iv (n_v vs 3)) (v_iv (n_v vs 4)) (v_iv (n_v vs 10)) (v_iv (n_v vs 12)) (w_fi ws (n_v vs 0) 8) (w_fi ws (n_v vs 0) 6) k3 k4 k10 k12 g0 g2 (shm_1747 f5) (shm_40 f7) kz_0_6 kz_0_8)⟩
  refine ⟨(fun _ h => (by cases h)), [], trivial, ?_, (fun _ h => (by cases h))⟩
  rw [List.append_nil]
  exact List.forall_mem_cons.mpr ⟨⟨show (20 : Nat) < 100 from by decide, nf0⟩, (fun _ h => (by cases h))⟩
set_option maxHeartbeats 4000000 in
theorem vc_Sy_compileValue_at_k7_3_0 (x3 : Int) (x4 : Int) (x10 : Int) (x12 : Int) (number_0 : Int) (kind_0 : Int) (k3 : 3 ≤ x3 ∧ x3 ≤ 3) (k4 : 40 ≤ x4 ∧ x4 ≤ 40) (k10 : 0 ≤ x10 ∧ x10 ≤ 0) (k12 : 0 ≤ x12 ∧ x12 ≤ 1000000) (g0 : x12 = number_0) (g2 : x3 = kind_0) (f5 : (kind_0 ≠ 3) ∨ (number_0 ≤ 9999)) (f7 : x3 ≠ x4) (kz_0_6 : 0 ≤ kind_0 ∧ kind_0 ≤ 127) (kz_0_8 : 0 ≤ number_0 ∧ number_0 ≤ 1000000) : (0 ≤ x10) ∧ ((0 ≤ x12) ∧ (((x10 * 65536) + x12) ≤ 851970)) := by
  first
    | omega
  
def o_Sy_compileValue_at_k7_3 : or_T := (108, 13, [(0, (2, 0, 0, [11])), (3, (0, 3, 3, [])), (4, (0, 40, 40, [])), (7, (0, 3, 3, [])), (9, (0, 3, 3, [])), (10, (0, 0, 0, [])), (11, (0, 3, 3, [])), (12, (0, 0, 1000000, []))], [(9, [12, 0], [8]), (7, [3, 11], [0]), (9, [3, 0], [6]), (7, [3, 9], [0]), (7, [3, 7], [1]), (20, [0], [50, 2, 0, 6, 8, 3, 7, 7, 3, 2, 0, 6, 0, 3, 0, 3, 2, 0, 8, 0, 9999]), (102, [5], [0]), (7, [3, 4], [1])], [], [], [(20, [10, 12], [50, 0, 0, 2, 6, 0, 2, 0, 0, 1, 0, 2, 6, 0, 2, 0, 0, 1, 1, 0, 10, 4, 6, 6, 2, 1, 0, 0, 65536, 1, 1, 0, 851970])], [], [])
theorem oo_Sy_compileValue_at_k7_3 {kA : Nat → ClassId} : or_ok PRD kA GG o_Sy_compileValue_at_k7_3 := by
  refine or_mk fun A ta ws vs hD hth hl => ?_
  intro t0 r0 t3 k3 t4 k4 t7 k7 t9 k9 t10 k10 t11 k11 t12 k12 f0 f1 f2 f3 f4 f5 ta1 w1 le1 s1 f7
  replace f0 := shm_143 f0
  replace f2 := shm_110 f2
  have g0 : v_iv (n_v vs 12) = w_fi ws (n_v vs 0) 8 := congrArg v_iv f0
  have g2 : v_iv (n_v vs 3) = w_fi ws (n_v vs 0) 6 := congrArg v_iv f2
  have kz_0_6 := fdq_304 hD hth r0
  have kz_0_8 := fdq_305 hD hth r0
  have nf0 : fc_1 PRD (20, [10, 12], [50, 0, 0, 2, 6, 0, 2, 0, 0, 1, 0, 2, 6, 0, 2, 0, 0, 1, 1, 0, 10, 4, 6, 6, 2, 1, 0, 0, 65536, 1, 1, 0, 851970]) ws (vs) := ⟨nf_in hl rfl, sgq_487 (vc_Sy_compileValue_at_k7_3_0 (v_iv (n_v vs 3)) (v_iv (n_v vs 4)) (v_iv (n_v vs 10)) (v_iv (n_v vs 12)) (w_fi ws (n_v vs 0) 8) (w_fi ws (n_v vs 0) 6) k3 k4 k10 k12 g0 g2 (shm_1747 f5) (shm_40 f7) kz_0_6 kz_0_8)⟩
  refine ⟨(fun _ h => (by cases h)), [], trivial, ?_, (fun _ h => (by cases h))⟩
  rw [List.append_nil]
  exact List.forall_mem_cons.mpr ⟨⟨show (20 : Nat) < 100 from by decide, nf0⟩, (fun _ h => (by cases h))⟩
set_option maxHeartbeats 4000000 in
theorem vc_Sy_compileValue_at_k7_4_0 (x3 : Int) (x4 : Int) (x6 : Int) (x7 : Int) (x8 : Int) (x9 : Int) (x10 : Int) (x11 : Int) (kind_0 : Int) (number_0 : Int) (k3 : 0 ≤ x3 ∧ x3 ≤ 127) (k4 : 40 ≤ x4 ∧ x4 ≤ 40) (k6 : 0 ≤ x6 ∧ x6 ≤ 43) (k7 : 3 ≤ x7 ∧ x7 ≤ 3) (k8 : (-1) ≤ x8 ∧ x8 ≤ (-1)) (k9 : 3 ≤ x9 ∧ x9 ≤ 3) (k10 : 1 ≤ x10 ∧ x10 ≤ 1) (k11 : 3 ≤ x11 ∧ x11 ≤ 3) (f0 : x3 ≠ x11) (g1 : x3 = kind_0) (f2 : x3 ≠ x9) (f3 : x6 ≠ x8) (f4 : x3 ≠ x7) (f5 : (kind_0 ≠ 3) ∨ (number_0 ≤ 9999)) (f7 : x3 ≠ x4) (kz_0_6 : 0 ≤ kind_0 ∧ kind_0 ≤ 127) (kz_0_8 : 0 ≤ number_0 ∧ number_0 ≤ 1000000) : (0 ≤ x10) ∧ ((0 ≤ x6) ∧ (((x10 * 65536) + x6) ≤ 851970)) := by
  first
    | omega
  
def o_Sy_compileValue_at_k7_4 : or_T := (108, 12, [(0, (2, 0, 0, [11])), (3, (0, 0, 127, [])), (4, (0, 40, 40, [])), (6, (0, 0, 43, [])), (7, (0, 3, 3, [])), (8, (0, -1, -1, [])), (9, (0, 3, 3, [])), (10, (0, 1, 1, [])), (11, (0, 3, 3, []))], [(7, [3, 11], [1]), (9, [3, 0], [6]), (7, [3, 9], [1]), (7, [6, 8], [1]), (7, [3, 7], [1]), (20, [0], [50, 2, 0, 6, 8, 3, 7, 7, 3, 2, 0, 6, 0, 3, 0, 3, 2, 0, 8, 0, 9999]), (102, [5], [0]), (7, [3, 4], [1])], [], [], [(20, [10, 6], [50, 0, 0, 2, 6, 0, 2, 0, 0, 1, 0, 2, 6, 0, 2, 0, 0, 1, 1, 0, 10, 4, 6, 6, 2, 1, 0, 0, 65536, 1, 1, 0, 851970])], [], [])
theorem oo_Sy_compileValue_at_k7_4 {kA : Nat → ClassId} : or_ok PRD kA GG o_Sy_compileValue_at_k7_4 := by
  refine or_mk fun A ta ws vs hD hth hl => ?_
  intro t0 r0 t3 k3 t4 k4 t6 k6 t7 k7 t8 k8 t9 k9 t10 k10 t11 k11 f0 f1 f2 f3 f4 f5 ta1 w1 le1 s1 f7
  replace f1 := shm_110 f1
  have g1 : v_iv (n_v vs 3) = w_fi ws (n_v vs 0) 6 := congrArg v_iv f1
  have kz_0_6 := fdq_304 hD hth r0
  have kz_0_8 := fdq_305 hD hth r0
  have nf0 : fc_1 PRD (20, [10, 6], [50, 0, 0, 2, 6, 0, 2, 0, 0, 1, 0, 2, 6, 0, 2, 0, 0, 1, 1, 0, 10, 4, 6, 6, 2, 1, 0, 0, 65536, 1, 1, 0, 851970]) ws (vs) := ⟨nf_in hl rfl, sgq_487 (vc_Sy_compileValue_at_k7_4_0 (v_iv (n_v vs 3)) (v_iv (n_v vs 4)) (v_iv (n_v vs 6)) (v_iv (n_v vs 7)) (v_iv (n_v vs 8)) (v_iv (n_v vs 9)) (v_iv (n_v vs 10)) (v_iv (n_v vs 11)) (w_fi ws (n_v vs 0) 6) (w_fi ws (n_v vs 0) 8) k3 k4 k6 k7 k8 k9 k10 k11 (shm_40 f0) g1 (shm_40 f2) (shm_40 f3) (shm_40 f4) (shm_1747 f5) (shm_40 f7) kz_0_6 kz_0_8)⟩
  refine ⟨(fun _ h => (by cases h)), [], trivial, ?_, (fun _ h => (by cases h))⟩
  rw [List.append_nil]
  exact List.forall_mem_cons.mpr ⟨⟨show (20 : Nat) < 100 from by decide, nf0⟩, (fun _ h => (by cases h))⟩
def n_Sy_compileValue_at_k7_an : List an_T := []
def t_Sy_compileValue_at_k7_ct : ct_L := [(1, 69, e_Sy_advance), (1, 118, e_Sy_fail), (1, 128, e_Sy_emit), (1, 152, e_Sy_closes), (91, 137, e_Sy_compileSum_at_k8), (169, 114, e_Sy_wordIn_at_s5007), (169, 114, e_Sy_wordIn_at_s5004)]
set_option maxRecDepth 100000 in
theorem c_Sy_compileValue_at_k7 {l : Launch} {D : va_G} {kA : Nat → ClassId} (h_Sy_advance : ct_ok PRD l D kA GG y_Sy_advance z_Sy_advance e_Sy_advance) (h_Sy_closes : ct_ok PRD l D kA GG y_Sy_closes z_Sy_closes e_Sy_closes) (h_Sy_compileSum_at_k8 : ct_ok PRD l D kA GG y_Sy_compileSum_at_k8 z_Sy_compileSum_at_k8 e_Sy_compileSum_at_k8) (h_Sy_emit : ct_ok PRD l D kA GG y_Sy_emit z_Sy_emit e_Sy_emit) (h_Sy_fail : ct_ok PRD l D kA GG y_Sy_fail z_Sy_fail e_Sy_fail) (h_Sy_wordIn_at_s5004 : ct_ok PRD l D kA GG y_Sy_wordIn_at_s5004 z_Sy_wordIn_at_s5004 e_Sy_wordIn_at_s5004) (h_Sy_wordIn_at_s5007 : ct_ok PRD l D kA GG y_Sy_wordIn_at_s5007 z_Sy_wordIn_at_s5007 e_Sy_wordIn_at_s5007) : ct_ok PRD l D kA GG y_Sy_compileValue_at_k7 z_Sy_compileValue_at_k7 e_Sy_compileValue_at_k7 := chk_all_ok (FT := [(31, 11, 6), (37, 11, 8), (42, 11, 9)]) (PT := []) (CT := t_Sy_compileValue_at_k7_ct) (KT := []) (NT := []) (AN := n_Sy_compileValue_at_k7_an) (OT := [o_Sy_compileValue_at_k7_0, o_Sy_compileValue_at_k7_1, o_Sy_compileValue_at_k7_2, o_Sy_compileValue_at_k7_3, o_Sy_compileValue_at_k7_4]) 0 684 (List.forall_mem_cons.mpr ⟨oo_Sy_compileValue_at_k7_0, List.forall_mem_cons.mpr ⟨oo_Sy_compileValue_at_k7_1, List.forall_mem_cons.mpr ⟨oo_Sy_compileValue_at_k7_2, List.forall_mem_cons.mpr ⟨oo_Sy_compileValue_at_k7_3, List.forall_mem_cons.mpr ⟨oo_Sy_compileValue_at_k7_4, List.forall_mem_nil _⟩⟩⟩⟩⟩) (by decide +kernel) ⟨List.forall_mem_cons.mpr ⟨gf_Sy_31, List.forall_mem_cons.mpr ⟨gf_Sy_37, List.forall_mem_cons.mpr ⟨gf_Sy_42, List.forall_mem_nil _⟩⟩⟩, List.forall_mem_nil _, List.forall_mem_cons.mpr ⟨cl_virtual (y := y_Sy_advance) (ci := 11) rfl rfl ⟨_, _, rfl⟩ (by decide +kernel) h_Sy_advance wm_2158 wm_23 wm_2155 wm_2157 wv_10_10 ⟨by decide, by decide, by decide +kernel⟩ (by decide), List.forall_mem_cons.mpr ⟨cl_virtual (y := y_Sy_fail) (ci := 11) rfl rfl ⟨_, _, rfl⟩ (by decide +kernel) h_Sy_fail wm_2239 wm_23 wm_2236 wm_2238 wv_10_14 ⟨by decide, by decide, by decide +kernel⟩ (by decide), List.forall_mem_cons.mpr ⟨cl_virtual (y := y_Sy_emit) (ci := 11) rfl rfl ⟨_, _, rfl⟩ (by decide +kernel) h_Sy_emit wm_2258 wm_23 wm_2255 wm_2257 wv_11_2 ⟨by decide, by decide, by decide +kernel⟩ (by decide), List.forall_mem_cons.mpr ⟨cl_virtual (y := y_Sy_closes) (ci := 11) rfl rfl ⟨_, _, rfl⟩ (by decide +kernel) h_Sy_closes wm_2262 wm_23 wm_2259 wm_2261 wv_11_3 ⟨by decide, by decide, by decide +kernel⟩ (by decide), List.forall_mem_cons.mpr ⟨cl_virtual (y := y_Sy_compileSum_at_k8) (ci := 11) rfl rfl ⟨_, _, rfl⟩ (by decide +kernel) h_Sy_compileSum_at_k8 wm_2266 wm_23 wm_2263 wm_2265 wv_11_4 ⟨by decide, by decide, by decide +kernel⟩ (by decide), List.forall_mem_cons.mpr ⟨cl_virtual (y := y_Sy_wordIn_at_s5007) (ci := 11) rfl rfl ⟨_, _, rfl⟩ (by decide +kernel) h_Sy_wordIn_at_s5007 wm_2229 wm_23 wm_2226 wm_2228 wv_10_12 ⟨by decide, by decide, by decide +kernel⟩ (by decide), List.forall_mem_cons.mpr ⟨cl_virtual (y := y_Sy_wordIn_at_s5004) (ci := 11) rfl rfl ⟨_, _, rfl⟩ (by decide +kernel) h_Sy_wordIn_at_s5004 wm_2229 wm_23 wm_2226 wm_2228 wv_10_12 ⟨by decide, by decide, by decide +kernel⟩ (by decide), List.forall_mem_nil _⟩⟩⟩⟩⟩⟩⟩, List.forall_mem_nil _, List.forall_mem_nil _, GG_pl⟩ (by decide +kernel)
set_option maxHeartbeats 4000000 in
theorem vc_Sy_compileValue_at_k8_0_0 (x3 : Int) (x4 : Int) (x9 : Int) (x11 : Int) (number_0 : Int) (kind_0 : Int) (k3 : 3 ≤ x3 ∧ x3 ≤ 3) (k4 : 40 ≤ x4 ∧ x4 ≤ 40) (k9 : 0 ≤ x9 ∧ x9 ≤ 0) (k11 : 0 ≤ x11 ∧ x11 ≤ 1000000) (g0 : x11 = number_0) (g2 : x3 = kind_0) (f5 : (kind_0 ≠ 3) ∨ (number_0 ≤ 9999)) (f7 : x3 ≠ x4) (kz_0_6 : 0 ≤ kind_0 ∧ kind_0 ≤ 127) (kz_0_8 : 0 ≤ number_0 ∧ number_0 ≤ 1000000) : (0 ≤ x9) ∧ ((0 ≤ x11) ∧ (((x9 * 65536) + x11) ≤ 851970)) := by
  first
    | omega
  
def o_Sy_compileValue_at_k8_0 : or_T := (108, 12, [(0, (2, 0, 0, [11])), (3, (0, 3, 3, [])), (4, (0, 40, 40, [])), (7, (0, 3, 3, [])), (8, (0, 3, 3, [])), (9, (0, 0, 0, [])), (10, (0, 3, 3, [])), (11, (0, 0, 1000000, []))], [(9, [11, 0], [8]), (7, [3, 10], [0]), (9, [3, 0], [6]), (7, [3, 8], [0]), (7, [3, 7], [0]), (20, [0], [50, 2, 0, 6, 8, 3, 7, 7, 3, 2, 0, 6, 0, 3, 0, 3, 2, 0, 8, 0, 9999]), (102, [5], [0]), (7, [3, 4], [1])], [], [], [(20, [9, 11], [50, 0, 0, 2, 6, 0, 2, 0, 0, 1, 0, 2, 6, 0, 2, 0, 0, 1, 1, 0, 10, 4, 6, 6, 2, 1, 0, 0, 65536, 1, 1, 0, 851970])], [], [])
theorem oo_Sy_compileValue_at_k8_0 {kA : Nat → ClassId} : or_ok PRD kA GG o_Sy_compileValue_at_k8_0 := by
  refine or_mk fun A ta ws vs hD hth hl => ?_
  intro t0 r0 t3 k3 t4 k4 t7 k7 t8 k8 t9 k9 t10 k10 t11 k11 f0 f1 f2 f3 f4 f5 ta1 w1 le1 s1 f7
  replace f0 := shm_143 f0
  replace f2 := shm_110 f2
  have g0 : v_iv (n_v vs 11) = w_fi ws (n_v vs 0) 8 := congrArg v_iv f0
  have g2 : v_iv (n_v vs 3) = w_fi ws (n_v vs 0) 6 := congrArg v_iv f2
  have kz_0_6 := fdq_304 hD hth r0
  have kz_0_8 := fdq_305 hD hth r0
  have nf0 : fc_1 PRD (20, [9, 11], [50, 0, 0, 2, 6, 0, 2, 0, 0, 1, 0, 2, 6, 0, 2, 0, 0, 1, 1, 0, 10, 4, 6, 6, 2, 1, 0, 0, 65536, 1, 1, 0, 851970]) ws (vs) := ⟨nf_in hl rfl, sgq_487 (vc_Sy_compileValue_at_k8_0_0 (v_iv (n_v vs 3)) (v_iv (n_v vs 4)) (v_iv (n_v vs 9)) (v_iv (n_v vs 11)) (w_fi ws (n_v vs 0) 8) (w_fi ws (n_v vs 0) 6) k3 k4 k9 k11 g0 g2 (shm_1747 f5) (shm_40 f7) kz_0_6 kz_0_8)⟩
  refine ⟨(fun _ h => (by cases h)), [], trivial, ?_, (fun _ h => (by cases h))⟩
  rw [List.append_nil]
  exact List.forall_mem_cons.mpr ⟨⟨show (20 : Nat) < 100 from by decide, nf0⟩, (fun _ h => (by cases h))⟩
set_option maxHeartbeats 4000000 in
theorem vc_Sy_compileValue_at_k8_1_0 (x3 : Int) (x4 : Int) (x6 : Int) (x7 : Int) (x8 : Int) (x9 : Int) (x10 : Int) (x11 : Int) (kind_0 : Int) (number_0 : Int) (k3 : 0 ≤ x3 ∧ x3 ≤ 127) (k4 : 40 ≤ x4 ∧ x4 ≤ 40) (k6 : 0 ≤ x6 ∧ x6 ≤ 38) (k7 : 3 ≤ x7 ∧ x7 ≤ 3) (k8 : (-1) ≤ x8 ∧ x8 ≤ (-1)) (k9 : 3 ≤ x9 ∧ x9 ≤ 3) (k10 : 1 ≤ x10 ∧ x10 ≤ 1) (k11 : 3 ≤ x11 ∧ x11 ≤ 3) (f0 : x3 ≠ x11) (g1 : x3 = kind_0) (f2 : x3 ≠ x9) (f3 : x6 ≠ x8) (f4 : x3 ≠ x7) (f5 : (kind_0 ≠ 3) ∨ (number_0 ≤ 9999)) (f7 : x3 ≠ x4) (kz_0_6 : 0 ≤ kind_0 ∧ kind_0 ≤ 127) (kz_0_8 : 0 ≤ number_0 ∧ number_0 ≤ 1000000) : (0 ≤ x10) ∧ ((0 ≤ x6) ∧ (((x10 * 65536) + x6) ≤ 851970)) := by
  first
    | omega
  
def o_Sy_compileValue_at_k8_1 : or_T := (108, 12, [(0, (2, 0, 0, [11])), (3, (0, 0, 127, [])), (4, (0, 40, 40, [])), (6, (0, 0, 38, [])), (7, (0, 3, 3, [])), (8, (0, -1, -1, [])), (9, (0, 3, 3, [])), (10, (0, 1, 1, [])), (11, (0, 3, 3, []))], [(7, [3, 11], [1]), (9, [3, 0], [6]), (7, [3, 9], [1]), (7, [6, 8], [1]), (7, [3, 7], [1]), (20, [0], [50, 2, 0, 6, 8, 3, 7, 7, 3, 2, 0, 6, 0, 3, 0, 3, 2, 0, 8, 0, 9999]), (102, [5], [0]), (7, [3, 4], [1])], [], [], [(20, [10, 6], [50, 0, 0, 2, 6, 0, 2, 0, 0, 1, 0, 2, 6, 0, 2, 0, 0, 1, 1, 0, 10, 4, 6, 6, 2, 1, 0, 0, 65536, 1, 1, 0, 851970])], [], [])
theorem oo_Sy_compileValue_at_k8_1 {kA : Nat → ClassId} : or_ok PRD kA GG o_Sy_compileValue_at_k8_1 := by
  refine or_mk fun A ta ws vs hD hth hl => ?_
  intro t0 r0 t3 k3 t4 k4 t6 k6 t7 k7 t8 k8 t9 k9 t10 k10 t11 k11 f0 f1 f2 f3 f4 f5 ta1 w1 le1 s1 f7
  replace f1 := shm_110 f1
  have g1 : v_iv (n_v vs 3) = w_fi ws (n_v vs 0) 6 := congrArg v_iv f1
  have kz_0_6 := fdq_304 hD hth r0
  have kz_0_8 := fdq_305 hD hth r0
  have nf0 : fc_1 PRD (20, [10, 6], [50, 0, 0, 2, 6, 0, 2, 0, 0, 1, 0, 2, 6, 0, 2, 0, 0, 1, 1, 0, 10, 4, 6, 6, 2, 1, 0, 0, 65536, 1, 1, 0, 851970]) ws (vs) := ⟨nf_in hl rfl, sgq_487 (vc_Sy_compileValue_at_k8_1_0 (v_iv (n_v vs 3)) (v_iv (n_v vs 4)) (v_iv (n_v vs 6)) (v_iv (n_v vs 7)) (v_iv (n_v vs 8)) (v_iv (n_v vs 9)) (v_iv (n_v vs 10)) (v_iv (n_v vs 11)) (w_fi ws (n_v vs 0) 6) (w_fi ws (n_v vs 0) 8) k3 k4 k6 k7 k8 k9 k10 k11 (shm_40 f0) g1 (shm_40 f2) (shm_40 f3) (shm_40 f4) (shm_1747 f5) (shm_40 f7) kz_0_6 kz_0_8)⟩
  refine ⟨(fun _ h => (by cases h)), [], trivial, ?_, (fun _ h => (by cases h))⟩
  rw [List.append_nil]
  exact List.forall_mem_cons.mpr ⟨⟨show (20 : Nat) < 100 from by decide, nf0⟩, (fun _ h => (by cases h))⟩
set_option maxHeartbeats 4000000 in
theorem vc_Sy_compileValue_at_k8_2_0 (x3 : Int) (x4 : Int) (x10 : Int) (x12 : Int) (number_0 : Int) (kind_0 : Int) (k3 : 3 ≤ x3 ∧ x3 ≤ 3) (k4 : 40 ≤ x4 ∧ x4 ≤ 40) (k10 : 1 ≤ x10 ∧ x10 ≤ 1) (k12 : 0 ≤ x12 ∧ x12 ≤ 1000000) (g0 : x12 = number_0) (g2 : x3 = kind_0) (f5 : (kind_0 ≠ 3) ∨ (number_0 ≤ 9999)) (f7 : x3 ≠ x4) (kz_0_6 : 0 ≤ kind_0 ∧ kind_0 ≤ 127) (kz_0_8 : 0 ≤ number_0 ∧ number_0 ≤ 1000000) : (0 ≤ x10) ∧ ((0 ≤ x12) ∧ (((x10 * 65536) + x12) ≤ 851970)) := by
  first
    | omega
  
def o_Sy_compileValue_at_k8_2 : or_T := (108, 13, [(0, (2, 0, 0, [11])), (3, (0, 3, 3, [])), (4, (0, 40, 40, [])), (7, (0, 3, 3, [])), (9, (0, 3, 3, [])), (10, (0, 1, 1, [])), (11, (0, 3, 3, [])), (12, (0, 0, 1000000, []))], [(9, [12, 0], [8]), (7, [3, 11], [0]), (9, [3, 0], [6]), (7, [3, 9], [1]), (7, [3, 7], [1]), (20, [0], [50, 2, 0, 6, 8, 3, 7, 7, 3, 2, 0, 6, 0, 3, 0, 3, 2, 0, 8, 0, 9999]), (102, [5], [0]), (7, [3, 4], [1])], [], [], [(20, [10, 12], [50, 0, 0, 2, 6, 0, 2, 0, 0, 1, 0, 2, 6, 0, 2, 0, 0, 1, 1, 0, 10, 4, 6, 6, 2, 1, 0, 0, 65536, 1, 1, 0, 851970])], [], [])
theorem oo_Sy_compileValue_at_k8_2 {kA : Nat → ClassId} : or_ok PRD kA GG o_Sy_compileValue_at_k8_2 := by
  refine or_mk fun A ta ws vs hD hth hl => ?_
  intro t0 r0 t3 k3 t4 k4 t7 k7 t9 k9 t10 k10 t11 k11 t12 k12 f0 f1 f2 f3 f4 f5 ta1 w1 le1 s1 f7
  replace f0 := shm_143 f0
  replace f2 := shm_110 f2
  have g0 : v_iv (n_v vs 12) = w_fi ws (n_v vs 0) 8 := congrArg v_iv f0
  have g2 : v_iv (n_v vs 3) = w_fi ws (n_v vs 0) 6 := congrArg v_iv f2
  have kz_0_6 := fdq_304 hD hth r0
  have kz_0_8 := fdq_305 hD hth r0
  have nf0 : fc_1 PRD (20, [10, 12], [50, 0, 0, 2, 6, 0, 2, 0, 0, 1, 0, 2, 6, 0, 2, 0, 0, 1, 1, 0, 10, 4, 6, 6, 2, 1, 0, 0, 65536, 1, 1, 0, 851970]) ws (vs) := ⟨nf_in hl rfl, sgq_487 (vc_Sy_compileValue_at_k8_2_0 (v_iv (n_v vs 3)) (v_iv (n_v vs 4)) (v_iv (n_v vs 10)) (v_iv (n_v vs 12)) (w_fi ws (n_v vs 0) 8) (w_fi ws (n_v vs 0) 6) k3 k4 k10 k12 g0 g2 (shm_1747 f5) (shm_40 f7) kz_0_6 kz_0_8)⟩
  refine ⟨(fun _ h => (by cases h)), [], trivial, ?_, (fun _ h => (by cases h))⟩
  rw [List.append_nil]
  exact List.forall_mem_cons.mpr ⟨⟨show (20 : Nat) < 100 from by decide, nf0⟩, (fun _ h => (by cases h))⟩
set_option maxHeartbeats 4000000 in
theorem vc_Sy_compileValue_at_k8_3_0 (x3 : Int) (x4 : Int) (x10 : Int) (x12 : Int) (number_0 : Int) (kind_0 : Int) (k3 : 3 ≤ x3 ∧ x3 ≤ 3) (k4 : 40 ≤ x4 ∧ x4 ≤ 40) (k10 : 0 ≤ x10 ∧ x10 ≤ 0) (k12 : 0 ≤ x12 ∧ x12 ≤ 1000000) (g0 : x12 = number_0) (g2 : x3 = kind_0) (f5 : (kind_0 ≠ 3) ∨ (number_0 ≤ 9999)) (f7 : x3 ≠ x4) (kz_0_6 : 0 ≤ kind_0 ∧ kind_0 ≤ 127) (kz_0_8 : 0 ≤ number_0 ∧ number_0 ≤ 1000000) : (0 ≤ x10) ∧ ((0 ≤ x12) ∧ (((x10 * 65536) + x12) ≤ 851970)) := by
  first
    | omega
  
def o_Sy_compileValue_at_k8_3 : or_T := (108, 13, [(0, (2, 0, 0, [11])), (3, (0, 3, 3, [])), (4, (0, 40, 40, [])), (7, (0, 3, 3, [])), (9, (0, 3, 3, [])), (10, (0, 0, 0, [])), (11, (0, 3, 3, [])), (12, (0, 0, 1000000, []))], [(9, [12, 0], [8]), (7, [3, 11], [0]), (9, [3, 0], [6]), (7, [3, 9], [0]), (7, [3, 7], [1]), (20, [0], [50, 2, 0, 6, 8, 3, 7, 7, 3, 2, 0, 6, 0, 3, 0, 3, 2, 0, 8, 0, 9999]), (102, [5], [0]), (7, [3, 4], [1])], [], [], [(20, [10, 12], [50, 0, 0, 2, 6, 0, 2, 0, 0, 1, 0, 2, 6, 0, 2, 0, 0, 1, 1, 0, 10, 4, 6, 6, 2, 1, 0, 0, 65536, 1, 1, 0, 851970])], [], [])
theorem oo_Sy_compileValue_at_k8_3 {kA : Nat → ClassId} : or_ok PRD kA GG o_Sy_compileValue_at_k8_3 := by
  refine or_mk fun A ta ws vs hD hth hl => ?_
  intro t0 r0 t3 k3 t4 k4 t7 k7 t9 k9 t10 k10 t11 k11 t12 k12 f0 f1 f2 f3 f4 f5 ta1 w1 le1 s1 f7
  replace f0 := shm_143 f0
  replace f2 := shm_110 f2
  have g0 : v_iv (n_v vs 12) = w_fi ws (n_v vs 0) 8 := congrArg v_iv f0
  have g2 : v_iv (n_v vs 3) = w_fi ws (n_v vs 0) 6 := congrArg v_iv f2
  have kz_0_6 := fdq_304 hD hth r0
  have kz_0_8 := fdq_305 hD hth r0
  have nf0 : fc_1 PRD (20, [10, 12], [50, 0, 0, 2, 6, 0, 2, 0, 0, 1, 0, 2, 6, 0, 2, 0, 0, 1, 1, 0, 10, 4, 6, 6, 2, 1, 0, 0, 65536, 1, 1, 0, 851970]) ws (vs) := ⟨nf_in hl rfl, sgq_487 (vc_Sy_compileValue_at_k8_3_0 (v_iv (n_v vs 3)) (v_iv (n_v vs 4)) (v_iv (n_v vs 10)) (v_iv (n_v vs 12)) (w_fi ws (n_v vs 0) 8) (w_fi ws (n_v vs 0) 6) k3 k4 k10 k12 g0 g2 (shm_1747 f5) (shm_40 f7) kz_0_6 kz_0_8)⟩
  refine ⟨(fun _ h => (by cases h)), [], trivial, ?_, (fun _ h => (by cases h))⟩
  rw [List.append_nil]
  exact List.forall_mem_cons.mpr ⟨⟨show (20 : Nat) < 100 from by decide, nf0⟩, (fun _ h => (by cases h))⟩
set_option maxHeartbeats 4000000 in
theorem vc_Sy_compileValue_at_k8_4_0 (x3 : Int) (x4 : Int) (x6 : Int) (x7 : Int) (x8 : Int) (x9 : Int) (x10 : Int) (x11 : Int) (kind_0 : Int) (number_0 : Int) (k3 : 0 ≤ x3 ∧ x3 ≤ 127) (k4 : 40 ≤ x4 ∧ x4 ≤ 40) (k6 : 0 ≤ x6 ∧ x6 ≤ 43) (k7 : 3 ≤ x7 ∧ x7 ≤ 3) (k8 : (-1) ≤ x8 ∧ x8 ≤ (-1)) (k9 : 3 ≤ x9 ∧ x9 ≤ 3) (k10 : 1 ≤ x10 ∧ x10 ≤ 1) (k11 : 3 ≤ x11 ∧ x11 ≤ 3) (f0 : x3 ≠ x11) (g1 : x3 = kind_0) (f2 : x3 ≠ x9) (f3 : x6 ≠ x8) (f4 : x3 ≠ x7) (f5 : (kind_0 ≠ 3) ∨ (number_0 ≤ 9999)) (f7 : x3 ≠ x4) (kz_0_6 : 0 ≤ kind_0 ∧ kind_0 ≤ 127) (kz_0_8 : 0 ≤ number_0 ∧ number_0 ≤ 1000000) : (0 ≤ x10) ∧ ((0 ≤ x6) ∧ (((x10 * 65536) + x6) ≤ 851970)) := by
  first
    | omega
  
def o_Sy_compileValue_at_k8_4 : or_T := (108, 12, [(0, (2, 0, 0, [11])), (3, (0, 0, 127, [])), (4, (0, 40, 40, [])), (6, (0, 0, 43, [])), (7, (0, 3, 3, [])), (8, (0, -1, -1, [])), (9, (0, 3, 3, [])), (10, (0, 1, 1, [])), (11, (0, 3, 3, []))], [(7, [3, 11], [1]), (9, [3, 0], [6]), (7, [3, 9], [1]), (7, [6, 8], [1]), (7, [3, 7], [1]), (20, [0], [50, 2, 0, 6, 8, 3, 7, 7, 3, 2, 0, 6, 0, 3, 0, 3, 2, 0, 8, 0, 9999]), (102, [5], [0]), (7, [3, 4], [1])], [], [], [(20, [10, 6], [50, 0, 0, 2, 6, 0, 2, 0, 0, 1, 0, 2, 6, 0, 2, 0, 0, 1, 1, 0, 10, 4, 6, 6, 2, 1, 0, 0, 65536, 1, 1, 0, 851970])], [], [])
theorem oo_Sy_compileValue_at_k8_4 {kA : Nat → ClassId} : or_ok PRD kA GG o_Sy_compileValue_at_k8_4 := by
  refine or_mk fun A ta ws vs hD hth hl => ?_
  intro t0 r0 t3 k3 t4 k4 t6 k6 t7 k7 t8 k8 t9 k9 t10 k10 t11 k11 f0 f1 f2 f3 f4 f5 ta1 w1 le1 s1 f7
  replace f1 := shm_110 f1
  have g1 : v_iv (n_v vs 3) = w_fi ws (n_v vs 0) 6 := congrArg v_iv f1
  have kz_0_6 := fdq_304 hD hth r0
  have kz_0_8 := fdq_305 hD hth r0
  have nf0 : fc_1 PRD (20, [10, 6], [50, 0, 0, 2, 6, 0, 2, 0, 0, 1, 0, 2, 6, 0, 2, 0, 0, 1, 1, 0, 10, 4, 6, 6, 2, 1, 0, 0, 65536, 1, 1, 0, 851970]) ws (vs) := ⟨nf_in hl rfl, sgq_487 (vc_Sy_compileValue_at_k8_4_0 (v_iv (n_v vs 3)) (v_iv (n_v vs 4)) (v_iv (n_v vs 6)) (v_iv (n_v vs 7)) (v_iv (n_v vs 8)) (v_iv (n_v vs 9)) (v_iv (n_v vs 10)) (v_iv (n_v vs 11)) (w_fi ws (n_v vs 0) 6) (w_fi ws (n_v vs 0) 8) k3 k4 k6 k7 k8 k9 k10 k11 (shm_40 f0) g1 (shm_40 f2) (shm_40 f3) (shm_40 f4) (shm_1747 f5) (shm_40 f7) kz_0_6 kz_0_8)⟩
  refine ⟨(fun _ h => (by cases h)), [], trivial, ?_, (fun _ h => (by cases h))⟩
  rw [List.append_nil]
  exact List.forall_mem_cons.mpr ⟨⟨show (20 : Nat) < 100 from by decide, nf0⟩, (fun _ h => (by cases h))⟩
def n_Sy_compileValue_at_k8_an : List an_T := []
def t_Sy_compileValue_at_k8_ct : ct_L := [(1, 69, e_Sy_advance), (1, 118, e_Sy_fail), (1, 128, e_Sy_emit), (1, 152, e_Sy_closes), (91, 137, e_Sy_compileSum_at_k9), (169, 114, e_Sy_wordIn_at_s5007), (169, 114, e_Sy_wordIn_at_s5004)]
set_option maxRecDepth 100000 in
theorem c_Sy_compileValue_at_k8 {l : Launch} {D : va_G} {kA : Nat → ClassId} (h_Sy_advance : ct_ok PRD l D kA GG y_Sy_advance z_Sy_advance e_Sy_advance) (h_Sy_closes : ct_ok PRD l D kA GG y_Sy_closes z_Sy_closes e_Sy_closes) (h_Sy_compileSum_at_k9 : ct_ok PRD l D kA GG y_Sy_compileSum_at_k9 z_Sy_compileSum_at_k9 e_Sy_compileSum_at_k9) (h_Sy_emit : ct_ok PRD l D kA GG y_Sy_emit z_Sy_emit e_Sy_emit) (h_Sy_fail : ct_ok PRD l D kA GG y_Sy_fail z_Sy_fail e_Sy_fail) (h_Sy_wordIn_at_s5004 : ct_ok PRD l D kA GG y_Sy_wordIn_at_s5004 z_Sy_wordIn_at_s5004 e_Sy_wordIn_at_s5004) (h_Sy_wordIn_at_s5007 : ct_ok PRD l D kA GG y_Sy_wordIn_at_s5007 z_Sy_wordIn_at_s5007 e_Sy_wordIn_at_s5007) : ct_ok PRD l D kA GG y_Sy_compileValue_at_k8 z_Sy_compileValue_at_k8 e_Sy_compileValue_at_k8 := chk_all_ok (FT := [(31, 11, 6), (37, 11, 8), (42, 11, 9)]) (PT := []) (CT := t_Sy_compileValue_at_k8_ct) (KT := []) (NT := []) (AN := n_Sy_compileValue_at_k8_an) (OT := [o_Sy_compileValue_at_k8_0, o_Sy_compileValue_at_k8_1, o_Sy_compileValue_at_k8_2, o_Sy_compileValue_at_k8_3, o_Sy_compileValue_at_k8_4]) 0 684 (List.forall_mem_cons.mpr ⟨oo_Sy_compileValue_at_k8_0, List.forall_mem_cons.mpr ⟨oo_Sy_compileValue_at_k8_1, List.forall_mem_cons.mpr ⟨oo_Sy_compileValue_at_k8_2, List.forall_mem_cons.mpr ⟨oo_Sy_compileValue_at_k8_3, List.forall_mem_cons.mpr ⟨oo_Sy_compileValue_at_k8_4, List.forall_mem_nil _⟩⟩⟩⟩⟩) (by decide +kernel) ⟨List.forall_mem_cons.mpr ⟨gf_Sy_31, List.forall_mem_cons.mpr ⟨gf_Sy_37, List.forall_mem_cons.mpr ⟨gf_Sy_42, List.forall_mem_nil _⟩⟩⟩, List.forall_mem_nil _, List.forall_mem_cons.mpr ⟨cl_virtual (y := y_Sy_advance) (ci := 11) rfl rfl ⟨_, _, rfl⟩ (by decide +kernel) h_Sy_advance wm_2158 wm_23 wm_2155 wm_2157 wv_10_10 ⟨by decide, by decide, by decide +kernel⟩ (by decide), List.forall_mem_cons.mpr ⟨cl_virtual (y := y_Sy_fail) (ci := 11) rfl rfl ⟨_, _, rfl⟩ (by decide +kernel) h_Sy_fail wm_2239 wm_23 wm_2236 wm_2238 wv_10_14 ⟨by decide, by decide, by decide +kernel⟩ (by decide), List.forall_mem_cons.mpr ⟨cl_virtual (y := y_Sy_emit) (ci := 11) rfl rfl ⟨_, _, rfl⟩ (by decide +kernel) h_Sy_emit wm_2258 wm_23 wm_2255 wm_2257 wv_11_2 ⟨by decide, by decide, by decide +kernel⟩ (by decide), List.forall_mem_cons.mpr ⟨cl_virtual (y := y_Sy_closes) (ci := 11) rfl rfl ⟨_, _, rfl⟩ (by decide +kernel) h_Sy_closes wm_2262 wm_23 wm_2259 wm_2261 wv_11_3 ⟨by decide, by decide, by decide +kernel⟩ (by decide), List.forall_mem_cons.mpr ⟨cl_virtual (y := y_Sy_compileSum_at_k9) (ci := 11) rfl rfl ⟨_, _, rfl⟩ (by decide +kernel) h_Sy_compileSum_at_k9 wm_2266 wm_23 wm_2263 wm_2265 wv_11_4 ⟨by decide, by decide, by decide +kernel⟩ (by decide), List.forall_mem_cons.mpr ⟨cl_virtual (y := y_Sy_wordIn_at_s5007) (ci := 11) rfl rfl ⟨_, _, rfl⟩ (by decide +kernel) h_Sy_wordIn_at_s5007 wm_2229 wm_23 wm_2226 wm_2228 wv_10_12 ⟨by decide, by decide, by decide +kernel⟩ (by decide), List.forall_mem_cons.mpr ⟨cl_virtual (y := y_Sy_wordIn_at_s5004) (ci := 11) rfl rfl ⟨_, _, rfl⟩ (by decide +kernel) h_Sy_wordIn_at_s5004 wm_2229 wm_23 wm_2226 wm_2228 wv_10_12 ⟨by decide, by decide, by decide +kernel⟩ (by decide), List.forall_mem_nil _⟩⟩⟩⟩⟩⟩⟩, List.forall_mem_nil _, List.forall_mem_nil _, GG_pl⟩ (by decide +kernel)
set_option maxHeartbeats 4000000 in
theorem vc_Sy_compileValue_at_k9_0_0 (x3 : Int) (x4 : Int) (x9 : Int) (x11 : Int) (number_0 : Int) (kind_0 : Int) (k3 : 3 ≤ x3 ∧ x3 ≤ 3) (k4 : 40 ≤ x4 ∧ x4 ≤ 40) (k9 : 0 ≤ x9 ∧ x9 ≤ 0) (k11 : 0 ≤ x11 ∧ x11 ≤ 1000000) (g0 : x11 = number_0) (g2 : x3 = kind_0) (f5 : (kind_0 ≠ 3) ∨ (number_0 ≤ 9999)) (f7 : x3 ≠ x4) (kz_0_6 : 0 ≤ kind_0 ∧ kind_0 ≤ 127) (kz_0_8 : 0 ≤ number_0 ∧ number_0 ≤ 1000000) : (0 ≤ x9) ∧ ((0 ≤ x11) ∧ (((x9 * 65536) + x11) ≤ 851970)) := by
  first
    | omega
  
def o_Sy_compileValue_at_k9_0 : or_T := (108, 12, [(0, (2, 0, 0, [11])), (3, (0, 3, 3, [])), (4, (0, 40, 40, [])), (7, (0, 3, 3, [])), (8, (0, 3, 3, [])), (9, (0, 0, 0, [])), (10, (0, 3, 3, [])), (11, (0, 0, 1000000, []))], [(9, [11, 0], [8]), (7, [3, 10], [0]), (9, [3, 0], [6]), (7, [3, 8], [0]), (7, [3, 7], [0]), (20, [0], [50, 2, 0, 6, 8, 3, 7, 7, 3, 2, 0, 6, 0, 3, 0, 3, 2, 0, 8, 0, 9999]), (102, [5], [0]), (7, [3, 4], [1])], [], [], [(20, [9, 11], [50, 0, 0, 2, 6, 0, 2, 0, 0, 1, 0, 2, 6, 0, 2, 0, 0, 1, 1, 0, 10, 4, 6, 6, 2, 1, 0, 0, 65536, 1, 1, 0, 851970])], [], [])
theorem oo_Sy_compileValue_at_k9_0 {kA : Nat → ClassId} : or_ok PRD kA GG o_Sy_compileValue_at_k9_0 := by
  refine or_mk fun A ta ws vs hD hth hl => ?_
  intro t0 r0 t3 k3 t4 k4 t7 k7 t8 k8 t9 k9 t10 k10 t11 k11 f0 f1 f2 f3 f4 f5 ta1 w1 le1 s1 f7
  replace f0 := shm_143 f0
  replace f2 := shm_110 f2
  have g0 : v_iv (n_v vs 11) = w_fi ws (n_v vs 0) 8 := congrArg v_iv f0
  have g2 : v_iv (n_v vs 3) = w_fi ws (n_v vs 0) 6 := congrArg v_iv f2
  have kz_0_6 := fdq_304 hD hth r0
  have kz_0_8 := fdq_305 hD hth r0
  have nf0 : fc_1 PRD (20, [9, 11], [50, 0, 0, 2, 6, 0, 2, 0, 0, 1, 0, 2, 6, 0, 2, 0, 0, 1, 1, 0, 10, 4, 6, 6, 2, 1, 0, 0, 65536, 1, 1, 0, 851970]) ws (vs) := ⟨nf_in hl rfl, sgq_487 (vc_Sy_compileValue_at_k9_0_0 (v_iv (n_v vs 3)) (v_iv (n_v vs 4)) (v_iv (n_v vs 9)) (v_iv (n_v vs 11)) (w_fi ws (n_v vs 0) 8) (w_fi ws (n_v vs 0) 6) k3 k4 k9 k11 g0 g2 (shm_1747 f5) (shm_40 f7) kz_0_6 kz_0_8)⟩
  refine ⟨(fun _ h => (by cases h)), [], trivial, ?_, (fun _ h => (by cases h))⟩
  rw [List.append_nil]
  exact List.forall_mem_cons.mpr ⟨⟨show (20 : Nat) < 100 from by decide, nf0⟩, (fun _ h => (by cases h))⟩
set_option maxHeartbeats 4000000 in
theorem vc_Sy_compileValue_at_k9_1_0 (x3 : Int) (x4 : Int) (x6 : Int) (x7 : Int) (x8 : Int) (x9 : Int) (x10 : Int) (x11 : Int) (kind_0 : Int) (number_0 : Int) (k3 : 0 ≤ x3 ∧ x3 ≤ 127) (k4 : 40 ≤ x4 ∧ x4 ≤ 40) (k6 : 0 ≤ x6 ∧ x6 ≤ 38) (k7 : 3 ≤ x7 ∧ x7 ≤ 3) (k8 : (-1) ≤ x8 ∧ x8 ≤ (-1)) (k9 : 3 ≤ x9 ∧ x9 ≤ 3) (k10 : 1 ≤ x10 ∧ x10 ≤ 1) (k11 : 3 ≤ x11 ∧ x11 ≤ 3) (f0 : x3 ≠ x11) (g1 : x3 = kind_0) (f2 : x3 ≠ x9) (f3 : x6 ≠ x8) (f4 : x3 ≠ x7) (f5 : (kind_0 ≠ 3) ∨ (number_0 ≤ 9999)) (f7 : x3 ≠ x4) (kz_0_6 : 0 ≤ kind_0 ∧ kind_0 ≤ 127) (kz_0_8 : 0 ≤ number_0 ∧ number_0 ≤ 1000000) : (0 ≤ x10) ∧ ((0 ≤ x6) ∧ (((x10 * 65536) + x6) ≤ 851970)) := by
  first
    | omega
  
def o_Sy_compileValue_at_k9_1 : or_T := (108, 12, [(0, (2, 0, 0, [11])), (3, (0, 0, 127, [])), (4, (0, 40, 40, [])), (6, (0, 0, 38, [])), (7, (0, 3, 3, [])), (8, (0, -1, -1, [])), (9, (0, 3, 3, [])), (10, (0, 1, 1, [])), (11, (0, 3, 3, []))], [(7, [3, 11], [1]), (9, [3, 0], [6]), (7, [3, 9], [1]), (7, [6, 8], [1]), (7, [3, 7], [1]), (20, [0], [50, 2, 0, 6, 8, 3, 7, 7, 3, 2, 0, 6, 0, 3, 0, 3, 2, 0, 8, 0, 9999]), (102, [5], [0]), (7, [3, 4], [1])], [], [], [(20, [10, 6], [50, 0, 0, 2, 6, 0, 2, 0, 0, 1, 0, 2, 6, 0, 2, 0, 0, 1, 1, 0, 10, 4, 6, 6, 2, 1, 0, 0, 65536, 1, 1, 0, 851970])], [], [])
theorem oo_Sy_compileValue_at_k9_1 {kA : Nat → ClassId} : or_ok PRD kA GG o_Sy_compileValue_at_k9_1 := by
  refine or_mk fun A ta ws vs hD hth hl => ?_
  intro t0 r0 t3 k3 t4 k4 t6 k6 t7 k7 t8 k8 t9 k9 t10 k10 t11 k11 f0 f1 f2 f3 f4 f5 ta1 w1 le1 s1 f7
  replace f1 := shm_110 f1
  have g1 : v_iv (n_v vs 3) = w_fi ws (n_v vs 0) 6 := congrArg v_iv f1
  have kz_0_6 := fdq_304 hD hth r0
  have kz_0_8 := fdq_305 hD hth r0
  have nf0 : fc_1 PRD (20, [10, 6], [50, 0, 0, 2, 6, 0, 2, 0, 0, 1, 0, 2, 6, 0, 2, 0, 0, 1, 1, 0, 10, 4, 6, 6, 2, 1, 0, 0, 65536, 1, 1, 0, 851970]) ws (vs) := ⟨nf_in hl rfl, sgq_487 (vc_Sy_compileValue_at_k9_1_0 (v_iv (n_v vs 3)) (v_iv (n_v vs 4)) (v_iv (n_v vs 6)) (v_iv (n_v vs 7)) (v_iv (n_v vs 8)) (v_iv (n_v vs 9)) (v_iv (n_v vs 10)) (v_iv (n_v vs 11)) (w_fi ws (n_v vs 0) 6) (w_fi ws (n_v vs 0) 8) k3 k4 k6 k7 k8 k9 k10 k11 (shm_40 f0) g1 (shm_40 f2) (shm_40 f3) (shm_40 f4) (shm_1747 f5) (shm_40 f7) kz_0_6 kz_0_8)⟩
  refine ⟨(fun _ h => (by cases h)), [], trivial, ?_, (fun _ h => (by cases h))⟩
  rw [List.append_nil]
  exact List.forall_mem_cons.mpr ⟨⟨show (20 : Nat) < 100 from by decide, nf0⟩, (fun _ h => (by cases h))⟩
set_option maxHeartbeats 4000000 in
theorem vc_Sy_compileValue_at_k9_2_0 (x3 : Int) (x4 : Int) (x10 : Int) (x12 : Int) (number_0 : Int) (kind_0 : Int) (k3 : 3 ≤ x3 ∧ x3 ≤ 3) (k4 : 40 ≤ x4 ∧ x4 ≤ 40) (k10 : 1 ≤ x10 ∧ x10 ≤ 1) (k12 : 0 ≤ x12 ∧ x12 ≤ 1000000) (g0 : x12 = number_0) (g2 : x3 = kind_0) (f5 : (kind_0 ≠ 3) ∨ (number_0 ≤ 9999)) (f7 : x3 ≠ x4) (kz_0_6 : 0 ≤ kind_0 ∧ kind_0 ≤ 127) (kz_0_8 : 0 ≤ number_0 ∧ number_0 ≤ 1000000) : (0 ≤ x10) ∧ ((0 ≤ x12) ∧ (((x10 * 65536) + x12) ≤ 851970)) := by
  first
    | omega
  
def o_Sy_compileValue_at_k9_2 : or_T := (108, 13, [(0, (2, 0, 0, [11])), (3, (0, 3, 3, [])), (4, (0, 40, 40, [])), (7, (0, 3, 3, [])), (9, (0, 3, 3, [])), (10, (0, 1, 1, [])), (11, (0, 3, 3, [])), (12, (0, 0, 1000000, []))], [(9, [12, 0], [8]), (7, [3, 11], [0]), (9, [3, 0], [6]), (7, [3, 9], [1]), (7, [3, 7], [1]), (20, [0], [50, 2, 0, 6, 8, 3, 7, 7, 3, 2, 0, 6, 0, 3, 0, 3, 2, 0, 8, 0, 9999]), (102, [5], [0]), (7, [3, 4], [1])], [], [], [(20, [10, 12], [50, 0, 0, 2, 6, 0, 2, 0, 0, 1, 0, 2, 6, 0, 2, 0, 0, 1, 1, 0, 10, 4, 6, 6, 2, 1, 0, 0, 65536, 1, 1, 0, 851970])], [], [])
theorem oo_Sy_compileValue_at_k9_2 {kA : Nat → ClassId} : or_ok PRD kA GG o_Sy_compileValue_at_k9_2 := by
  refine or_mk fun A ta ws vs hD hth hl => ?_
  intro t0 r0 t3 k3 t4 k4 t7 k7 t9 k9 t10 k10 t11 k11 t12 k12 f0 f1 f2 f3 f4 f5 ta1 w1 le1 s1 f7
  replace f0 := shm_143 f0
  replace f2 := shm_110 f2
  have g0 : v_iv (n_v vs 12) = w_fi ws (n_v vs 0) 8 := congrArg v_iv f0
  have g2 : v_iv (n_v vs 3) = w_fi ws (n_v vs 0) 6 := congrArg v_iv f2
  have kz_0_6 := fdq_304 hD hth r0
  have kz_0_8 := fdq_305 hD hth r0
  have nf0 : fc_1 PRD (20, [10, 12], [50, 0, 0, 2, 6, 0, 2, 0, 0, 1, 0, 2, 6, 0, 2, 0, 0, 1, 1, 0, 10, 4, 6, 6, 2, 1, 0, 0, 65536, 1, 1, 0, 851970]) ws (vs) := ⟨nf_in hl rfl, sgq_487 (vc_Sy_compileValue_at_k9_2_0 (v_iv (n_v vs 3)) (v_iv (n_v vs 4)) (v_iv (n_v vs 10)) (v_iv (n_v vs 12)) (w_fi ws (n_v vs 0) 8) (w_fi ws (n_v vs 0) 6) k3 k4 k10 k12 g0 g2 (shm_1747 f5) (shm_40 f7) kz_0_6 kz_0_8)⟩
  refine ⟨(fun _ h => (by cases h)), [], trivial, ?_, (fun _ h => (by cases h))⟩
  rw [List.append_nil]
  exact List.forall_mem_cons.mpr ⟨⟨show (20 : Nat) < 100 from by decide, nf0⟩, (fun _ h => (by cases h))⟩
