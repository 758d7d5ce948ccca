section

set_option maxHeartbeats 4000000 in
theorem vc_Mo_met_at_g4_45_4 (x1 : Int) (x2 : Int) (x5 : Int) (x6 : Int) (x7 : Int) (x11 : Int) (x13 : Int) (x14 : Int) (x15 : Int) (x16 : Int) (x18 : Int) (x20 : Int) (x22 : Int) (x23 : Int) (x24 : Int) (x25 : Int) (x26 : Int) (x27 : Int) (r_0 : Int) (from_0 : Int) (pos_0 : Int) (tape_0 : Int → Int) (limit_0 : Int) (kind_0 : Int) (tape_1 : Int → Int) (limit_1 : Int) (from_1 : Int) (pos_1 : Int) (kind_1 : Int) (all_1 : Int → Int) (r_1 : Int) (now_1 : Int → Int) (latest_1 : Int → Int) (place_1 : Int) (value_1 : Int) (fault_1 : Int) (fault_0 : Int) (place_0 : Int) (value_0 : Int) (all_0 : Int → Int) (now_0 : Int → Int) (latest_0 : Int → Int) (k1 : 0 ≤ x1 ∧ x1 ≤ 7) (k2 : (-1) ≤ x2 ∧ x2 ≤ 23) (k5 : 0 ≤ x5 ∧ x5 ≤ 4) (k6 : 0 ≤ x6 ∧ x6 ≤ 48) (k7 : 0 ≤ x7 ∧ x7 ≤ 1) (k11 : 0 ≤ x11 ∧ x11 ≤ 23) (k13 : 0 ≤ x13 ∧ x13 ≤ 7) (k14 : 1 ≤ x14 ∧ x14 ≤ 2000) (k15 : 0 ≤ x15 ∧ x15 ≤ 1999) (k16 : 1 ≤ x16 ∧ x16 ≤ 2000) (k18 : 0 ≤ x18 ∧ x18 ≤ 66297) (k20 : 3 ≤ x20 ∧ x20 ≤ 66300) (k22 : 0 ≤ x22 ∧ x22 ≤ 184) (k23 : 3 ≤ x23 ∧ x23 ≤ 66484) (k24 : 3 ≤ x24 ∧ x24 ≤ 66491) (k25 : 0 ≤ x25 ∧ x25 ≤ 1999) (k26 : 0 ≤ x26 ∧ x26 ≤ 255) (k27 : 1 ≤ x27 ∧ x27 ≤ 8) (d0 : x13 + 1 ≤ x27 ∧ x27 ≤ x13 + 1) (d10 : x22 + 3 ≤ x23 ∧ x23 ≤ x22 + 66300) (d13 : x18 + 3 ≤ x20 ∧ x20 ≤ x18 + 3) (d14 : x16 + (-4294967296) ≤ x13 ∧ x13 ≤ x16 + (-1)) (g0 : x18 = r_0) (g2 : x15 = from_0) (g3 : x14 = pos_0) (f4 : x27 = x13 + 1) (f16 : ((x25 + 1) ≤ limit_1) → (x26 = (tape_1 (x25) % 256))) (f18 : x25 = x15 + x13) (f19 : x24 = x23 + x13) (f20 : x23 = x20 + x22) (f21 : x22 = 8 * x11) (f24 : x16 = x14 - x15) (f29 : kind_1 = 1) (f34 : zMN4 (limit_1) (pos_1) (kind_1) (place_1) (value_1) (from_1) (fault_1) (r_1) (tape_1) (all_1) (x11) (x13) (x2) (x6) (x7) (x1) (x5)) (fe_0_5_1 : r_0 = r_1) (fe_0_8_1 : fault_0 = fault_1) (fe_0_10_1 : limit_0 = limit_1) (fe_0_11_1 : pos_0 = pos_1) (fe_0_12_1 : kind_0 = kind_1) (fe_0_13_1 : place_0 = place_1) (fe_0_14_1 : value_0 = value_1) (fe_0_15_1 : from_0 = from_1) (hE_0_1_1 : ∀ j : Int, tape_0 j = tape_1 j) (hE_0_2_1 : ∀ j : Int, 0 ≤ j → (j = x24 → all_0 j = x26) ∧ (j ≠ x24 → all_0 j = all_1 j)) (hE_0_3_1 : ∀ j : Int, now_0 j = now_1 j) (hE_0_4_1 : ∀ j : Int, latest_0 j = latest_1 j) (kz_0_8 : 0 ≤ fault_0 ∧ fault_0 ≤ 5) (kz_0_10 : 0 ≤ limit_0 ∧ limit_0 ≤ 2000) (kz_0_11 : 0 ≤ pos_0 ∧ pos_0 ≤ 2000) (kz_0_12 : 0 ≤ kind_0 ∧ kind_0 ≤ 4) (kz_0_13 : 0 ≤ place_0 ∧ place_0 ≤ 2000) (kz_0_14 : (-49) ≤ value_0 ∧ value_0 ≤ 1048575) (kz_0_15 : 0 ≤ from_0 ∧ from_0 ≤ 2000) : zMN4 (limit_0) (pos_0) (kind_0) (place_0) (value_0) (from_0) (fault_0) (r_0) (tape_0) (all_0) (x11) (x27) (x2) (x6) (x7) (x1) (x5) := by
  subst fe_0_5_1
  subst fe_0_8_1
  subst fe_0_10_1
  subst fe_0_11_1
  subst fe_0_12_1
  subst fe_0_13_1
  subst fe_0_14_1
  subst fe_0_15_1
  have e_hE_0_1_1 := funext hE_0_1_1; subst e_hE_0_1_1
  have e_hE_0_3_1 := funext hE_0_3_1; subst e_hE_0_3_1
  have e_hE_0_4_1 := funext hE_0_4_1; subst e_hE_0_4_1
  first | subst g0 | skip
  first | subst g2 | skip
  first | subst g3 | skip
  try simp only [Int.add_zero] at *
  first
    | exact mn_step4 ((rsq_lim (‹zMN4 _ _ _ _ _ _ _ _ _ _ _ _ _ _ _ _ _›).1).2.2.2 (by omega)).2 ‹zMN4 _ _ _ _ _ _ _ _ _ _ _ _ _ _ _ _ _› (by omega) (by assumption) (by omega) (rsq_byte (‹zMN4 _ _ _ _ _ _ _ _ _ _ _ _ _ _ _ _ _›).1 (by omega) (by assumption) (by omega) (by omega) (by omega)) (by omega) (by omega)
    | exact mn_start4 ‹zRS4 _ _ _ _ _ _ _ _ _ _ _ _ _ _ _› (by omega) ‹NMQ _ _ _ _ _ _› (by omega) ‹KNQ _ _ _ _ _ _ _› (by omega) (by simp only [Int.add_zero]; omega) (by omega) (by assumption) (by assumption) (by omega) (by omega) (by omega) (by omega) (by omega) (by omega)
    | (exfalso; omega)
def o_Mo_met_at_g4_45 : or_T := (171, 28, [(0, (2, 0, 0, [165])), (1, (0, 0, 7, [])), (2, (0, -1, 23, [])), (3, (0, 0, 2000, [])), (4, (0, 0, 2000, [])), (5, (0, 0, 4, [])), (6, (0, 0, 48, [])), (7, (0, 0, 1, [])), (8, (2, 0, 0, [165])), (9, (0, 0, 7, [])), (10, (0, -1, 23, [])), (11, (0, 0, 23, [])), (13, (0, 0, 7, [])), (14, (0, 1, 2000, [])), (15, (0, 0, 1999, [])), (16, (0, 1, 2000, [])), (17, (2, 0, 0, [167])), (18, (0, 0, 66297, [])), (19, (0, 3, 3, [])), (20, (0, 3, 66300, [])), (21, (0, 8, 8, [])), (22, (0, 0, 184, [])), (23, (0, 3, 66484, [])), (24, (0, 3, 66491, [])), (25, (0, 0, 1999, [])), (26, (0, 0, 255, [])), (27, (0, 1, 8, []))], [(9, [18, 8], [5]), (9, [17, 8], [2]), (9, [15, 8], [15]), (9, [14, 8], [11]), (6, [27, 13], [1]), (20, [25, 8, 26], [50, 1, 1, 1010, 1001, 4, 11, 0, 6, 4, 2, 1, 0, 0, 1, 2, 1, 10, 1, 2, 1, 2, 9, 5, 3, 1, 1, 1, 0, 0, 256]), (20, [8, 25, 26], [50, 1, 0, 10, 4, 7, 0, 3, 2, 0, 10, 1, 1, 1, 2, 1, 2, 0, -1]), (20, [8, 8], [30, 0, 1, 1, 15, -1, 1, 11]), (20, [8], [50, 3, 0, 12, 11, 15, 2, 21, 4, 7, 1, 3, 2, 0, 12, 0, 1, 0, 3, 2, 0, 11, 4, 3, 2, 0, 15, 0, 8, 3, 7, 1, 3, 2, 0, 12, 0, 0, 0, 7, 4, 3, 2, 0, 15, 0, 1, 2, 0, 11]), (20, [3, 8], [30, 0, 1, 0, 0, -1, 1, 11]), (20, [4, 8], [30, -1, 1, 0, 0, -1, 1, 11]), (20, [8], [50, 1, 0, 12, 1, 3, 2, 0, 12, 0, 1]), (24, [0, 8], []), (24, [1, 9], []), (24, [2, 10], []), (100, [17, 24, 26], []), (20, [25, 8, 26], [50, 1, 1, 1010, 1001, 4, 11, 0, 6, 4, 2, 1, 0, 0, 1, 2, 1, 10, 1, 2, 1, 2, 9, 5, 3, 1, 1, 1, 0, 0, 256]), (20, [8, 25, 26], [50, 1, 0, 10, 4, 7, 0, 3, 2, 0, 10, 1, 1, 1, 2, 1, 2, 0, -1]), (1, [25, 15, 13], []), (1, [24, 23, 13], []), (1, [23, 20, 22], []), (3, [22, 21, 11], []), (1, [20, 18, 19], []), (7, [13, 16], [2]), (2, [16, 14, 15], []), (20, [8, 8], [30, 0, 1, 1, 15, -1, 1, 11]), (20, [8], [50, 3, 0, 12, 11, 15, 2, 21, 4, 7, 1, 3, 2, 0, 12, 0, 1, 0, 3, 2, 0, 11, 4, 3, 2, 0, 15, 0, 8, 3, 7, 1, 3, 2, 0, 12, 0, 0, 0, 7, 4, 3, 2, 0, 15, 0, 1, 2, 0, 11]), (20, [3, 8], [30, 0, 1, 0, 0, -1, 1, 11]), (20, [4, 8], [30, -1, 1, 0, 0, -1, 1, 11]), (20, [8], [50, 1, 0, 12, 1, 3, 2, 0, 12, 0, 1]), (20, [10, 8], [50, 1, 1, 1005, 1002, 3, 6, 0, 2, 1, 0, 0, -1, 0, 10, 3, 1, 2, 4, 3, 2, 1, 5, 0, 1, 0, 47]), (20, [9, 8], [50, 1, 1, 1005, 1002, 0, 6, 4, 2, 1, 0, 0, 1, 3, 1, 2, 4, 3, 2, 1, 5, 0, 2]), (20, [8, 11], [60, 1, 3, 200, 5, 2, 3, 4]), (20, [8, 10, 11], [60, 1, 1, 243, 5, 2]), (20, [8, 11, 13, 10, 6, 7, 9, 5], [60, 8, 2, 1005, 10, 11, 12, 13, 14, 15, 8, 5, 1, 2])], [], [], [(20, [10, 8], [50, 1, 1, 1005, 1002, 3, 6, 0, 2, 1, 0, 0, -1, 0, 10, 3, 1, 2, 4, 3, 2, 1, 5, 0, 1, 0, 47]), (20, [9, 8], [50, 1, 1, 1005, 1002, 0, 6, 4, 2, 1, 0, 0, 1, 3, 1, 2, 4, 3, 2, 1, 5, 0, 2]), (20, [8, 11], [60, 1, 3, 200, 5, 2, 3, 4]), (20, [8, 10, 11], [60, 1, 1, 243, 5, 2]), (20, [8, 11, 27, 10, 6, 7, 9, 5], [60, 8, 2, 1005, 10, 11, 12, 13, 14, 15, 8, 5, 1, 2])], [], [(27, 13, 1, 1), (27, 16, -4294967296, 0), (25, 13, 0, 2000), (25, 15, 0, 7), (24, 13, 3, 66484), (24, 16, -4294967296, 66483), (24, 23, 0, 7), (24, 22, 3, 66307), (24, 20, 0, 191), (24, 18, 3, 194), (23, 22, 3, 66300), (23, 20, 0, 184), (23, 18, 3, 187), (20, 18, 3, 3), (13, 16, -4294967296, -1), (16, 14, -2000, 0), (1, 9, -4294967296, 0), (2, 10, -4294967296, 0), (9, 1, -4294967296, 0), (10, 2, -4294967296, 0)])
theorem oo_Mo_met_at_g4_45 {kA : Nat → ClassId} : or_ok PRD kA GG o_Mo_met_at_g4_45 := by
  refine or_mk fun A ta ws vs hD hth hl => ?_
  intro t0 r0 t1 k1 t2 k2 t3 k3 t4 k4 t5 k5 t6 k6 t7 k7 t8 r8 t9 k9 t10 k10 t11 k11 t13 k13 t14 k14 t15 k15 t16 k16 t17 r17 t18 k18 t19 k19 t20 k20 t21 k21 t22 k22 t23 k23 t24 k24 t25 k25 t26 k26 t27 k27 d0 d1 d2 d3 d4 d5 d6 d7 d8 d9 d10 d11 d12 d13 d14 d15 d16 d17 d18 d19 f0 f1 f2 f3 f4 f5 f6 f7 f8 f9 f10 f11 f12 f13 f14 ta1 w1 le1 s1 f16 f17 f18 f19 f20 f21 f22 f23 f24 f25 f26 f27 f28 f29 f30 f31 f32 f33 f34
  replace f0 := shm_110 f0
  replace f1 := shm_120 f1
  replace f2 := shm_177 f2
  replace f3 := shm_116 f3
  replace f4 := shm_4 f4
  replace f5 := shm_541 f5
  replace f6 := shm_542 f6
  replace f7 := shm_1437 f7
  replace f8 := shm_1438 f8
  replace f9 := shm_1431 f9
  replace f10 := shm_2005 f10
  replace f11 := shm_1890 f11
  replace f12 := shm_5 f12
  replace f13 := shm_5 f13
  replace f14 := shm_5 f14
  have s1 : (∀ b j, w_el ws b j = if b = v_ad (n_v vs 17) ∧ j = (v_iv (n_v vs 24)).toNat then v_iv (n_v vs 26) else w_el w1 b j) ∧ ∀ b k, w_fd ws b k = w_fd w1 b k := s1.2
  replace f16 := shm_541 f16
  replace f17 := shm_542 f17
  replace f18 := shm_12 f18
  replace f19 := shm_12 f19
  replace f20 := shm_12 f20
  replace f21 := shm_38 f21
  rw [show v_iv (n_v vs 21) = 8 from by omega] at f21
  replace f22 := shm_12 f22
  replace f23 := shm_6 f23
  replace f24 := shm_14 f24
  replace f25 := shm_1437 f25
  replace f26 := shm_1438 f26
  replace f27 := shm_1431 f27
  replace f28 := shm_2005 f28
  replace f29 := shm_1890 f29
  replace f30 := shm_2114 f30
  replace f31 := shm_1009 f31
  replace f32 := shm_1803 f32
  replace f33 := shm_2115 f33
  replace f34 := shm_2127 f34
  have q8 : n_v vs 8 = n_v vs 0 := f12.symm
  have q9 : n_v vs 9 = n_v vs 1 := f13.symm
  have q10 : n_v vs 10 = n_v vs 2 := f14.symm
  simp only [q8, q10, q9] at f0 f1 f2 f3 f5 f6 f7 f8 f9 f10 f11 f16 f17 f25 f26 f27 f28 f29 f30 f31 f32 f33 f34
  have ar_0_1_1 : w_ar w1 (n_v vs 0) 1 = w_ar ws (n_v vs 0) 1 := congrArg v_ad (s1.2 _ _).symm
  have cr_0_1 := fdq_39 hD hth r0
  have ar_0_2_1 : w_ar w1 (n_v vs 0) 2 = w_ar ws (n_v vs 0) 2 := congrArg v_ad (s1.2 _ _).symm
  have cr_0_2 := fdq_10 hD hth r0
  have ar_0_3_1 : w_ar w1 (n_v vs 0) 3 = w_ar ws (n_v vs 0) 3 := congrArg v_ad (s1.2 _ _).symm
  have cr_0_3 := fdq_142 hD hth r0
  have ar_0_4_1 : w_ar w1 (n_v vs 0) 4 = w_ar ws (n_v vs 0) 4 := congrArg v_ad (s1.2 _ _).symm
  have cr_0_4 := fdq_143 hD hth r0
  have ad_17 : v_ad (n_v vs 17) = w_ar ws (n_v vs 0) 2 := congrArg v_ad f1
  have g0 : v_iv (n_v vs 18) = w_fi ws (n_v vs 0) 5 := congrArg v_iv f0
  have g2 : v_iv (n_v vs 15) = w_fi ws (n_v vs 0) 15 := congrArg v_iv f2
  have g3 : v_iv (n_v vs 14) = w_fi ws (n_v vs 0) 11 := congrArg v_iv f3
  simp only [ar_0_1_1, ar_0_2_1, ar_0_3_1, ar_0_4_1] at f16 f30 f31 f32 f33 f34
  have fe_0_5_1 : w_fi ws (n_v vs 0) 5 = w_fi w1 (n_v vs 0) 5 := congrArg v_iv (s1.2 _ _)
  have fe_0_8_1 : w_fi ws (n_v vs 0) 8 = w_fi w1 (n_v vs 0) 8 := congrArg v_iv (s1.2 _ _)
  have fe_0_10_1 : w_fi ws (n_v vs 0) 10 = w_fi w1 (n_v vs 0) 10 := congrArg v_iv (s1.2 _ _)
  have fe_0_11_1 : w_fi ws (n_v vs 0) 11 = w_fi w1 (n_v vs 0) 11 := congrArg v_iv (s1.2 _ _)
  have fe_0_12_1 : w_fi ws (n_v vs 0) 12 = w_fi w1 (n_v vs 0) 12 := congrArg v_iv (s1.2 _ _)
  have fe_0_13_1 : w_fi ws (n_v vs 0) 13 = w_fi w1 (n_v vs 0) 13 := congrArg v_iv (s1.2 _ _)
  have fe_0_14_1 : w_fi ws (n_v vs 0) 14 = w_fi w1 (n_v vs 0) 14 := congrArg v_iv (s1.2 _ _)
  have fe_0_15_1 : w_fi ws (n_v vs 0) 15 = w_fi w1 (n_v vs 0) 15 := congrArg v_iv (s1.2 _ _)
  have hE_0_1_1 : ∀ j : Int, w_ei ws (w_ar ws (n_v vs 0) 1) j = w_ei w1 (w_ar ws (n_v vs 0) 1) j := el_kp s1.1 r17 cr_0_1 (by decide)
  have hK_0_1 := elq_7 hD hth cr_0_1
  have hE_0_2_1 : ∀ j : Int, 0 ≤ j → (j = v_iv (n_v vs 24) → w_ei ws (w_ar ws (n_v vs 0) 2) j = v_iv (n_v vs 26)) ∧ (j ≠ v_iv (n_v vs 24) → w_ei ws (w_ar ws (n_v vs 0) 2) j = w_ei w1 (w_ar ws (n_v vs 0) 2) j) := fun j hj => ⟨fun h => by unfold w_ei; rw [s1.1, if_pos ⟨ad_17.symm, by rw [h]⟩], fun h => by unfold w_ei; rw [s1.1, if_neg (fun e => h (by have := e.2; omega))]⟩
  have hE_0_3_1 : ∀ j : Int, w_ei ws (w_ar ws (n_v vs 0) 3) j = w_ei w1 (w_ar ws (n_v vs 0) 3) j := el_kp s1.1 r17 cr_0_3 (by decide)
  have hK_0_3 := elq_80 hD hth cr_0_3
  have hE_0_4_1 : ∀ j : Int, w_ei ws (w_ar ws (n_v vs 0) 4) j = w_ei w1 (w_ar ws (n_v vs 0) 4) j := el_kp s1.1 r17 cr_0_4 (by decide)
  have hK_0_4 := elq_81 hD hth cr_0_4
  have kz_0_8 := fdq_34 hD hth r0
  have kz_0_10 := fdq_43 hD hth r0
  have kz_0_11 := fdq_237 hD hth r0
  have kz_0_12 := fdq_187 hD hth r0
  have kz_0_13 := fdq_238 hD hth r0
  have kz_0_14 := fdq_188 hD hth r0
  have kz_0_15 := fdq_239 hD hth r0
  first | have hJ0 : w_ei w1 (w_ar ws (n_v vs 0) 2) ((w_fi w1 (n_v vs 0) 5 + 1)) = w_ei w1 (w_ar ws (n_v vs 0) 2) ((w_fi ws (n_v vs 0) 5 + 1)) := congrArg _ (show ((w_fi w1 (n_v vs 0) 5 + 1) : Int) = (w_fi ws (n_v vs 0) 5 + 1) from by omega) | skip
  first | have hJ1 : w_ei w1 (w_ar ws (n_v vs 0) 2) ((w_fi w1 (n_v vs 0) 5 + 2)) = w_ei w1 (w_ar ws (n_v vs 0) 2) ((w_fi ws (n_v vs 0) 5 + 2)) := congrArg _ (show ((w_fi w1 (n_v vs 0) 5 + 2) : Int) = (w_fi ws (n_v vs 0) 5 + 2) from by omega) | skip
  have hI2 := hE_0_1_1 (v_iv (n_v vs 25))
  first | have hI3 := (hE_0_2_1 ((w_fi ws (n_v vs 0) 5 + 1)) (by omega)).2 (by omega) | have hI3 := (hE_0_2_1 ((w_fi ws (n_v vs 0) 5 + 1)) (by omega)).1 (by omega) | skip
  first | have hI4 := (hE_0_2_1 ((w_fi ws (n_v vs 0) 5 + 2)) (by omega)).2 (by omega) | have hI4 := (hE_0_2_1 ((w_fi ws (n_v vs 0) 5 + 2)) (by omega)).1 (by omega) | skip
  have nf0 : fc_1 PRD (20, [10, 8], [50, 1, 1, 1005, 1002, 3, 6, 0, 2, 1, 0, 0, -1, 0, 10, 3, 1, 2, 4, 3, 2, 1, 5, 0, 1, 0, 47]) ws (vs) := by
    refine ⟨nf_in hl rfl, sgq_2114 ?_⟩
    · show (v_iv (n_v vs 10) ≤ (-1)) ∨ (w_ei ws (w_ar ws (n_v vs 8) 2) ((w_fi ws (n_v vs 8) 5 + 1)) ≤ 47)
      simp only [q8, q10]
      exact vc_Mo_met_at_g4_45_0 (v_iv (n_v vs 2)) (v_iv (n_v vs 10)) (v_iv (n_v vs 11)) (v_iv (n_v vs 13)) (v_iv (n_v vs 15)) (v_iv (n_v vs 18)) (v_iv (n_v vs 20)) (v_iv (n_v vs 22)) (v_iv (n_v vs 23)) (v_iv (n_v vs 24)) (v_iv (n_v vs 25)) (v_iv (n_v vs 26)) (v_iv (n_v vs 27)) (w_fi ws (n_v vs 0) 5) (w_fi ws (n_v vs 0) 15) (w_fi ws (n_v vs 0) 11) (w_ei ws (w_ar ws (n_v vs 0) 1)) (w_fi ws (n_v vs 0) 10) (w_fi ws (n_v vs 0) 12) (w_ei w1 (w_ar ws (n_v vs 0) 1)) (w_fi w1 (n_v vs 0) 10) (w_fi w1 (n_v vs 0) 15) (w_fi w1 (n_v vs 0) 11) (w_fi w1 (n_v vs 0) 12) (w_ei w1 (w_ar ws (n_v vs 0) 2)) (w_fi w1 (n_v vs 0) 5) (w_ei w1 (w_ar ws (n_v vs 0) 3)) (w_ei w1 (w_ar ws (n_v vs 0) 4)) (w_fi w1 (n_v vs 0) 13) (w_fi w1 (n_v vs 0) 14) (w_fi w1 (n_v vs 0) 8) (w_fi ws (n_v vs 0) 8) (w_fi ws (n_v vs 0) 13) (w_fi ws (n_v vs 0) 14) (w_ei ws (w_ar ws (n_v vs 0) 2)) (w_ei ws (w_ar ws (n_v vs 0) 3)) (w_ei ws (w_ar ws (n_v vs 0) 4)) k2 k10 k11 k13 k15 k18 k20 k22 k23 k24 k25 k26 k27 d0 d8 d10 d13 d17 d19 g0 g2 f11 f16 f17 f18 f19 f20 f21 f26 f30 fe_0_5_1 fe_0_8_1 fe_0_10_1 fe_0_11_1 fe_0_12_1 fe_0_13_1 fe_0_14_1 fe_0_15_1 hE_0_1_1 hE_0_2_1 hE_0_3_1 hE_0_4_1 kz_0_8 kz_0_10 kz_0_11 kz_0_12 kz_0_13 kz_0_14 kz_0_15
  have nf1 : fc_1 PRD (20, [9, 8], [50, 1, 1, 1005, 1002, 0, 6, 4, 2, 1, 0, 0, 1, 3, 1, 2, 4, 3, 2, 1, 5, 0, 2]) ws (vs) := by
    refine ⟨nf_in hl rfl, sgq_1009 ?_⟩
    · show (v_iv (n_v vs 9) + 1) ≤ w_ei ws (w_ar ws (n_v vs 8) 2) ((w_fi ws (n_v vs 8) 5 + 2))
      simp only [q8, q9]
      exact vc_Mo_met_at_g4_45_1 (v_iv (n_v vs 1)) (v_iv (n_v vs 9)) (v_iv (n_v vs 11)) (v_iv (n_v vs 13)) (v_iv (n_v vs 18)) (v_iv (n_v vs 20)) (v_iv (n_v vs 22)) (v_iv (n_v vs 23)) (v_iv (n_v vs 24)) (v_iv (n_v vs 26)) (v_iv (n_v vs 27)) (w_fi ws (n_v vs 0) 5) (w_fi ws (n_v vs 0) 15) (w_fi ws (n_v vs 0) 11) (w_ei ws (w_ar ws (n_v vs 0) 1)) (w_fi ws (n_v vs 0) 10) (w_fi ws (n_v vs 0) 12) (w_ei w1 (w_ar ws (n_v vs 0) 1)) (w_fi w1 (n_v vs 0) 10) (w_fi w1 (n_v vs 0) 15) (w_fi w1 (n_v vs 0) 11) (w_fi w1 (n_v vs 0) 12) (w_ei w1 (w_ar ws (n_v vs 0) 2)) (w_fi w1 (n_v vs 0) 5) (w_ei w1 (w_ar ws (n_v vs 0) 3)) (w_ei w1 (w_ar ws (n_v vs 0) 4)) (w_fi w1 (n_v vs 0) 13) (w_fi w1 (n_v vs 0) 14) (w_fi w1 (n_v vs 0) 8) (w_fi ws (n_v vs 0) 8) (w_fi ws (n_v vs 0) 13) (w_fi ws (n_v vs 0) 14) (w_ei ws (w_ar ws (n_v vs 0) 2)) (w_ei ws (w_ar ws (n_v vs 0) 3)) (w_ei ws (w_ar ws (n_v vs 0) 4)) k1 k9 k11 k13 k18 k20 k22 k23 k24 k26 k27 d0 d8 d10 d13 d16 d18 g0 f19 f20 f21 f31 fe_0_5_1 fe_0_8_1 fe_0_10_1 fe_0_11_1 fe_0_12_1 fe_0_13_1 fe_0_14_1 fe_0_15_1 hE_0_1_1 hE_0_2_1 hE_0_3_1 hE_0_4_1 kz_0_8 kz_0_10 kz_0_11 kz_0_12 kz_0_13 kz_0_14 kz_0_15
  have nf2 : fc_1 PRD (20, [8, 11], [60, 1, 3, 200, 5, 2, 3, 4]) ws (vs) := by
    refine ⟨nf_in hl rfl, sgq_1803 ?_⟩
    · show RWN (w_fi ws (n_v vs 8) 5) (w_ei ws (w_ar ws (n_v vs 8) 2)) (w_ei ws (w_ar ws (n_v vs 8) 3)) (w_ei ws (w_ar ws (n_v vs 8) 4)) (v_iv (n_v vs 11))
      rw [q8]
      exact vc_Mo_met_at_g4_45_2 (v_iv (n_v vs 2)) (v_iv (n_v vs 11)) (v_iv (n_v vs 13)) (v_iv (n_v vs 18)) (v_iv (n_v vs 20)) (v_iv (n_v vs 22)) (v_iv (n_v vs 23)) (v_iv (n_v vs 24)) (v_iv (n_v vs 26)) (v_iv (n_v vs 27)) (w_fi ws (n_v vs 0) 5) (w_fi ws (n_v vs 0) 15) (w_fi ws (n_v vs 0) 11) (w_ei ws (w_ar ws (n_v vs 0) 1)) (w_fi ws (n_v vs 0) 10) (w_fi ws (n_v vs 0) 12) (w_ei w1 (w_ar ws (n_v vs 0) 1)) (w_fi w1 (n_v vs 0) 10) (w_fi w1 (n_v vs 0) 15) (w_fi w1 (n_v vs 0) 11) (w_fi w1 (n_v vs 0) 12) (w_ei w1 (w_ar ws (n_v vs 0) 2)) (w_fi w1 (n_v vs 0) 5) (w_ei w1 (w_ar ws (n_v vs 0) 3)) (w_ei w1 (w_ar ws (n_v vs 0) 4)) (w_fi w1 (n_v vs 0) 13) (w_fi w1 (n_v vs 0) 14) (w_fi w1 (n_v vs 0) 8) (w_fi ws (n_v vs 0) 8) (w_fi ws (n_v vs 0) 13) (w_fi ws (n_v vs 0) 14) (w_ei ws (w_ar ws (n_v vs 0) 2)) (w_ei ws (w_ar ws (n_v vs 0) 3)) (w_ei ws (w_ar ws (n_v vs 0) 4)) k2 k11 k13 k18 k20 k22 k23 k24 k26 k27 d0 d9 d13 g0 f19 f20 f21 f32 f33 fe_0_5_1 fe_0_8_1 fe_0_10_1 fe_0_11_1 fe_0_12_1 fe_0_13_1 fe_0_14_1 fe_0_15_1 hE_0_1_1 hE_0_2_1 hE_0_3_1 hE_0_4_1 kz_0_8 kz_0_10 kz_0_11 kz_0_12 kz_0_13 kz_0_14 kz_0_15
  have nf3 : fc_1 PRD (20, [8, 10, 11], [60, 1, 1, 243, 5, 2]) ws (vs) := by
    refine ⟨nf_in hl rfl, sgq_2115 ?_⟩
    · show MEN (w_fi ws (n_v vs 8) 5) (w_ei ws (w_ar ws (n_v vs 8) 2)) (v_iv (n_v vs 10)) (v_iv (n_v vs 11))
      simp only [q8, q10]
      exact vc_Mo_met_at_g4_45_3 (v_iv (n_v vs 2)) (v_iv (n_v vs 11)) (v_iv (n_v vs 13)) (v_iv (n_v vs 18)) (v_iv (n_v vs 20)) (v_iv (n_v vs 22)) (v_iv (n_v vs 23)) (v_iv (n_v vs 24)) (v_iv (n_v vs 26)) (v_iv (n_v vs 27)) (w_fi ws (n_v vs 0) 5) (w_fi ws (n_v vs 0) 15) (w_fi ws (n_v vs 0) 11) (w_ei ws (w_ar ws (n_v vs 0) 1)) (w_fi ws (n_v vs 0) 10) (w_fi ws (n_v vs 0) 12) (w_ei w1 (w_ar ws (n_v vs 0) 1)) (w_fi w1 (n_v vs 0) 10) (w_fi w1 (n_v vs 0) 15) (w_fi w1 (n_v vs 0) 11) (w_fi w1 (n_v vs 0) 12) (w_ei w1 (w_ar ws (n_v vs 0) 2)) (w_fi w1 (n_v vs 0) 5) (w_ei w1 (w_ar ws (n_v vs 0) 3)) (w_ei w1 (w_ar ws (n_v vs 0) 4)) (w_fi w1 (n_v vs 0) 13) (w_fi w1 (n_v vs 0) 14) (w_fi w1 (n_v vs 0) 8) (w_fi ws (n_v vs 0) 8) (w_fi ws (n_v vs 0) 13) (w_fi ws (n_v vs 0) 14) (w_ei ws (w_ar ws (n_v vs 0) 2)) (w_ei ws (w_ar ws (n_v vs 0) 3)) (w_ei ws (w_ar ws (n_v vs 0) 4)) k2 k11 k13 k18 k20 k22 k23 k24 k26 k27 d0 d9 d10 d13 g0 f19 f20 f21 f32 f33 fe_0_5_1 fe_0_8_1 fe_0_10_1 fe_0_11_1 fe_0_12_1 fe_0_13_1 fe_0_14_1 fe_0_15_1 hE_0_1_1 hE_0_2_1 hE_0_3_1 hE_0_4_1 kz_0_8 kz_0_10 kz_0_11 kz_0_12 kz_0_13 kz_0_14 kz_0_15
  have nf4 : fc_1 PRD (20, [8, 11, 27, 10, 6, 7, 9, 5], [60, 8, 2, 1005, 10, 11, 12, 13, 14, 15, 8, 5, 1, 2]) ws (vs) := by
    refine ⟨nf_in hl rfl, sgq_2127 ?_⟩
    · show zMN4 (w_fi ws (n_v vs 8) 10) (w_fi ws (n_v vs 8) 11) (w_fi ws (n_v vs 8) 12) (w_fi ws (n_v vs 8) 13) (w_fi ws (n_v vs 8) 14) (w_fi ws (n_v vs 8) 15) (w_fi ws (n_v vs 8) 8) (w_fi ws (n_v vs 8) 5) (w_ei ws (w_ar ws (n_v vs 8) 1)) (w_ei ws (w_ar ws (n_v vs 8) 2)) (v_iv (n_v vs 11)) (v_iv (n_v vs 27)) (v_iv (n_v vs 10)) (v_iv (n_v vs 6)) (v_iv (n_v vs 7)) (v_iv (n_v vs 9)) (v_iv (n_v vs 5))
      simp only [q8, q9, q10]
      exact vc_Mo_met_at_g4_45_4 (v_iv (n_v vs 1)) (v_iv (n_v vs 2)) (v_iv (n_v vs 5)) (v_iv (n_v vs 6)) (v_iv (n_v vs 7)) (v_iv (n_v vs 11)) (v_iv (n_v vs 13)) (v_iv (n_v vs 14)) (v_iv (n_v vs 15)) (v_iv (n_v vs 16)) (v_iv (n_v vs 18)) (v_iv (n_v vs 20)) (v_iv (n_v vs 22)) (v_iv (n_v vs 23)) (v_iv (n_v vs 24)) (v_iv (n_v vs 25)) (v_iv (n_v vs 26)) (v_iv (n_v vs 27)) (w_fi ws (n_v vs 0) 5) (w_fi ws (n_v vs 0) 15) (w_fi ws (n_v vs 0) 11) (w_ei ws (w_ar ws (n_v vs 0) 1)) (w_fi ws (n_v vs 0) 10) (w_fi ws (n_v vs 0) 12) (w_ei w1 (w_ar ws (n_v vs 0) 1)) (w_fi w1 (n_v vs 0) 10) (w_fi w1 (n_v vs 0) 15) (w_fi w1 (n_v vs 0) 11) (w_fi w1 (n_v vs 0) 12) (w_ei w1 (w_ar ws (n_v vs 0) 2)) (w_fi w1 (n_v vs 0) 5) (w_ei w1 (w_ar ws (n_v vs 0) 3)) (w_ei w1 (w_ar ws (n_v vs 0) 4)) (w_fi w1 (n_v vs 0) 13) (w_fi w1 (n_v vs 0) 14) (w_fi w1 (n_v vs 0) 8) (w_fi ws (n_v vs 0) 8) (w_fi ws (n_v vs 0) 13) (w_fi ws (n_v vs 0) 14) (w_ei ws (w_ar ws (n_v vs 0) 2)) (w_ei ws (w_ar ws (n_v vs 0) 3)) (w_ei ws (w_ar ws (n_v vs 0) 4)) k1 k2 k5 k6 k7 k11 k13 k14 k15 k16 k18 k20 k22 k23 k24 k25 k26 k27 d0 d10 d13 d14 g0 g2 g3 f4 f16 f18 f19 f20 f21 f24 f29 f34 fe_0_5_1 fe_0_8_1 fe_0_10_1 fe_0_11_1 fe_0_12_1 fe_0_13_1 fe_0_14_1 fe_0_15_1 hE_0_1_1 hE_0_2_1 hE_0_3_1 hE_0_4_1 kz_0_8 kz_0_10 kz_0_11 kz_0_12 kz_0_13 kz_0_14 kz_0_15
  refine ⟨(fun _ h => (by cases h)), [], trivial, ?_, (fun _ h => (by cases h))⟩
  rw [List.append_nil]
  exact List.forall_mem_cons.mpr ⟨⟨show (20 : Nat) < 100 from by decide, nf0⟩, List.forall_mem_cons.mpr ⟨⟨show (20 : Nat) < 100 from by decide, nf1⟩, List.forall_mem_cons.mpr ⟨⟨show (20 : Nat) < 100 from by decide, nf2⟩, List.forall_mem_cons.mpr ⟨⟨show (20 : Nat) < 100 from by decide, nf3⟩, List.forall_mem_cons.mpr ⟨⟨show (20 : Nat) < 100 from by decide, nf4⟩, (fun _ h => (by cases h))⟩⟩⟩⟩⟩
def n_Mo_met_at_g4_an : List an_T := [(171, [(0, (2, 0, 0, [165])), (1, (0, 0, 7, [])), (2, (0, (Int.negSucc 0), 23, [])), (3, (0, 0, 23, [])), (4, (0, 0, 0, [])), (5, (0, 0, 8, []))], [], (0, 0), [(0, 0, 99829), (1, 13, 8), (0, 0, 100000)], [(1, 9, (Int.negSucc 999999999999), 0), (2, 10, (Int.negSucc 999999999999), 0), (9, 1, (Int.negSucc 999999999999), 0), (10, 2, (Int.negSucc 999999999999), 0)], [], [(2, 0, 0, [165]), (0, 0, 7, []), (0, (Int.negSucc 0), 23, []), (0, 0, 2000, []), (0, 0, 2000, []), (0, 0, 4, []), (0, 0, 48, []), (0, 0, 1, [])], 0, [], [(20, [8, 8], [30, 0, 1, 1, 15, (Int.negSucc 0), 1, 11]), (20, [8], [50, 3, 0, 12, 11, 15, 2, 21, 4, 7, 1, 3, 2, 0, 12, 0, 1, 0, 3, 2, 0, 11, 4, 3, 2, 0, 15, 0, 8, 3, 7, 1, 3, 2, 0, 12, 0, 0, 0, 7, 4, 3, 2, 0, 15, 0, 1, 2, 0, 11]), (20, [3, 8], [30, 0, 1, 0, 0, (Int.negSucc 0), 1, 11]), (20, [4, 8], [30, (Int.negSucc 0), 1, 0, 0, (Int.negSucc 0), 1, 11]), (20, [8], [50, 1, 0, 12, 1, 3, 2, 0, 12, 0, 1]), (20, [10, 8], [50, 1, 1, 1005, 1002, 3, 6, 0, 2, 1, 0, 0, (Int.negSucc 0), 0, 10, 3, 1, 2, 4, 3, 2, 1, 5, 0, 1, 0, 47]), (20, [9, 8], [50, 1, 1, 1005, 1002, 0, 6, 4, 2, 1, 0, 0, 1, 3, 1, 2, 4, 3, 2, 1, 5, 0, 2]), (20, [8, 11], [60, 1, 3, 200, 5, 2, 3, 4]), (20, [8, 10, 11], [60, 1, 1, 243, 5, 2]), (20, [8, 11, 13, 10, 6, 7, 9, 5], [60, 8, 2, 1005, 10, 11, 12, 13, 14, 15, 8, 5, 1, 2]), (24, [0, 8], []), (24, [1, 9], []), (24, [2, 10], [])])]
def t_Mo_met_at_g4_ct : ct_L := [(1, 401, e_Mo_edges), (1, 425, e_Mo_byteAt), (1, 460, e_Mo_next), (1, 463, e_Mo_wrong), (1, 475, e_Mo_nodes), (1, 481, e_Mo_isName), (1, 485, e_Mo_known), (1, 488, e_Mo_between)]
set_option maxRecDepth 100000 in
theorem c_Mo_met_at_g4 {l : Launch} {D : va_G} {kA : Nat → ClassId} (h_Mo_between : ct_ok PRD l D kA GG y_Mo_between z_Mo_between e_Mo_between) (h_Mo_byteAt : ct_ok PRD l D kA GG y_Mo_byteAt z_Mo_byteAt e_Mo_byteAt) (h_Mo_edges : ct_ok PRD l D kA GG y_Mo_edges z_Mo_edges e_Mo_edges) (h_Mo_isName : ct_ok PRD l D kA GG y_Mo_isName z_Mo_isName e_Mo_isName) (h_Mo_known : ct_ok PRD l D kA GG y_Mo_known z_Mo_known e_Mo_known) (h_Mo_next : ct_ok PRD l D kA GG y_Mo_next z_Mo_next e_Mo_next) (h_Mo_nodes : ct_ok PRD l D kA GG y_Mo_nodes z_Mo_nodes e_Mo_nodes) (h_Mo_wrong : ct_ok PRD l D kA GG y_Mo_wrong z_Mo_wrong e_Mo_wrong) : ct_ok PRD l D kA GG y_Mo_met_at_g4 z_Mo_met_at_g4 e_Mo_met_at_g4 := chk_all_ok (FT := [(16, 13, 2), (391, 13, 5), (413, 13, 8), (422, 13, 11), (428, 13, 13), (431, 13, 15)]) (PT := []) (CT := t_Mo_met_at_g4_ct) (KT := []) (NT := []) (AN := n_Mo_met_at_g4_an) (OT := [o_Mo_met_at_g4_0, o_Mo_met_at_g4_1, o_Mo_met_at_g4_2, o_Mo_met_at_g4_3, o_Mo_met_at_g4_4, o_Mo_met_at_g4_5, o_Mo_met_at_g4_6, o_Mo_met_at_g4_7, o_Mo_met_at_g4_8, o_Mo_met_at_g4_9, o_Mo_met_at_g4_10, o_Mo_met_at_g4_11, o_Mo_met_at_g4_12, o_Mo_met_at_g4_13, o_Mo_met_at_g4_14, o_Mo_met_at_g4_15, o_Mo_met_at_g4_16, o_Mo_met_at_g4_17, o_Mo_met_at_g4_18, o_Mo_met_at_g4_19, o_Mo_met_at_g4_20, o_Mo_met_at_g4_21, o_Mo_met_at_g4_22, o_Mo_met_at_g4_23, o_Mo_met_at_g4_24, o_Mo_met_at_g4_25, o_Mo_met_at_g4_26, o_Mo_met_at_g4_27, o_Mo_met_at_g4_28, o_Mo_met_at_g4_29, o_Mo_met_at_g4_30, o_Mo_met_at_g4_31, o_Mo_met_at_g4_32, o_Mo_met_at_g4_33, o_Mo_met_at_g4_34, o_Mo_met_at_g4_35, o_Mo_met_at_g4_36, o_Mo_met_at_g4_37, o_Mo_met_at_g4_38, o_Mo_met_at_g4_39, o_Mo_met_at_g4_40, o_Mo_met_at_g4_41, o_Mo_met_at_g4_42, o_Mo_met_at_g4_43, o_Mo_met_at_g4_44, o_Mo_met_at_g4_45]) 3 1380 (List.forall_mem_cons.mpr ⟨oo_Mo_met_at_g4_0, List.forall_mem_cons.mpr ⟨oo_Mo_met_at_g4_1, List.forall_mem_cons.mpr ⟨oo_Mo_met_at_g4_2, List.forall_mem_cons.mpr ⟨oo_Mo_met_at_g4_3, List.forall_mem_cons.mpr ⟨oo_Mo_met_at_g4_4, List.forall_mem_cons.mpr ⟨oo_Mo_met_at_g4_5, List.forall_mem_cons.mpr ⟨oo_Mo_met_at_g4_6, List.forall_mem_cons.mpr ⟨oo_Mo_met_at_g4_7, List.forall_mem_cons.mpr ⟨oo_Mo_met_at_g4_8, List.forall_mem_cons.mpr ⟨oo_Mo_met_at_g4_9, List.forall_mem_cons.mpr ⟨oo_Mo_met_at_g4_10, List.forall_mem_cons.mpr ⟨oo_Mo_met_at_g4_11, List.forall_mem_cons.mpr ⟨oo_Mo_met_at_g4_12, List.forall_mem_cons.mpr ⟨oo_Mo_met_at_g4_13, List.forall_mem_cons.mpr ⟨oo_Mo_met_at_g4_14, List.forall_mem_cons.mpr ⟨oo_Mo_met_at_g4_15, List.forall_mem_cons.mpr ⟨oo_Mo_met_at_g4_16, List.forall_mem_cons.mpr ⟨oo_Mo_met_at_g4_17, List.forall_mem_cons.mpr ⟨oo_Mo_met_at_g4_18, List.forall_mem_cons.mpr ⟨oo_Mo_met_at_g4_19, List.forall_mem_cons.mpr ⟨oo_Mo_met_at_g4_20, List.forall_mem_cons.mpr ⟨oo_Mo_met_at_g4_21, List.forall_mem_cons.mpr ⟨oo_Mo_met_at_g4_22, List.forall_mem_cons.mpr ⟨oo_Mo_met_at_g4_23, List.forall_mem_cons.mpr ⟨oo_Mo_met_at_g4_24, List.forall_mem_cons.mpr ⟨oo_Mo_met_at_g4_25, List.forall_mem_cons.mpr ⟨oo_Mo_met_at_g4_26, List.forall_mem_cons.mpr ⟨oo_Mo_met_at_g4_27, List.forall_mem_cons.mpr ⟨oo_Mo_met_at_g4_28, List.forall_mem_cons.mpr ⟨oo_Mo_met_at_g4_29, List.forall_mem_cons.mpr ⟨oo_Mo_met_at_g4_30, List.forall_mem_cons.mpr ⟨oo_Mo_met_at_g4_31, List.forall_mem_cons.mpr ⟨oo_Mo_met_at_g4_32, List.forall_mem_cons.mpr ⟨oo_Mo_met_at_g4_33, List.forall_mem_cons.mpr ⟨oo_Mo_met_at_g4_34, List.forall_mem_cons.mpr ⟨oo_Mo_met_at_g4_35, List.forall_mem_cons.mpr ⟨oo_Mo_met_at_g4_36, List.forall_mem_cons.mpr ⟨oo_Mo_met_at_g4_37, List.forall_mem_cons.mpr ⟨oo_Mo_met_at_g4_38, List.forall_mem_cons.mpr ⟨oo_Mo_met_at_g4_39, List.forall_mem_cons.mpr ⟨oo_Mo_met_at_g4_40, List.forall_mem_cons.mpr ⟨oo_Mo_met_at_g4_41, List.forall_mem_cons.mpr ⟨oo_Mo_met_at_g4_42, List.forall_mem_cons.mpr ⟨oo_Mo_met_at_g4_43, List.forall_mem_cons.mpr ⟨oo_Mo_met_at_g4_44, List.forall_mem_cons.mpr ⟨oo_Mo_met_at_g4_45, List.forall_mem_nil _⟩⟩⟩⟩⟩⟩⟩⟩⟩⟩⟩⟩⟩⟩⟩⟩⟩⟩⟩⟩⟩⟩⟩⟩⟩⟩⟩⟩⟩⟩⟩⟩⟩⟩⟩⟩⟩⟩⟩⟩⟩⟩⟩⟩⟩⟩) (by decide +kernel) ⟨List.forall_mem_cons.mpr ⟨gf_Mo_16, List.forall_mem_cons.mpr ⟨gf_Mo_391, List.forall_mem_cons.mpr ⟨gf_Mo_413, List.forall_mem_cons.mpr ⟨gf_Mo_422, List.forall_mem_cons.mpr ⟨gf_Mo_428, List.forall_mem_cons.mpr ⟨gf_Mo_431, List.forall_mem_nil _⟩⟩⟩⟩⟩⟩, List.forall_mem_nil _, List.forall_mem_cons.mpr ⟨cl_virtual (y := y_Mo_edges) (ci := 13) rfl rfl ⟨_, _, rfl⟩ (by decide +kernel) h_Mo_edges wm_3037 wm_9 wm_3034 wm_3036 wv_13_6 ⟨by decide, by decide, by decide +kernel⟩ (by decide), List.forall_mem_cons.mpr ⟨cl_virtual (y := y_Mo_byteAt) (ci := 13) rfl rfl ⟨_, _, rfl⟩ (by decide +kernel) h_Mo_byteAt wm_2986 wm_9 wm_2983 wm_2985 wv_12_12 ⟨by decide, by decide, by decide +kernel⟩ (by decide), List.forall_mem_cons.mpr ⟨cl_virtual (y := y_Mo_next) (ci := 13) rfl rfl ⟨_, _, rfl⟩ (by decide +kernel) h_Mo_next wm_2982 wm_9 wm_2979 wm_2981 wv_12_11 ⟨by decide, by decide, by decide +kernel⟩ (by decide), List.forall_mem_cons.mpr ⟨cl_virtual (y := y_Mo_wrong) (ci := 13) rfl rfl ⟨_, _, rfl⟩ (by decide +kernel) h_Mo_wrong wm_3017 wm_9 wm_3014 wm_3016 wv_13_1 ⟨by decide, by decide, by decide +kernel⟩ (by decide), List.forall_mem_cons.mpr ⟨cl_virtual (y := y_Mo_nodes) (ci := 13) rfl rfl ⟨_, _, rfl⟩ (by decide +kernel) h_Mo_nodes wm_3025 wm_9 wm_3022 wm_3024 wv_13_3 ⟨by decide, by decide, by decide +kernel⟩ (by decide), List.forall_mem_cons.mpr ⟨cl_virtual (y := y_Mo_isName) (ci := 13) rfl rfl ⟨_, _, rfl⟩ (by decide +kernel) h_Mo_isName wm_3012 wm_9 wm_3009 wm_3011 wv_13_0 ⟨by decide, by decide, by decide +kernel⟩ (by decide), List.forall_mem_cons.mpr ⟨cl_virtual (y := y_Mo_known) (ci := 13) rfl rfl ⟨_, _, rfl⟩ (by decide +kernel) h_Mo_known wm_3021 wm_9 wm_3018 wm_3020 wv_13_2 ⟨by decide, by decide, by decide +kernel⟩ (by decide), List.forall_mem_cons.mpr ⟨cl_virtual (y := y_Mo_between) (ci := 13) rfl rfl ⟨_, _, rfl⟩ (by decide +kernel) h_Mo_between wm_3033 wm_9 wm_3030 wm_3032 wv_13_5 ⟨by decide, by decide, by decide +kernel⟩ (by decide), List.forall_mem_nil _⟩⟩⟩⟩⟩⟩⟩⟩, List.forall_mem_nil _, List.forall_mem_nil _, GG_pl⟩ (by decide +kernel)
set_option maxHeartbeats 4000000 in
theorem vc_Fa_learn_0_0 (x2 : Int) (known_0 : Int) (tail_0o1 : Int → Int) (head_0o1 : Int → Int) (nodes_0o1 : Int) (edges_0o1 : Int) (near_0o1 : Int → Int) (tail_1o1 : Int → Int) (head_1o1 : Int → Int) (nodes_1o1 : Int) (edges_1o1 : Int) (near_1o1 : Int → Int) (k2 : 1 ≤ x2 ∧ x2 ≤ 1) (g0 : x2 = known_0) (fe_1_0_1 : nodes_0o1 = nodes_1o1) (fe_1_1_1 : edges_0o1 = edges_1o1) (hE_1_7_1 : ∀ j : Int, tail_0o1 j = tail_1o1 j) (hE_1_8_1 : ∀ j : Int, head_0o1 j = head_1o1 j) (hE_1_14_1 : ∀ j : Int, near_0o1 j = near_1o1 j) (kz_0_0 : 0 ≤ known_0 ∧ known_0 ≤ 1) (kz_1_0 : 0 ≤ nodes_0o1 ∧ nodes_0o1 ≤ 24) (kz_1_1 : 0 ≤ edges_0o1 ∧ edges_0o1 ≤ 48) : known_0 ≠ 0 := by
  subst fe_1_0_1
  subst fe_1_1_1
  have e_hE_1_7_1 := funext hE_1_7_1; subst e_hE_1_7_1
  have e_hE_1_8_1 := funext hE_1_8_1; subst e_hE_1_8_1
  have e_hE_1_14_1 := funext hE_1_14_1; subst e_hE_1_14_1
  first
    | omega
    | (have q := lbl_le ‹LBL _ _ _› (by omega); omega)
  
def o_Fa_learn_0 : or_T := (6, 3, [(0, (2, 0, 0, [2])), (1, (2, 0, 0, [3])), (2, (0, 1, 1, []))], [(9, [2, 0], [0]), (101, [0, 2], [0])], [], [], [(20, [0], [50, 1, 0, 0, 7, 3, 2, 0, 0, 0, 0])], [], [])
theorem oo_Fa_learn_0 {kA : Nat → ClassId} : or_ok PRD kA GG o_Fa_learn_0 := by
  refine or_mk fun A ta ws vs hD hth hl => ?_
  intro t0 r0 t1 r1 t2 k2 f0 ta1 w1 le1 s1
  replace f0 := shm_163 f0
  have s1 : (∀ b j, w_el ws b j = w_el w1 b j) ∧ ∀ b j, w_fd ws b j = if b = v_ad (n_v vs 0) ∧ j = 0 then n_v vs 2 else w_fd w1 b j := s1.2
  have g0 : v_iv (n_v vs 2) = w_fi ws (n_v vs 0) 0 := congrArg v_iv f0
  have fe_1_0_1 : w_fi ws (n_v vs 1) 0 = w_fi w1 (n_v vs 1) 0 := by show v_iv (w_fd _ _ _) = v_iv (w_fd _ _ _); rw [s1.2, if_neg (fun e => by have e1 := e.1; have e2 := r1; rw [e1, r0] at e2; exact absurd (Option.some.inj e2) (by decide))]
  have fe_1_1_1 : w_fi ws (n_v vs 1) 1 = w_fi w1 (n_v vs 1) 1 := by show v_iv (w_fd _ _ _) = v_iv (w_fd _ _ _); rw [s1.2, if_neg (fun e => absurd e.2 (by decide))]
  have hE_1_7_1 : ∀ j : Int, w_ei ws (w_ar ws (n_v vs 1) 7) j = w_ei w1 (w_ar ws (n_v vs 1) 7) j := fun j => s1.1 _ _
  have hE_1_8_1 : ∀ j : Int, w_ei ws (w_ar ws (n_v vs 1) 8) j = w_ei w1 (w_ar ws (n_v vs 1) 8) j := fun j => s1.1 _ _
  have hE_1_14_1 : ∀ j : Int, w_ei ws (w_ar ws (n_v vs 1) 14) j = w_ei w1 (w_ar ws (n_v vs 1) 14) j := fun j => s1.1 _ _
  have kz_0_0 := fdq_294 hD hth r0
  have kz_1_0 := fdq_21 hD hth r1
  have kz_1_1 := fdq_30 hD hth r1
  have nf0 : fc_1 PRD (20, [0], [50, 1, 0, 0, 7, 3, 2, 0, 0, 0, 0]) ws (vs) := ⟨nf_in hl rfl, sgq_2130 (vc_Fa_learn_0_0 (v_iv (n_v vs 2)) (w_fi ws (n_v vs 0) 0) (w_ei ws (w_ar ws (n_v vs 1) 7)) (w_ei ws (w_ar ws (n_v vs 1) 8)) (w_fi ws (n_v vs 1) 0) (w_fi ws (n_v vs 1) 1) (w_ei ws (w_ar ws (n_v vs 1) 14)) (w_ei w1 (w_ar ws (n_v vs 1) 7)) (w_ei w1 (w_ar ws (n_v vs 1) 8)) (w_fi w1 (n_v vs 1) 0) (w_fi w1 (n_v vs 1) 1) (w_ei w1 (w_ar ws (n_v vs 1) 14)) k2 g0 fe_1_0_1 fe_1_1_1 hE_1_7_1 hE_1_8_1 hE_1_14_1 kz_0_0 kz_1_0 kz_1_1)⟩
  refine ⟨(fun _ h => (by cases h)), [], trivial, ?_, (fun _ h => (by cases h))⟩
  rw [List.append_nil]
  exact List.forall_mem_cons.mpr ⟨⟨show (20 : Nat) < 100 from by decide, nf0⟩, (fun _ h => (by cases h))⟩
set_option maxHeartbeats 4000000 in
theorem vc_Fa_learn_1_0 (x3 : Int) (x4 : Int) (x9 : Int) (blocks_0 : Int) (edges_0o1 : Int) (nodes_0o1 : Int) (known_0 : Int) (tail_0o1 : Int → Int) (head_0o1 : Int → Int) (near_0o1 : Int → Int) (part_0 : Int → Int) (parts_0 : Int) (a8_0 : Int → Int) (known_1 : Int) (tail_1o1 : Int → Int) (head_1o1 : Int → Int) (nodes_1o1 : Int) (edges_1o1 : Int) (near_1o1 : Int → Int) (part_1 : Int → Int) (parts_1 : Int) (a8_1 : Int → Int) (k3 : 0 ≤ x3 ∧ x3 ≤ 24) (k4 : 0 ≤ x4 ∧ x4 ≤ 48) (k9 : 0 ≤ x9 ∧ x9 ≤ 48) (g0 : x9 = blocks_0) (g4 : x4 = edges_0o1) (g5 : x3 = nodes_0o1) (f17 : GKE (nodes_1o1) (edges_1o1) (tail_1o1) (head_1o1)) (f18 : GNB (nodes_1o1) (edges_1o1) (near_1o1) (tail_1o1) (head_1o1)) (f23 : BKL (tail_1o1) (head_1o1) (near_1o1) (x3) (x4) (x9)) (fe_0_0_1 : known_0 = known_1) (fe_0_1_1 : parts_0 = parts_1) (fe_1_0_1 : nodes_0o1 = nodes_1o1) (fe_1_1_1 : edges_0o1 = edges_1o1) (hE_0_4_1 : ∀ j : Int, part_0 j = part_1 j) (hE_1_7_1 : ∀ j : Int, tail_0o1 j = tail_1o1 j) (hE_1_8_1 : ∀ j : Int, head_0o1 j = head_1o1 j) (hE_1_14_1 : ∀ j : Int, near_0o1 j = near_1o1 j) (hE_8_999_1 : ∀ j : Int, a8_0 j = a8_1 j) (kz_0_0 : 0 ≤ known_0 ∧ known_0 ≤ 1) (kz_0_1 : 0 ≤ parts_0 ∧ parts_0 ≤ 24) (kz_0_2 : 0 ≤ blocks_0 ∧ blocks_0 ≤ 48) (kz_1_0 : 0 ≤ nodes_0o1 ∧ nodes_0o1 ≤ 24) (kz_1_1 : 0 ≤ edges_0o1 ∧ edges_0o1 ≤ 48) : BKS (nodes_0o1) (edges_0o1) (blocks_0) (near_0o1) (tail_0o1) (head_0o1) := by
  subst fe_0_0_1
  subst fe_0_1_1
  subst fe_1_0_1
  subst fe_1_1_1
  have e_hE_0_4_1 := funext hE_0_4_1; subst e_hE_0_4_1
  have e_hE_1_7_1 := funext hE_1_7_1; subst e_hE_1_7_1
  have e_hE_1_8_1 := funext hE_1_8_1; subst e_hE_1_8_1
  have e_hE_1_14_1 := funext hE_1_14_1; subst e_hE_1_14_1
  have e_hE_8_999_1 := funext hE_8_999_1; subst e_hE_8_999_1
  first
    | assumption
    | (have h := (‹BKL _ _ _ _ _ _›)
       rw [(by assumption : x3 = nodes_0o1), (by assumption : x4 = edges_0o1), (by assumption : x9 = blocks_0)] at h
       exact bks_of h ‹GNB _ _ _ _ _› ‹GKE _ _ _ _› (by omega))
  
def o_Fa_learn_1 : or_T := (41, 10, [(0, (2, 0, 0, [2])), (1, (2, 0, 0, [3])), (3, (0, 0, 24, [])), (4, (0, 0, 48, [])), (9, (0, 0, 48, []))], [(9, [9, 0], [2]), (9, [7, 1], [14]), (9, [6, 1], [8]), (9, [5, 1], [7]), (9, [4, 1], [1]), (9, [3, 1], [0]), (101, [0, 9], [2]), (20, [1], [60, 2, 2, 596, 0, 1, 7, 8]), (20, [1], [60, 2, 3, 670, 0, 1, 14, 7, 8]), (20, [5, 6, 7, 3, 4, 9], [61, 3, 594])], [], [], [(20, [1, 0], [60, 3, 3, 673, 0, 1, 1002, 14, 7, 8])], [], [])
theorem oo_Fa_learn_1 {kA : Nat → ClassId} : or_ok PRD kA GG o_Fa_learn_1 := by
  refine or_mk fun A ta ws vs hD hth hl => ?_
  intro t0 r0 t1 r1 t3 k3 t4 k4 t9 k9 f0 f1 f2 f3 f4 f5 ta1 w1 le1 s1 f17 f18 f23
  replace f0 := shm_120 f0
  replace f1 := shm_115 f1
  replace f2 := shm_293 f2
  replace f3 := shm_198 f3
  replace f4 := shm_215 f4
  replace f5 := shm_163 f5
  have s1 : (∀ b j, w_el ws b j = w_el w1 b j) ∧ ∀ b j, w_fd ws b j = if b = v_ad (n_v vs 0) ∧ j = 2 then n_v vs 9 else w_fd w1 b j := s1.2
  replace f17 := shm_386 f17
  replace f18 := shm_825 f18
  replace f23 := shm_1606 f23
  have ar_0_4_1 : w_ar w1 (n_v vs 0) 4 = w_ar ws (n_v vs 0) 4 := by show v_ad (w_fd w1 _ _) = v_ad (w_fd ws _ _); rw [s1.2, if_neg (fun e => absurd e.2 (by decide))]
  have ar_1_7_1 : w_ar w1 (n_v vs 1) 7 = w_ar ws (n_v vs 1) 7 := by show v_ad (w_fd w1 _ _) = v_ad (w_fd ws _ _); rw [s1.2, if_neg (fun e => absurd e.2 (by decide))]
  have ar_1_8_1 : w_ar w1 (n_v vs 1) 8 = w_ar ws (n_v vs 1) 8 := by show v_ad (w_fd w1 _ _) = v_ad (w_fd ws _ _); rw [s1.2, if_neg (fun e => absurd e.2 (by decide))]
  have ar_1_14_1 : w_ar w1 (n_v vs 1) 14 = w_ar ws (n_v vs 1) 14 := by show v_ad (w_fd w1 _ _) = v_ad (w_fd ws _ _); rw [s1.2, if_neg (fun e => absurd e.2 (by decide))]
  have ad_7 : v_ad (n_v vs 7) = w_ar ws (n_v vs 1) 14 := congrArg v_ad f1
  have ad_6 : v_ad (n_v vs 6) = w_ar ws (n_v vs 1) 8 := congrArg v_ad f2
  have ad_5 : v_ad (n_v vs 5) = w_ar ws (n_v vs 1) 7 := congrArg v_ad f3
  have g0 : v_iv (n_v vs 9) = w_fi ws (n_v vs 0) 2 := congrArg v_iv f0
  have g4 : v_iv (n_v vs 4) = w_fi ws (n_v vs 1) 1 := congrArg v_iv f4
  have g5 : v_iv (n_v vs 3) = w_fi ws (n_v vs 1) 0 := congrArg v_iv f5
  simp only [ad_5, ad_6, ad_7, ar_1_7_1, ar_1_8_1, ar_1_14_1, ar_0_4_1] at f17 f18 f23
  have fe_0_0_1 : w_fi ws (n_v vs 0) 0 = w_fi w1 (n_v vs 0) 0 := by show v_iv (w_fd _ _ _) = v_iv (w_fd _ _ _); rw [s1.2, if_neg (fun e => absurd e.2 (by decide))]
  have fe_0_1_1 : w_fi ws (n_v vs 0) 1 = w_fi w1 (n_v vs 0) 1 := by show v_iv (w_fd _ _ _) = v_iv (w_fd _ _ _); rw [s1.2, if_neg (fun e => absurd e.2 (by decide))]
  have fe_1_0_1 : w_fi ws (n_v vs 1) 0 = w_fi w1 (n_v vs 1) 0 := by show v_iv (w_fd _ _ _) = v_iv (w_fd _ _ _); rw [s1.2, if_neg (fun e => absurd e.2 (by decide))]
  have fe_1_1_1 : w_fi ws (n_v vs 1) 1 = w_fi w1 (n_v vs 1) 1 := by show v_iv (w_fd _ _ _) = v_iv (w_fd _ _ _); rw [s1.2, if_neg (fun e => absurd e.2 (by decide))]
  have hE_0_4_1 : ∀ j : Int, w_ei ws (w_ar ws (n_v vs 0) 4) j = w_ei w1 (w_ar ws (n_v vs 0) 4) j := fun j => s1.1 _ _
  have hE_1_7_1 : ∀ j : Int, w_ei ws (w_ar ws (n_v vs 1) 7) j = w_ei w1 (w_ar ws (n_v vs 1) 7) j := fun j => s1.1 _ _
  have hE_1_8_1 : ∀ j : Int, w_ei ws (w_ar ws (n_v vs 1) 8) j = w_ei w1 (w_ar ws (n_v vs 1) 8) j := fun j => s1.1 _ _
  have hE_1_14_1 : ∀ j : Int, w_ei ws (w_ar ws (n_v vs 1) 14) j = w_ei w1 (w_ar ws (n_v vs 1) 14) j := fun j => s1.1 _ _
  have hE_8_999_1 : ∀ j : Int, w_ei ws (v_ad (n_v vs 8)) j = w_ei w1 (v_ad (n_v vs 8)) j := fun j => s1.1 _ _
  have kz_0_0 := fdq_294 hD hth r0
  have kz_0_1 := fdq_278 hD hth r0
  have kz_0_2 := fdq_295 hD hth r0
  have kz_1_0 := fdq_21 hD hth r1
  have kz_1_1 := fdq_30 hD hth r1
  have nf0 : fc_1 PRD (20, [1, 0], [60, 3, 3, 673, 0, 1, 1002, 14, 7, 8]) ws (vs) := ⟨nf_in hl rfl, sgq_2131 (vc_Fa_learn_1_0 (v_iv (n_v vs 3)) (v_iv (n_v vs 4)) (v_iv (n_v vs 9)) (w_fi ws (n_v vs 0) 2) (w_fi ws (n_v vs 1) 1) (w_fi ws (n_v vs 1) 0) (w_fi ws (n_v vs 0) 0) (w_ei ws (w_ar ws (n_v vs 1) 7)) (w_ei ws (w_ar ws (n_v vs 1) 8)) (w_ei ws (w_ar ws (n_v vs 1) 14)) (w_ei ws (w_ar ws (n_v vs 0) 4)) (w_fi ws (n_v vs 0) 1) (w_ei ws (v_ad (n_v vs 8))) (w_fi w1 (n_v vs 0) 0) (w_ei w1 (w_ar ws (n_v vs 1) 7)) (w_ei w1 (w_ar ws (n_v vs 1) 8)) (w_fi w1 (n_v vs 1) 0) (w_fi w1 (n_v vs 1) 1) (w_ei w1 (w_ar ws (n_v vs 1) 14)) (w_ei w1 (w_ar ws (n_v vs 0) 4)) (w_fi w1 (n_v vs 0) 1) (w_ei w1 (v_ad (n_v vs 8))) k3 k4 k9 g0 g4 g5 f17 f18 f23 fe_0_0_1 fe_0_1_1 fe_1_0_1 fe_1_1_1 hE_0_4_1 hE_1_7_1 hE_1_8_1 hE_1_14_1 hE_8_999_1 kz_0_0 kz_0_1 kz_0_2 kz_1_0 kz_1_1)⟩
  refine ⟨(fun _ h => (by cases h)), [], trivial, ?_, (fun _ h => (by cases h))⟩
  rw [List.append_nil]
  exact List.forall_mem_cons.mpr ⟨⟨show (20 : Nat) < 100 from by decide, nf0⟩, (fun _ h => (by cases h))⟩
def n_Fa_learn_an : List an_T := []
def t_Fa_learn_ct : ct_L := [(1, 60, e_Fa_learnParts), (1, 85, e_Fa_learnBlocksAt), (1, 88, e_Fa_learnStrong), (1, 91, e_Fa_learnCore), (1, 94, e_Fa_learnTurned), (108, 81, e_Fa_blocksOf_at_Grtail_Grhead_Grnear_Fablock)]
set_option maxRecDepth 100000 in
theorem c_Fa_learn {l : Launch} {D : va_G} {kA : Nat → ClassId} (h_Fa_blocksOf_at_Grtail_Grhead_Grnear_Fablock : ct_ok PRD l D kA GG y_Fa_blocksOf_at_Grtail_Grhead_Grnear_Fablock z_Fa_blocksOf_at_Grtail_Grhead_Grnear_Fablock e_Fa_blocksOf_at_Grtail_Grhead_Grnear_Fablock) (h_Fa_learnBlocksAt : ct_ok PRD l D kA GG y_Fa_learnBlocksAt z_Fa_learnBlocksAt e_Fa_learnBlocksAt) (h_Fa_learnCore : ct_ok PRD l D kA GG y_Fa_learnCore z_Fa_learnCore e_Fa_learnCore) (h_Fa_learnParts : ct_ok PRD l D kA GG y_Fa_learnParts z_Fa_learnParts e_Fa_learnParts) (h_Fa_learnStrong : ct_ok PRD l D kA GG y_Fa_learnStrong z_Fa_learnStrong e_Fa_learnStrong) (h_Fa_learnTurned : ct_ok PRD l D kA GG y_Fa_learnTurned z_Fa_learnTurned e_Fa_learnTurned) : ct_ok PRD l D kA GG y_Fa_learn z_Fa_learn e_Fa_learn := chk_all_ok (FT := [(29, 2, 5), (64, 3, 0), (69, 3, 1), (72, 3, 7), (75, 3, 8), (78, 3, 14)]) (PT := [(9, 2, 0, .boolean), (19, 2, 2, .int)]) (CT := t_Fa_learn_ct) (KT := []) (NT := []) (AN := n_Fa_learn_an) (OT := [o_Fa_learn_0, o_Fa_learn_1]) 0 200 (List.forall_mem_cons.mpr ⟨oo_Fa_learn_0, List.forall_mem_cons.mpr ⟨oo_Fa_learn_1, List.forall_mem_nil _⟩⟩) (by decide +kernel) ⟨List.forall_mem_cons.mpr ⟨gf_Fa_29, List.forall_mem_cons.mpr ⟨gf_Fa_64, List.forall_mem_cons.mpr ⟨gf_Fa_69, List.forall_mem_cons.mpr ⟨gf_Fa_72, List.forall_mem_cons.mpr ⟨gf_Fa_75, List.forall_mem_cons.mpr ⟨gf_Fa_78, List.forall_mem_nil _⟩⟩⟩⟩⟩⟩, List.forall_mem_cons.mpr ⟨pf_Fa_9, List.forall_mem_cons.mpr ⟨pf_Fa_19, List.forall_mem_nil _⟩⟩, List.forall_mem_cons.mpr ⟨cl_virtual (y := y_Fa_learnParts) (ci := 2) rfl rfl ⟨_, _, rfl⟩ (by decide +kernel) h_Fa_learnParts wm_818 wm_7 wm_815 wm_817 wv_1_15 ⟨by decide, by decide, by decide +kernel⟩ (by decide), List.forall_mem_cons.mpr ⟨cl_virtual (y := y_Fa_learnBlocksAt) (ci := 2) rfl rfl ⟨_, _, rfl⟩ (by decide +kernel) h_Fa_learnBlocksAt wm_844 wm_7 wm_841 wm_843 wv_2_0 ⟨by decide, by decide, by decide +kernel⟩ (by decide), List.forall_mem_cons.mpr ⟨cl_virtual (y := y_Fa_learnStrong) (ci := 2) rfl rfl ⟨_, _, rfl⟩ (by decide +kernel) h_Fa_learnStrong wm_854 wm_7 wm_851 wm_853 wv_2_1 ⟨by decide, by decide, by decide +kernel⟩ (by decide), List.forall_mem_cons.mpr ⟨cl_virtual (y := y_Fa_learnCore) (ci := 2) rfl rfl ⟨_, _, rfl⟩ (by decide +kernel) h_Fa_learnCore wm_863 wm_7 wm_860 wm_862 wv_2_3 ⟨by decide, by decide, by decide +kernel⟩ (by decide), List.forall_mem_cons.mpr ⟨cl_virtual (y := y_Fa_learnTurned) (ci := 2) rfl rfl ⟨_, _, rfl⟩ (by decide +kernel) h_Fa_learnTurned wm_877 wm_7 wm_874 wm_876 wv_2_5 ⟨by decide, by decide, by decide +kernel⟩ (by decide), List.forall_mem_cons.mpr ⟨cl_static (y := y_Fa_blocksOf_at_Grtail_Grhead_Grnear_Fablock) h_Fa_blocksOf_at_Grtail_Grhead_Grnear_Fablock wm_830 wm_7 wm_828 wm_829 ⟨by decide, by decide, by decide +kernel⟩ (by decide), List.forall_mem_nil _⟩⟩⟩⟩⟩⟩, List.forall_mem_nil _, List.forall_mem_nil _, GG_pl⟩ (by decide +kernel)
def o_Ho_learned_0 : or_T := (33, 6, [(0, (2, 0, 0, [12])), (1, (0, 0, 3, [])), (2, (2, 0, 0, [132])), (3, (2, 0, 0, [2])), (5, (2, 0, 0, [2]))], [(14, [5, 2, 1], []), (9, [2, 0], [1]), (14, [3, 2, 1], [])], [], [], [(24, [3, 5], [])], [], [])
theorem oo_Ho_learned_0 {kA : Nat → ClassId} : or_ok PRD kA GG o_Ho_learned_0 := by
  refine or_mk fun A ta ws vs hD hth hl => ?_
  intro t0 r0 t1 k1 t2 r2 t3 r3 t5 r5 f0 f1 f2
  replace f0 := shm_793 f0
  replace f1 := shm_215 f1
  replace f2 := shm_793 f2
  have nf0 : fc_1 PRD (24, [3, 5], []) ws (vs) := by
    refine ⟨nf_in hl rfl, sgq_5 ?_⟩
    · show n_v vs 3 = n_v vs 5
      exact ref_same t3 t5 rfl rfl ((pO_of f1 f2).trans (pO_of f1 f0).symm)
  refine ⟨(fun _ h => (by cases h)), [], trivial, ?_, (fun _ h => (by cases h))⟩
  rw [List.append_nil]
  exact List.forall_mem_cons.mpr ⟨⟨show (24 : Nat) < 100 from by decide, nf0⟩, (fun _ h => (by cases h))⟩
set_option maxHeartbeats 4000000 in
theorem vc_Ho_learned_1_1 (x4 : Int) (known_0o3 : Int) (k4 : 1 ≤ x4 ∧ x4 ≤ 1) (g4 : x4 = known_0o3) (kz_3_0 : 0 ≤ known_0o3 ∧ known_0o3 ≤ 1) : known_0o3 ≠ 0 := by
  first
    | omega
  
def o_Ho_learned_1 : or_T := (33, 6, [(0, (2, 0, 0, [12])), (1, (0, 0, 3, [])), (2, (2, 0, 0, [132])), (3, (2, 0, 0, [2])), (4, (0, 1, 1, [])), (5, (2, 0, 0, [2]))], [(24, [3, 5], []), (14, [5, 2, 1], []), (9, [2, 0], [1]), (8, [4], [1]), (9, [4, 3], [0]), (20, [0], [62, 0])], [], [], [(20, [0, 1, 5], [62, 135]), (20, [5], [50, 1, 0, 0, 7, 3, 2, 0, 0, 0, 0])], [], [])
theorem oo_Ho_learned_1 {kA : Nat → ClassId} : or_ok PRD kA GG o_Ho_learned_1 := by
  refine or_mk fun A ta ws vs hD hth hl => ?_
  intro t0 r0 t1 k1 t2 r2 t3 r3 t4 k4 t5 r5 f0 f1 f2 f3 f4 f5
  replace f0 := shm_5 f0
  replace f1 := shm_793 f1
  replace f2 := shm_215 f2
  replace f3 := shm_142 f3
  replace f4 := shm_163 f4
  replace f5 := shm_1176 f5
  have q5 : n_v vs 5 = n_v vs 3 := f0.symm
  simp only [q5] at f1
  have cr_0_1 := fdq_325 hD hth r0
  have ad_2 : v_ad (n_v vs 2) = w_ar ws (n_v vs 0) 1 := congrArg v_ad f2
  have g4 : v_iv (n_v vs 4) = w_fi ws (n_v vs 3) 0 := congrArg v_iv f4
  have kz_3_0 := fdq_294 hD hth r3
  have nf0 : fc_1 PRD (20, [0, 1, 5], [62, 135]) ws (vs) := by
    refine ⟨nf_in hl rfl, sgq_2132 ?_⟩
    · show WQF 135 [n_v vs 0, n_v vs 1, n_v vs 5] ws
      first | rw [q5] | skip
      have zw := f5
      exact wq_in (zw) (by omega) (by omega) ⟨rfl, rfl⟩ ⟨Or.inr (pO_of f2 f1), trivial⟩
  have nf1 : fc_1 PRD (20, [5], [50, 1, 0, 0, 7, 3, 2, 0, 0, 0, 0]) ws (vs) := by
    refine ⟨nf_in hl rfl, sgq_2130 ?_⟩
    · show w_fi ws (n_v vs 5) 0 ≠ 0
      rw [q5]
      exact vc_Ho_learned_1_1 (v_iv (n_v vs 4)) (w_fi ws (n_v vs 3) 0) k4 g4 kz_3_0
  refine ⟨(fun _ h => (by cases h)), [], trivial, ?_, (fun _ h => (by cases h))⟩
  rw [List.append_nil]
  exact List.forall_mem_cons.mpr ⟨⟨show (20 : Nat) < 100 from by decide, nf0⟩, List.forall_mem_cons.mpr ⟨⟨show (20 : Nat) < 100 from by decide, nf1⟩, (fun _ h => (by cases h))⟩⟩
set_option maxHeartbeats 4000000 in
theorem vc_Ho_learned_2_1 (x1 : Int) (gy : Int) (k1 : 0 ≤ x1 ∧ x1 ≤ 3) (ey2 : gy = x1) : 1 * gy + ((-1) * x1 + 0) ≤ 0 := by
  first
    | omega
  
set_option maxHeartbeats 4000000 in
theorem vc_Ho_learned_2_2 (x1 : Int) (gy : Int) (k1 : 0 ≤ x1 ∧ x1 ≤ 3) (ey2 : gy = x1) : (-1) * gy + (1 * x1 + 0) ≤ 0 := by
  first
    | omega
  
def o_Ho_learned_2 : or_T := (24, 8, [(0, (2, 0, 0, [12])), (1, (0, 0, 3, [])), (2, (2, 0, 0, [132])), (5, (2, 0, 0, [2])), (6, (2, 0, 0, [131])), (7, (2, 0, 0, [3]))], [(14, [7, 6, 1], []), (9, [6, 0], [0]), (14, [5, 2, 1], []), (9, [2, 0], [1]), (20, [0], [62, 0])], [], [(2, 0, 0, [12]), (0, 0, 3, [])], [(24, [0, 8], []), (23, [9, 1], [0, 1, -1]), (23, [9, 1], [0, -1, 1]), (20, [8, 9, 5, 7], [62, 391])], [], [])
theorem oo_Ho_learned_2 {kA : Nat → ClassId} : or_ok PRD kA GG o_Ho_learned_2 := by
  refine or_mk fun A ta ws vs hD hth hl => ?_
  intro t0 r0 t1 k1 t2 r2 t5 r5 t6 r6 t7 r7 f0 f1 f2 f3 f4
  replace f0 := shm_793 f0
  replace f1 := shm_163 f1
  replace f2 := shm_793 f2
  replace f3 := shm_215 f3
  replace f4 := shm_1176 f4
  have cr_0_0 := fdq_311 hD hth r0
  have cr_0_1 := fdq_325 hD hth r0
  have ad_6 : v_ad (n_v vs 6) = w_ar ws (n_v vs 0) 0 := congrArg v_ad f1
  have ad_2 : v_ad (n_v vs 2) = w_ar ws (n_v vs 0) 1 := congrArg v_ad f3
  obtain ⟨y, ey, hy⟩ := iv_ex (ta := ta) (lo := 0) (hi := 3) (z := v_iv (n_v vs 1)) (by omega) (by omega) (by omega) (by omega)
  have ey2 : v_iv (Value.int y) = v_iv (n_v vs 1) := ey
  have ey3 : 0 ≤ v_iv (Value.int y) ∧ v_iv (Value.int y) ≤ 3 := tv_rng hy
  have e_0 : n_v (vs ++ [n_v vs 0, Value.int y]) 0 = n_v vs 0 := n_v_old (by rw [hl]; decide)
  have e_1 : n_v (vs ++ [n_v vs 0, Value.int y]) 1 = n_v vs 1 := n_v_old (by rw [hl]; decide)
  have e_5 : n_v (vs ++ [n_v vs 0, Value.int y]) 5 = n_v vs 5 := n_v_old (by rw [hl]; decide)
  have e_7 : n_v (vs ++ [n_v vs 0, Value.int y]) 7 = n_v vs 7 := n_v_old (by rw [hl]; decide)
  have e_8 : n_v (vs ++ [n_v vs 0, Value.int y]) 8 = n_v vs 0 := n_v_new0 hl
  have e_9 : n_v (vs ++ [n_v vs 0, Value.int y]) 9 = Value.int y := n_v_new1 hl
  have nf0 : fc_1 PRD (24, [0, 8], []) ws (vs ++ [n_v vs 0, Value.int y]) := by
    refine ⟨nf_inA hl rfl, sgq_5 ?_⟩
    · show n_v (vs ++ [n_v vs 0, Value.int y]) 0 = n_v (vs ++ [n_v vs 0, Value.int y]) 8
      first | rfl | simp only [e_0, e_8]
  have nf1 : fc_1 PRD (23, [9, 1], [0, 1, -1]) ws (vs ++ [n_v vs 0, Value.int y]) := by
    refine ⟨nf_inA hl rfl, sgq_7 ?_⟩
    · show 1 * v_iv (n_v (vs ++ [n_v vs 0, Value.int y]) 9) + ((-1) * v_iv (n_v (vs ++ [n_v vs 0, Value.int y]) 1) + 0) ≤ 0
      simp only [e_1, e_9]
      exact vc_Ho_learned_2_1 (v_iv (n_v vs 1)) (v_iv (Value.int y)) k1 ey2
  have nf2 : fc_1 PRD (23, [9, 1], [0, -1, 1]) ws (vs ++ [n_v vs 0, Value.int y]) := by
    refine ⟨nf_inA hl rfl, sgq_22 ?_⟩
    · show (-1) * v_iv (n_v (vs ++ [n_v vs 0, Value.int y]) 9) + (1 * v_iv (n_v (vs ++ [n_v vs 0, Value.int y]) 1) + 0) ≤ 0
      simp only [e_1, e_9]
      exact vc_Ho_learned_2_2 (v_iv (n_v vs 1)) (v_iv (Value.int y)) k1 ey2
  have nf3 : fc_1 PRD (20, [8, 9, 5, 7], [62, 391]) ws (vs ++ [n_v vs 0, Value.int y]) := by
    refine ⟨nf_inA hl rfl, sgq_2133 ?_⟩
    · show WQF 391 [n_v (vs ++ [n_v vs 0, Value.int y]) 8, n_v (vs ++ [n_v vs 0, Value.int y]) 9, n_v (vs ++ [n_v vs 0, Value.int y]) 5, n_v (vs ++ [n_v vs 0, Value.int y]) 7] ws
      simp only [e_5, e_7, e_8, e_9]
      have zw := f4
      exact WQF_int (wq_in (zw) (by omega) (by omega) ⟨rfl, rfl⟩ ⟨Or.inr (pO_of f3 f2), Or.inr (pO_of f1 f0), trivial⟩) ey2
  exact ⟨(fun _ h => (by cases h)), [n_v vs 0, Value.int y], ag_two t0 hy, List.forall_mem_cons.mpr ⟨⟨show (24 : Nat) < 100 from by decide, nf0⟩, List.forall_mem_cons.mpr ⟨⟨show (23 : Nat) < 100 from by decide, nf1⟩, List.forall_mem_cons.mpr ⟨⟨show (23 : Nat) < 100 from by decide, nf2⟩, List.forall_mem_cons.mpr ⟨⟨show (20 : Nat) < 100 from by decide, nf3⟩, (fun _ h => (by cases h))⟩⟩⟩⟩, (fun _ h => (by cases h))⟩
def o_Ho_learned_3 : or_T := (33, 11, [(1, (0, 0, 3, [])), (2, (2, 0, 0, [132])), (5, (2, 0, 0, [2])), (10, (2, 0, 0, [2]))], [(14, [10, 2, 1], []), (102, [9], [281337537757184, 2000, 2001, 2002, 2003]), (14, [5, 2, 1], [])], [], [], [(24, [5, 10], [])], [], [])
theorem oo_Ho_learned_3 {kA : Nat → ClassId} : or_ok PRD kA GG o_Ho_learned_3 := by
  refine or_mk fun A ta ws vs hD hth hl => ?_
  intro t1 k1 t2 r2 t5 r5 t10 r10 f0 ta1 w1 le1 s1 f2
  replace f0 := shm_793 f0
  replace s1 := s1.2
  replace f2 := shm_793 f2
  have nf0 : fc_1 PRD (24, [5, 10], []) ws (vs) := by
    refine ⟨nf_in hl rfl, sgq_5 ?_⟩
    · show n_v vs 5 = n_v vs 10
      obtain ⟨a7, _, e7, _⟩ := tv_ref t5 rfl
      obtain ⟨a9, _, e9, _⟩ := tv_ref t10 rfl
      obtain ⟨a6, _, e6, _⟩ := tv_ref t2 rfl
      obtain ⟨r1, hr1⟩ := Option.isSome_iff_exists.mp (s1.2.2.1 9 List.mem_cons_self 2 (by decide) a6 e6)
      have h6 : ta a6 = some 132 := by have z := r2; rw [e6] at z; exact z
      have er : r1 = 132 := by have z := le1 a6 r1 hr1; rw [h6] at z; exact (Option.some.inj z).symm
      subst er
      have hz := s1.1 a6 132 hr1 (by decide) (v_iv (n_v vs 1)).toNat
      have z9 := f0; have z7 := f2
      rw [e9, e6] at z9; rw [e7, e6] at z7
      have z9 : ((a9 : Nat) : Int) = w_el ws a6 (v_iv (n_v vs 1)).toNat := z9
      have z7 : ((a7 : Nat) : Int) = w_el w1 a6 (v_iv (n_v vs 1)).toNat := z7
      rw [hz, ← z7] at z9
      rw [e7, e9, show a7 = a9 from by omega]
  refine ⟨(fun _ h => (by cases h)), [], trivial, ?_, (fun _ h => (by cases h))⟩
  rw [List.append_nil]
  exact List.forall_mem_cons.mpr ⟨⟨show (24 : Nat) < 100 from by decide, nf0⟩, (fun _ h => (by cases h))⟩
set_option maxHeartbeats 4000000 in
theorem vc_Ho_learned_4_2 (known_0o5 : Int) (f7 : known_0o5 ≠ 0) (kz_5_0 : 0 ≤ known_0o5 ∧ known_0o5 ≤ 1) : known_0o5 ≠ 0 := by
  first
    | omega
  
def o_Ho_learned_4 : or_T := (33, 11, [(0, (2, 0, 0, [12])), (1, (0, 0, 3, [])), (2, (2, 0, 0, [132])), (5, (2, 0, 0, [2])), (8, (2, 0, 0, [12])), (9, (0, 0, 3, [])), (10, (2, 0, 0, [2]))], [(24, [5, 10], []), (14, [10, 2, 1], []), (9, [2, 0], [1]), (24, [0, 8], []), (23, [9, 1], [0, 1, -1]), (23, [9, 1], [0, -1, 1]), (20, [8], [62, 0]), (20, [5], [50, 1, 0, 0, 7, 3, 2, 0, 0, 0, 0]), (102, [9], [281337537757184, 2000, 2001, 2002, 2003]), (23, [9, 1], [0, 1, -1]), (23, [9, 1], [0, -1, 1])], [], [], [(20, [0], [62, 0]), (20, [0, 1, 10], [62, 135]), (20, [10], [50, 1, 0, 0, 7, 3, 2, 0, 0, 0, 0])], [], [])
theorem oo_Ho_learned_4 {kA : Nat → ClassId} : or_ok PRD kA GG o_Ho_learned_4 := by
  refine or_mk fun A ta ws vs hD hth hl => ?_
  intro t0 r0 t1 k1 t2 r2 t5 r5 t8 r8 t9 k9 t10 r10 f0 f1 f2 f3 f4 f5 f6 f7 ta1 w1 le1 s1 f9 f10
  replace f0 := shm_5 f0
  replace f1 := shm_793 f1
  replace f2 := shm_215 f2
  replace f3 := shm_5 f3
  replace f4 := shm_7 f4
  replace f5 := shm_22 f5
  replace f6 := shm_1176 f6
  replace f7 := shm_2130 f7
  replace f9 := shm_7 f9
  replace f10 := shm_22 f10
  have q10 : n_v vs 10 = n_v vs 5 := f0.symm
  have q8 : n_v vs 8 = n_v vs 0 := f3.symm
  simp only [q10, q8] at f1 f6
  have cr_0_1 := fdq_325 hD hth r0
  have ad_2 : v_ad (n_v vs 2) = w_ar ws (n_v vs 0) 1 := congrArg v_ad f2
  have kz_5_0 := fdq_294 hD hth r5
  have nf0 : fc_1 PRD (20, [0], [62, 0]) ws (vs) := by
    refine ⟨nf_in hl rfl, sgq_1176 ?_⟩
    · show WQF 0 [n_v vs 0] ws
      have zw := f6
      first | rw [show n_v vs 8 = n_v vs 0 from (by first | exact f3 | exact f3.symm)] at zw | skip
      exact zw
  have nf1 : fc_1 PRD (20, [0, 1, 10], [62, 135]) ws (vs) := by
    refine ⟨nf_in hl rfl, sgq_2132 ?_⟩
    · show WQF 135 [n_v vs 0, n_v vs 1, n_v vs 10] ws
      first | rw [q10] | skip
      have zw := f6
      first | rw [show n_v vs 8 = n_v vs 0 from (by first | exact f3 | exact f3.symm)] at zw | skip
      exact wq_in (zw) (by omega) (by omega) ⟨rfl, rfl⟩ ⟨Or.inr (pO_of f2 f1), trivial⟩
  have nf2 : fc_1 PRD (20, [10], [50, 1, 0, 0, 7, 3, 2, 0, 0, 0, 0]) ws (vs) := by
    refine ⟨nf_in hl rfl, sgq_2130 ?_⟩
    · show w_fi ws (n_v vs 10) 0 ≠ 0
      rw [q10]
      exact vc_Ho_learned_4_2 (w_fi ws (n_v vs 5) 0) f7 kz_5_0
  refine ⟨(fun _ h => (by cases h)), [], trivial, ?_, (fun _ h => (by cases h))⟩
  rw [List.append_nil]
  exact List.forall_mem_cons.mpr ⟨⟨show (20 : Nat) < 100 from by decide, nf0⟩, List.forall_mem_cons.mpr ⟨⟨show (20 : Nat) < 100 from by decide, nf1⟩, List.forall_mem_cons.mpr ⟨⟨show (20 : Nat) < 100 from by decide, nf2⟩, (fun _ h => (by cases h))⟩⟩⟩
def n_Ho_learned_an : List an_T := []
def t_Ho_learned_ct : ct_L := [(76, 416, e_Fa_learn_f)]
set_option maxRecDepth 100000 in
theorem c_Ho_learned {l : Launch} {D : va_G} {kA : Nat → ClassId} (h_Fa_learn : ct_ok PRD l D kA GG y_Fa_learn z_Fa_learn e_Fa_learn) : ct_ok PRD l D kA GG y_Ho_learned z_Ho_learned e_Ho_learned := chk_all_ok (FT := [(13, 12, 0), (19, 12, 1), (407, 2, 0)]) (PT := []) (CT := t_Ho_learned_ct) (KT := []) (NT := []) (AN := n_Ho_learned_an) (OT := [o_Ho_learned_0, o_Ho_learned_1, o_Ho_learned_2, o_Ho_learned_3, o_Ho_learned_4]) 0 200 (List.forall_mem_cons.mpr ⟨oo_Ho_learned_0, List.forall_mem_cons.mpr ⟨oo_Ho_learned_1, List.forall_mem_cons.mpr ⟨oo_Ho_learned_2, List.forall_mem_cons.mpr ⟨oo_Ho_learned_3, List.forall_mem_cons.mpr ⟨oo_Ho_learned_4, List.forall_mem_nil _⟩⟩⟩⟩⟩) (by decide +kernel) ⟨List.forall_mem_cons.mpr ⟨gf_Ho_13, List.forall_mem_cons.mpr ⟨gf_Ho_19, List.forall_mem_cons.mpr ⟨gf_Ho_407, List.forall_mem_nil _⟩⟩⟩, List.forall_mem_nil _, List.forall_mem_cons.mpr ⟨cl_virtual (y := y_Fa_learn) (ci := 2) rfl rfl ⟨_, _, rfl⟩ (by decide +kernel) (cf_Fa_learn h_Fa_learn) wm_814 wm_7 wm_811 wm_812 wm_813 ⟨by decide, by decide, by decide +kernel⟩ (by decide), List.forall_mem_nil _⟩, List.forall_mem_nil _, List.forall_mem_nil _, GG_pl⟩ (by decide +kernel)

set_option maxHeartbeats 4000000 in
theorem vc_Re_readEdges_0_0 (next_0 : Int) (begin_0 : Int) (tail_0o1 : Int → Int) (head_0o1 : Int → Int) (nodes_0o1 : Int) (edges_0o1 : Int) (tape_0 : Int → Int) (open_0 : Int → Int) (nameLength_0o1 : Int → Int) (name_0o1 : Int → Int) (end_0 : Int) (kind_0 : Int) (number_0 : Int) (depth_0 : Int) (groups_0o1 : Int) (f6 : cRE (end_0) (next_0) (kind_0) (begin_0) (number_0) (depth_0) (nodes_0o1) (edges_0o1) (groups_0o1) (tape_0) (open_0) (nameLength_0o1) (name_0o1) (tail_0o1) (head_0o1)) (kz_0_5 : 0 ≤ end_0 ∧ end_0 ≤ 2000) (kz_0_6 : 0 ≤ next_0 ∧ next_0 ≤ 2000) (kz_0_7 : (-128) ≤ kind_0 ∧ kind_0 ≤ 127) (kz_0_8 : 0 ≤ begin_0 ∧ begin_0 ≤ 2000) (kz_0_9 : (-176) ≤ number_0 ∧ number_0 ≤ 1000000) (kz_0_11 : 0 ≤ depth_0 ∧ depth_0 ≤ 4) (kz_1_0 : 0 ≤ nodes_0o1 ∧ nodes_0o1 ≤ 24) (kz_1_1 : 0 ≤ edges_0o1 ∧ edges_0o1 ≤ 48) (kz_1_2 : 0 ≤ groups_0o1 ∧ groups_0o1 ≤ 8) : cUE (end_0) (next_0) (kind_0) (begin_0) (number_0) (depth_0) (tape_0) (open_0) := by
  exact cue_e ‹cRE _ _ _ _ _ _ _ _ _ _ _ _ _ _ _›
set_option maxHeartbeats 4000000 in
theorem vc_Re_readEdges_0_1 (next_0 : Int) (begin_0 : Int) (f0 : 1 * next_0 + ((-1) * begin_0 + 0) ≤ 8) (kz_0_6 : 0 ≤ next_0 ∧ next_0 ≤ 2000) (kz_0_8 : 0 ≤ begin_0 ∧ begin_0 ≤ 2000) : 1 * next_0 + ((-1) * begin_0 + 0) ≤ 8 := by
  first
    | omega
  
set_option maxHeartbeats 4000000 in
theorem vc_Re_readEdges_0_2 (next_0 : Int) (begin_0 : Int) (f1 : (-1) * next_0 + (1 * begin_0 + 0) ≤ 0) (kz_0_6 : 0 ≤ next_0 ∧ next_0 ≤ 2000) (kz_0_8 : 0 ≤ begin_0 ∧ begin_0 ≤ 2000) : (-1) * next_0 + (1 * begin_0 + 0) ≤ 0 := by
  first
    | omega
  
set_option maxHeartbeats 4000000 in
theorem vc_Re_readEdges_0_3 (near_0o1 : Int → Int) (tail_0o1 : Int → Int) (head_0o1 : Int → Int) (nodes_0o1 : Int) (edges_0o1 : Int) (f2 : GNB (nodes_0o1) (edges_0o1) (near_0o1) (tail_0o1) (head_0o1)) (kz_1_0 : 0 ≤ nodes_0o1 ∧ nodes_0o1 ≤ 24) (kz_1_1 : 0 ≤ edges_0o1 ∧ edges_0o1 ≤ 48) : GNB (nodes_0o1) (edges_0o1) (near_0o1) (tail_0o1) (head_0o1) := by
  first
    | assumption
  
set_option maxHeartbeats 4000000 in
theorem vc_Re_readEdges_0_4 (tail_0o1 : Int → Int) (head_0o1 : Int → Int) (nodes_0o1 : Int) (edges_0o1 : Int) (f3 : GKE (nodes_0o1) (edges_0o1) (tail_0o1) (head_0o1)) (kz_1_0 : 0 ≤ nodes_0o1 ∧ nodes_0o1 ≤ 24) (kz_1_1 : 0 ≤ edges_0o1 ∧ edges_0o1 ≤ 48) : GKE (nodes_0o1) (edges_0o1) (tail_0o1) (head_0o1) := by
  first
    | assumption
  
set_option maxHeartbeats 4000000 in
theorem vc_Re_readEdges_0_5 (end_0 : Int) (gx : Int) (kz_0_5 : 0 ≤ end_0 ∧ end_0 ≤ 2000) (ex2 : gx = end_0) : 1 * end_0 + ((-1) * gx + 0) ≤ 0 := by
  first
    | omega
  
set_option maxHeartbeats 4000000 in
theorem vc_Re_readEdges_0_6 (end_0 : Int) (gx : Int) (kz_0_5 : 0 ≤ end_0 ∧ end_0 ≤ 2000) (ex2 : gx = end_0) : (-1) * end_0 + (1 * gx + 0) ≤ 0 := by
  first
    | omega
  
set_option maxHeartbeats 4000000 in
theorem vc_Re_readEdges_0_7 (next_0 : Int) (begin_0 : Int) (tail_0o1 : Int → Int) (head_0o1 : Int → Int) (nodes_0o1 : Int) (edges_0o1 : Int) (tape_0 : Int → Int) (open_0 : Int → Int) (nameLength_0o1 : Int → Int) (name_0o1 : Int → Int) (end_0 : Int) (kind_0 : Int) (number_0 : Int) (depth_0 : Int) (groups_0o1 : Int) (f6 : cRE (end_0) (next_0) (kind_0) (begin_0) (number_0) (depth_0) (nodes_0o1) (edges_0o1) (groups_0o1) (tape_0) (open_0) (nameLength_0o1) (name_0o1) (tail_0o1) (head_0o1)) (kz_0_5 : 0 ≤ end_0 ∧ end_0 ≤ 2000) (kz_0_6 : 0 ≤ next_0 ∧ next_0 ≤ 2000) (kz_0_7 : (-128) ≤ kind_0 ∧ kind_0 ≤ 127) (kz_0_8 : 0 ≤ begin_0 ∧ begin_0 ≤ 2000) (kz_0_9 : (-176) ≤ number_0 ∧ number_0 ≤ 1000000) (kz_0_11 : 0 ≤ depth_0 ∧ depth_0 ≤ 4) (kz_1_0 : 0 ≤ nodes_0o1 ∧ nodes_0o1 ≤ 24) (kz_1_1 : 0 ≤ edges_0o1 ∧ edges_0o1 ≤ 48) (kz_1_2 : 0 ≤ groups_0o1 ∧ groups_0o1 ≤ 8) : CGT (end_0) (next_0) (begin_0) (nodes_0o1) (edges_0o1) (groups_0o1) (tape_0) (nameLength_0o1) (name_0o1) (tail_0o1) (head_0o1) := by
  exact cgt_e ‹cRE _ _ _ _ _ _ _ _ _ _ _ _ _ _ _›
def o_Re_readEdges_0 : or_T := (1, 3, [(0, (2, 0, 0, [8])), (1, (2, 0, 0, [164]))], [(20, [0, 0], [30, 8, 1, 1, 6, -1, 1, 8]), (20, [0, 0], [30, 0, -1, 1, 6, 1, 1, 8]), (20, [1], [60, 2, 3, 670, 0, 1, 14, 7, 8]), (20, [1], [60, 2, 2, 596, 0, 1, 7, 8]), (20, [0, 1], [60, 9, 6, 1060, 5, 6, 7, 8, 9, 11, 1000, 1001, 1002, 0, 10, 1004, 1003, 1007, 1008])], [], [(0, 0, 2000, [])], [(20, [0], [60, 6, 2, 1071, 5, 6, 7, 8, 9, 11, 0, 10]), (20, [0, 0], [30, 8, 1, 1, 6, -1, 1, 8]), (20, [0, 0], [30, 0, -1, 1, 6, 1, 1, 8]), (20, [1], [60, 2, 3, 670, 0, 1, 14, 7, 8]), (20, [1], [60, 2, 2, 596, 0, 1, 7, 8]), (20, [0, 3], [30, 0, 1, 1, 5, -1, 0, 0]), (20, [0, 3], [30, 0, -1, 1, 5, 1, 0, 0]), (20, [0, 1], [60, 6, 5, 1065, 5, 6, 8, 1000, 1001, 1002, 0, 1004, 1003, 1007, 1008])], [], [])
theorem oo_Re_readEdges_0 {kA : Nat → ClassId} : or_ok PRD kA GG o_Re_readEdges_0 := by
  refine or_mk fun A ta ws vs hD hth hl => ?_
  intro t0 r0 t1 r1 f0 f1 f2 f3 f6
  replace f0 := shm_1401 f0
  replace f1 := shm_1402 f1
  replace f2 := shm_825 f2
  replace f3 := shm_386 f3
  replace f6 := shm_2134 f6
  have kz_0_5 := fdq_207 hD hth r0
  have kz_0_6 := fdq_208 hD hth r0
  have kz_0_7 := fdq_297 hD hth r0
  have kz_0_8 := fdq_99 hD hth r0
  have kz_0_9 := fdq_296 hD hth r0
  have kz_0_11 := fdq_320 hD hth r0
  have kz_1_0 := fdq_73 hD hth r1
  have kz_1_1 := fdq_74 hD hth r1
  have kz_1_2 := fdq_206 hD hth r1
  obtain ⟨x, ex, hx⟩ := iv_ex (ta := ta) (lo := 0) (hi := 2000) (z := w_fi ws (n_v vs 0) 5) (by omega) (by omega) (by omega) (by omega)
  have ex2 : v_iv (Value.int x) = w_fi ws (n_v vs 0) 5 := ex
  have ex3 : 0 ≤ v_iv (Value.int x) ∧ v_iv (Value.int x) ≤ 2000 := tv_rng hx
  have e_0 : n_v (vs ++ [Value.int x]) 0 = n_v vs 0 := n_v_old (by rw [hl]; decide)
  have e_1 : n_v (vs ++ [Value.int x]) 1 = n_v vs 1 := n_v_old (by rw [hl]; decide)
  have e_3 : n_v (vs ++ [Value.int x]) 3 = Value.int x := n_v_new hl
  have nf0 : fc_1 PRD (20, [0], [60, 6, 2, 1071, 5, 6, 7, 8, 9, 11, 0, 10]) ws (vs ++ [Value.int x]) := by
    refine ⟨nf_inA hl rfl, sgq_2135 ?_⟩
    · show cUE (w_fi ws (n_v (vs ++ [Value.int x]) 0) 5) (w_fi ws (n_v (vs ++ [Value.int x]) 0) 6) (w_fi ws (n_v (vs ++ [Value.int x]) 0) 7) (w_fi ws (n_v (vs ++ [Value.int x]) 0) 8) (w_fi ws (n_v (vs ++ [Value.int x]) 0) 9) (w_fi ws (n_v (vs ++ [Value.int x]) 0) 11) (w_ei ws (w_ar ws (n_v (vs ++ [Value.int x]) 0) 0)) (w_ei ws (w_ar ws (n_v (vs ++ [Value.int x]) 0) 10))
      rw [e_0]
      exact vc_Re_readEdges_0_0 (w_fi ws (n_v vs 0) 6) (w_fi ws (n_v vs 0) 8) (w_ei ws (w_ar ws (n_v vs 1) 7)) (w_ei ws (w_ar ws (n_v vs 1) 8)) (w_fi ws (n_v vs 1) 0) (w_fi ws (n_v vs 1) 1) (w_ei ws (w_ar ws (n_v vs 0) 0)) (w_ei ws (w_ar ws (n_v vs 0) 10)) (w_ei ws (w_ar ws (n_v vs 1) 4)) (w_ei ws (w_ar ws (n_v vs 1) 3)) (w_fi ws (n_v vs 0) 5) (w_fi ws (n_v vs 0) 7) (w_fi ws (n_v vs 0) 9) (w_fi ws (n_v vs 0) 11) (w_fi ws (n_v vs 1) 2) f6 kz_0_5 kz_0_6 kz_0_7 kz_0_8 kz_0_9 kz_0_11 kz_1_0 kz_1_1 kz_1_2
  have nf1 : fc_1 PRD (20, [0, 0], [30, 8, 1, 1, 6, -1, 1, 8]) ws (vs ++ [Value.int x]) := by
    refine ⟨nf_inA hl rfl, sgq_1401 ?_⟩
    · show 1 * w_fi ws (n_v (vs ++ [Value.int x]) 0) 6 + ((-1) * w_fi ws (n_v (vs ++ [Value.int x]) 0) 8 + 0) ≤ 8
      rw [e_0]
      exact vc_Re_readEdges_0_1 (w_fi ws (n_v vs 0) 6) (w_fi ws (n_v vs 0) 8) f0 kz_0_6 kz_0_8
  have nf2 : fc_1 PRD (20, [0, 0], [30, 0, -1, 1, 6, 1, 1, 8]) ws (vs ++ [Value.int x]) := by
    refine ⟨nf_inA hl rfl, sgq_1402 ?_⟩
    · show (-1) * w_fi ws (n_v (vs ++ [Value.int x]) 0) 6 + (1 * w_fi ws (n_v (vs ++ [Value.int x]) 0) 8 + 0) ≤ 0
      rw [e_0]
      exact vc_Re_readEdges_0_2 (w_fi ws (n_v vs 0) 6) (w_fi ws (n_v vs 0) 8) f1 kz_0_6 kz_0_8
  have nf3 : fc_1 PRD (20, [1], [60, 2, 3, 670, 0, 1, 14, 7, 8]) ws (vs ++ [Value.int x]) := by
    refine ⟨nf_inA hl rfl, sgq_825 ?_⟩
    · show GNB (w_fi ws (n_v (vs ++ [Value.int x]) 1) 0) (w_fi ws (n_v (vs ++ [Value.int x]) 1) 1) (w_ei ws (w_ar ws (n_v (vs ++ [Value.int x]) 1) 14)) (w_ei ws (w_ar ws (n_v (vs ++ [Value.int x]) 1) 7)) (w_ei ws (w_ar ws (n_v (vs ++ [Value.int x]) 1) 8))
      rw [e_1]
      exact vc_Re_readEdges_0_3 (w_ei ws (w_ar ws (n_v vs 1) 14)) (w_ei ws (w_ar ws (n_v vs 1) 7)) (w_ei ws (w_ar ws (n_v vs 1) 8)) (w_fi ws (n_v vs 1) 0) (w_fi ws (n_v vs 1) 1) f2 kz_1_0 kz_1_1
  have nf4 : fc_1 PRD (20, [1], [60, 2, 2, 596, 0, 1, 7, 8]) ws (vs ++ [Value.int x]) := by
    refine ⟨nf_inA hl rfl, sgq_386 ?_⟩
    · show GKE (w_fi ws (n_v (vs ++ [Value.int x]) 1) 0) (w_fi ws (n_v (vs ++ [Value.int x]) 1) 1) (w_ei ws (w_ar ws (n_v (vs ++ [Value.int x]) 1) 7)) (w_ei ws (w_ar ws (n_v (vs ++ [Value.int x]) 1) 8))
      rw [e_1]
      exact vc_Re_readEdges_0_4 (w_ei ws (w_ar ws (n_v vs 1) 7)) (w_ei ws (w_ar ws (n_v vs 1) 8)) (w_fi ws (n_v vs 1) 0) (w_fi ws (n_v vs 1) 1) f3 kz_1_0 kz_1_1
  have nf5 : fc_1 PRD (20, [0, 3], [30, 0, 1, 1, 5, -1, 0, 0]) ws (vs ++ [Value.int x]) := by
    refine ⟨nf_inA hl rfl, sgq_1403 ?_⟩
    · show 1 * w_fi ws (n_v (vs ++ [Value.int x]) 0) 5 + ((-1) * v_iv (n_v (vs ++ [Value.int x]) 3) + 0) ≤ 0
      simp only [e_0, e_3]
      exact vc_Re_readEdges_0_5 (w_fi ws (n_v vs 0) 5) (v_iv (Value.int x)) kz_0_5 ex2
  have nf6 : fc_1 PRD (20, [0, 3], [30, 0, -1, 1, 5, 1, 0, 0]) ws (vs ++ [Value.int x]) := by
    refine ⟨nf_inA hl rfl, sgq_1404 ?_⟩
    · show (-1) * w_fi ws (n_v (vs ++ [Value.int x]) 0) 5 + (1 * v_iv (n_v (vs ++ [Value.int x]) 3) + 0) ≤ 0
      simp only [e_0, e_3]
      exact vc_Re_readEdges_0_6 (w_fi ws (n_v vs 0) 5) (v_iv (Value.int x)) kz_0_5 ex2
  have nf7 : fc_1 PRD (20, [0, 1], [60, 6, 5, 1065, 5, 6, 8, 1000, 1001, 1002, 0, 1004, 1003, 1007, 1008]) ws (vs ++ [Value.int x]) := by
    refine ⟨nf_inA hl rfl, sgq_1405 ?_⟩
    · show CGT (w_fi ws (n_v (vs ++ [Value.int x]) 0) 5) (w_fi ws (n_v (vs ++ [Value.int x]) 0) 6) (w_fi ws (n_v (vs ++ [Value.int x]) 0) 8) (w_fi ws (n_v (vs ++ [Value.int x]) 1) 0) (w_fi ws (n_v (vs ++ [Value.int x]) 1) 1) (w_fi ws (n_v (vs ++ [Value.int x]) 1) 2) (w_ei ws (w_ar ws (n_v (vs ++ [Value.int x]) 0) 0)) (w_ei ws (w_ar ws (n_v (vs ++ [Value.int x]) 1) 4)) (w_ei ws (w_ar ws (n_v (vs ++ [Value.int x]) 1) 3)) (w_ei ws (w_ar ws (n_v (vs ++ [Value.int x]) 1) 7)) (w_ei ws (w_ar ws (n_v (vs ++ [Value.int x]) 1) 8))
      simp only [e_0, e_1]
      exact vc_Re_readEdges_0_7 (w_fi ws (n_v vs 0) 6) (w_fi ws (n_v vs 0) 8) (w_ei ws (w_ar ws (n_v vs 1) 7)) (w_ei ws (w_ar ws (n_v vs 1) 8)) (w_fi ws (n_v vs 1) 0) (w_fi ws (n_v vs 1) 1) (w_ei ws (w_ar ws (n_v vs 0) 0)) (w_ei ws (w_ar ws (n_v vs 0) 10)) (w_ei ws (w_ar ws (n_v vs 1) 4)) (w_ei ws (w_ar ws (n_v vs 1) 3)) (w_fi ws (n_v vs 0) 5) (w_fi ws (n_v vs 0) 7) (w_fi ws (n_v vs 0) 9) (w_fi ws (n_v vs 0) 11) (w_fi ws (n_v vs 1) 2) f6 kz_0_5 kz_0_6 kz_0_7 kz_0_8 kz_0_9 kz_0_11 kz_1_0 kz_1_1 kz_1_2
  exact ⟨(fun _ h => (by cases h)), [Value.int x], ag_one hx, List.forall_mem_cons.mpr ⟨⟨show (20 : Nat) < 100 from by decide, nf0⟩, List.forall_mem_cons.mpr ⟨⟨show (20 : Nat) < 100 from by decide, nf1⟩, List.forall_mem_cons.mpr ⟨⟨show (20 : Nat) < 100 from by decide, nf2⟩, List.forall_mem_cons.mpr ⟨⟨show (20 : Nat) < 100 from by decide, nf3⟩, List.forall_mem_cons.mpr ⟨⟨show (20 : Nat) < 100 from by decide, nf4⟩, List.forall_mem_cons.mpr ⟨⟨show (20 : Nat) < 100 from by decide, nf5⟩, List.forall_mem_cons.mpr ⟨⟨show (20 : Nat) < 100 from by decide, nf6⟩, List.forall_mem_cons.mpr ⟨⟨show (20 : Nat) < 100 from by decide, nf7⟩, (fun _ h => (by cases h))⟩⟩⟩⟩⟩⟩⟩⟩, (fun _ h => (by cases h))⟩
set_option maxHeartbeats 4000000 in
theorem vc_Re_readEdges_1_0 (number_0 : Int) (gx : Int) (kz_0_9 : (-176) ≤ number_0 ∧ number_0 ≤ 1000000) (ex2 : gx = number_0) : 1 * number_0 + ((-1) * gx + 0) ≤ 0 := by
  first
    | omega
  
set_option maxHeartbeats 4000000 in
theorem vc_Re_readEdges_1_1 (number_0 : Int) (gx : Int) (kz_0_9 : (-176) ≤ number_0 ∧ number_0 ≤ 1000000) (ex2 : gx = number_0) : (-1) * number_0 + (1 * gx + 0) ≤ 0 := by
  first
    | omega
  
set_option maxHeartbeats 4000000 in
theorem vc_Re_readEdges_1_2 (next_0 : Int) (gy : Int) (kz_0_6 : 0 ≤ next_0 ∧ next_0 ≤ 2000) (ey2 : gy = next_0) : 1 * next_0 + ((-1) * gy + 0) ≤ 0 := by
  first
    | omega
  
set_option maxHeartbeats 4000000 in
theorem vc_Re_readEdges_1_3 (next_0 : Int) (gy : Int) (kz_0_6 : 0 ≤ next_0 ∧ next_0 ≤ 2000) (ey2 : gy = next_0) : (-1) * next_0 + (1 * gy + 0) ≤ 0 := by
  first
    | omega
  
set_option maxHeartbeats 4000000 in
theorem vc_Re_readEdges_1_4 (x2 : Int) (x3 : Int) (tape_0 : Int → Int) (open_0 : Int → Int) (end_0 : Int) (next_0 : Int) (kind_0 : Int) (begin_0 : Int) (number_0 : Int) (depth_0 : Int) (gy : Int) (k2 : 0 ≤ x2 ∧ x2 ≤ 2000) (k3 : 0 ≤ x3 ∧ x3 ≤ 2000) (f2 : cUE (end_0) (next_0) (kind_0) (begin_0) (number_0) (depth_0) (tape_0) (open_0)) (f5 : 1 * end_0 + ((-1) * x3 + 0) ≤ 0) (f6 : (-1) * end_0 + (1 * x3 + 0) ≤ 0) (f9 : 1 * next_0 + ((-1) * x2 + 0) ≤ 0) (f10 : (-1) * next_0 + (1 * x2 + 0) ≤ 0) (kz_0_5 : 0 ≤ end_0 ∧ end_0 ≤ 2000) (kz_0_6 : 0 ≤ next_0 ∧ next_0 ≤ 2000) (kz_0_7 : (-128) ≤ kind_0 ∧ kind_0 ≤ 127) (kz_0_8 : 0 ≤ begin_0 ∧ begin_0 ≤ 2000) (kz_0_9 : (-176) ≤ number_0 ∧ number_0 ≤ 1000000) (kz_0_11 : 0 ≤ depth_0 ∧ depth_0 ≤ 4) (ey2 : gy = next_0) : CLM (end_0) (next_0) := by
  exact clm_ue ‹cUE _ _ _ _ _ _ _ _› (by omega)
set_option maxHeartbeats 4000000 in
theorem vc_Re_readEdges_1_5 (x4 : Int) (edges_0o1 : Int) (tape_0 : Int → Int) (open_0 : Int → Int) (end_0 : Int) (next_0 : Int) (kind_0 : Int) (begin_0 : Int) (number_0 : Int) (depth_0 : Int) (tail_0o1 : Int → Int) (head_0o1 : Int → Int) (nodes_0o1 : Int) (nameLength_0o1 : Int → Int) (name_0o1 : Int → Int) (groups_0o1 : Int) (gy : Int) (k4 : 0 ≤ x4 ∧ x4 ≤ 23) (f2 : cUE (end_0) (next_0) (kind_0) (begin_0) (number_0) (depth_0) (tape_0) (open_0)) (f16 : CGM (end_0) (next_0) (begin_0) (nodes_0o1) (edges_0o1) (groups_0o1) (tape_0) (nameLength_0o1) (name_0o1) (tail_0o1) (head_0o1) (x4)) (kz_0_5 : 0 ≤ end_0 ∧ end_0 ≤ 2000) (kz_0_6 : 0 ≤ next_0 ∧ next_0 ≤ 2000) (kz_0_7 : (-128) ≤ kind_0 ∧ kind_0 ≤ 127) (kz_0_8 : 0 ≤ begin_0 ∧ begin_0 ≤ 2000) (kz_0_9 : (-176) ≤ number_0 ∧ number_0 ≤ 1000000) (kz_0_11 : 0 ≤ depth_0 ∧ depth_0 ≤ 4) (kz_1_0 : 0 ≤ nodes_0o1 ∧ nodes_0o1 ≤ 24) (kz_1_1 : 0 ≤ edges_0o1 ∧ edges_0o1 ≤ 48) (kz_1_2 : 0 ≤ groups_0o1 ∧ groups_0o1 ≤ 8) (ey2 : gy = next_0) : cG3 (end_0) (depth_0) (nodes_0o1) (edges_0o1) (groups_0o1) (tape_0) (open_0) (nameLength_0o1) (name_0o1) (tail_0o1) (head_0o1) (x4) (gy) := by
  exact m0_g ‹cUE _ _ _ _ _ _ _ _› ‹CGM _ _ _ _ _ _ _ _ _ _ _ _› (by omega) (by omega)
set_option maxHeartbeats 4000000 in
theorem vc_Re_readEdges_1_6 (x2 : Int) (next_0 : Int) (gy : Int) (k2 : 0 ≤ x2 ∧ x2 ≤ 2000) (f9 : 1 * next_0 + ((-1) * x2 + 0) ≤ 0) (f10 : (-1) * next_0 + (1 * x2 + 0) ≤ 0) (kz_0_6 : 0 ≤ next_0 ∧ next_0 ≤ 2000) (ey2 : gy = next_0) : 1 * x2 + ((-1) * gy + 0) ≤ 0 := by
  first
    | omega
  
def o_Re_readEdges_1 : or_T := (25, 7, [(0, (2, 0, 0, [8])), (1, (2, 0, 0, [164])), (2, (0, 0, 2000, [])), (3, (0, 0, 2000, [])), (4, (0, 0, 23, []))], [(20, [0], [60, 6, 2, 1071, 5, 6, 7, 8, 9, 11, 0, 10]), (20, [0, 3], [30, 0, 1, 1, 5, -1, 0, 0]), (20, [0, 3], [30, 0, -1, 1, 5, 1, 0, 0]), (20, [0, 2], [30, 0, 1, 1, 6, -1, 0, 0]), (20, [0, 2], [30, 0, -1, 1, 6, 1, 0, 0]), (20, [0, 1, 4], [60, 6, 5, 1066, 5, 6, 8, 1000, 1001, 1002, 0, 1004, 1003, 1007, 1008])], [], [(0, -2147483648, 1000000, []), (0, 0, 2000, [])], [(20, [0, 7], [30, 0, 1, 1, 9, -1, 0, 0]), (20, [0, 7], [30, 0, -1, 1, 9, 1, 0, 0]), (20, [0, 8], [30, 0, 1, 1, 6, -1, 0, 0]), (20, [0, 8], [30, 0, -1, 1, 6, 1, 0, 0]), (20, [0], [60, 2, 0, 1073, 5, 6]), (20, [0, 1, 4, 8], [60, 5, 6, 1042, 5, 11, 1000, 1001, 1002, 0, 10, 1004, 1003, 1007, 1008]), (20, [2, 8], [30, 0, 1, 0, 0, -1, 0, 0])], [], [])
theorem oo_Re_readEdges_1 {kA : Nat → ClassId} : or_ok PRD kA GG o_Re_readEdges_1 := by
  refine or_mk fun A ta ws vs hD hth hl => ?_
  intro t0 r0 t1 r1 t2 k2 t3 k3 t4 k4 f2 f5 f6 f9 f10 f16
  replace f2 := shm_2135 f2
  replace f5 := shm_1403 f5
  replace f6 := shm_1404 f6
  replace f9 := shm_1523 f9
  replace f10 := shm_1524 f10
  replace f16 := shm_1406 f16
  have kz_0_5 := fdq_207 hD hth r0
  have kz_0_6 := fdq_208 hD hth r0
  have kz_0_7 := fdq_297 hD hth r0
  have kz_0_8 := fdq_99 hD hth r0
  have kz_0_9 := fdq_296 hD hth r0
  have kz_0_11 := fdq_320 hD hth r0
  have kz_1_0 := fdq_73 hD hth r1
  have kz_1_1 := fdq_74 hD hth r1
  have kz_1_2 := fdq_206 hD hth r1
  obtain ⟨x, ex, hx⟩ := iv_ex (ta := ta) (lo := (-2147483648)) (hi := 1000000) (z := w_fi ws (n_v vs 0) 9) (by omega) (by omega) (by omega) (by omega)
  have ex2 : v_iv (Value.int x) = w_fi ws (n_v vs 0) 9 := ex
  have ex3 : (-2147483648) ≤ v_iv (Value.int x) ∧ v_iv (Value.int x) ≤ 1000000 := tv_rng hx
  obtain ⟨y, ey, hy⟩ := iv_ex (ta := ta) (lo := 0) (hi := 2000) (z := w_fi ws (n_v vs 0) 6) (by omega) (by omega) (by omega) (by omega)
  have ey2 : v_iv (Value.int y) = w_fi ws (n_v vs 0) 6 := ey
  have ey3 : 0 ≤ v_iv (Value.int y) ∧ v_iv (Value.int y) ≤ 2000 := tv_rng hy
  have e_0 : n_v (vs ++ [Value.int x, Value.int y]) 0 = n_v vs 0 := n_v_old (by rw [hl]; decide)
  have e_1 : n_v (vs ++ [Value.int x, Value.int y]) 1 = n_v vs 1 := n_v_old (by rw [hl]; decide)
  have e_2 : n_v (vs ++ [Value.int x, Value.int y]) 2 = n_v vs 2 := n_v_old (by rw [hl]; decide)
  have e_4 : n_v (vs ++ [Value.int x, Value.int y]) 4 = n_v vs 4 := n_v_old (by rw [hl]; decide)
  have e_7 : n_v (vs ++ [Value.int x, Value.int y]) 7 = Value.int x := n_v_new0 hl
  have e_8 : n_v (vs ++ [Value.int x, Value.int y]) 8 = Value.int y := n_v_new1 hl
  have nf0 : fc_1 PRD (20, [0, 7], [30, 0, 1, 1, 9, -1, 0, 0]) ws (vs ++ [Value.int x, Value.int y]) := by
    refine ⟨nf_inA hl rfl, sgq_1521 ?_⟩
    · show 1 * w_fi ws (n_v (vs ++ [Value.int x, Value.int y]) 0) 9 + ((-1) * v_iv (n_v (vs ++ [Value.int x, Value.int y]) 7) + 0) ≤ 0
      simp only [e_0, e_7]
      exact vc_Re_readEdges_1_0 (w_fi ws (n_v vs 0) 9) (v_iv (Value.int x)) kz_0_9 ex2
  have nf1 : fc_1 PRD (20, [0, 7], [30, 0, -1, 1, 9, 1, 0, 0]) ws (vs ++ [Value.int x, Value.int y]) := by
    refine ⟨nf_inA hl rfl, sgq_1522 ?_⟩
    · show (-1) * w_fi ws (n_v (vs ++ [Value.int x, Value.int y]) 0) 9 + (1 * v_iv (n_v (vs ++ [Value.int x, Value.int y]) 7) + 0) ≤ 0
      simp only [e_0, e_7]
      exact vc_Re_readEdges_1_1 (w_fi ws (n_v vs 0) 9) (v_iv (Value.int x)) kz_0_9 ex2
  have nf2 : fc_1 PRD (20, [0, 8], [30, 0, 1, 1, 6, -1, 0, 0]) ws (vs ++ [Value.int x, Value.int y]) := by
    refine ⟨nf_inA hl rfl, sgq_1523 ?_⟩
    · show 1 * w_fi ws (n_v (vs ++ [Value.int x, Value.int y]) 0) 6 + ((-1) * v_iv (n_v (vs ++ [Value.int x, Value.int y]) 8) + 0) ≤ 0
      simp only [e_0, e_8]
      exact vc_Re_readEdges_1_2 (w_fi ws (n_v vs 0) 6) (v_iv (Value.int y)) kz_0_6 ey2
  have nf3 : fc_1 PRD (20, [0, 8], [30, 0, -1, 1, 6, 1, 0, 0]) ws (vs ++ [Value.int x, Value.int y]) := by
    refine ⟨nf_inA hl rfl, sgq_1524 ?_⟩
    · show (-1) * w_fi ws (n_v (vs ++ [Value.int x, Value.int y]) 0) 6 + (1 * v_iv (n_v (vs ++ [Value.int x, Value.int y]) 8) + 0) ≤ 0
      simp only [e_0, e_8]
      exact vc_Re_readEdges_1_3 (w_fi ws (n_v vs 0) 6) (v_iv (Value.int y)) kz_0_6 ey2
  have nf4 : fc_1 PRD (20, [0], [60, 2, 0, 1073, 5, 6]) ws (vs ++ [Value.int x, Value.int y]) := by
    refine ⟨nf_inA hl rfl, sgq_1525 ?_⟩
    · show CLM (w_fi ws (n_v (vs ++ [Value.int x, Value.int y]) 0) 5) (w_fi ws (n_v (vs ++ [Value.int x, Value.int y]) 0) 6)
      rw [e_0]
      exact vc_Re_readEdges_1_4 (v_iv (n_v vs 2)) (v_iv (n_v vs 3)) (w_ei ws (w_ar ws (n_v vs 0) 0)) (w_ei ws (w_ar ws (n_v vs 0) 10)) (w_fi ws (n_v vs 0) 5) (w_fi ws (n_v vs 0) 6) (w_fi ws (n_v vs 0) 7) (w_fi ws (n_v vs 0) 8) (w_fi ws (n_v vs 0) 9) (w_fi ws (n_v vs 0) 11) (v_iv (Value.int y)) k2 k3 f2 f5 f6 f9 f10 kz_0_5 kz_0_6 kz_0_7 kz_0_8 kz_0_9 kz_0_11 ey2
  have nf5 : fc_1 PRD (20, [0, 1, 4, 8], [60, 5, 6, 1042, 5, 11, 1000, 1001, 1002, 0, 10, 1004, 1003, 1007, 1008]) ws (vs ++ [Value.int x, Value.int y]) := by
    refine ⟨nf_inA hl rfl, sgq_2136 ?_⟩
    · show cG3 (w_fi ws (n_v (vs ++ [Value.int x, Value.int y]) 0) 5) (w_fi ws (n_v (vs ++ [Value.int x, Value.int y]) 0) 11) (w_fi ws (n_v (vs ++ [Value.int x, Value.int y]) 1) 0) (w_fi ws (n_v (vs ++ [Value.int x, Value.int y]) 1) 1) (w_fi ws (n_v (vs ++ [Value.int x, Value.int y]) 1) 2) (w_ei ws (w_ar ws (n_v (vs ++ [Value.int x, Value.int y]) 0) 0)) (w_ei ws (w_ar ws (n_v (vs ++ [Value.int x, Value.int y]) 0) 10)) (w_ei ws (w_ar ws (n_v (vs ++ [Value.int x, Value.int y]) 1) 4)) (w_ei ws (w_ar ws (n_v (vs ++ [Value.int x, Value.int y]) 1) 3)) (w_ei ws (w_ar ws (n_v (vs ++ [Value.int x, Value.int y]) 1) 7)) (w_ei ws (w_ar ws (n_v (vs ++ [Value.int x, Value.int y]) 1) 8)) (v_iv (n_v (vs ++ [Value.int x, Value.int y]) 4)) (v_iv (n_v (vs ++ [Value.int x, Value.int y]) 8))
      simp only [e_0, e_1, e_4, e_8]
      exact vc_Re_readEdges_1_5 (v_iv (n_v vs 4)) (w_fi ws (n_v vs 1) 1) (w_ei ws (w_ar ws (n_v vs 0) 0)) (w_ei ws (w_ar ws (n_v vs 0) 10)) (w_fi ws (n_v vs 0) 5) (w_fi ws (n_v vs 0) 6) (w_fi ws (n_v vs 0) 7) (w_fi ws (n_v vs 0) 8) (w_fi ws (n_v vs 0) 9) (w_fi ws (n_v vs 0) 11) (w_ei ws (w_ar ws (n_v vs 1) 7)) (w_ei ws (w_ar ws (n_v vs 1) 8)) (w_fi ws (n_v vs 1) 0) (w_ei ws (w_ar ws (n_v vs 1) 4)) (w_ei ws (w_ar ws (n_v vs 1) 3)) (w_fi ws (n_v vs 1) 2) (v_iv (Value.int y)) k4 f2 f16 kz_0_5 kz_0_6 kz_0_7 kz_0_8 kz_0_9 kz_0_11 kz_1_0 kz_1_1 kz_1_2 ey2
  have nf6 : fc_1 PRD (20, [2, 8], [30, 0, 1, 0, 0, -1, 0, 0]) ws (vs ++ [Value.int x, Value.int y]) := by
    refine ⟨nf_inA hl rfl, sgq_201 ?_⟩
    · show 1 * v_iv (n_v (vs ++ [Value.int x, Value.int y]) 2) + ((-1) * v_iv (n_v (vs ++ [Value.int x, Value.int y]) 8) + 0) ≤ 0
      simp only [e_2, e_8]
      exact vc_Re_readEdges_1_6 (v_iv (n_v vs 2)) (w_fi ws (n_v vs 0) 6) (v_iv (Value.int y)) k2 f9 f10 kz_0_6 ey2
  exact ⟨(fun _ h => (by cases h)), [Value.int x, Value.int y], ag_two hx hy, List.forall_mem_cons.mpr ⟨⟨show (20 : Nat) < 100 from by decide, nf0⟩, List.forall_mem_cons.mpr ⟨⟨show (20 : Nat) < 100 from by decide, nf1⟩, List.forall_mem_cons.mpr ⟨⟨show (20 : Nat) < 100 from by decide, nf2⟩, List.forall_mem_cons.mpr ⟨⟨show (20 : Nat) < 100 from by decide, nf3⟩, List.forall_mem_cons.mpr ⟨⟨show (20 : Nat) < 100 from by decide, nf4⟩, List.forall_mem_cons.mpr ⟨⟨show (20 : Nat) < 100 from by decide, nf5⟩, List.forall_mem_cons.mpr ⟨⟨show (20 : Nat) < 100 from by decide, nf6⟩, (fun _ h => (by cases h))⟩⟩⟩⟩⟩⟩⟩, (fun _ h => (by cases h))⟩
set_option maxHeartbeats 4000000 in
theorem vc_Re_readEdges_2_1 (x4 : Int) (x5 : Int) (x7 : Int) (x9 : Int) (kind_0 : Int) (nodes_0o1 : Int) (number_0 : Int) (next_0 : Int) (begin_0 : Int) (k4 : 0 ≤ x4 ∧ x4 ≤ 23) (k5 : (-1) ≤ x5 ∧ x5 ≤ (-1)) (k7 : (-2147483648) ≤ x7 ∧ x7 ≤ 1000000) (k9 : 45 ≤ x9 ∧ x9 ≤ 45) (g2 : x9 = kind_0) (f11 : (x4 = (-1)) ∨ ((0 ≤ x4) ∧ ((x4 + 1) ≤ nodes_0o1))) (f12 : (1 * kind_0 + 0 ≤ 3) ∨ (1 * number_0 + ((-1) * x7 + 0) ≤ 0)) (f13 : (1 * kind_0 + 0 ≤ 3) ∨ ((-1) * number_0 + (1 * x7 + 0) ≤ 0)) (f14 : ((-1) * kind_0 + 0 ≤ (-3)) ∨ (1 * next_0 + ((-1) * begin_0 + (2000 * kind_0 + 0)) ≤ 4008)) (f15 : 1 * begin_0 + ((-1) * next_0 + 0) ≤ 0) (f19 : x4 ≠ x5) (kz_0_6 : 0 ≤ next_0 ∧ next_0 ≤ 2000) (kz_0_7 : (-128) ≤ kind_0 ∧ kind_0 ≤ 127) (kz_0_8 : 0 ≤ begin_0 ∧ begin_0 ≤ 2000) (kz_0_9 : (-176) ≤ number_0 ∧ number_0 ≤ 1000000) (kz_1_0 : 0 ≤ nodes_0o1 ∧ nodes_0o1 ≤ 24) : (0 ≤ x4) ∧ ((x4 + 1) ≤ nodes_0o1) := by
  first
    | omega
  
set_option maxHeartbeats 4000000 in
theorem vc_Re_readEdges_2_2 (x4 : Int) (x6 : Int) (x8 : Int) (x9 : Int) (edges_0o1 : Int) (kind_0 : Int) (tape_0 : Int → Int) (open_0 : Int → Int) (nameLength_0o1 : Int → Int) (name_0o1 : Int → Int) (tail_0o1 : Int → Int) (head_0o1 : Int → Int) (end_0 : Int) (depth_0 : Int) (nodes_0o1 : Int) (groups_0o1 : Int) (number_0 : Int) (next_0 : Int) (begin_0 : Int) (k4 : 0 ≤ x4 ∧ x4 ≤ 23) (k6 : 0 ≤ x6 ∧ x6 ≤ 48) (k8 : 0 ≤ x8 ∧ x8 ≤ 2000) (k9 : 45 ≤ x9 ∧ x9 ≤ 45) (g0 : x6 = edges_0o1) (g2 : x9 = kind_0) (f3 : cG3 (end_0) (depth_0) (nodes_0o1) (edges_0o1) (groups_0o1) (tape_0) (open_0) (nameLength_0o1) (name_0o1) (tail_0o1) (head_0o1) (x4) (x8)) (f16 : TKC (end_0) (next_0) (kind_0) (begin_0) (number_0) (tape_0) (x8)) (kz_0_5 : 0 ≤ end_0 ∧ end_0 ≤ 2000) (kz_0_6 : 0 ≤ next_0 ∧ next_0 ≤ 2000) (kz_0_7 : (-128) ≤ kind_0 ∧ kind_0 ≤ 127) (kz_0_8 : 0 ≤ begin_0 ∧ begin_0 ≤ 2000) (kz_0_9 : (-176) ≤ number_0 ∧ number_0 ≤ 1000000) (kz_0_11 : 0 ≤ depth_0 ∧ depth_0 ≤ 4) (kz_1_0 : 0 ≤ nodes_0o1 ∧ nodes_0o1 ≤ 24) (kz_1_1 : 0 ≤ edges_0o1 ∧ edges_0o1 ≤ 48) (kz_1_2 : 0 ≤ groups_0o1 ∧ groups_0o1 ≤ 8) : cLE (end_0) (next_0) (kind_0) (begin_0) (number_0) (depth_0) (nodes_0o1) (edges_0o1) (groups_0o1) (tape_0) (open_0) (nameLength_0o1) (name_0o1) (tail_0o1) (head_0o1) (x4) := by
  first | subst g0 | skip
  first | subst g2 | skip
  first
    | exact le_3 ‹TKC _ _ _ _ _ _ _› ‹cG3 _ _ _ _ _ _ _ _ _ _ _ _ _› (by omega)
    | exact le_8 ‹TKC _ _ _ _ _ _ _› ‹cG8 _ _ _ _ _ _ _ _ _ _ _ _ _›
set_option maxHeartbeats 4000000 in
theorem vc_Re_readEdges_2_3 (x2 : Int) (x8 : Int) (next_0 : Int) (k2 : 0 ≤ x2 ∧ x2 ≤ 2000) (k8 : 0 ≤ x8 ∧ x8 ≤ 2000) (f4 : 1 * x2 + ((-1) * x8 + 0) ≤ 0) (f17 : 1 * x8 + ((-1) * next_0 + 0) ≤ 0) (kz_0_6 : 0 ≤ next_0 ∧ next_0 ≤ 2000) : 1 * x2 + ((-1) * next_0 + 0) ≤ 0 := by
  first
    | omega
  
set_option maxHeartbeats 4000000 in
theorem vc_Re_readEdges_2_4 (x6 : Int) (x11 : Int) (edges_0o1 : Int) (k6 : 0 ≤ x6 ∧ x6 ≤ 48) (k11 : 0 ≤ x11 ∧ x11 ≤ 0) (g0 : x6 = edges_0o1) (kz_1_1 : 0 ≤ edges_0o1 ∧ edges_0o1 ≤ 48) : x11 ≤ edges_0o1 := by
  first
    | omega
  
def o_Re_readEdges_2 : or_T := (54, 12, [(0, (2, 0, 0, [8])), (1, (2, 0, 0, [164])), (2, (0, 0, 2000, [])), (4, (0, 0, 23, [])), (5, (0, -1, -1, [])), (6, (0, 0, 48, [])), (7, (0, -2147483648, 1000000, [])), (8, (0, 0, 2000, [])), (9, (0, 45, 45, [])), (11, (0, 0, 0, []))], [(9, [6, 1], [1]), (9, [9, 0], [7]), (20, [0, 1, 4, 8], [60, 5, 6, 1042, 5, 11, 1000, 1001, 1002, 0, 10, 1004, 1003, 1007, 1008]), (20, [2, 8], [30, 0, 1, 0, 0, -1, 0, 0]), (20, [4, 1], [50, 1, 0, 1000, 3, 6, 1, 2, 1, 0, 0, -1, 2, 6, 0, 2, 0, 0, 1, 0, 0, 6, 4, 2, 1, 0, 0, 1, 2, 1, 0]), (20, [0, 0, 7], [31, 1, 3, 1, 1, 7, 0, 1, 1, 9, -1, 0, 0]), (20, [0, 0, 7], [31, 1, 3, 1, 1, 7, 0, -1, 1, 9, 1, 0, 0]), (20, [0, 0, 0, 0], [31, 1, -3, -1, 1, 7, 4008, 1, 1, 6, -1, 1, 8, 2000, 1, 7]), (20, [0, 0], [30, 0, 1, 1, 8, -1, 1, 6]), (20, [0, 8], [60, 5, 1, 1072, 5, 6, 7, 8, 9, 0]), (20, [8, 0], [30, 0, 1, 0, 0, -1, 1, 6]), (102, [8], [0, 8006, 8007, 8008, 8009]), (7, [4, 5], [1])], [], [], [(24, [1, 1], []), (20, [4, 1], [50, 1, 0, 1000, 2, 6, 0, 2, 0, 0, 1, 0, 0, 6, 4, 2, 1, 0, 0, 1, 2, 1, 0]), (20, [0, 1, 4], [60, 9, 6, 1061, 5, 6, 7, 8, 9, 11, 1000, 1001, 1002, 0, 10, 1004, 1003, 1007, 1008]), (20, [2, 0], [30, 0, 1, 0, 0, -1, 1, 6]), (20, [11, 1], [50, 1, 0, 1001, 0, 2, 1, 0, 2, 1, 1]), (24, [0, 0], [])], [], [])
theorem oo_Re_readEdges_2 {kA : Nat → ClassId} : or_ok PRD kA GG o_Re_readEdges_2 := by
  refine or_mk fun A ta ws vs hD hth hl => ?_
  intro t0 r0 t1 r1 t2 k2 t4 k4 t5 k5 t6 k6 t7 k7 t8 k8 t9 k9 t11 k11 f0 f2 f3 f4 f11 f12 f13 f14 f15 f16 f17 ta1 w1 le1 s1 f19
  replace f0 := shm_215 f0
  replace f2 := shm_198 f2
  have g0 : v_iv (n_v vs 6) = w_fi ws (n_v vs 1) 1 := congrArg v_iv f0
  have g2 : v_iv (n_v vs 9) = w_fi ws (n_v vs 0) 7 := congrArg v_iv f2
  have kz_0_5 := fdq_207 hD hth r0
  have kz_0_6 := fdq_208 hD hth r0
  have kz_0_7 := fdq_297 hD hth r0
  have kz_0_8 := fdq_99 hD hth r0
  have kz_0_9 := fdq_296 hD hth r0
  have kz_0_11 := fdq_320 hD hth r0
  have kz_1_0 := fdq_73 hD hth r1
  have kz_1_1 := fdq_74 hD hth r1
  have kz_1_2 := fdq_206 hD hth r1
  have nf0 : fc_1 PRD (24, [1, 1], []) ws (vs) := by
    refine ⟨nf_in hl rfl, sgq_1 ?_⟩
    · show n_v vs 1 = n_v vs 1
      first | rfl | simp only [true_and]
  have nf1 : fc_1 PRD (20, [4, 1], [50, 1, 0, 1000, 2, 6, 0, 2, 0, 0, 1, 0, 0, 6, 4, 2, 1, 0, 0, 1, 2, 1, 0]) ws (vs) := ⟨nf_in hl rfl, sgq_416 (vc_Re_readEdges_2_1 (v_iv (n_v vs 4)) (v_iv (n_v vs 5)) (v_iv (n_v vs 7)) (v_iv (n_v vs 9)) (w_fi ws (n_v vs 0) 7) (w_fi ws (n_v vs 1) 0) (w_fi ws (n_v vs 0) 9) (w_fi ws (n_v vs 0) 6) (w_fi ws (n_v vs 0) 8) k4 k5 k7 k9 g2 (shm_847 f11) (shm_1528 f12) (shm_1529 f13) (shm_1530 f14) (shm_1531 f15) (shm_40 f19) kz_0_6 kz_0_7 kz_0_8 kz_0_9 kz_1_0)⟩
  have nf2 : fc_1 PRD (20, [0, 1, 4], [60, 9, 6, 1061, 5, 6, 7, 8, 9, 11, 1000, 1001, 1002, 0, 10, 1004, 1003, 1007, 1008]) ws (vs) := ⟨nf_in hl rfl, sgq_2137 (vc_Re_readEdges_2_2 (v_iv (n_v vs 4)) (v_iv (n_v vs 6)) (v_iv (n_v vs 8)) (v_iv (n_v vs 9)) (w_fi ws (n_v vs 1) 1) (w_fi ws (n_v vs 0) 7) (w_ei ws (w_ar ws (n_v vs 0) 0)) (w_ei ws (w_ar ws (n_v vs 0) 10)) (w_ei ws (w_ar ws (n_v vs 1) 4)) (w_ei ws (w_ar ws (n_v vs 1) 3)) (w_ei ws (w_ar ws (n_v vs 1) 7)) (w_ei ws (w_ar ws (n_v vs 1) 8)) (w_fi ws (n_v vs 0) 5) (w_fi ws (n_v vs 0) 11) (w_fi ws (n_v vs 1) 0) (w_fi ws (n_v vs 1) 2) (w_fi ws (n_v vs 0) 9) (w_fi ws (n_v vs 0) 6) (w_fi ws (n_v vs 0) 8) k4 k6 k8 k9 g0 g2 (shm_2136 f3) (shm_1532 f16) kz_0_5 kz_0_6 kz_0_7 kz_0_8 kz_0_9 kz_0_11 kz_1_0 kz_1_1 kz_1_2)⟩
  have nf3 : fc_1 PRD (20, [2, 0], [30, 0, 1, 0, 0, -1, 1, 6]) ws (vs) := ⟨nf_in hl rfl, sgq_1527 (vc_Re_readEdges_2_3 (v_iv (n_v vs 2)) (v_iv (n_v vs 8)) (w_fi ws (n_v vs 0) 6) k2 k8 (shm_201 f4) (shm_1527 f17) kz_0_6)⟩
  have nf4 : fc_1 PRD (20, [11, 1], [50, 1, 0, 1001, 0, 2, 1, 0, 2, 1, 1]) ws (vs) := ⟨nf_in hl rfl, sgq_483 (vc_Re_readEdges_2_4 (v_iv (n_v vs 6)) (v_iv (n_v vs 11)) (w_fi ws (n_v vs 1) 1) k6 k11 g0 kz_1_1)⟩
  have nf5 : fc_1 PRD (24, [0, 0], []) ws (vs) := by
    refine ⟨nf_in hl rfl, sgq_1 ?_⟩
    · show n_v vs 0 = n_v vs 0
      first | rfl | simp only [true_and]
  refine ⟨(fun _ h => (by cases h)), [], trivial, ?_, (fun _ h => (by cases h))⟩
  rw [List.append_nil]
  exact List.forall_mem_cons.mpr ⟨⟨show (24 : Nat) < 100 from by decide, nf0⟩, List.forall_mem_cons.mpr ⟨⟨show (20 : Nat) < 100 from by decide, nf1⟩, List.forall_mem_cons.mpr ⟨⟨show (20 : Nat) < 100 from by decide, nf2⟩, List.forall_mem_cons.mpr ⟨⟨show (20 : Nat) < 100 from by decide, nf3⟩, List.forall_mem_cons.mpr ⟨⟨show (20 : Nat) < 100 from by decide, nf4⟩, List.forall_mem_cons.mpr ⟨⟨show (24 : Nat) < 100 from by decide, nf5⟩, (fun _ h => (by cases h))⟩⟩⟩⟩⟩⟩
set_option maxHeartbeats 4000000 in
theorem vc_Re_readEdges_3_1 (x4 : Int) (x5 : Int) (x7 : Int) (x9 : Int) (kind_0 : Int) (nodes_0o1 : Int) (number_0 : Int) (next_0 : Int) (begin_0 : Int) (k4 : 0 ≤ x4 ∧ x4 ≤ 23) (k5 : (-1) ≤ x5 ∧ x5 ≤ (-1)) (k7 : (-2147483648) ≤ x7 ∧ x7 ≤ 1000000) (k9 : 62 ≤ x9 ∧ x9 ≤ 62) (g2 : x9 = kind_0) (f12 : (x4 = (-1)) ∨ ((0 ≤ x4) ∧ ((x4 + 1) ≤ nodes_0o1))) (f13 : (1 * kind_0 + 0 ≤ 3) ∨ (1 * number_0 + ((-1) * x7 + 0) ≤ 0)) (f14 : (1 * kind_0 + 0 ≤ 3) ∨ ((-1) * number_0 + (1 * x7 + 0) ≤ 0)) (f15 : ((-1) * kind_0 + 0 ≤ (-3)) ∨ (1 * next_0 + ((-1) * begin_0 + (2000 * kind_0 + 0)) ≤ 4008)) (f16 : 1 * begin_0 + ((-1) * next_0 + 0) ≤ 0) (f20 : x4 ≠ x5) (kz_0_6 : 0 ≤ next_0 ∧ next_0 ≤ 2000) (kz_0_7 : (-128) ≤ kind_0 ∧ kind_0 ≤ 127) (kz_0_8 : 0 ≤ begin_0 ∧ begin_0 ≤ 2000) (kz_0_9 : (-176) ≤ number_0 ∧ number_0 ≤ 1000000) (kz_1_0 : 0 ≤ nodes_0o1 ∧ nodes_0o1 ≤ 24) : (0 ≤ x4) ∧ ((x4 + 1) ≤ nodes_0o1) := by
  first
    | omega
  
set_option maxHeartbeats 4000000 in
theorem vc_Re_readEdges_3_2 (x4 : Int) (x6 : Int) (x8 : Int) (x9 : Int) (edges_0o1 : Int) (kind_0 : Int) (tape_0 : Int → Int) (open_0 : Int → Int) (nameLength_0o1 : Int → Int) (name_0o1 : Int → Int) (tail_0o1 : Int → Int) (head_0o1 : Int → Int) (end_0 : Int) (depth_0 : Int) (nodes_0o1 : Int) (groups_0o1 : Int) (number_0 : Int) (next_0 : Int) (begin_0 : Int) (k4 : 0 ≤ x4 ∧ x4 ≤ 23) (k6 : 0 ≤ x6 ∧ x6 ≤ 48) (k8 : 0 ≤ x8 ∧ x8 ≤ 2000) (k9 : 62 ≤ x9 ∧ x9 ≤ 62) (g0 : x6 = edges_0o1) (g2 : x9 = kind_0) (f4 : cG3 (end_0) (depth_0) (nodes_0o1) (edges_0o1) (groups_0o1) (tape_0) (open_0) (nameLength_0o1) (name_0o1) (tail_0o1) (head_0o1) (x4) (x8)) (f17 : TKC (end_0) (next_0) (kind_0) (begin_0) (number_0) (tape_0) (x8)) (kz_0_5 : 0 ≤ end_0 ∧ end_0 ≤ 2000) (kz_0_6 : 0 ≤ next_0 ∧ next_0 ≤ 2000) (kz_0_7 : (-128) ≤ kind_0 ∧ kind_0 ≤ 127) (kz_0_8 : 0 ≤ begin_0 ∧ begin_0 ≤ 2000) (kz_0_9 : (-176) ≤ number_0 ∧ number_0 ≤ 1000000) (kz_0_11 : 0 ≤ depth_0 ∧ depth_0 ≤ 4) (kz_1_0 : 0 ≤ nodes_0o1 ∧ nodes_0o1 ≤ 24) (kz_1_1 : 0 ≤ edges_0o1 ∧ edges_0o1 ≤ 48) (kz_1_2 : 0 ≤ groups_0o1 ∧ groups_0o1 ≤ 8) : cLE (end_0) (next_0) (kind_0) (begin_0) (number_0) (depth_0) (nodes_0o1) (edges_0o1) (groups_0o1) (tape_0) (open_0) (nameLength_0o1) (name_0o1) (tail_0o1) (head_0o1) (x4) := by
  first | subst g0 | skip
  first | subst g2 | skip
  first
    | exact le_3 ‹TKC _ _ _ _ _ _ _› ‹cG3 _ _ _ _ _ _ _ _ _ _ _ _ _› (by omega)
    | exact le_8 ‹TKC _ _ _ _ _ _ _› ‹cG8 _ _ _ _ _ _ _ _ _ _ _ _ _›
set_option maxHeartbeats 4000000 in
theorem vc_Re_readEdges_3_3 (x2 : Int) (x8 : Int) (next_0 : Int) (k2 : 0 ≤ x2 ∧ x2 ≤ 2000) (k8 : 0 ≤ x8 ∧ x8 ≤ 2000) (f5 : 1 * x2 + ((-1) * x8 + 0) ≤ 0) (f18 : 1 * x8 + ((-1) * next_0 + 0) ≤ 0) (kz_0_6 : 0 ≤ next_0 ∧ next_0 ≤ 2000) : 1 * x2 + ((-1) * next_0 + 0) ≤ 0 := by
  first
    | omega
  
set_option maxHeartbeats 4000000 in
theorem vc_Re_readEdges_3_4 (x6 : Int) (x12 : Int) (edges_0o1 : Int) (k6 : 0 ≤ x6 ∧ x6 ≤ 48) (k12 : 0 ≤ x12 ∧ x12 ≤ 0) (g0 : x6 = edges_0o1) (kz_1_1 : 0 ≤ edges_0o1 ∧ edges_0o1 ≤ 48) : x12 ≤ edges_0o1 := by
  first
    | omega
  
def o_Re_readEdges_3 : or_T := (54, 13, [(0, (2, 0, 0, [8])), (1, (2, 0, 0, [164])), (2, (0, 0, 2000, [])), (4, (0, 0, 23, [])), (5, (0, -1, -1, [])), (6, (0, 0, 48, [])), (7, (0, -2147483648, 1000000, [])), (8, (0, 0, 2000, [])), (9, (0, 62, 62, [])), (12, (0, 0, 0, []))], [(9, [6, 1], [1]), (9, [9, 0], [7]), (20, [0, 1, 4, 8], [60, 5, 6, 1042, 5, 11, 1000, 1001, 1002, 0, 10, 1004, 1003, 1007, 1008]), (20, [2, 8], [30, 0, 1, 0, 0, -1, 0, 0]), (20, [4, 1], [50, 1, 0, 1000, 3, 6, 1, 2, 1, 0, 0, -1, 2, 6, 0, 2, 0, 0, 1, 0, 0, 6, 4, 2, 1, 0, 0, 1, 2, 1, 0]), (20, [0, 0, 7], [31, 1, 3, 1, 1, 7, 0, 1, 1, 9, -1, 0, 0]), (20, [0, 0, 7], [31, 1, 3, 1, 1, 7, 0, -1, 1, 9, 1, 0, 0]), (20, [0, 0, 0, 0], [31, 1, -3, -1, 1, 7, 4008, 1, 1, 6, -1, 1, 8, 2000, 1, 7]), (20, [0, 0], [30, 0, 1, 1, 8, -1, 1, 6]), (20, [0, 8], [60, 5, 1, 1072, 5, 6, 7, 8, 9, 0]), (20, [8, 0], [30, 0, 1, 0, 0, -1, 1, 6]), (102, [8], [0, 8006, 8007, 8008, 8009]), (7, [4, 5], [1])], [], [], [(24, [1, 1], []), (20, [4, 1], [50, 1, 0, 1000, 2, 6, 0, 2, 0, 0, 1, 0, 0, 6, 4, 2, 1, 0, 0, 1, 2, 1, 0]), (20, [0, 1, 4], [60, 9, 6, 1061, 5, 6, 7, 8, 9, 11, 1000, 1001, 1002, 0, 10, 1004, 1003, 1007, 1008]), (20, [2, 0], [30, 0, 1, 0, 0, -1, 1, 6]), (20, [12, 1], [50, 1, 0, 1001, 0, 2, 1, 0, 2, 1, 1]), (24, [0, 0], [])], [], [])
theorem oo_Re_readEdges_3 {kA : Nat → ClassId} : or_ok PRD kA GG o_Re_readEdges_3 := by
  refine or_mk fun A ta ws vs hD hth hl => ?_
  intro t0 r0 t1 r1 t2 k2 t4 k4 t5 k5 t6 k6 t7 k7 t8 k8 t9 k9 t12 k12 f0 f2 f4 f5 f12 f13 f14 f15 f16 f17 f18 ta1 w1 le1 s1 f20
  replace f0 := shm_215 f0
  replace f2 := shm_198 f2
  have g0 : v_iv (n_v vs 6) = w_fi ws (n_v vs 1) 1 := congrArg v_iv f0
  have g2 : v_iv (n_v vs 9) = w_fi ws (n_v vs 0) 7 := congrArg v_iv f2
  have kz_0_5 := fdq_207 hD hth r0
  have kz_0_6 := fdq_208 hD hth r0
  have kz_0_7 := fdq_297 hD hth r0
  have kz_0_8 := fdq_99 hD hth r0
  have kz_0_9 := fdq_296 hD hth r0
  have kz_0_11 := fdq_320 hD hth r0
  have kz_1_0 := fdq_73 hD hth r1
  have kz_1_1 := fdq_74 hD hth r1
  have kz_1_2 := fdq_206 hD hth r1
  have nf0 : fc_1 PRD (24, [1, 1], []) ws (vs) := by
    refine ⟨nf_in hl rfl, sgq_1 ?_⟩
    · show n_v vs 1 = n_v vs 1
      first | rfl | simp only [true_and]
  have nf1 : fc_1 PRD (20, [4, 1], [50, 1, 0, 1000, 2, 6, 0, 2, 0, 0, 1, 0, 0, 6, 4, 2, 1, 0, 0, 1, 2, 1, 0]) ws (vs) := ⟨nf_in hl rfl, sgq_416 (vc_Re_readEdges_3_1 (v_iv (n_v vs 4)) (v_iv (n_v vs 5)) (v_iv (n_v vs 7)) (v_iv (n_v vs 9)) (w_fi ws (n_v vs 0) 7) (w_fi ws (n_v vs 1) 0) (w_fi ws (n_v vs 0) 9) (w_fi ws (n_v vs 0) 6) (w_fi ws (n_v vs 0) 8) k4 k5 k7 k9 g2 (shm_847 f12) (shm_1528 f13) (shm_1529 f14) (shm_1530 f15) (shm_1531 f16) (shm_40 f20) kz_0_6 kz_0_7 kz_0_8 kz_0_9 kz_1_0)⟩
  have nf2 : fc_1 PRD (20, [0, 1, 4], [60, 9, 6, 1061, 5, 6, 7, 8, 9, 11, 1000, 1001, 1002, 0, 10, 1004, 1003, 1007, 1008]) ws (vs) := ⟨nf_in hl rfl, sgq_2137 (vc_Re_readEdges_3_2 (v_iv (n_v vs 4)) (v_iv (n_v vs 6)) (v_iv (n_v vs 8)) (v_iv (n_v vs 9)) (w_fi ws (n_v vs 1) 1) (w_fi ws (n_v vs 0) 7) (w_ei ws (w_ar ws (n_v vs 0) 0)) (w_ei ws (w_ar ws (n_v vs 0) 10)) (w_ei ws (w_ar ws (n_v vs 1) 4)) (w_ei ws (w_ar ws (n_v vs 1) 3)) (w_ei ws (w_ar ws (n_v vs 1) 7)) (w_ei ws (w_ar ws (n_v vs 1) 8)) (w_fi ws (n_v vs 0) 5) (w_fi ws (n_v vs 0) 11) (w_fi ws (n_v vs 1) 0) (w_fi ws (n_v vs 1) 2) (w_fi ws (n_v vs 0) 9) (w_fi ws (n_v vs 0) 6) (w_fi ws (n_v vs 0) 8) k4 k6 k8 k9 g0 g2 (shm_2136 f4) (shm_1532 f17) kz_0_5 kz_0_6 kz_0_7 kz_0_8 kz_0_9 kz_0_11 kz_1_0 kz_1_1 kz_1_2)⟩
  have nf3 : fc_1 PRD (20, [2, 0], [30, 0, 1, 0, 0, -1, 1, 6]) ws (vs) := ⟨nf_in hl rfl, sgq_1527 (vc_Re_readEdges_3_3 (v_iv (n_v vs 2)) (v_iv (n_v vs 8)) (w_fi ws (n_v vs 0) 6) k2 k8 (shm_201 f5) (shm_1527 f18) kz_0_6)⟩
  have nf4 : fc_1 PRD (20, [12, 1], [50, 1, 0, 1001, 0, 2, 1, 0, 2, 1, 1]) ws (vs) := ⟨nf_in hl rfl, sgq_483 (vc_Re_readEdges_3_4 (v_iv (n_v vs 6)) (v_iv (n_v vs 12)) (w_fi ws (n_v vs 1) 1) k6 k12 g0 kz_1_1)⟩
  have nf5 : fc_1 PRD (24, [0, 0], []) ws (vs) := by
    refine ⟨nf_in hl rfl, sgq_1 ?_⟩
    · show n_v vs 0 = n_v vs 0
      first | rfl | simp only [true_and]
  refine ⟨(fun _ h => (by cases h)), [], trivial, ?_, (fun _ h => (by cases h))⟩
  rw [List.append_nil]
  exact List.forall_mem_cons.mpr ⟨⟨show (24 : Nat) < 100 from by decide, nf0⟩, List.forall_mem_cons.mpr ⟨⟨show (20 : Nat) < 100 from by decide, nf1⟩, List.forall_mem_cons.mpr ⟨⟨show (20 : Nat) < 100 from by decide, nf2⟩, List.forall_mem_cons.mpr ⟨⟨show (20 : Nat) < 100 from by decide, nf3⟩, List.forall_mem_cons.mpr ⟨⟨show (20 : Nat) < 100 from by decide, nf4⟩, List.forall_mem_cons.mpr ⟨⟨show (24 : Nat) < 100 from by decide, nf5⟩, (fun _ h => (by cases h))⟩⟩⟩⟩⟩⟩
set_option maxHeartbeats 4000000 in
theorem vc_Re_readEdges_4_0 (x4 : Int) (x5 : Int) (x7 : Int) (x8 : Int) (x9 : Int) (x10 : Int) (x11 : Int) (x12 : Int) (edges_0o1 : Int) (kind_0 : Int) (tape_0 : Int → Int) (open_0 : Int → Int) (nameLength_0o1 : Int → Int) (name_0o1 : Int → Int) (tail_0o1 : Int → Int) (head_0o1 : Int → Int) (end_0 : Int) (depth_0 : Int) (nodes_0o1 : Int) (groups_0o1 : Int) (number_0 : Int) (next_0 : Int) (begin_0 : Int) (k4 : 0 ≤ x4 ∧ x4 ≤ 23) (k5 : (-1) ≤ x5 ∧ x5 ≤ (-1)) (k7 : (-2147483648) ≤ x7 ∧ x7 ≤ 1000000) (k8 : 0 ≤ x8 ∧ x8 ≤ 2000) (k9 : (-128) ≤ x9 ∧ x9 ≤ 127) (k10 : 45 ≤ x10 ∧ x10 ≤ 45) (k11 : 62 ≤ x11 ∧ x11 ≤ 62) (k12 : 1 ≤ x12 ∧ x12 ≤ 1) (f1 : x9 ≠ x11) (g2 : x9 = kind_0) (f3 : x9 ≠ x10) (f4 : cG3 (end_0) (depth_0) (nodes_0o1) (edges_0o1) (groups_0o1) (tape_0) (open_0) (nameLength_0o1) (name_0o1) (tail_0o1) (head_0o1) (x4) (x8)) (f12 : (x4 = (-1)) ∨ ((0 ≤ x4) ∧ ((x4 + 1) ≤ nodes_0o1))) (f13 : (1 * kind_0 + 0 ≤ 3) ∨ (1 * number_0 + ((-1) * x7 + 0) ≤ 0)) (f14 : (1 * kind_0 + 0 ≤ 3) ∨ ((-1) * number_0 + (1 * x7 + 0) ≤ 0)) (f15 : ((-1) * kind_0 + 0 ≤ (-3)) ∨ (1 * next_0 + ((-1) * begin_0 + (2000 * kind_0 + 0)) ≤ 4008)) (f16 : 1 * begin_0 + ((-1) * next_0 + 0) ≤ 0) (f17 : TKC (end_0) (next_0) (kind_0) (begin_0) (number_0) (tape_0) (x8)) (f20 : x4 ≠ x5) (kz_0_5 : 0 ≤ end_0 ∧ end_0 ≤ 2000) (kz_0_6 : 0 ≤ next_0 ∧ next_0 ≤ 2000) (kz_0_7 : (-128) ≤ kind_0 ∧ kind_0 ≤ 127) (kz_0_8 : 0 ≤ begin_0 ∧ begin_0 ≤ 2000) (kz_0_9 : (-176) ≤ number_0 ∧ number_0 ≤ 1000000) (kz_0_11 : 0 ≤ depth_0 ∧ depth_0 ≤ 4) (kz_1_0 : 0 ≤ nodes_0o1 ∧ nodes_0o1 ≤ 24) (kz_1_1 : 0 ≤ edges_0o1 ∧ edges_0o1 ≤ 48) (kz_1_2 : 0 ≤ groups_0o1 ∧ groups_0o1 ≤ 8) : FSY (end_0) (begin_0) (tape_0) (x12) := by
  exact fsy_of (e3_f ‹TKC _ _ _ _ _ _ _› ‹cG3 _ _ _ _ _ _ _ _ _ _ _ _ _› (by omega)) (by omega)
def o_Re_readEdges_4 : or_T := (48, 13, [(0, (2, 0, 0, [8])), (1, (2, 0, 0, [164])), (4, (0, 0, 23, [])), (5, (0, -1, -1, [])), (7, (0, -2147483648, 1000000, [])), (8, (0, 0, 2000, [])), (9, (0, -128, 127, [])), (10, (0, 45, 45, [])), (11, (0, 62, 62, [])), (12, (0, 1, 1, []))], [(7, [9, 11], [1]), (9, [9, 0], [7]), (7, [9, 10], [1]), (20, [0, 1, 4, 8], [60, 5, 6, 1042, 5, 11, 1000, 1001, 1002, 0, 10, 1004, 1003, 1007, 1008]), (20, [4, 1], [50, 1, 0, 1000, 3, 6, 1, 2, 1, 0, 0, -1, 2, 6, 0, 2, 0, 0, 1, 0, 0, 6, 4, 2, 1, 0, 0, 1, 2, 1, 0]), (20, [0, 0, 7], [31, 1, 3, 1, 1, 7, 0, 1, 1, 9, -1, 0, 0]), (20, [0, 0, 7], [31, 1, 3, 1, 1, 7, 0, -1, 1, 9, 1, 0, 0]), (20, [0, 0, 0, 0], [31, 1, -3, -1, 1, 7, 4008, 1, 1, 6, -1, 1, 8, 2000, 1, 7]), (20, [0, 0], [30, 0, 1, 1, 8, -1, 1, 6]), (20, [0, 8], [60, 5, 1, 1072, 5, 6, 7, 8, 9, 0]), (102, [8], [0, 8006, 8007, 8008, 8009]), (7, [4, 5], [1])], [], [], [(20, [0, 12], [60, 2, 1, 1078, 5, 8, 0])], [], [])
theorem oo_Re_readEdges_4 {kA : Nat → ClassId} : or_ok PRD kA GG o_Re_readEdges_4 := by
  refine or_mk fun A ta ws vs hD hth hl => ?_
  intro t0 r0 t1 r1 t4 k4 t5 k5 t7 k7 t8 k8 t9 k9 t10 k10 t11 k11 t12 k12 f1 f2 f3 f4 f12 f13 f14 f15 f16 f17 ta1 w1 le1 s1 f20
  replace f2 := shm_198 f2
  have g2 : v_iv (n_v vs 9) = w_fi ws (n_v vs 0) 7 := congrArg v_iv f2
  have kz_0_5 := fdq_207 hD hth r0
  have kz_0_6 := fdq_208 hD hth r0
  have kz_0_7 := fdq_297 hD hth r0
  have kz_0_8 := fdq_99 hD hth r0
  have kz_0_9 := fdq_296 hD hth r0
  have kz_0_11 := fdq_320 hD hth r0
  have kz_1_0 := fdq_73 hD hth r1
  have kz_1_1 := fdq_74 hD hth r1
  have kz_1_2 := fdq_206 hD hth r1
  have nf0 : fc_1 PRD (20, [0, 12], [60, 2, 1, 1078, 5, 8, 0]) ws (vs) := ⟨nf_in hl rfl, sgq_1988 (vc_Re_readEdges_4_0 (v_iv (n_v vs 4)) (v_iv (n_v vs 5)) (v_iv (n_v vs 7)) (v_iv (n_v vs 8)) (v_iv (n_v vs 9)) (v_iv (n_v vs 10)) (v_iv (n_v vs 11)) (v_iv (n_v vs 12)) (w_fi ws (n_v vs 1) 1) (w_fi ws (n_v vs 0) 7) (w_ei ws (w_ar ws (n_v vs 0) 0)) (w_ei ws (w_ar ws (n_v vs 0) 10)) (w_ei ws (w_ar ws (n_v vs 1) 4)) (w_ei ws (w_ar ws (n_v vs 1) 3)) (w_ei ws (w_ar ws (n_v vs 1) 7)) (w_ei ws (w_ar ws (n_v vs 1) 8)) (w_fi ws (n_v vs 0) 5) (w_fi ws (n_v vs 0) 11) (w_fi ws (n_v vs 1) 0) (w_fi ws (n_v vs 1) 2) (w_fi ws (n_v vs 0) 9) (w_fi ws (n_v vs 0) 6) (w_fi ws (n_v vs 0) 8) k4 k5 k7 k8 k9 k10 k11 k12 (shm_40 f1) g2 (shm_40 f3) (shm_2136 f4) (shm_847 f12) (shm_1528 f13) (shm_1529 f14) (shm_1530 f15) (shm_1531 f16) (shm_1532 f17) (shm_40 f20) kz_0_5 kz_0_6 kz_0_7 kz_0_8 kz_0_9 kz_0_11 kz_1_0 kz_1_1 kz_1_2)⟩
  refine ⟨(fun _ h => (by cases h)), [], trivial, ?_, (fun _ h => (by cases h))⟩
  rw [List.append_nil]
  exact List.forall_mem_cons.mpr ⟨⟨show (20 : Nat) < 100 from by decide, nf0⟩, (fun _ h => (by cases h))⟩
set_option maxHeartbeats 4000000 in
theorem vc_Re_readEdges_5_0 (x6 : Int) (x9 : Int) (x12 : Int) (x13 : Int) (kind_0 : Int) (edges_0o1 : Int) (tape_0 : Int → Int) (end_0 : Int) (begin_0 : Int) (open_0 : Int → Int) (nameLength_0o1 : Int → Int) (name_0o1 : Int → Int) (tail_0o1 : Int → Int) (head_0o1 : Int → Int) (depth_0 : Int) (nodes_0o1 : Int) (groups_0o1 : Int) (next_0 : Int) (fault_0 : Int) (faultPlace_0 : Int) (k6 : 0 ≤ x6 ∧ x6 ≤ 48) (k9 : (-128) ≤ x9 ∧ x9 ≤ 127) (k12 : 1 ≤ x12 ∧ x12 ≤ 1) (k13 : 0 ≤ x13 ∧ x13 ≤ 0) (g0 : x9 = kind_0) (g1 : x6 = edges_0o1) (f2 : FSY (end_0) (begin_0) (tape_0) (x12)) (f17 : (x13 = 0) ∧ ((fault_0 = x12) ∧ (faultPlace_0 = begin_0))) (kz_0_2 : (-1) ≤ fault_0 ∧ fault_0 ≤ 5) (kz_0_3 : (-1) ≤ faultPlace_0 ∧ faultPlace_0 ≤ 2000) (kz_0_5 : 0 ≤ end_0 ∧ end_0 ≤ 2000) (kz_0_6 : 0 ≤ next_0 ∧ next_0 ≤ 2000) (kz_0_7 : (-128) ≤ kind_0 ∧ kind_0 ≤ 127) (kz_0_8 : 0 ≤ begin_0 ∧ begin_0 ≤ 2000) (kz_0_11 : 0 ≤ depth_0 ∧ depth_0 ≤ 4) (kz_1_0 : 0 ≤ nodes_0o1 ∧ nodes_0o1 ≤ 24) (kz_1_1 : 0 ≤ edges_0o1 ∧ edges_0o1 ≤ 48) (kz_1_2 : 0 ≤ groups_0o1 ∧ groups_0o1 ≤ 8) : cO0 (end_0) (next_0) (depth_0) (fault_0) (faultPlace_0) (nodes_0o1) (edges_0o1) (groups_0o1) (tape_0) (open_0) (nameLength_0o1) (name_0o1) (tail_0o1) (head_0o1) (x13) := by
  first | subst g0 | skip
  first | subst g1 | skip
  first
    | exact cO0_f ‹FSY _ _ _ _› (by omega) (by omega) (by omega)
    | exact cO_13 ‹cO13 _ _ _ _ _ _ _ _ _ _ _ _ _ _ _› (by omega) (by omega)
    | exact cO0_t (s_go (le_s ‹cLE _ _ _ _ _ _ _ _ _ _ _ _ _ _ _ _› (by omega)) (by omega) rfl) (by omega) (by omega)
    | exact cO0_t (s_go (n13_s ‹TKC _ _ _ _ _ _ _› ‹cG13 _ _ _ _ _ _ _ _ _ _ _ _›) (by omega) rfl) (by omega) (by omega)
set_option maxHeartbeats 4000000 in
theorem vc_Re_readEdges_5_1 (x2 : Int) (x8 : Int) (next_0 : Int) (k2 : 0 ≤ x2 ∧ x2 ≤ 2000) (k8 : 0 ≤ x8 ∧ x8 ≤ 2000) (f4 : 1 * x2 + ((-1) * x8 + 0) ≤ 0) (f16 : 1 * x8 + ((-1) * next_0 + 0) ≤ 0) (kz_0_6 : 0 ≤ next_0 ∧ next_0 ≤ 2000) : 1 * x2 + ((-1) * next_0 + 0) ≤ 0 := by
  first
    | omega
  
def o_Re_readEdges_5 : or_T := (51, 14, [(0, (2, 0, 0, [8])), (1, (2, 0, 0, [164])), (2, (0, 0, 2000, [])), (6, (0, 0, 48, [])), (8, (0, 0, 2000, [])), (9, (0, -128, 127, [])), (12, (0, 1, 1, [])), (13, (0, 0, 0, []))], [(9, [9, 0], [7]), (9, [6, 1], [1]), (20, [0, 12], [60, 2, 1, 1078, 5, 8, 0]), (20, [2, 8], [30, 0, 1, 0, 0, -1, 0, 0]), (20, [8, 0], [30, 0, 1, 0, 0, -1, 1, 6]), (20, [13, 0, 12], [50, 3, 0, 1002, 1003, 1008, 2, 6, 1, 2, 1, 0, 0, 0, 2, 7, 1, 3, 2, 1, 2, 1, 2, 1, 3, 2, 1, 3, 2, 1, 8])], [], [], [(20, [0, 1, 13], [60, 8, 6, 1063, 5, 6, 11, 2, 3, 1000, 1001, 1002, 0, 10, 1004, 1003, 1007, 1008]), (20, [2, 0], [30, 0, 1, 0, 0, -1, 1, 6])], [], [])
theorem oo_Re_readEdges_5 {kA : Nat → ClassId} : or_ok PRD kA GG o_Re_readEdges_5 := by
  refine or_mk fun A ta ws vs hD hth hl => ?_
  intro t0 r0 t1 r1 t2 k2 t6 k6 t8 k8 t9 k9 t12 k12 t13 k13 f0 f1 f2 f4 f16 f17
  replace f0 := shm_198 f0
  replace f1 := shm_215 f1
  have g0 : v_iv (n_v vs 9) = w_fi ws (n_v vs 0) 7 := congrArg v_iv f0
  have g1 : v_iv (n_v vs 6) = w_fi ws (n_v vs 1) 1 := congrArg v_iv f1
  have kz_0_2 := fdq_97 hD hth r0
  have kz_0_3 := fdq_98 hD hth r0
  have kz_0_5 := fdq_207 hD hth r0
  have kz_0_6 := fdq_208 hD hth r0
  have kz_0_7 := fdq_297 hD hth r0
  have kz_0_8 := fdq_99 hD hth r0
  have kz_0_11 := fdq_320 hD hth r0
  have kz_1_0 := fdq_73 hD hth r1
  have kz_1_1 := fdq_74 hD hth r1
  have kz_1_2 := fdq_206 hD hth r1
  have nf0 : fc_1 PRD (20, [0, 1, 13], [60, 8, 6, 1063, 5, 6, 11, 2, 3, 1000, 1001, 1002, 0, 10, 1004, 1003, 1007, 1008]) ws (vs) := ⟨nf_in hl rfl, sgq_2023 (vc_Re_readEdges_5_0 (v_iv (n_v vs 6)) (v_iv (n_v vs 9)) (v_iv (n_v vs 12)) (v_iv (n_v vs 13)) (w_fi ws (n_v vs 0) 7) (w_fi ws (n_v vs 1) 1) (w_ei ws (w_ar ws (n_v vs 0) 0)) (w_fi ws (n_v vs 0) 5) (w_fi ws (n_v vs 0) 8) (w_ei ws (w_ar ws (n_v vs 0) 10)) (w_ei ws (w_ar ws (n_v vs 1) 4)) (w_ei ws (w_ar ws (n_v vs 1) 3)) (w_ei ws (w_ar ws (n_v vs 1) 7)) (w_ei ws (w_ar ws (n_v vs 1) 8)) (w_fi ws (n_v vs 0) 11) (w_fi ws (n_v vs 1) 0) (w_fi ws (n_v vs 1) 2) (w_fi ws (n_v vs 0) 6) (w_fi ws (n_v vs 0) 2) (w_fi ws (n_v vs 0) 3) k6 k9 k12 k13 g0 g1 (shm_1988 f2) (shm_451 f17) kz_0_2 kz_0_3 kz_0_5 kz_0_6 kz_0_7 kz_0_8 kz_0_11 kz_1_0 kz_1_1 kz_1_2)⟩
  have nf1 : fc_1 PRD (20, [2, 0], [30, 0, 1, 0, 0, -1, 1, 6]) ws (vs) := ⟨nf_in hl rfl, sgq_1527 (vc_Re_readEdges_5_1 (v_iv (n_v vs 2)) (v_iv (n_v vs 8)) (w_fi ws (n_v vs 0) 6) k2 k8 (shm_201 f4) (shm_1527 f16) kz_0_6)⟩
  refine ⟨(fun _ h => (by cases h)), [], trivial, ?_, (fun _ h => (by cases h))⟩
  rw [List.append_nil]
  exact List.forall_mem_cons.mpr ⟨⟨show (20 : Nat) < 100 from by decide, nf0⟩, List.forall_mem_cons.mpr ⟨⟨show (20 : Nat) < 100 from by decide, nf1⟩, (fun _ h => (by cases h))⟩⟩
set_option maxHeartbeats 4000000 in
theorem vc_Re_readEdges_6_0 (x4 : Int) (x6 : Int) (tape_0 : Int → Int) (open_0 : Int → Int) (end_0 : Int) (next_0 : Int) (kind_0 : Int) (begin_0 : Int) (number_0 : Int) (depth_0 : Int) (tail_0o1 : Int → Int) (head_0o1 : Int → Int) (edges_0o1 : Int) (nodes_0o1 : Int) (nameLength_0o1 : Int → Int) (name_0o1 : Int → Int) (groups_0o1 : Int) (k4 : (-1) ≤ x4 ∧ x4 ≤ (-1)) (k6 : 3 ≤ x6 ∧ x6 ≤ 3) (f1 : cUE (end_0) (next_0) (kind_0) (begin_0) (number_0) (depth_0) (tape_0) (open_0)) (f15 : CGM (end_0) (next_0) (begin_0) (nodes_0o1) (edges_0o1) (groups_0o1) (tape_0) (nameLength_0o1) (name_0o1) (tail_0o1) (head_0o1) (x4)) (kz_0_5 : 0 ≤ end_0 ∧ end_0 ≤ 2000) (kz_0_6 : 0 ≤ next_0 ∧ next_0 ≤ 2000) (kz_0_7 : (-128) ≤ kind_0 ∧ kind_0 ≤ 127) (kz_0_8 : 0 ≤ begin_0 ∧ begin_0 ≤ 2000) (kz_0_9 : (-176) ≤ number_0 ∧ number_0 ≤ 1000000) (kz_0_11 : 0 ≤ depth_0 ∧ depth_0 ≤ 4) (kz_1_0 : 0 ≤ nodes_0o1 ∧ nodes_0o1 ≤ 24) (kz_1_1 : 0 ≤ edges_0o1 ∧ edges_0o1 ≤ 48) (kz_1_2 : 0 ≤ groups_0o1 ∧ groups_0o1 ≤ 8) : FSY (end_0) (begin_0) (tape_0) (x6) := by
  exact fsy_of (m0_f ‹cUE _ _ _ _ _ _ _ _› ‹CGM _ _ _ _ _ _ _ _ _ _ _ _› (by omega)) (by omega)
def o_Re_readEdges_6 : or_T := (12, 7, [(0, (2, 0, 0, [8])), (1, (2, 0, 0, [164])), (4, (0, -1, -1, [])), (6, (0, 3, 3, []))], [(20, [0], [60, 6, 2, 1071, 5, 6, 7, 8, 9, 11, 0, 10]), (20, [0, 1, 4], [60, 6, 5, 1066, 5, 6, 8, 1000, 1001, 1002, 0, 1004, 1003, 1007, 1008])], [], [], [(20, [0, 6], [60, 2, 1, 1078, 5, 8, 0])], [], [])
theorem oo_Re_readEdges_6 {kA : Nat → ClassId} : or_ok PRD kA GG o_Re_readEdges_6 := by
  refine or_mk fun A ta ws vs hD hth hl => ?_
  intro t0 r0 t1 r1 t4 k4 t6 k6 f1 f15
  have kz_0_5 := fdq_207 hD hth r0
  have kz_0_6 := fdq_208 hD hth r0
  have kz_0_7 := fdq_297 hD hth r0
  have kz_0_8 := fdq_99 hD hth r0
  have kz_0_9 := fdq_296 hD hth r0
  have kz_0_11 := fdq_320 hD hth r0
  have kz_1_0 := fdq_73 hD hth r1
  have kz_1_1 := fdq_74 hD hth r1
  have kz_1_2 := fdq_206 hD hth r1
  have nf0 : fc_1 PRD (20, [0, 6], [60, 2, 1, 1078, 5, 8, 0]) ws (vs) := ⟨nf_in hl rfl, sgq_1988 (vc_Re_readEdges_6_0 (v_iv (n_v vs 4)) (v_iv (n_v vs 6)) (w_ei ws (w_ar ws (n_v vs 0) 0)) (w_ei ws (w_ar ws (n_v vs 0) 10)) (w_fi ws (n_v vs 0) 5) (w_fi ws (n_v vs 0) 6) (w_fi ws (n_v vs 0) 7) (w_fi ws (n_v vs 0) 8) (w_fi ws (n_v vs 0) 9) (w_fi ws (n_v vs 0) 11) (w_ei ws (w_ar ws (n_v vs 1) 7)) (w_ei ws (w_ar ws (n_v vs 1) 8)) (w_fi ws (n_v vs 1) 1) (w_fi ws (n_v vs 1) 0) (w_ei ws (w_ar ws (n_v vs 1) 4)) (w_ei ws (w_ar ws (n_v vs 1) 3)) (w_fi ws (n_v vs 1) 2) k4 k6 (shm_2135 f1) (shm_1406 f15) kz_0_5 kz_0_6 kz_0_7 kz_0_8 kz_0_9 kz_0_11 kz_1_0 kz_1_1 kz_1_2)⟩
  refine ⟨(fun _ h => (by cases h)), [], trivial, ?_, (fun _ h => (by cases h))⟩
  rw [List.append_nil]
  exact List.forall_mem_cons.mpr ⟨⟨show (20 : Nat) < 100 from by decide, nf0⟩, (fun _ h => (by cases h))⟩
set_option maxHeartbeats 4000000 in
theorem vc_Re_readEdges_7_0 (x6 : Int) (x7 : Int) (tape_0 : Int → Int) (end_0 : Int) (begin_0 : Int) (open_0 : Int → Int) (next_0 : Int) (depth_0 : Int) (tail_0o1 : Int → Int) (head_0o1 : Int → Int) (edges_0o1 : Int) (nodes_0o1 : Int) (nameLength_0o1 : Int → Int) (name_0o1 : Int → Int) (groups_0o1 : Int) (fault_0 : Int) (faultPlace_0 : Int) (k6 : 3 ≤ x6 ∧ x6 ≤ 3) (k7 : 0 ≤ x7 ∧ x7 ≤ 0) (f0 : FSY (end_0) (begin_0) (tape_0) (x6)) (f15 : (x7 = 0) ∧ ((fault_0 = x6) ∧ (faultPlace_0 = begin_0))) (kz_0_2 : (-1) ≤ fault_0 ∧ fault_0 ≤ 5) (kz_0_3 : (-1) ≤ faultPlace_0 ∧ faultPlace_0 ≤ 2000) (kz_0_5 : 0 ≤ end_0 ∧ end_0 ≤ 2000) (kz_0_6 : 0 ≤ next_0 ∧ next_0 ≤ 2000) (kz_0_8 : 0 ≤ begin_0 ∧ begin_0 ≤ 2000) (kz_0_11 : 0 ≤ depth_0 ∧ depth_0 ≤ 4) (kz_1_0 : 0 ≤ nodes_0o1 ∧ nodes_0o1 ≤ 24) (kz_1_1 : 0 ≤ edges_0o1 ∧ edges_0o1 ≤ 48) (kz_1_2 : 0 ≤ groups_0o1 ∧ groups_0o1 ≤ 8) : cO0 (end_0) (next_0) (depth_0) (fault_0) (faultPlace_0) (nodes_0o1) (edges_0o1) (groups_0o1) (tape_0) (open_0) (nameLength_0o1) (name_0o1) (tail_0o1) (head_0o1) (x7) := by
  first
    | exact cO0_f ‹FSY _ _ _ _› (by omega) (by omega) (by omega)
    | exact cO_13 ‹cO13 _ _ _ _ _ _ _ _ _ _ _ _ _ _ _› (by omega) (by omega)
    | exact cO0_t (s_go (le_s ‹cLE _ _ _ _ _ _ _ _ _ _ _ _ _ _ _ _› (by omega)) (by omega) rfl) (by omega) (by omega)
    | exact cO0_t (s_go (n13_s ‹TKC _ _ _ _ _ _ _› ‹cG13 _ _ _ _ _ _ _ _ _ _ _ _›) (by omega) rfl) (by omega) (by omega)
set_option maxHeartbeats 4000000 in
theorem vc_Re_readEdges_7_1 (x2 : Int) (next_0 : Int) (k2 : 0 ≤ x2 ∧ x2 ≤ 2000) (f8 : 1 * next_0 + ((-1) * x2 + 0) ≤ 0) (f9 : (-1) * next_0 + (1 * x2 + 0) ≤ 0) (kz_0_6 : 0 ≤ next_0 ∧ next_0 ≤ 2000) : 1 * x2 + ((-1) * next_0 + 0) ≤ 0 := by
  first
    | omega
  
def o_Re_readEdges_7 : or_T := (15, 8, [(0, (2, 0, 0, [8])), (1, (2, 0, 0, [164])), (2, (0, 0, 2000, [])), (6, (0, 3, 3, [])), (7, (0, 0, 0, []))], [(20, [0, 6], [60, 2, 1, 1078, 5, 8, 0]), (20, [0, 2], [30, 0, 1, 1, 6, -1, 0, 0]), (20, [0, 2], [30, 0, -1, 1, 6, 1, 0, 0]), (20, [7, 0, 6], [50, 3, 0, 1002, 1003, 1008, 2, 6, 1, 2, 1, 0, 0, 0, 2, 7, 1, 3, 2, 1, 2, 1, 2, 1, 3, 2, 1, 3, 2, 1, 8])], [], [], [(20, [0, 1, 7], [60, 8, 6, 1063, 5, 6, 11, 2, 3, 1000, 1001, 1002, 0, 10, 1004, 1003, 1007, 1008]), (20, [2, 0], [30, 0, 1, 0, 0, -1, 1, 6])], [], [])
theorem oo_Re_readEdges_7 {kA : Nat → ClassId} : or_ok PRD kA GG o_Re_readEdges_7 := by
  refine or_mk fun A ta ws vs hD hth hl => ?_
  intro t0 r0 t1 r1 t2 k2 t6 k6 t7 k7 f0 f8 f9 f15
  have kz_0_2 := fdq_97 hD hth r0
  have kz_0_3 := fdq_98 hD hth r0
  have kz_0_5 := fdq_207 hD hth r0
  have kz_0_6 := fdq_208 hD hth r0
  have kz_0_8 := fdq_99 hD hth r0
  have kz_0_11 := fdq_320 hD hth r0
  have kz_1_0 := fdq_73 hD hth r1
  have kz_1_1 := fdq_74 hD hth r1
  have kz_1_2 := fdq_206 hD hth r1
  have nf0 : fc_1 PRD (20, [0, 1, 7], [60, 8, 6, 1063, 5, 6, 11, 2, 3, 1000, 1001, 1002, 0, 10, 1004, 1003, 1007, 1008]) ws (vs) := ⟨nf_in hl rfl, sgq_2023 (vc_Re_readEdges_7_0 (v_iv (n_v vs 6)) (v_iv (n_v vs 7)) (w_ei ws (w_ar ws (n_v vs 0) 0)) (w_fi ws (n_v vs 0) 5) (w_fi ws (n_v vs 0) 8) (w_ei ws (w_ar ws (n_v vs 0) 10)) (w_fi ws (n_v vs 0) 6) (w_fi ws (n_v vs 0) 11) (w_ei ws (w_ar ws (n_v vs 1) 7)) (w_ei ws (w_ar ws (n_v vs 1) 8)) (w_fi ws (n_v vs 1) 1) (w_fi ws (n_v vs 1) 0) (w_ei ws (w_ar ws (n_v vs 1) 4)) (w_ei ws (w_ar ws (n_v vs 1) 3)) (w_fi ws (n_v vs 1) 2) (w_fi ws (n_v vs 0) 2) (w_fi ws (n_v vs 0) 3) k6 k7 (shm_1988 f0) (shm_451 f15) kz_0_2 kz_0_3 kz_0_5 kz_0_6 kz_0_8 kz_0_11 kz_1_0 kz_1_1 kz_1_2)⟩
  have nf1 : fc_1 PRD (20, [2, 0], [30, 0, 1, 0, 0, -1, 1, 6]) ws (vs) := ⟨nf_in hl rfl, sgq_1527 (vc_Re_readEdges_7_1 (v_iv (n_v vs 2)) (w_fi ws (n_v vs 0) 6) k2 (shm_1523 f8) (shm_1524 f9) kz_0_6)⟩
  refine ⟨(fun _ h => (by cases h)), [], trivial, ?_, (fun _ h => (by cases h))⟩
  rw [List.append_nil]
  exact List.forall_mem_cons.mpr ⟨⟨show (20 : Nat) < 100 from by decide, nf0⟩, List.forall_mem_cons.mpr ⟨⟨show (20 : Nat) < 100 from by decide, nf1⟩, (fun _ h => (by cases h))⟩⟩
set_option maxHeartbeats 4000000 in
theorem vc_Re_readEdges_8_0 (near_0o1 : Int → Int) (tail_0o1 : Int → Int) (head_0o1 : Int → Int) (nodes_0o1 : Int) (edges_0o1 : Int) (f4 : GNB (nodes_0o1) (edges_0o1) (near_0o1) (tail_0o1) (head_0o1)) (kz_1_0 : 0 ≤ nodes_0o1 ∧ nodes_0o1 ≤ 24) (kz_1_1 : 0 ≤ edges_0o1 ∧ edges_0o1 ≤ 48) : GNB (nodes_0o1) (edges_0o1) (near_0o1) (tail_0o1) (head_0o1) := by
  first
    | assumption
  
set_option maxHeartbeats 4000000 in
theorem vc_Re_readEdges_8_1 (tail_0o1 : Int → Int) (head_0o1 : Int → Int) (nodes_0o1 : Int) (edges_0o1 : Int) (f5 : GKE (nodes_0o1) (edges_0o1) (tail_0o1) (head_0o1)) (kz_1_0 : 0 ≤ nodes_0o1 ∧ nodes_0o1 ≤ 24) (kz_1_1 : 0 ≤ edges_0o1 ∧ edges_0o1 ≤ 48) : GKE (nodes_0o1) (edges_0o1) (tail_0o1) (head_0o1) := by
  first
    | assumption
  
set_option maxHeartbeats 4000000 in
theorem vc_Re_readEdges_8_2 (x4 : Int) (x6 : Int) (x9 : Int) (x12 : Int) (kind_0 : Int) (tail_0o1 : Int → Int) (head_0o1 : Int → Int) (nodes_0o1 : Int) (edges_0o1 : Int) (tape_0 : Int → Int) (open_0 : Int → Int) (nameLength_0o1 : Int → Int) (name_0o1 : Int → Int) (end_0 : Int) (next_0 : Int) (begin_0 : Int) (number_0 : Int) (depth_0 : Int) (groups_0o1 : Int) (fault_0 : Int) (faultPlace_0 : Int) (k4 : 0 ≤ x4 ∧ x4 ≤ 23) (k6 : 49 ≤ x6 ∧ x6 ≤ 49) (k9 : 59 ≤ x9 ∧ x9 ≤ 59) (k12 : 1 ≤ x12 ∧ x12 ≤ 1) (g1 : x9 = kind_0) (f8 : cLE (end_0) (next_0) (kind_0) (begin_0) (number_0) (depth_0) (nodes_0o1) (edges_0o1) (groups_0o1) (tape_0) (open_0) (nameLength_0o1) (name_0o1) (tail_0o1) (head_0o1) (x4)) (f10 : x6 ≤ edges_0o1) (f12 : fault_0 = 0) (kz_0_2 : (-1) ≤ fault_0 ∧ fault_0 ≤ 5) (kz_0_3 : (-1) ≤ faultPlace_0 ∧ faultPlace_0 ≤ 2000) (kz_0_5 : 0 ≤ end_0 ∧ end_0 ≤ 2000) (kz_0_6 : 0 ≤ next_0 ∧ next_0 ≤ 2000) (kz_0_7 : (-128) ≤ kind_0 ∧ kind_0 ≤ 127) (kz_0_8 : 0 ≤ begin_0 ∧ begin_0 ≤ 2000) (kz_0_9 : (-176) ≤ number_0 ∧ number_0 ≤ 1000000) (kz_0_11 : 0 ≤ depth_0 ∧ depth_0 ≤ 4) (kz_1_0 : 0 ≤ nodes_0o1 ∧ nodes_0o1 ≤ 24) (kz_1_1 : 0 ≤ edges_0o1 ∧ edges_0o1 ≤ 48) (kz_1_2 : 0 ≤ groups_0o1 ∧ groups_0o1 ≤ 8) : cO0 (end_0) (next_0) (depth_0) (fault_0) (faultPlace_0) (nodes_0o1) (edges_0o1) (groups_0o1) (tape_0) (open_0) (nameLength_0o1) (name_0o1) (tail_0o1) (head_0o1) (x12) := by
  first | subst g1 | skip
  first
    | exact cO0_f ‹FSY _ _ _ _› (by omega) (by omega) (by omega)
    | exact cO_13 ‹cO13 _ _ _ _ _ _ _ _ _ _ _ _ _ _ _› (by omega) (by omega)
    | exact cO0_t (s_go (le_s ‹cLE _ _ _ _ _ _ _ _ _ _ _ _ _ _ _ _› (by omega)) (by omega) rfl) (by omega) (by omega)
    | exact cO0_t (s_go (n13_s ‹TKC _ _ _ _ _ _ _› ‹cG13 _ _ _ _ _ _ _ _ _ _ _ _›) (by omega) rfl) (by omega) (by omega)
set_option maxHeartbeats 4000000 in
theorem vc_Re_readEdges_8_3 (x2 : Int) (next_0 : Int) (k2 : 0 ≤ x2 ∧ x2 ≤ 2000) (f9 : 1 * x2 + ((-1) * next_0 + 0) ≤ 0) (kz_0_6 : 0 ≤ next_0 ∧ next_0 ≤ 2000) : 1 * x2 + ((-1) * next_0 + 0) ≤ 0 := by
  first
    | omega
  
set_option maxHeartbeats 4000000 in
theorem vc_Re_readEdges_8_4 (tail_0o1 : Int → Int) (head_0o1 : Int → Int) (edges_0o1 : Int) (link_0o1 : Int → Int) (f11 : LKG (edges_0o1) (tail_0o1) (head_0o1) (link_0o1)) (kz_1_1 : 0 ≤ edges_0o1 ∧ edges_0o1 ≤ 48) : LKG (edges_0o1) (tail_0o1) (head_0o1) (link_0o1) := by
  assumption
def o_Re_readEdges_8 : or_T := (279, 13, [(0, (2, 0, 0, [8])), (1, (2, 0, 0, [164])), (2, (0, 0, 2000, [])), (4, (0, 0, 23, [])), (6, (0, 49, 49, [])), (9, (0, 59, 59, [])), (12, (0, 1, 1, []))], [(9, [9, 3], [7]), (20, [7], [60, 2, 3, 670, 0, 1, 14, 7, 8]), (20, [7], [60, 2, 2, 596, 0, 1, 7, 8]), (24, [1, 7], []), (20, [3, 7, 4], [60, 9, 6, 1061, 5, 6, 7, 8, 9, 11, 1000, 1001, 1002, 0, 10, 1004, 1003, 1007, 1008]), (20, [2, 3], [30, 0, 1, 0, 0, -1, 1, 6]), (20, [6, 7], [50, 1, 0, 1001, 0, 2, 1, 0, 2, 1, 1]), (20, [7], [60, 1, 3, 1085, 1, 7, 8, 15]), (20, [3], [50, 1, 0, 2, 1, 3, 2, 0, 2, 0, 0]), (24, [0, 3], [])], [], [], [(20, [1], [60, 2, 3, 670, 0, 1, 14, 7, 8]), (20, [1], [60, 2, 2, 596, 0, 1, 7, 8]), (20, [0, 1, 12], [60, 8, 6, 1063, 5, 6, 11, 2, 3, 1000, 1001, 1002, 0, 10, 1004, 1003, 1007, 1008]), (20, [2, 0], [30, 0, 1, 0, 0, -1, 1, 6]), (20, [1], [60, 1, 3, 1085, 1, 7, 8, 15])], [], [])
theorem oo_Re_readEdges_8 {kA : Nat → ClassId} : or_ok PRD kA GG o_Re_readEdges_8 := by
  refine or_mk fun A ta ws vs hD hth hl => ?_
  intro t0 r0 t1 r1 t2 k2 t4 k4 t6 k6 t9 k9 t12 k12 f1 f4 f5 f6 f8 f9 f10 f11 f12 f13
  replace f1 := shm_198 f1
  replace f4 := shm_825 f4
  replace f5 := shm_386 f5
  replace f6 := shm_5 f6
  replace f8 := shm_2137 f8
  replace f9 := shm_1527 f9
  replace f10 := shm_483 f10
  replace f11 := shm_827 f11
  replace f12 := shm_1985 f12
  replace f13 := shm_5 f13
  have q7 : n_v vs 7 = n_v vs 1 := f6.symm
  have q3 : n_v vs 3 = n_v vs 0 := f13.symm
  simp only [q3, q7] at f1 f4 f5 f8 f9 f10 f11 f12
  have g1 : v_iv (n_v vs 9) = w_fi ws (n_v vs 0) 7 := congrArg v_iv f1
  have kz_0_2 := fdq_97 hD hth r0
  have kz_0_3 := fdq_98 hD hth r0
  have kz_0_5 := fdq_207 hD hth r0
  have kz_0_6 := fdq_208 hD hth r0
  have kz_0_7 := fdq_297 hD hth r0
  have kz_0_8 := fdq_99 hD hth r0
  have kz_0_9 := fdq_296 hD hth r0
  have kz_0_11 := fdq_320 hD hth r0
  have kz_1_0 := fdq_73 hD hth r1
  have kz_1_1 := fdq_74 hD hth r1
  have kz_1_2 := fdq_206 hD hth r1
  have nf0 : fc_1 PRD (20, [1], [60, 2, 3, 670, 0, 1, 14, 7, 8]) ws (vs) := ⟨nf_in hl rfl, sgq_825 (vc_Re_readEdges_8_0 (w_ei ws (w_ar ws (n_v vs 1) 14)) (w_ei ws (w_ar ws (n_v vs 1) 7)) (w_ei ws (w_ar ws (n_v vs 1) 8)) (w_fi ws (n_v vs 1) 0) (w_fi ws (n_v vs 1) 1) f4 kz_1_0 kz_1_1)⟩
  have nf1 : fc_1 PRD (20, [1], [60, 2, 2, 596, 0, 1, 7, 8]) ws (vs) := ⟨nf_in hl rfl, sgq_386 (vc_Re_readEdges_8_1 (w_ei ws (w_ar ws (n_v vs 1) 7)) (w_ei ws (w_ar ws (n_v vs 1) 8)) (w_fi ws (n_v vs 1) 0) (w_fi ws (n_v vs 1) 1) f5 kz_1_0 kz_1_1)⟩
  have nf2 : fc_1 PRD (20, [0, 1, 12], [60, 8, 6, 1063, 5, 6, 11, 2, 3, 1000, 1001, 1002, 0, 10, 1004, 1003, 1007, 1008]) ws (vs) := ⟨nf_in hl rfl, sgq_2023 (vc_Re_readEdges_8_2 (v_iv (n_v vs 4)) (v_iv (n_v vs 6)) (v_iv (n_v vs 9)) (v_iv (n_v vs 12)) (w_fi ws (n_v vs 0) 7) (w_ei ws (w_ar ws (n_v vs 1) 7)) (w_ei ws (w_ar ws (n_v vs 1) 8)) (w_fi ws (n_v vs 1) 0) (w_fi ws (n_v vs 1) 1) (w_ei ws (w_ar ws (n_v vs 0) 0)) (w_ei ws (w_ar ws (n_v vs 0) 10)) (w_ei ws (w_ar ws (n_v vs 1) 4)) (w_ei ws (w_ar ws (n_v vs 1) 3)) (w_fi ws (n_v vs 0) 5) (w_fi ws (n_v vs 0) 6) (w_fi ws (n_v vs 0) 8) (w_fi ws (n_v vs 0) 9) (w_fi ws (n_v vs 0) 11) (w_fi ws (n_v vs 1) 2) (w_fi ws (n_v vs 0) 2) (w_fi ws (n_v vs 0) 3) k4 k6 k9 k12 g1 f8 f10 f12 kz_0_2 kz_0_3 kz_0_5 kz_0_6 kz_0_7 kz_0_8 kz_0_9 kz_0_11 kz_1_0 kz_1_1 kz_1_2)⟩
  have nf3 : fc_1 PRD (20, [2, 0], [30, 0, 1, 0, 0, -1, 1, 6]) ws (vs) := ⟨nf_in hl rfl, sgq_1527 (vc_Re_readEdges_8_3 (v_iv (n_v vs 2)) (w_fi ws (n_v vs 0) 6) k2 f9 kz_0_6)⟩
  have nf4 : fc_1 PRD (20, [1], [60, 1, 3, 1085, 1, 7, 8, 15]) ws (vs) := ⟨nf_in hl rfl, sgq_827 (vc_Re_readEdges_8_4 (w_ei ws (w_ar ws (n_v vs 1) 7)) (w_ei ws (w_ar ws (n_v vs 1) 8)) (w_fi ws (n_v vs 1) 1) (w_ei ws (w_ar ws (n_v vs 1) 15)) f11 kz_1_1)⟩
  refine ⟨(fun _ h => (by cases h)), [], trivial, ?_, (fun _ h => (by cases h))⟩
  rw [List.append_nil]
  exact List.forall_mem_cons.mpr ⟨⟨show (20 : Nat) < 100 from by decide, nf0⟩, List.forall_mem_cons.mpr ⟨⟨show (20 : Nat) < 100 from by decide, nf1⟩, List.forall_mem_cons.mpr ⟨⟨show (20 : Nat) < 100 from by decide, nf2⟩, List.forall_mem_cons.mpr ⟨⟨show (20 : Nat) < 100 from by decide, nf3⟩, List.forall_mem_cons.mpr ⟨⟨show (20 : Nat) < 100 from by decide, nf4⟩, (fun _ h => (by cases h))⟩⟩⟩⟩⟩
set_option maxHeartbeats 4000000 in
theorem vc_Re_readEdges_9_0 (x4 : Int) (x6 : Int) (x12 : Int) (kind_0 : Int) (tail_0o1 : Int → Int) (head_0o1 : Int → Int) (nodes_0o1 : Int) (edges_0o1 : Int) (tape_0 : Int → Int) (open_0 : Int → Int) (nameLength_0o1 : Int → Int) (name_0o1 : Int → Int) (end_0 : Int) (next_0 : Int) (begin_0 : Int) (number_0 : Int) (depth_0 : Int) (groups_0o1 : Int) (k4 : 0 ≤ x4 ∧ x4 ≤ 23) (k6 : 49 ≤ x6 ∧ x6 ≤ 49) (k12 : 1 ≤ x12 ∧ x12 ≤ 1) (f8 : cLE (end_0) (next_0) (kind_0) (begin_0) (number_0) (depth_0) (nodes_0o1) (edges_0o1) (groups_0o1) (tape_0) (open_0) (nameLength_0o1) (name_0o1) (tail_0o1) (head_0o1) (x4)) (f10 : x6 ≤ edges_0o1) (kz_0_5 : 0 ≤ end_0 ∧ end_0 ≤ 2000) (kz_0_6 : 0 ≤ next_0 ∧ next_0 ≤ 2000) (kz_0_7 : (-128) ≤ kind_0 ∧ kind_0 ≤ 127) (kz_0_8 : 0 ≤ begin_0 ∧ begin_0 ≤ 2000) (kz_0_9 : (-176) ≤ number_0 ∧ number_0 ≤ 1000000) (kz_0_11 : 0 ≤ depth_0 ∧ depth_0 ≤ 4) (kz_1_0 : 0 ≤ nodes_0o1 ∧ nodes_0o1 ≤ 24) (kz_1_1 : 0 ≤ edges_0o1 ∧ edges_0o1 ≤ 48) (kz_1_2 : 0 ≤ groups_0o1 ∧ groups_0o1 ≤ 8) : FSY (end_0) (begin_0) (tape_0) (x12) := by
  first
    | exact fsy_of (s_f (le_s ‹cLE _ _ _ _ _ _ _ _ _ _ _ _ _ _ _ _› (by omega)) (by omega)) (by omega)
    | exact fsy_of (s_f (n13_s ‹TKC _ _ _ _ _ _ _› ‹cG13 _ _ _ _ _ _ _ _ _ _ _ _›) (by omega)) (by omega)
def o_Re_readEdges_9 : or_T := (268, 13, [(0, (2, 0, 0, [8])), (1, (2, 0, 0, [164])), (4, (0, 0, 23, [])), (6, (0, 49, 49, [])), (12, (0, 1, 1, []))], [(24, [1, 7], []), (20, [3, 7, 4], [60, 9, 6, 1061, 5, 6, 7, 8, 9, 11, 1000, 1001, 1002, 0, 10, 1004, 1003, 1007, 1008]), (20, [6, 7], [50, 1, 0, 1001, 0, 2, 1, 0, 2, 1, 1]), (24, [0, 3], [])], [], [], [(20, [3, 12], [60, 2, 1, 1078, 5, 8, 0])], [], [])
theorem oo_Re_readEdges_9 {kA : Nat → ClassId} : or_ok PRD kA GG o_Re_readEdges_9 := by
  refine or_mk fun A ta ws vs hD hth hl => ?_
  intro t0 r0 t1 r1 t4 k4 t6 k6 t12 k12 f6 f8 f10 f13
  replace f6 := shm_5 f6
  replace f8 := shm_2137 f8
  replace f10 := shm_483 f10
  replace f13 := shm_5 f13
  have q7 : n_v vs 7 = n_v vs 1 := f6.symm
  have q3 : n_v vs 3 = n_v vs 0 := f13.symm
  simp only [q3, q7] at f8 f10
  have kz_0_5 := fdq_207 hD hth r0
  have kz_0_6 := fdq_208 hD hth r0
  have kz_0_7 := fdq_297 hD hth r0
  have kz_0_8 := fdq_99 hD hth r0
  have kz_0_9 := fdq_296 hD hth r0
  have kz_0_11 := fdq_320 hD hth r0
  have kz_1_0 := fdq_73 hD hth r1
  have kz_1_1 := fdq_74 hD hth r1
  have kz_1_2 := fdq_206 hD hth r1
  have nf0 : fc_1 PRD (20, [3, 12], [60, 2, 1, 1078, 5, 8, 0]) ws (vs) := by
    refine ⟨nf_in hl rfl, sgq_1988 ?_⟩
    · show FSY (w_fi ws (n_v vs 3) 5) (w_fi ws (n_v vs 3) 8) (w_ei ws (w_ar ws (n_v vs 3) 0)) (v_iv (n_v vs 12))
      rw [q3]
      exact vc_Re_readEdges_9_0 (v_iv (n_v vs 4)) (v_iv (n_v vs 6)) (v_iv (n_v vs 12)) (w_fi ws (n_v vs 0) 7) (w_ei ws (w_ar ws (n_v vs 1) 7)) (w_ei ws (w_ar ws (n_v vs 1) 8)) (w_fi ws (n_v vs 1) 0) (w_fi ws (n_v vs 1) 1) (w_ei ws (w_ar ws (n_v vs 0) 0)) (w_ei ws (w_ar ws (n_v vs 0) 10)) (w_ei ws (w_ar ws (n_v vs 1) 4)) (w_ei ws (w_ar ws (n_v vs 1) 3)) (w_fi ws (n_v vs 0) 5) (w_fi ws (n_v vs 0) 6) (w_fi ws (n_v vs 0) 8) (w_fi ws (n_v vs 0) 9) (w_fi ws (n_v vs 0) 11) (w_fi ws (n_v vs 1) 2) k4 k6 k12 f8 f10 kz_0_5 kz_0_6 kz_0_7 kz_0_8 kz_0_9 kz_0_11 kz_1_0 kz_1_1 kz_1_2
  refine ⟨(fun _ h => (by cases h)), [], trivial, ?_, (fun _ h => (by cases h))⟩
  rw [List.append_nil]
  exact List.forall_mem_cons.mpr ⟨⟨show (20 : Nat) < 100 from by decide, nf0⟩, (fun _ h => (by cases h))⟩
set_option maxHeartbeats 4000000 in
theorem vc_Re_readEdges_10_0 (near_0o1 : Int → Int) (tail_0o1 : Int → Int) (head_0o1 : Int → Int) (nodes_0o1 : Int) (edges_0o1 : Int) (f3 : GNB (nodes_0o1) (edges_0o1) (near_0o1) (tail_0o1) (head_0o1)) (kz_1_0 : 0 ≤ nodes_0o1 ∧ nodes_0o1 ≤ 24) (kz_1_1 : 0 ≤ edges_0o1 ∧ edges_0o1 ≤ 48) : GNB (nodes_0o1) (edges_0o1) (near_0o1) (tail_0o1) (head_0o1) := by
  first
    | assumption
  
set_option maxHeartbeats 4000000 in
theorem vc_Re_readEdges_10_1 (tail_0o1 : Int → Int) (head_0o1 : Int → Int) (nodes_0o1 : Int) (edges_0o1 : Int) (f4 : GKE (nodes_0o1) (edges_0o1) (tail_0o1) (head_0o1)) (kz_1_0 : 0 ≤ nodes_0o1 ∧ nodes_0o1 ≤ 24) (kz_1_1 : 0 ≤ edges_0o1 ∧ edges_0o1 ≤ 48) : GKE (nodes_0o1) (edges_0o1) (tail_0o1) (head_0o1) := by
  first
    | assumption
  
set_option maxHeartbeats 4000000 in
theorem vc_Re_readEdges_10_2 (x6 : Int) (x9 : Int) (x12 : Int) (x14 : Int) (kind_0 : Int) (tape_0 : Int → Int) (end_0 : Int) (begin_0 : Int) (tail_0o1 : Int → Int) (head_0o1 : Int → Int) (nodes_0o1 : Int) (edges_0o1 : Int) (open_0 : Int → Int) (nameLength_0o1 : Int → Int) (name_0o1 : Int → Int) (next_0 : Int) (depth_0 : Int) (groups_0o1 : Int) (fault_0 : Int) (faultPlace_0 : Int) (k6 : 49 ≤ x6 ∧ x6 ≤ 49) (k9 : (-128) ≤ x9 ∧ x9 ≤ 127) (k12 : 1 ≤ x12 ∧ x12 ≤ 1) (k14 : 0 ≤ x14 ∧ x14 ≤ 0) (g0 : x9 = kind_0) (f2 : FSY (end_0) (begin_0) (tape_0) (x12)) (f9 : x6 ≤ edges_0o1) (kz_0_2 : (-1) ≤ fault_0 ∧ fault_0 ≤ 5) (kz_0_3 : (-1) ≤ faultPlace_0 ∧ faultPlace_0 ≤ 2000) (kz_0_5 : 0 ≤ end_0 ∧ end_0 ≤ 2000) (kz_0_6 : 0 ≤ next_0 ∧ next_0 ≤ 2000) (kz_0_7 : (-128) ≤ kind_0 ∧ kind_0 ≤ 127) (kz_0_8 : 0 ≤ begin_0 ∧ begin_0 ≤ 2000) (kz_0_11 : 0 ≤ depth_0 ∧ depth_0 ≤ 4) (kz_1_0 : 0 ≤ nodes_0o1 ∧ nodes_0o1 ≤ 24) (kz_1_1 : 0 ≤ edges_0o1 ∧ edges_0o1 ≤ 48) (kz_1_2 : 0 ≤ groups_0o1 ∧ groups_0o1 ≤ 8) : cO0 (end_0) (next_0) (depth_0) (fault_0) (faultPlace_0) (nodes_0o1) (edges_0o1) (groups_0o1) (tape_0) (open_0) (nameLength_0o1) (name_0o1) (tail_0o1) (head_0o1) (x14) := by
  first | subst g0 | skip
  first
    | exact cO0_f ‹FSY _ _ _ _› (by omega) (by omega) (by omega)
    | exact cO_13 ‹cO13 _ _ _ _ _ _ _ _ _ _ _ _ _ _ _› (by omega) (by omega)
    | exact cO0_t (s_go (le_s ‹cLE _ _ _ _ _ _ _ _ _ _ _ _ _ _ _ _› (by omega)) (by omega) rfl) (by omega) (by omega)
    | exact cO0_t (s_go (n13_s ‹TKC _ _ _ _ _ _ _› ‹cG13 _ _ _ _ _ _ _ _ _ _ _ _›) (by omega) rfl) (by omega) (by omega)
set_option maxHeartbeats 4000000 in
theorem vc_Re_readEdges_10_3 (x2 : Int) (next_0 : Int) (k2 : 0 ≤ x2 ∧ x2 ≤ 2000) (f8 : 1 * x2 + ((-1) * next_0 + 0) ≤ 0) (kz_0_6 : 0 ≤ next_0 ∧ next_0 ≤ 2000) : 1 * x2 + ((-1) * next_0 + 0) ≤ 0 := by
  first
    | omega
  
set_option maxHeartbeats 4000000 in
theorem vc_Re_readEdges_10_4 (tail_0o1 : Int → Int) (head_0o1 : Int → Int) (edges_0o1 : Int) (link_0o1 : Int → Int) (f10 : LKG (edges_0o1) (tail_0o1) (head_0o1) (link_0o1)) (kz_1_1 : 0 ≤ edges_0o1 ∧ edges_0o1 ≤ 48) : LKG (edges_0o1) (tail_0o1) (head_0o1) (link_0o1) := by
  assumption
def o_Re_readEdges_10 : or_T := (279, 15, [(0, (2, 0, 0, [8])), (1, (2, 0, 0, [164])), (2, (0, 0, 2000, [])), (3, (2, 0, 0, [8])), (4, (0, 0, 23, [])), (6, (0, 49, 49, [])), (7, (2, 0, 0, [164])), (8, (0, 48, 48, [])), (9, (0, -128, 127, [])), (10, (0, 91, 91, [])), (11, (0, 59, 59, [])), (12, (0, 1, 1, [])), (13, (0, 0, 0, [])), (14, (0, 0, 0, []))], [(9, [9, 3], [7]), (8, [13], [0]), (20, [3, 12], [60, 2, 1, 1078, 5, 8, 0]), (20, [7], [60, 2, 3, 670, 0, 1, 14, 7, 8]), (20, [7], [60, 2, 2, 596, 0, 1, 7, 8]), (24, [1, 7], []), (20, [4, 7], [50, 1, 0, 1000, 2, 6, 0, 2, 0, 0, 1, 0, 0, 6, 4, 2, 1, 0, 0, 1, 2, 1, 0]), (20, [3, 7, 4], [60, 9, 6, 1061, 5, 6, 7, 8, 9, 11, 1000, 1001, 1002, 0, 10, 1004, 1003, 1007, 1008]), (20, [2, 3], [30, 0, 1, 0, 0, -1, 1, 6]), (20, [6, 7], [50, 1, 0, 1001, 0, 2, 1, 0, 2, 1, 1]), (20, [7], [60, 1, 3, 1085, 1, 7, 8, 15]), (24, [0, 3], []), (20, [13, 3, 12], [50, 3, 0, 1002, 1003, 1008, 2, 6, 1, 2, 1, 0, 0, 0, 2, 7, 1, 3, 2, 1, 2, 1, 2, 1, 3, 2, 1, 3, 2, 1, 8]), (102, [12], [0, 8002, 8003]), (7, [9, 11], [1]), (7, [9, 10], [1]), (7, [6, 8], [4])], [], [], [(20, [1], [60, 2, 3, 670, 0, 1, 14, 7, 8]), (20, [1], [60, 2, 2, 596, 0, 1, 7, 8]), (20, [0, 1, 14], [60, 8, 6, 1063, 5, 6, 11, 2, 3, 1000, 1001, 1002, 0, 10, 1004, 1003, 1007, 1008]), (20, [2, 0], [30, 0, 1, 0, 0, -1, 1, 6]), (20, [1], [60, 1, 3, 1085, 1, 7, 8, 15])], [], [])
theorem oo_Re_readEdges_10 {kA : Nat → ClassId} : or_ok PRD kA GG o_Re_readEdges_10 := by
  refine or_mk fun A ta ws vs hD hth hl => ?_
  intro t0 r0 t1 r1 t2 k2 t3 r3 t4 k4 t6 k6 t7 r7 t8 k8 t9 k9 t10 k10 t11 k11 t12 k12 t13 k13 t14 k14 f0 f1 f2 f3 f4 f5 f6 f7 f8 f9 f10 f11 f12 ta1 w1 le1 s1 f14 f15 f16
  replace f0 := shm_198 f0
  replace f2 := shm_1988 f2
  replace f3 := shm_825 f3
  replace f4 := shm_386 f4
  replace f5 := shm_5 f5
  replace f8 := shm_1527 f8
  replace f9 := shm_483 f9
  replace f10 := shm_827 f10
  replace f11 := shm_5 f11
  have q7 : n_v vs 7 = n_v vs 1 := f5.symm
  have q3 : n_v vs 3 = n_v vs 0 := f11.symm
  simp only [q3, q7] at f0 f2 f3 f4 f8 f9 f10
  have g0 : v_iv (n_v vs 9) = w_fi ws (n_v vs 0) 7 := congrArg v_iv f0
  have kz_0_2 := fdq_97 hD hth r0
  have kz_0_3 := fdq_98 hD hth r0
  have kz_0_5 := fdq_207 hD hth r0
  have kz_0_6 := fdq_208 hD hth r0
  have kz_0_7 := fdq_297 hD hth r0
  have kz_0_8 := fdq_99 hD hth r0
  have kz_0_11 := fdq_320 hD hth r0
  have kz_1_0 := fdq_73 hD hth r1
  have kz_1_1 := fdq_74 hD hth r1
  have kz_1_2 := fdq_206 hD hth r1
  have nf0 : fc_1 PRD (20, [1], [60, 2, 3, 670, 0, 1, 14, 7, 8]) ws (vs) := ⟨nf_in hl rfl, sgq_825 (vc_Re_readEdges_10_0 (w_ei ws (w_ar ws (n_v vs 1) 14)) (w_ei ws (w_ar ws (n_v vs 1) 7)) (w_ei ws (w_ar ws (n_v vs 1) 8)) (w_fi ws (n_v vs 1) 0) (w_fi ws (n_v vs 1) 1) f3 kz_1_0 kz_1_1)⟩
  have nf1 : fc_1 PRD (20, [1], [60, 2, 2, 596, 0, 1, 7, 8]) ws (vs) := ⟨nf_in hl rfl, sgq_386 (vc_Re_readEdges_10_1 (w_ei ws (w_ar ws (n_v vs 1) 7)) (w_ei ws (w_ar ws (n_v vs 1) 8)) (w_fi ws (n_v vs 1) 0) (w_fi ws (n_v vs 1) 1) f4 kz_1_0 kz_1_1)⟩
  have nf2 : fc_1 PRD (20, [0, 1, 14], [60, 8, 6, 1063, 5, 6, 11, 2, 3, 1000, 1001, 1002, 0, 10, 1004, 1003, 1007, 1008]) ws (vs) := ⟨nf_in hl rfl, sgq_2023 (vc_Re_readEdges_10_2 (v_iv (n_v vs 6)) (v_iv (n_v vs 9)) (v_iv (n_v vs 12)) (v_iv (n_v vs 14)) (w_fi ws (n_v vs 0) 7) (w_ei ws (w_ar ws (n_v vs 0) 0)) (w_fi ws (n_v vs 0) 5) (w_fi ws (n_v vs 0) 8) (w_ei ws (w_ar ws (n_v vs 1) 7)) (w_ei ws (w_ar ws (n_v vs 1) 8)) (w_fi ws (n_v vs 1) 0) (w_fi ws (n_v vs 1) 1) (w_ei ws (w_ar ws (n_v vs 0) 10)) (w_ei ws (w_ar ws (n_v vs 1) 4)) (w_ei ws (w_ar ws (n_v vs 1) 3)) (w_fi ws (n_v vs 0) 6) (w_fi ws (n_v vs 0) 11) (w_fi ws (n_v vs 1) 2) (w_fi ws (n_v vs 0) 2) (w_fi ws (n_v vs 0) 3) k6 k9 k12 k14 g0 f2 f9 kz_0_2 kz_0_3 kz_0_5 kz_0_6 kz_0_7 kz_0_8 kz_0_11 kz_1_0 kz_1_1 kz_1_2)⟩
  have nf3 : fc_1 PRD (20, [2, 0], [30, 0, 1, 0, 0, -1, 1, 6]) ws (vs) := ⟨nf_in hl rfl, sgq_1527 (vc_Re_readEdges_10_3 (v_iv (n_v vs 2)) (w_fi ws (n_v vs 0) 6) k2 f8 kz_0_6)⟩
  have nf4 : fc_1 PRD (20, [1], [60, 1, 3, 1085, 1, 7, 8, 15]) ws (vs) := ⟨nf_in hl rfl, sgq_827 (vc_Re_readEdges_10_4 (w_ei ws (w_ar ws (n_v vs 1) 7)) (w_ei ws (w_ar ws (n_v vs 1) 8)) (w_fi ws (n_v vs 1) 1) (w_ei ws (w_ar ws (n_v vs 1) 15)) f10 kz_1_1)⟩
  refine ⟨(fun _ h => (by cases h)), [], trivial, ?_, (fun _ h => (by cases h))⟩
  rw [List.append_nil]
  exact List.forall_mem_cons.mpr ⟨⟨show (20 : Nat) < 100 from by decide, nf0⟩, List.forall_mem_cons.mpr ⟨⟨show (20 : Nat) < 100 from by decide, nf1⟩, List.forall_mem_cons.mpr ⟨⟨show (20 : Nat) < 100 from by decide, nf2⟩, List.forall_mem_cons.mpr ⟨⟨show (20 : Nat) < 100 from by decide, nf3⟩, List.forall_mem_cons.mpr ⟨⟨show (20 : Nat) < 100 from by decide, nf4⟩, (fun _ h => (by cases h))⟩⟩⟩⟩⟩
set_option maxHeartbeats 4000000 in
theorem vc_Re_readEdges_11_0 (x6 : Int) (edges_0o1 : Int) (next_0 : Int) (gx : Int) (k6 : 49 ≤ x6 ∧ x6 ≤ 49) (f9 : x6 ≤ edges_0o1) (kz_0_6 : 0 ≤ next_0 ∧ next_0 ≤ 2000) (kz_1_1 : 0 ≤ edges_0o1 ∧ edges_0o1 ≤ 48) : 1 * next_0 + ((-1) * gx + 0) ≤ 0 := by
  first
    | omega
  
set_option maxHeartbeats 4000000 in
theorem vc_Re_readEdges_11_1 (x6 : Int) (edges_0o1 : Int) (next_0 : Int) (gx : Int) (k6 : 49 ≤ x6 ∧ x6 ≤ 49) (f9 : x6 ≤ edges_0o1) (kz_0_6 : 0 ≤ next_0 ∧ next_0 ≤ 2000) (kz_1_1 : 0 ≤ edges_0o1 ∧ edges_0o1 ≤ 48) : (-1) * next_0 + (1 * gx + 0) ≤ 0 := by
  first
    | omega
  
set_option maxHeartbeats 4000000 in
theorem vc_Re_readEdges_11_2 (x4 : Int) (x6 : Int) (kind_0 : Int) (tail_0o1 : Int → Int) (head_0o1 : Int → Int) (nodes_0o1 : Int) (edges_0o1 : Int) (tape_0 : Int → Int) (open_0 : Int → Int) (nameLength_0o1 : Int → Int) (name_0o1 : Int → Int) (end_0 : Int) (next_0 : Int) (begin_0 : Int) (number_0 : Int) (depth_0 : Int) (groups_0o1 : Int) (gx : Int) (k4 : 0 ≤ x4 ∧ x4 ≤ 23) (k6 : 49 ≤ x6 ∧ x6 ≤ 49) (f7 : cLE (end_0) (next_0) (kind_0) (begin_0) (number_0) (depth_0) (nodes_0o1) (edges_0o1) (groups_0o1) (tape_0) (open_0) (nameLength_0o1) (name_0o1) (tail_0o1) (head_0o1) (x4)) (f9 : x6 ≤ edges_0o1) (kz_0_5 : 0 ≤ end_0 ∧ end_0 ≤ 2000) (kz_0_6 : 0 ≤ next_0 ∧ next_0 ≤ 2000) (kz_0_7 : (-128) ≤ kind_0 ∧ kind_0 ≤ 127) (kz_0_8 : 0 ≤ begin_0 ∧ begin_0 ≤ 2000) (kz_0_9 : (-176) ≤ number_0 ∧ number_0 ≤ 1000000) (kz_0_11 : 0 ≤ depth_0 ∧ depth_0 ≤ 4) (kz_1_0 : 0 ≤ nodes_0o1 ∧ nodes_0o1 ≤ 24) (kz_1_1 : 0 ≤ edges_0o1 ∧ edges_0o1 ≤ 48) (kz_1_2 : 0 ≤ groups_0o1 ∧ groups_0o1 ≤ 8) (ex2 : gx = next_0) : cG9w (end_0) (depth_0) (nodes_0o1) (edges_0o1) (groups_0o1) (tape_0) (open_0) (nameLength_0o1) (name_0o1) (tail_0o1) (head_0o1) (gx) := by
  exact le_9 ‹cLE _ _ _ _ _ _ _ _ _ _ _ _ _ _ _ _› (by omega) (by omega)
set_option maxHeartbeats 4000000 in
theorem vc_Re_readEdges_11_3 (fault_0 : Int) (f11 : fault_0 = 0) (kz_0_2 : (-1) ≤ fault_0 ∧ fault_0 ≤ 5) : fault_0 = 0 := by
  first
    | omega
  
set_option maxHeartbeats 4000000 in
theorem vc_Re_readEdges_11_4 (x2 : Int) (x6 : Int) (edges_0o1 : Int) (gx : Int) (k2 : 0 ≤ x2 ∧ x2 ≤ 2000) (k6 : 49 ≤ x6 ∧ x6 ≤ 49) (f9 : x6 ≤ edges_0o1) (kz_1_1 : 0 ≤ edges_0o1 ∧ edges_0o1 ≤ 48) : 1 * x2 + ((-1) * gx + 0) ≤ 0 := by
  first
    | omega
  
def o_Re_readEdges_11 : or_T := (213, 13, [(0, (2, 0, 0, [8])), (1, (2, 0, 0, [164])), (2, (0, 0, 2000, [])), (4, (0, 0, 23, [])), (6, (0, 49, 49, []))], [(24, [1, 7], []), (20, [3, 7, 4], [60, 9, 6, 1061, 5, 6, 7, 8, 9, 11, 1000, 1001, 1002, 0, 10, 1004, 1003, 1007, 1008]), (20, [6, 7], [50, 1, 0, 1001, 0, 2, 1, 0, 2, 1, 1]), (20, [3], [50, 1, 0, 2, 1, 3, 2, 0, 2, 0, 0]), (24, [0, 3], [])], [], [(0, 0, 2000, [])], [(20, [3, 13], [30, 0, 1, 1, 6, -1, 0, 0]), (20, [3, 13], [30, 0, -1, 1, 6, 1, 0, 0]), (20, [3, 7, 13], [60, 5, 6, 1049, 5, 11, 1000, 1001, 1002, 0, 10, 1004, 1003, 1007, 1008]), (20, [3], [50, 1, 0, 2, 1, 3, 2, 0, 2, 0, 0]), (20, [2, 13], [30, 0, 1, 0, 0, -1, 0, 0])], [], [])
theorem oo_Re_readEdges_11 {kA : Nat → ClassId} : or_ok PRD kA GG o_Re_readEdges_11 := by
  refine or_mk fun A ta ws vs hD hth hl => ?_
  intro t0 r0 t1 r1 t2 k2 t4 k4 t6 k6 f5 f7 f9 f11 f12
  replace f5 := shm_5 f5
  replace f7 := shm_2137 f7
  replace f9 := shm_483 f9
  replace f11 := shm_1985 f11
  replace f12 := shm_5 f12
  have q7 : n_v vs 7 = n_v vs 1 := f5.symm
  have q3 : n_v vs 3 = n_v vs 0 := f12.symm
  simp only [q3, q7] at f7 f9 f11
  have kz_0_2 := fdq_97 hD hth r0
  have kz_0_5 := fdq_207 hD hth r0
  have kz_0_6 := fdq_208 hD hth r0
  have kz_0_7 := fdq_297 hD hth r0
  have kz_0_8 := fdq_99 hD hth r0
  have kz_0_9 := fdq_296 hD hth r0
  have kz_0_11 := fdq_320 hD hth r0
  have kz_1_0 := fdq_73 hD hth r1
  have kz_1_1 := fdq_74 hD hth r1
  have kz_1_2 := fdq_206 hD hth r1
  obtain ⟨x, ex, hx⟩ := iv_ex (ta := ta) (lo := 0) (hi := 2000) (z := w_fi ws (n_v vs 0) 6) (by omega) (by omega) (by omega) (by omega)
  have ex2 : v_iv (Value.int x) = w_fi ws (n_v vs 0) 6 := ex
  have ex3 : 0 ≤ v_iv (Value.int x) ∧ v_iv (Value.int x) ≤ 2000 := tv_rng hx
  have e_2 : n_v (vs ++ [Value.int x]) 2 = n_v vs 2 := n_v_old (by rw [hl]; decide)
  have e_3 : n_v (vs ++ [Value.int x]) 3 = n_v vs 3 := n_v_old (by rw [hl]; decide)
  have e_7 : n_v (vs ++ [Value.int x]) 7 = n_v vs 7 := n_v_old (by rw [hl]; decide)
  have e_13 : n_v (vs ++ [Value.int x]) 13 = Value.int x := n_v_new hl
  have nf0 : fc_1 PRD (20, [3, 13], [30, 0, 1, 1, 6, -1, 0, 0]) ws (vs ++ [Value.int x]) := by
    refine ⟨nf_inA hl rfl, sgq_1523 ?_⟩
    · show 1 * w_fi ws (n_v (vs ++ [Value.int x]) 3) 6 + ((-1) * v_iv (n_v (vs ++ [Value.int x]) 13) + 0) ≤ 0
      simp only [e_3, e_13, q3]
      exact vc_Re_readEdges_11_0 (v_iv (n_v vs 6)) (w_fi ws (n_v vs 1) 1) (w_fi ws (n_v vs 0) 6) (v_iv (Value.int x)) k6 f9 kz_0_6 kz_1_1
  have nf1 : fc_1 PRD (20, [3, 13], [30, 0, -1, 1, 6, 1, 0, 0]) ws (vs ++ [Value.int x]) := by
    refine ⟨nf_inA hl rfl, sgq_1524 ?_⟩
    · show (-1) * w_fi ws (n_v (vs ++ [Value.int x]) 3) 6 + (1 * v_iv (n_v (vs ++ [Value.int x]) 13) + 0) ≤ 0
      simp only [e_3, e_13, q3]
      exact vc_Re_readEdges_11_1 (v_iv (n_v vs 6)) (w_fi ws (n_v vs 1) 1) (w_fi ws (n_v vs 0) 6) (v_iv (Value.int x)) k6 f9 kz_0_6 kz_1_1
  have nf2 : fc_1 PRD (20, [3, 7, 13], [60, 5, 6, 1049, 5, 11, 1000, 1001, 1002, 0, 10, 1004, 1003, 1007, 1008]) ws (vs ++ [Value.int x]) := by
    refine ⟨nf_inA hl rfl, sgq_1993 ?_⟩
    · show cG9w (w_fi ws (n_v (vs ++ [Value.int x]) 3) 5) (w_fi ws (n_v (vs ++ [Value.int x]) 3) 11) (w_fi ws (n_v (vs ++ [Value.int x]) 7) 0) (w_fi ws (n_v (vs ++ [Value.int x]) 7) 1) (w_fi ws (n_v (vs ++ [Value.int x]) 7) 2) (w_ei ws (w_ar ws (n_v (vs ++ [Value.int x]) 3) 0)) (w_ei ws (w_ar ws (n_v (vs ++ [Value.int x]) 3) 10)) (w_ei ws (w_ar ws (n_v (vs ++ [Value.int x]) 7) 4)) (w_ei ws (w_ar ws (n_v (vs ++ [Value.int x]) 7) 3)) (w_ei ws (w_ar ws (n_v (vs ++ [Value.int x]) 7) 7)) (w_ei ws (w_ar ws (n_v (vs ++ [Value.int x]) 7) 8)) (v_iv (n_v (vs ++ [Value.int x]) 13))
      simp only [e_3, e_7, e_13, q7, q3]
      exact vc_Re_readEdges_11_2 (v_iv (n_v vs 4)) (v_iv (n_v vs 6)) (w_fi ws (n_v vs 0) 7) (w_ei ws (w_ar ws (n_v vs 1) 7)) (w_ei ws (w_ar ws (n_v vs 1) 8)) (w_fi ws (n_v vs 1) 0) (w_fi ws (n_v vs 1) 1) (w_ei ws (w_ar ws (n_v vs 0) 0)) (w_ei ws (w_ar ws (n_v vs 0) 10)) (w_ei ws (w_ar ws (n_v vs 1) 4)) (w_ei ws (w_ar ws (n_v vs 1) 3)) (w_fi ws (n_v vs 0) 5) (w_fi ws (n_v vs 0) 6) (w_fi ws (n_v vs 0) 8) (w_fi ws (n_v vs 0) 9) (w_fi ws (n_v vs 0) 11) (w_fi ws (n_v vs 1) 2) (v_iv (Value.int x)) k4 k6 f7 f9 kz_0_5 kz_0_6 kz_0_7 kz_0_8 kz_0_9 kz_0_11 kz_1_0 kz_1_1 kz_1_2 ex2
  have nf3 : fc_1 PRD (20, [3], [50, 1, 0, 2, 1, 3, 2, 0, 2, 0, 0]) ws (vs ++ [Value.int x]) := by
    refine ⟨nf_inA hl rfl, sgq_1985 ?_⟩
    · show w_fi ws (n_v (vs ++ [Value.int x]) 3) 2 = 0
      simp only [e_3, q3]
      exact vc_Re_readEdges_11_3 (w_fi ws (n_v vs 0) 2) f11 kz_0_2
  have nf4 : fc_1 PRD (20, [2, 13], [30, 0, 1, 0, 0, -1, 0, 0]) ws (vs ++ [Value.int x]) := by
    refine ⟨nf_inA hl rfl, sgq_201 ?_⟩
    · show 1 * v_iv (n_v (vs ++ [Value.int x]) 2) + ((-1) * v_iv (n_v (vs ++ [Value.int x]) 13) + 0) ≤ 0
      simp only [e_2, e_13]
      exact vc_Re_readEdges_11_4 (v_iv (n_v vs 2)) (v_iv (n_v vs 6)) (w_fi ws (n_v vs 1) 1) (v_iv (Value.int x)) k2 k6 f9 kz_1_1
  exact ⟨(fun _ h => (by cases h)), [Value.int x], ag_one hx, List.forall_mem_cons.mpr ⟨⟨show (20 : Nat) < 100 from by decide, nf0⟩, List.forall_mem_cons.mpr ⟨⟨show (20 : Nat) < 100 from by decide, nf1⟩, List.forall_mem_cons.mpr ⟨⟨show (20 : Nat) < 100 from by decide, nf2⟩, List.forall_mem_cons.mpr ⟨⟨show (20 : Nat) < 100 from by decide, nf3⟩, List.forall_mem_cons.mpr ⟨⟨show (20 : Nat) < 100 from by decide, nf4⟩, (fun _ h => (by cases h))⟩⟩⟩⟩⟩, (fun _ h => (by cases h))⟩
set_option maxHeartbeats 4000000 in
theorem vc_Re_readEdges_12_0 (tail_0o1 : Int → Int) (head_0o1 : Int → Int) (nodes_0o1 : Int) (edges_0o1 : Int) (near_0o1 : Int → Int) (f3 : GNB (nodes_0o1) (edges_0o1) (near_0o1) (tail_0o1) (head_0o1)) (kz_1_0 : 0 ≤ nodes_0o1 ∧ nodes_0o1 ≤ 24) (kz_1_1 : 0 ≤ edges_0o1 ∧ edges_0o1 ≤ 48) : GNB (nodes_0o1) (edges_0o1) (near_0o1) (tail_0o1) (head_0o1) := by
  first
    | assumption
  
set_option maxHeartbeats 4000000 in
theorem vc_Re_readEdges_12_1 (tail_0o1 : Int → Int) (head_0o1 : Int → Int) (nodes_0o1 : Int) (edges_0o1 : Int) (f4 : GKE (nodes_0o1) (edges_0o1) (tail_0o1) (head_0o1)) (kz_1_0 : 0 ≤ nodes_0o1 ∧ nodes_0o1 ≤ 24) (kz_1_1 : 0 ≤ edges_0o1 ∧ edges_0o1 ≤ 48) : GKE (nodes_0o1) (edges_0o1) (tail_0o1) (head_0o1) := by
  first
    | assumption
  
set_option maxHeartbeats 4000000 in
theorem vc_Re_readEdges_12_2 (x6 : Int) (x14 : Int) (x15 : Int) (tape_0 : Int → Int) (open_0 : Int → Int) (nameLength_0o1 : Int → Int) (name_0o1 : Int → Int) (tail_0o1 : Int → Int) (head_0o1 : Int → Int) (end_0 : Int) (depth_0 : Int) (nodes_0o1 : Int) (edges_0o1 : Int) (groups_0o1 : Int) (next_0 : Int) (fault_0 : Int) (faultPlace_0 : Int) (k6 : 49 ≤ x6 ∧ x6 ≤ 49) (k14 : 0 ≤ x14 ∧ x14 ≤ 0) (k15 : 0 ≤ x15 ∧ x15 ≤ 0) (f0 : x14 = 0) (f7 : x6 ≤ edges_0o1) (f12 : cO13 (end_0) (next_0) (depth_0) (fault_0) (faultPlace_0) (nodes_0o1) (edges_0o1) (groups_0o1) (tape_0) (open_0) (nameLength_0o1) (name_0o1) (tail_0o1) (head_0o1) (x14)) (kz_0_2 : (-1) ≤ fault_0 ∧ fault_0 ≤ 5) (kz_0_3 : (-1) ≤ faultPlace_0 ∧ faultPlace_0 ≤ 2000) (kz_0_5 : 0 ≤ end_0 ∧ end_0 ≤ 2000) (kz_0_6 : 0 ≤ next_0 ∧ next_0 ≤ 2000) (kz_0_11 : 0 ≤ depth_0 ∧ depth_0 ≤ 4) (kz_1_0 : 0 ≤ nodes_0o1 ∧ nodes_0o1 ≤ 24) (kz_1_1 : 0 ≤ edges_0o1 ∧ edges_0o1 ≤ 48) (kz_1_2 : 0 ≤ groups_0o1 ∧ groups_0o1 ≤ 8) : cO0 (end_0) (next_0) (depth_0) (fault_0) (faultPlace_0) (nodes_0o1) (edges_0o1) (groups_0o1) (tape_0) (open_0) (nameLength_0o1) (name_0o1) (tail_0o1) (head_0o1) (x15) := by
  first
    | exact cO0_f ‹FSY _ _ _ _› (by omega) (by omega) (by omega)
    | exact cO_13 ‹cO13 _ _ _ _ _ _ _ _ _ _ _ _ _ _ _› (by omega) (by omega)
    | exact cO0_t (s_go (le_s ‹cLE _ _ _ _ _ _ _ _ _ _ _ _ _ _ _ _› (by omega)) (by omega) rfl) (by omega) (by omega)
    | exact cO0_t (s_go (n13_s ‹TKC _ _ _ _ _ _ _› ‹cG13 _ _ _ _ _ _ _ _ _ _ _ _›) (by omega) rfl) (by omega) (by omega)
set_option maxHeartbeats 4000000 in
theorem vc_Re_readEdges_12_3 (x2 : Int) (x6 : Int) (edges_0o1 : Int) (next_0 : Int) (k2 : 0 ≤ x2 ∧ x2 ≤ 2000) (k6 : 49 ≤ x6 ∧ x6 ≤ 49) (f7 : x6 ≤ edges_0o1) (kz_0_6 : 0 ≤ next_0 ∧ next_0 ≤ 2000) (kz_1_1 : 0 ≤ edges_0o1 ∧ edges_0o1 ≤ 48) : 1 * x2 + ((-1) * next_0 + 0) ≤ 0 := by
  first
    | omega
  
set_option maxHeartbeats 4000000 in
theorem vc_Re_readEdges_12_4 (tail_0o1 : Int → Int) (head_0o1 : Int → Int) (edges_0o1 : Int) (link_0o1 : Int → Int) (f8 : LKG (edges_0o1) (tail_0o1) (head_0o1) (link_0o1)) (kz_1_1 : 0 ≤ edges_0o1 ∧ edges_0o1 ≤ 48) : LKG (edges_0o1) (tail_0o1) (head_0o1) (link_0o1) := by
  assumption
def o_Re_readEdges_12 : or_T := (220, 16, [(0, (2, 0, 0, [8])), (1, (2, 0, 0, [164])), (2, (0, 0, 2000, [])), (6, (0, 49, 49, [])), (14, (0, 0, 0, [])), (15, (0, 0, 0, []))], [(8, [14], [0]), (20, [7], [60, 2, 3, 670, 0, 1, 14, 7, 8]), (20, [7], [60, 2, 2, 596, 0, 1, 7, 8]), (24, [1, 7], []), (20, [6, 7], [50, 1, 0, 1001, 0, 2, 1, 0, 2, 1, 1]), (20, [7], [60, 1, 3, 1085, 1, 7, 8, 15]), (24, [0, 3], []), (20, [3, 7, 14], [60, 8, 6, 1064, 5, 6, 11, 2, 3, 1000, 1001, 1002, 0, 10, 1004, 1003, 1007, 1008])], [], [], [(20, [1], [60, 2, 3, 670, 0, 1, 14, 7, 8]), (20, [1], [60, 2, 2, 596, 0, 1, 7, 8]), (20, [0, 1, 15], [60, 8, 6, 1063, 5, 6, 11, 2, 3, 1000, 1001, 1002, 0, 10, 1004, 1003, 1007, 1008]), (20, [2, 0], [30, 0, 1, 0, 0, -1, 1, 6]), (20, [1], [60, 1, 3, 1085, 1, 7, 8, 15])], [], [])
theorem oo_Re_readEdges_12 {kA : Nat → ClassId} : or_ok PRD kA GG o_Re_readEdges_12 := by
  refine or_mk fun A ta ws vs hD hth hl => ?_
  intro t0 r0 t1 r1 t2 k2 t6 k6 t14 k14 t15 k15 f0 f3 f4 f5 f7 f8 f9 f12
  replace f3 := shm_825 f3
  replace f4 := shm_386 f4
  replace f5 := shm_5 f5
  replace f7 := shm_483 f7
  replace f8 := shm_827 f8
  replace f9 := shm_5 f9
  replace f12 := shm_1991 f12
  have q7 : n_v vs 7 = n_v vs 1 := f5.symm
  have q3 : n_v vs 3 = n_v vs 0 := f9.symm
  simp only [q7, q3] at f3 f4 f7 f8 f12
  have kz_0_2 := fdq_97 hD hth r0
  have kz_0_3 := fdq_98 hD hth r0
  have kz_0_5 := fdq_207 hD hth r0
  have kz_0_6 := fdq_208 hD hth r0
  have kz_0_11 := fdq_320 hD hth r0
  have kz_1_0 := fdq_73 hD hth r1
  have kz_1_1 := fdq_74 hD hth r1
  have kz_1_2 := fdq_206 hD hth r1
  have nf0 : fc_1 PRD (20, [1], [60, 2, 3, 670, 0, 1, 14, 7, 8]) ws (vs) := ⟨nf_in hl rfl, sgq_825 (vc_Re_readEdges_12_0 (w_ei ws (w_ar ws (n_v vs 1) 7)) (w_ei ws (w_ar ws (n_v vs 1) 8)) (w_fi ws (n_v vs 1) 0) (w_fi ws (n_v vs 1) 1) (w_ei ws (w_ar ws (n_v vs 1) 14)) f3 kz_1_0 kz_1_1)⟩
  have nf1 : fc_1 PRD (20, [1], [60, 2, 2, 596, 0, 1, 7, 8]) ws (vs) := ⟨nf_in hl rfl, sgq_386 (vc_Re_readEdges_12_1 (w_ei ws (w_ar ws (n_v vs 1) 7)) (w_ei ws (w_ar ws (n_v vs 1) 8)) (w_fi ws (n_v vs 1) 0) (w_fi ws (n_v vs 1) 1) f4 kz_1_0 kz_1_1)⟩
  have nf2 : fc_1 PRD (20, [0, 1, 15], [60, 8, 6, 1063, 5, 6, 11, 2, 3, 1000, 1001, 1002, 0, 10, 1004, 1003, 1007, 1008]) ws (vs) := ⟨nf_in hl rfl, sgq_2023 (vc_Re_readEdges_12_2 (v_iv (n_v vs 6)) (v_iv (n_v vs 14)) (v_iv (n_v vs 15)) (w_ei ws (w_ar ws (n_v vs 0) 0)) (w_ei ws (w_ar ws (n_v vs 0) 10)) (w_ei ws (w_ar ws (n_v vs 1) 4)) (w_ei ws (w_ar ws (n_v vs 1) 3)) (w_ei ws (w_ar ws (n_v vs 1) 7)) (w_ei ws (w_ar ws (n_v vs 1) 8)) (w_fi ws (n_v vs 0) 5) (w_fi ws (n_v vs 0) 11) (w_fi ws (n_v vs 1) 0) (w_fi ws (n_v vs 1) 1) (w_fi ws (n_v vs 1) 2) (w_fi ws (n_v vs 0) 6) (w_fi ws (n_v vs 0) 2) (w_fi ws (n_v vs 0) 3) k6 k14 k15 (shm_192 f0) f7 f12 kz_0_2 kz_0_3 kz_0_5 kz_0_6 kz_0_11 kz_1_0 kz_1_1 kz_1_2)⟩
  have nf3 : fc_1 PRD (20, [2, 0], [30, 0, 1, 0, 0, -1, 1, 6]) ws (vs) := ⟨nf_in hl rfl, sgq_1527 (vc_Re_readEdges_12_3 (v_iv (n_v vs 2)) (v_iv (n_v vs 6)) (w_fi ws (n_v vs 1) 1) (w_fi ws (n_v vs 0) 6) k2 k6 f7 kz_0_6 kz_1_1)⟩
  have nf4 : fc_1 PRD (20, [1], [60, 1, 3, 1085, 1, 7, 8, 15]) ws (vs) := ⟨nf_in hl rfl, sgq_827 (vc_Re_readEdges_12_4 (w_ei ws (w_ar ws (n_v vs 1) 7)) (w_ei ws (w_ar ws (n_v vs 1) 8)) (w_fi ws (n_v vs 1) 1) (w_ei ws (w_ar ws (n_v vs 1) 15)) f8 kz_1_1)⟩
  refine ⟨(fun _ h => (by cases h)), [], trivial, ?_, (fun _ h => (by cases h))⟩
  rw [List.append_nil]
  exact List.forall_mem_cons.mpr ⟨⟨show (20 : Nat) < 100 from by decide, nf0⟩, List.forall_mem_cons.mpr ⟨⟨show (20 : Nat) < 100 from by decide, nf1⟩, List.forall_mem_cons.mpr ⟨⟨show (20 : Nat) < 100 from by decide, nf2⟩, List.forall_mem_cons.mpr ⟨⟨show (20 : Nat) < 100 from by decide, nf3⟩, List.forall_mem_cons.mpr ⟨⟨show (20 : Nat) < 100 from by decide, nf4⟩, (fun _ h => (by cases h))⟩⟩⟩⟩⟩
set_option maxHeartbeats 4000000 in
theorem vc_Re_readEdges_13_0 (x6 : Int) (edges_0o1 : Int) (number_0 : Int) (k6 : 49 ≤ x6 ∧ x6 ≤ 49) (f7 : x6 ≤ edges_0o1) (kz_0_9 : (-176) ≤ number_0 ∧ number_0 ≤ 1000000) (kz_1_1 : 0 ≤ edges_0o1 ∧ edges_0o1 ≤ 48) : 1 * number_0 + 0 ≤ 9 := by
  first
    | omega
    | (skip; exact (cO13_1 ‹cO13 _ _ _ _ _ _ _ _ _ _ _ _ _ _ _› (by omega) rfl).1)
set_option maxHeartbeats 4000000 in
theorem vc_Re_readEdges_13_1 (x6 : Int) (edges_0o1 : Int) (number_0 : Int) (k6 : 49 ≤ x6 ∧ x6 ≤ 49) (f7 : x6 ≤ edges_0o1) (kz_0_9 : (-176) ≤ number_0 ∧ number_0 ≤ 1000000) (kz_1_1 : 0 ≤ edges_0o1 ∧ edges_0o1 ≤ 48) : (-1) * number_0 + 0 ≤ (-1) := by
  first
    | omega
    | (skip; exact (cO13_1 ‹cO13 _ _ _ _ _ _ _ _ _ _ _ _ _ _ _› (by omega) rfl).1)
set_option maxHeartbeats 4000000 in
theorem vc_Re_readEdges_13_2 (x14 : Int) (tape_0 : Int → Int) (open_0 : Int → Int) (nameLength_0o1 : Int → Int) (name_0o1 : Int → Int) (tail_0o1 : Int → Int) (head_0o1 : Int → Int) (end_0 : Int) (depth_0 : Int) (nodes_0o1 : Int) (edges_0o1 : Int) (groups_0o1 : Int) (next_0 : Int) (fault_0 : Int) (faultPlace_0 : Int) (k14 : 1 ≤ x14 ∧ x14 ≤ 1) (f0 : x14 ≠ 0) (f12 : cO13 (end_0) (next_0) (depth_0) (fault_0) (faultPlace_0) (nodes_0o1) (edges_0o1) (groups_0o1) (tape_0) (open_0) (nameLength_0o1) (name_0o1) (tail_0o1) (head_0o1) (x14)) (kz_0_2 : (-1) ≤ fault_0 ∧ fault_0 ≤ 5) (kz_0_3 : (-1) ≤ faultPlace_0 ∧ faultPlace_0 ≤ 2000) (kz_0_5 : 0 ≤ end_0 ∧ end_0 ≤ 2000) (kz_0_6 : 0 ≤ next_0 ∧ next_0 ≤ 2000) (kz_0_11 : 0 ≤ depth_0 ∧ depth_0 ≤ 4) (kz_1_0 : 0 ≤ nodes_0o1 ∧ nodes_0o1 ≤ 24) (kz_1_1 : 0 ≤ edges_0o1 ∧ edges_0o1 ≤ 48) (kz_1_2 : 0 ≤ groups_0o1 ∧ groups_0o1 ≤ 8) : cG13n (end_0) (next_0) (depth_0) (nodes_0o1) (edges_0o1) (groups_0o1) (tape_0) (open_0) (nameLength_0o1) (name_0o1) (tail_0o1) (head_0o1) := by
  first
    | assumption
    | exact (cO13_1 ‹cO13 _ _ _ _ _ _ _ _ _ _ _ _ _ _ _› (by omega) rfl).2
set_option maxHeartbeats 4000000 in
theorem vc_Re_readEdges_13_3 (x2 : Int) (x6 : Int) (edges_0o1 : Int) (next_0 : Int) (k2 : 0 ≤ x2 ∧ x2 ≤ 2000) (k6 : 49 ≤ x6 ∧ x6 ≤ 49) (f7 : x6 ≤ edges_0o1) (kz_0_6 : 0 ≤ next_0 ∧ next_0 ≤ 2000) (kz_1_1 : 0 ≤ edges_0o1 ∧ edges_0o1 ≤ 48) : 1 * x2 + ((-1) * next_0 + 0) ≤ 0 := by
  first
    | omega
    | (skip; exact (cO13_1 ‹cO13 _ _ _ _ _ _ _ _ _ _ _ _ _ _ _› (by omega) rfl).1)
set_option maxHeartbeats 4000000 in
theorem vc_Re_readEdges_13_4 (x6 : Int) (edges_0o1 : Int) (fault_0 : Int) (k6 : 49 ≤ x6 ∧ x6 ≤ 49) (f7 : x6 ≤ edges_0o1) (kz_0_2 : (-1) ≤ fault_0 ∧ fault_0 ≤ 5) (kz_1_1 : 0 ≤ edges_0o1 ∧ edges_0o1 ≤ 48) : fault_0 = 0 := by
  first
    | omega
    | (skip; exact (cO13_1 ‹cO13 _ _ _ _ _ _ _ _ _ _ _ _ _ _ _› (by omega) rfl).1)
def o_Re_readEdges_13 : or_T := (223, 15, [(0, (2, 0, 0, [8])), (1, (2, 0, 0, [164])), (2, (0, 0, 2000, [])), (6, (0, 49, 49, [])), (14, (0, 1, 1, []))], [(8, [14], [1]), (24, [1, 7], []), (20, [6, 7], [50, 1, 0, 1001, 0, 2, 1, 0, 2, 1, 1]), (24, [0, 3], []), (20, [3, 7, 14], [60, 8, 6, 1064, 5, 6, 11, 2, 3, 1000, 1001, 1002, 0, 10, 1004, 1003, 1007, 1008])], [], [], [(20, [3], [30, 9, 1, 1, 9]), (20, [3], [30, -1, -1, 1, 9]), (20, [3, 7], [60, 6, 6, 1057, 5, 6, 11, 1000, 1001, 1002, 0, 10, 1004, 1003, 1007, 1008]), (20, [2, 3], [30, 0, 1, 0, 0, -1, 1, 6]), (20, [3], [50, 1, 0, 2, 1, 3, 2, 0, 2, 0, 0])], [], [])
theorem oo_Re_readEdges_13 {kA : Nat → ClassId} : or_ok PRD kA GG o_Re_readEdges_13 := by
  refine or_mk fun A ta ws vs hD hth hl => ?_
  intro t0 r0 t1 r1 t2 k2 t6 k6 t14 k14 f0 f5 f7 f9 f12
  replace f0 := shm_142 f0
  replace f5 := shm_5 f5
  replace f7 := shm_483 f7
  replace f9 := shm_5 f9
  replace f12 := shm_1991 f12
  have q7 : n_v vs 7 = n_v vs 1 := f5.symm
  have q3 : n_v vs 3 = n_v vs 0 := f9.symm
  simp only [q7, q3] at f7 f12
  have kz_0_2 := fdq_97 hD hth r0
  have kz_0_3 := fdq_98 hD hth r0
  have kz_0_5 := fdq_207 hD hth r0
  have kz_0_6 := fdq_208 hD hth r0
  have kz_0_9 := fdq_296 hD hth r0
  have kz_0_11 := fdq_320 hD hth r0
  have kz_1_0 := fdq_73 hD hth r1
  have kz_1_1 := fdq_74 hD hth r1
  have kz_1_2 := fdq_206 hD hth r1
  have nf0 : fc_1 PRD (20, [3], [30, 9, 1, 1, 9]) ws (vs) := by
    refine ⟨nf_in hl rfl, sgq_2138 ?_⟩
    · show 1 * w_fi ws (n_v vs 3) 9 + 0 ≤ 9
      rw [q3]
      exact vc_Re_readEdges_13_0 (v_iv (n_v vs 6)) (w_fi ws (n_v vs 1) 1) (w_fi ws (n_v vs 0) 9) k6 f7 kz_0_9 kz_1_1
  have nf1 : fc_1 PRD (20, [3], [30, -1, -1, 1, 9]) ws (vs) := by
    refine ⟨nf_in hl rfl, sgq_2139 ?_⟩
    · show (-1) * w_fi ws (n_v vs 3) 9 + 0 ≤ (-1)
      rw [q3]
      exact vc_Re_readEdges_13_1 (v_iv (n_v vs 6)) (w_fi ws (n_v vs 1) 1) (w_fi ws (n_v vs 0) 9) k6 f7 kz_0_9 kz_1_1
  have nf2 : fc_1 PRD (20, [3, 7], [60, 6, 6, 1057, 5, 6, 11, 1000, 1001, 1002, 0, 10, 1004, 1003, 1007, 1008]) ws (vs) := by
    refine ⟨nf_in hl rfl, sgq_2140 ?_⟩
    · show cG13n (w_fi ws (n_v vs 3) 5) (w_fi ws (n_v vs 3) 6) (w_fi ws (n_v vs 3) 11) (w_fi ws (n_v vs 7) 0) (w_fi ws (n_v vs 7) 1) (w_fi ws (n_v vs 7) 2) (w_ei ws (w_ar ws (n_v vs 3) 0)) (w_ei ws (w_ar ws (n_v vs 3) 10)) (w_ei ws (w_ar ws (n_v vs 7) 4)) (w_ei ws (w_ar ws (n_v vs 7) 3)) (w_ei ws (w_ar ws (n_v vs 7) 7)) (w_ei ws (w_ar ws (n_v vs 7) 8))
      simp only [q7, q3]
      exact vc_Re_readEdges_13_2 (v_iv (n_v vs 14)) (w_ei ws (w_ar ws (n_v vs 0) 0)) (w_ei ws (w_ar ws (n_v vs 0) 10)) (w_ei ws (w_ar ws (n_v vs 1) 4)) (w_ei ws (w_ar ws (n_v vs 1) 3)) (w_ei ws (w_ar ws (n_v vs 1) 7)) (w_ei ws (w_ar ws (n_v vs 1) 8)) (w_fi ws (n_v vs 0) 5) (w_fi ws (n_v vs 0) 11) (w_fi ws (n_v vs 1) 0) (w_fi ws (n_v vs 1) 1) (w_fi ws (n_v vs 1) 2) (w_fi ws (n_v vs 0) 6) (w_fi ws (n_v vs 0) 2) (w_fi ws (n_v vs 0) 3) k14 f0 f12 kz_0_2 kz_0_3 kz_0_5 kz_0_6 kz_0_11 kz_1_0 kz_1_1 kz_1_2
  have nf3 : fc_1 PRD (20, [2, 3], [30, 0, 1, 0, 0, -1, 1, 6]) ws (vs) := by
    refine ⟨nf_in hl rfl, sgq_1527 ?_⟩
    · show 1 * v_iv (n_v vs 2) + ((-1) * w_fi ws (n_v vs 3) 6 + 0) ≤ 0
      rw [q3]
      exact vc_Re_readEdges_13_3 (v_iv (n_v vs 2)) (v_iv (n_v vs 6)) (w_fi ws (n_v vs 1) 1) (w_fi ws (n_v vs 0) 6) k2 k6 f7 kz_0_6 kz_1_1
  have nf4 : fc_1 PRD (20, [3], [50, 1, 0, 2, 1, 3, 2, 0, 2, 0, 0]) ws (vs) := by
    refine ⟨nf_in hl rfl, sgq_1985 ?_⟩
    · show w_fi ws (n_v vs 3) 2 = 0
      rw [q3]
      exact vc_Re_readEdges_13_4 (v_iv (n_v vs 6)) (w_fi ws (n_v vs 1) 1) (w_fi ws (n_v vs 0) 2) k6 f7 kz_0_2 kz_1_1
  refine ⟨(fun _ h => (by cases h)), [], trivial, ?_, (fun _ h => (by cases h))⟩
  rw [List.append_nil]
  exact List.forall_mem_cons.mpr ⟨⟨show (20 : Nat) < 100 from by decide, nf0⟩, List.forall_mem_cons.mpr ⟨⟨show (20 : Nat) < 100 from by decide, nf1⟩, List.forall_mem_cons.mpr ⟨⟨show (20 : Nat) < 100 from by decide, nf2⟩, List.forall_mem_cons.mpr ⟨⟨show (20 : Nat) < 100 from by decide, nf3⟩, List.forall_mem_cons.mpr ⟨⟨show (20 : Nat) < 100 from by decide, nf4⟩, (fun _ h => (by cases h))⟩⟩⟩⟩⟩
set_option maxHeartbeats 4000000 in
theorem vc_Re_readEdges_14_0 (number_0 : Int) (gx : Int) (kz_0_9 : (-176) ≤ number_0 ∧ number_0 ≤ 1000000) (ex2 : gx = number_0) : 1 * number_0 + ((-1) * gx + 0) ≤ 0 := by
  first
    | omega
  
set_option maxHeartbeats 4000000 in
theorem vc_Re_readEdges_14_1 (number_0 : Int) (gx : Int) (kz_0_9 : (-176) ≤ number_0 ∧ number_0 ≤ 1000000) (ex2 : gx = number_0) : (-1) * number_0 + (1 * gx + 0) ≤ 0 := by
  first
    | omega
  
set_option maxHeartbeats 4000000 in
theorem vc_Re_readEdges_14_2 (next_0 : Int) (gy : Int) (kz_0_6 : 0 ≤ next_0 ∧ next_0 ≤ 2000) (ey2 : gy = next_0) : 1 * next_0 + ((-1) * gy + 0) ≤ 0 := by
  first
    | omega
  
set_option maxHeartbeats 4000000 in
theorem vc_Re_readEdges_14_3 (next_0 : Int) (gy : Int) (kz_0_6 : 0 ≤ next_0 ∧ next_0 ≤ 2000) (ey2 : gy = next_0) : (-1) * next_0 + (1 * gy + 0) ≤ 0 := by
  first
    | omega
  
set_option maxHeartbeats 4000000 in
theorem vc_Re_readEdges_14_4 (x4 : Int) (kind_0 : Int) (tail_0o1 : Int → Int) (head_0o1 : Int → Int) (nodes_0o1 : Int) (edges_0o1 : Int) (tape_0 : Int → Int) (open_0 : Int → Int) (nameLength_0o1 : Int → Int) (name_0o1 : Int → Int) (end_0 : Int) (next_0 : Int) (begin_0 : Int) (number_0 : Int) (depth_0 : Int) (groups_0o1 : Int) (gy : Int) (k4 : 0 ≤ x4 ∧ x4 ≤ 23) (f8 : cLE (end_0) (next_0) (kind_0) (begin_0) (number_0) (depth_0) (nodes_0o1) (edges_0o1) (groups_0o1) (tape_0) (open_0) (nameLength_0o1) (name_0o1) (tail_0o1) (head_0o1) (x4)) (kz_0_5 : 0 ≤ end_0 ∧ end_0 ≤ 2000) (kz_0_6 : 0 ≤ next_0 ∧ next_0 ≤ 2000) (kz_0_7 : (-128) ≤ kind_0 ∧ kind_0 ≤ 127) (kz_0_8 : 0 ≤ begin_0 ∧ begin_0 ≤ 2000) (kz_0_9 : (-176) ≤ number_0 ∧ number_0 ≤ 1000000) (kz_0_11 : 0 ≤ depth_0 ∧ depth_0 ≤ 4) (kz_1_0 : 0 ≤ nodes_0o1 ∧ nodes_0o1 ≤ 24) (kz_1_1 : 0 ≤ edges_0o1 ∧ edges_0o1 ≤ 48) (kz_1_2 : 0 ≤ groups_0o1 ∧ groups_0o1 ≤ 8) (ey2 : gy = next_0) : CLM (end_0) (next_0) := by
  exact clm_le ‹cLE _ _ _ _ _ _ _ _ _ _ _ _ _ _ _ _› (by omega)
set_option maxHeartbeats 4000000 in
theorem vc_Re_readEdges_14_5 (x4 : Int) (x9 : Int) (kind_0 : Int) (tail_0o1 : Int → Int) (head_0o1 : Int → Int) (nodes_0o1 : Int) (edges_0o1 : Int) (tape_0 : Int → Int) (open_0 : Int → Int) (nameLength_0o1 : Int → Int) (name_0o1 : Int → Int) (end_0 : Int) (next_0 : Int) (begin_0 : Int) (number_0 : Int) (depth_0 : Int) (groups_0o1 : Int) (gy : Int) (k4 : 0 ≤ x4 ∧ x4 ≤ 23) (k9 : 45 ≤ x9 ∧ x9 ≤ 45) (g1 : x9 = kind_0) (f8 : cLE (end_0) (next_0) (kind_0) (begin_0) (number_0) (depth_0) (nodes_0o1) (edges_0o1) (groups_0o1) (tape_0) (open_0) (nameLength_0o1) (name_0o1) (tail_0o1) (head_0o1) (x4)) (kz_0_5 : 0 ≤ end_0 ∧ end_0 ≤ 2000) (kz_0_6 : 0 ≤ next_0 ∧ next_0 ≤ 2000) (kz_0_7 : (-128) ≤ kind_0 ∧ kind_0 ≤ 127) (kz_0_8 : 0 ≤ begin_0 ∧ begin_0 ≤ 2000) (kz_0_9 : (-176) ≤ number_0 ∧ number_0 ≤ 1000000) (kz_0_11 : 0 ≤ depth_0 ∧ depth_0 ≤ 4) (kz_1_0 : 0 ≤ nodes_0o1 ∧ nodes_0o1 ≤ 24) (kz_1_1 : 0 ≤ edges_0o1 ∧ edges_0o1 ≤ 48) (kz_1_2 : 0 ≤ groups_0o1 ∧ groups_0o1 ≤ 8) (ey2 : gy = next_0) : cG4 (end_0) (depth_0) (nodes_0o1) (edges_0o1) (groups_0o1) (tape_0) (open_0) (nameLength_0o1) (name_0o1) (tail_0o1) (head_0o1) (x4) (gy) := by
  exact le_4 ‹cLE _ _ _ _ _ _ _ _ _ _ _ _ _ _ _ _› (by omega) (by omega)
set_option maxHeartbeats 4000000 in
theorem vc_Re_readEdges_14_6 (x2 : Int) (next_0 : Int) (gy : Int) (k2 : 0 ≤ x2 ∧ x2 ≤ 2000) (f9 : 1 * x2 + ((-1) * next_0 + 0) ≤ 0) (kz_0_6 : 0 ≤ next_0 ∧ next_0 ≤ 2000) (ey2 : gy = next_0) : 1 * x2 + ((-1) * gy + 0) ≤ 0 := by
  first
    | omega
  
set_option maxHeartbeats 4000000 in
theorem vc_Re_readEdges_14_7 (x4 : Int) (x9 : Int) (kind_0 : Int) (tail_0o1 : Int → Int) (head_0o1 : Int → Int) (nodes_0o1 : Int) (edges_0o1 : Int) (tape_0 : Int → Int) (open_0 : Int → Int) (nameLength_0o1 : Int → Int) (name_0o1 : Int → Int) (end_0 : Int) (next_0 : Int) (begin_0 : Int) (number_0 : Int) (depth_0 : Int) (groups_0o1 : Int) (gy : Int) (k4 : 0 ≤ x4 ∧ x4 ≤ 23) (k9 : 45 ≤ x9 ∧ x9 ≤ 45) (g1 : x9 = kind_0) (f8 : cLE (end_0) (next_0) (kind_0) (begin_0) (number_0) (depth_0) (nodes_0o1) (edges_0o1) (groups_0o1) (tape_0) (open_0) (nameLength_0o1) (name_0o1) (tail_0o1) (head_0o1) (x4)) (kz_0_5 : 0 ≤ end_0 ∧ end_0 ≤ 2000) (kz_0_6 : 0 ≤ next_0 ∧ next_0 ≤ 2000) (kz_0_7 : (-128) ≤ kind_0 ∧ kind_0 ≤ 127) (kz_0_8 : 0 ≤ begin_0 ∧ begin_0 ≤ 2000) (kz_0_9 : (-176) ≤ number_0 ∧ number_0 ≤ 1000000) (kz_0_11 : 0 ≤ depth_0 ∧ depth_0 ≤ 4) (kz_1_0 : 0 ≤ nodes_0o1 ∧ nodes_0o1 ≤ 24) (kz_1_1 : 0 ≤ edges_0o1 ∧ edges_0o1 ≤ 48) (kz_1_2 : 0 ≤ groups_0o1 ∧ groups_0o1 ≤ 8) (ey2 : gy = next_0) : cU4 (end_0) (depth_0) (tape_0) (open_0) (x4) (gy) := by
  exact cu_4 (le_4 ‹cLE _ _ _ _ _ _ _ _ _ _ _ _ _ _ _ _› (by omega) (by omega))
def o_Re_readEdges_14 : or_T := (95, 13, [(0, (2, 0, 0, [8])), (1, (2, 0, 0, [164])), (2, (0, 0, 2000, [])), (4, (0, 0, 23, [])), (9, (0, 45, 45, []))], [(9, [9, 3], [7]), (24, [1, 7], []), (20, [3, 7, 4], [60, 9, 6, 1061, 5, 6, 7, 8, 9, 11, 1000, 1001, 1002, 0, 10, 1004, 1003, 1007, 1008]), (20, [2, 3], [30, 0, 1, 0, 0, -1, 1, 6]), (24, [0, 3], [])], [], [(0, -2147483648, 1000000, []), (0, 0, 2000, [])], [(20, [3, 13], [30, 0, 1, 1, 9, -1, 0, 0]), (20, [3, 13], [30, 0, -1, 1, 9, 1, 0, 0]), (20, [3, 14], [30, 0, 1, 1, 6, -1, 0, 0]), (20, [3, 14], [30, 0, -1, 1, 6, 1, 0, 0]), (20, [3], [60, 2, 0, 1073, 5, 6]), (20, [3, 7, 4, 14], [60, 5, 6, 1043, 5, 11, 1000, 1001, 1002, 0, 10, 1004, 1003, 1007, 1008]), (20, [2, 14], [30, 0, 1, 0, 0, -1, 0, 0]), (20, [3, 4, 14], [60, 2, 2, 1070, 5, 11, 0, 10])], [], [])
theorem oo_Re_readEdges_14 {kA : Nat → ClassId} : or_ok PRD kA GG o_Re_readEdges_14 := by
  refine or_mk fun A ta ws vs hD hth hl => ?_
  intro t0 r0 t1 r1 t2 k2 t4 k4 t9 k9 f1 f6 f8 f9 f13
  replace f1 := shm_198 f1
  replace f6 := shm_5 f6
  replace f8 := shm_2137 f8
  replace f9 := shm_1527 f9
  replace f13 := shm_5 f13
  have q7 : n_v vs 7 = n_v vs 1 := f6.symm
  have q3 : n_v vs 3 = n_v vs 0 := f13.symm
  simp only [q3, q7] at f1 f8 f9
  have g1 : v_iv (n_v vs 9) = w_fi ws (n_v vs 0) 7 := congrArg v_iv f1
  have kz_0_5 := fdq_207 hD hth r0
  have kz_0_6 := fdq_208 hD hth r0
  have kz_0_7 := fdq_297 hD hth r0
  have kz_0_8 := fdq_99 hD hth r0
  have kz_0_9 := fdq_296 hD hth r0
  have kz_0_11 := fdq_320 hD hth r0
  have kz_1_0 := fdq_73 hD hth r1
  have kz_1_1 := fdq_74 hD hth r1
  have kz_1_2 := fdq_206 hD hth r1
  obtain ⟨x, ex, hx⟩ := iv_ex (ta := ta) (lo := (-2147483648)) (hi := 1000000) (z := w_fi ws (n_v vs 0) 9) (by omega) (by omega) (by omega) (by omega)
  have ex2 : v_iv (Value.int x) = w_fi ws (n_v vs 0) 9 := ex
  have ex3 : (-2147483648) ≤ v_iv (Value.int x) ∧ v_iv (Value.int x) ≤ 1000000 := tv_rng hx
  obtain ⟨y, ey, hy⟩ := iv_ex (ta := ta) (lo := 0) (hi := 2000) (z := w_fi ws (n_v vs 0) 6) (by omega) (by omega) (by omega) (by omega)
  have ey2 : v_iv (Value.int y) = w_fi ws (n_v vs 0) 6 := ey
  have ey3 : 0 ≤ v_iv (Value.int y) ∧ v_iv (Value.int y) ≤ 2000 := tv_rng hy
  have e_2 : n_v (vs ++ [Value.int x, Value.int y]) 2 = n_v vs 2 := n_v_old (by rw [hl]; decide)
  have e_3 : n_v (vs ++ [Value.int x, Value.int y]) 3 = n_v vs 3 := n_v_old (by rw [hl]; decide)
  have e_4 : n_v (vs ++ [Value.int x, Value.int y]) 4 = n_v vs 4 := n_v_old (by rw [hl]; decide)
  have e_7 : n_v (vs ++ [Value.int x, Value.int y]) 7 = n_v vs 7 := n_v_old (by rw [hl]; decide)
  have e_13 : n_v (vs ++ [Value.int x, Value.int y]) 13 = Value.int x := n_v_new0 hl
  have e_14 : n_v (vs ++ [Value.int x, Value.int y]) 14 = Value.int y := n_v_new1 hl
  have nf0 : fc_1 PRD (20, [3, 13], [30, 0, 1, 1, 9, -1, 0, 0]) ws (vs ++ [Value.int x, Value.int y]) := by
    refine ⟨nf_inA hl rfl, sgq_1521 ?_⟩
    · show 1 * w_fi ws (n_v (vs ++ [Value.int x, Value.int y]) 3) 9 + ((-1) * v_iv (n_v (vs ++ [Value.int x, Value.int y]) 13) + 0) ≤ 0
      simp only [e_3, e_13, q3]
      exact vc_Re_readEdges_14_0 (w_fi ws (n_v vs 0) 9) (v_iv (Value.int x)) kz_0_9 ex2
  have nf1 : fc_1 PRD (20, [3, 13], [30, 0, -1, 1, 9, 1, 0, 0]) ws (vs ++ [Value.int x, Value.int y]) := by
    refine ⟨nf_inA hl rfl, sgq_1522 ?_⟩
    · show (-1) * w_fi ws (n_v (vs ++ [Value.int x, Value.int y]) 3) 9 + (1 * v_iv (n_v (vs ++ [Value.int x, Value.int y]) 13) + 0) ≤ 0
      simp only [e_3, e_13, q3]
      exact vc_Re_readEdges_14_1 (w_fi ws (n_v vs 0) 9) (v_iv (Value.int x)) kz_0_9 ex2
  have nf2 : fc_1 PRD (20, [3, 14], [30, 0, 1, 1, 6, -1, 0, 0]) ws (vs ++ [Value.int x, Value.int y]) := by
    refine ⟨nf_inA hl rfl, sgq_1523 ?_⟩
    · show 1 * w_fi ws (n_v (vs ++ [Value.int x, Value.int y]) 3) 6 + ((-1) * v_iv (n_v (vs ++ [Value.int x, Value.int y]) 14) + 0) ≤ 0
      simp only [e_3, e_14, q3]
      exact vc_Re_readEdges_14_2 (w_fi ws (n_v vs 0) 6) (v_iv (Value.int y)) kz_0_6 ey2
  have nf3 : fc_1 PRD (20, [3, 14], [30, 0, -1, 1, 6, 1, 0, 0]) ws (vs ++ [Value.int x, Value.int y]) := by
    refine ⟨nf_inA hl rfl, sgq_1524 ?_⟩
    · show (-1) * w_fi ws (n_v (vs ++ [Value.int x, Value.int y]) 3) 6 + (1 * v_iv (n_v (vs ++ [Value.int x, Value.int y]) 14) + 0) ≤ 0
      simp only [e_3, e_14, q3]
      exact vc_Re_readEdges_14_3 (w_fi ws (n_v vs 0) 6) (v_iv (Value.int y)) kz_0_6 ey2
  have nf4 : fc_1 PRD (20, [3], [60, 2, 0, 1073, 5, 6]) ws (vs ++ [Value.int x, Value.int y]) := by
    refine ⟨nf_inA hl rfl, sgq_1525 ?_⟩
    · show CLM (w_fi ws (n_v (vs ++ [Value.int x, Value.int y]) 3) 5) (w_fi ws (n_v (vs ++ [Value.int x, Value.int y]) 3) 6)
      simp only [e_3, q3]
      exact vc_Re_readEdges_14_4 (v_iv (n_v vs 4)) (w_fi ws (n_v vs 0) 7) (w_ei ws (w_ar ws (n_v vs 1) 7)) (w_ei ws (w_ar ws (n_v vs 1) 8)) (w_fi ws (n_v vs 1) 0) (w_fi ws (n_v vs 1) 1) (w_ei ws (w_ar ws (n_v vs 0) 0)) (w_ei ws (w_ar ws (n_v vs 0) 10)) (w_ei ws (w_ar ws (n_v vs 1) 4)) (w_ei ws (w_ar ws (n_v vs 1) 3)) (w_fi ws (n_v vs 0) 5) (w_fi ws (n_v vs 0) 6) (w_fi ws (n_v vs 0) 8) (w_fi ws (n_v vs 0) 9) (w_fi ws (n_v vs 0) 11) (w_fi ws (n_v vs 1) 2) (v_iv (Value.int y)) k4 f8 kz_0_5 kz_0_6 kz_0_7 kz_0_8 kz_0_9 kz_0_11 kz_1_0 kz_1_1 kz_1_2 ey2
  have nf5 : fc_1 PRD (20, [3, 7, 4, 14], [60, 5, 6, 1043, 5, 11, 1000, 1001, 1002, 0, 10, 1004, 1003, 1007, 1008]) ws (vs ++ [Value.int x, Value.int y]) := by
    refine ⟨nf_inA hl rfl, sgq_2141 ?_⟩
    · show cG4 (w_fi ws (n_v (vs ++ [Value.int x, Value.int y]) 3) 5) (w_fi ws (n_v (vs ++ [Value.int x, Value.int y]) 3) 11) (w_fi ws (n_v (vs ++ [Value.int x, Value.int y]) 7) 0) (w_fi ws (n_v (vs ++ [Value.int x, Value.int y]) 7) 1) (w_fi ws (n_v (vs ++ [Value.int x, Value.int y]) 7) 2) (w_ei ws (w_ar ws (n_v (vs ++ [Value.int x, Value.int y]) 3) 0)) (w_ei ws (w_ar ws (n_v (vs ++ [Value.int x, Value.int y]) 3) 10)) (w_ei ws (w_ar ws (n_v (vs ++ [Value.int x, Value.int y]) 7) 4)) (w_ei ws (w_ar ws (n_v (vs ++ [Value.int x, Value.int y]) 7) 3)) (w_ei ws (w_ar ws (n_v (vs ++ [Value.int x, Value.int y]) 7) 7)) (w_ei ws (w_ar ws (n_v (vs ++ [Value.int x, Value.int y]) 7) 8)) (v_iv (n_v (vs ++ [Value.int x, Value.int y]) 4)) (v_iv (n_v (vs ++ [Value.int x, Value.int y]) 14))
      simp only [e_3, e_4, e_7, e_14, q7, q3]
      exact vc_Re_readEdges_14_5 (v_iv (n_v vs 4)) (v_iv (n_v vs 9)) (w_fi ws (n_v vs 0) 7) (w_ei ws (w_ar ws (n_v vs 1) 7)) (w_ei ws (w_ar ws (n_v vs 1) 8)) (w_fi ws (n_v vs 1) 0) (w_fi ws (n_v vs 1) 1) (w_ei ws (w_ar ws (n_v vs 0) 0)) (w_ei ws (w_ar ws (n_v vs 0) 10)) (w_ei ws (w_ar ws (n_v vs 1) 4)) (w_ei ws (w_ar ws (n_v vs 1) 3)) (w_fi ws (n_v vs 0) 5) (w_fi ws (n_v vs 0) 6) (w_fi ws (n_v vs 0) 8) (w_fi ws (n_v vs 0) 9) (w_fi ws (n_v vs 0) 11) (w_fi ws (n_v vs 1) 2) (v_iv (Value.int y)) k4 k9 g1 f8 kz_0_5 kz_0_6 kz_0_7 kz_0_8 kz_0_9 kz_0_11 kz_1_0 kz_1_1 kz_1_2 ey2
  have nf6 : fc_1 PRD (20, [2, 14], [30, 0, 1, 0, 0, -1, 0, 0]) ws (vs ++ [Value.int x, Value.int y]) := by
    refine ⟨nf_inA hl rfl, sgq_201 ?_⟩
    · show 1 * v_iv (n_v (vs ++ [Value.int x, Value.int y]) 2) + ((-1) * v_iv (n_v (vs ++ [Value.int x, Value.int y]) 14) + 0) ≤ 0
      simp only [e_2, e_14]
      exact vc_Re_readEdges_14_6 (v_iv (n_v vs 2)) (w_fi ws (n_v vs 0) 6) (v_iv (Value.int y)) k2 f9 kz_0_6 ey2
  have nf7 : fc_1 PRD (20, [3, 4, 14], [60, 2, 2, 1070, 5, 11, 0, 10]) ws (vs ++ [Value.int x, Value.int y]) := by
    refine ⟨nf_inA hl rfl, sgq_2142 ?_⟩
    · show cU4 (w_fi ws (n_v (vs ++ [Value.int x, Value.int y]) 3) 5) (w_fi ws (n_v (vs ++ [Value.int x, Value.int y]) 3) 11) (w_ei ws (w_ar ws (n_v (vs ++ [Value.int x, Value.int y]) 3) 0)) (w_ei ws (w_ar ws (n_v (vs ++ [Value.int x, Value.int y]) 3) 10)) (v_iv (n_v (vs ++ [Value.int x, Value.int y]) 4)) (v_iv (n_v (vs ++ [Value.int x, Value.int y]) 14))
      simp only [e_3, e_4, e_14, q3]
      exact vc_Re_readEdges_14_7 (v_iv (n_v vs 4)) (v_iv (n_v vs 9)) (w_fi ws (n_v vs 0) 7) (w_ei ws (w_ar ws (n_v vs 1) 7)) (w_ei ws (w_ar ws (n_v vs 1) 8)) (w_fi ws (n_v vs 1) 0) (w_fi ws (n_v vs 1) 1) (w_ei ws (w_ar ws (n_v vs 0) 0)) (w_ei ws (w_ar ws (n_v vs 0) 10)) (w_ei ws (w_ar ws (n_v vs 1) 4)) (w_ei ws (w_ar ws (n_v vs 1) 3)) (w_fi ws (n_v vs 0) 5) (w_fi ws (n_v vs 0) 6) (w_fi ws (n_v vs 0) 8) (w_fi ws (n_v vs 0) 9) (w_fi ws (n_v vs 0) 11) (w_fi ws (n_v vs 1) 2) (v_iv (Value.int y)) k4 k9 g1 f8 kz_0_5 kz_0_6 kz_0_7 kz_0_8 kz_0_9 kz_0_11 kz_1_0 kz_1_1 kz_1_2 ey2
  exact ⟨(fun _ h => (by cases h)), [Value.int x, Value.int y], ag_two hx hy, List.forall_mem_cons.mpr ⟨⟨show (20 : Nat) < 100 from by decide, nf0⟩, List.forall_mem_cons.mpr ⟨⟨show (20 : Nat) < 100 from by decide, nf1⟩, List.forall_mem_cons.mpr ⟨⟨show (20 : Nat) < 100 from by decide, nf2⟩, List.forall_mem_cons.mpr ⟨⟨show (20 : Nat) < 100 from by decide, nf3⟩, List.forall_mem_cons.mpr ⟨⟨show (20 : Nat) < 100 from by decide, nf4⟩, List.forall_mem_cons.mpr ⟨⟨show (20 : Nat) < 100 from by decide, nf5⟩, List.forall_mem_cons.mpr ⟨⟨show (20 : Nat) < 100 from by decide, nf6⟩, List.forall_mem_cons.mpr ⟨⟨show (20 : Nat) < 100 from by decide, nf7⟩, (fun _ h => (by cases h))⟩⟩⟩⟩⟩⟩⟩⟩, (fun _ h => (by cases h))⟩
set_option maxHeartbeats 4000000 in
theorem vc_Re_readEdges_15_0 (x4 : Int) (gx : Int) (k4 : 0 ≤ x4 ∧ x4 ≤ 23) (ex2 : gx = x4) : 1 * gx + ((-1) * x4 + 0) ≤ 0 := by
  first
    | omega
  
set_option maxHeartbeats 4000000 in
theorem vc_Re_readEdges_15_1 (x4 : Int) (gx : Int) (k4 : 0 ≤ x4 ∧ x4 ≤ 23) (ex2 : gx = x4) : (-1) * gx + (1 * x4 + 0) ≤ 0 := by
  first
    | omega
  
set_option maxHeartbeats 4000000 in
theorem vc_Re_readEdges_15_2 (x15 : Int) (next_0 : Int) (begin_0 : Int) (k15 : 1 ≤ x15 ∧ x15 ≤ 1) (f15 : 1 * begin_0 + ((-1) * next_0 + 0) ≤ 0) (f18 : 1 * next_0 + ((-1) * begin_0 + (2000 * x15 + 0)) ≤ 2008) (kz_0_6 : 0 ≤ next_0 ∧ next_0 ≤ 2000) (kz_0_8 : 0 ≤ begin_0 ∧ begin_0 ≤ 2000) : 1 * next_0 + ((-1) * begin_0 + 0) ≤ 8 := by
  first
    | omega
  
set_option maxHeartbeats 4000000 in
theorem vc_Re_readEdges_15_3 (x15 : Int) (next_0 : Int) (begin_0 : Int) (k15 : 1 ≤ x15 ∧ x15 ≤ 1) (f15 : 1 * begin_0 + ((-1) * next_0 + 0) ≤ 0) (f18 : 1 * next_0 + ((-1) * begin_0 + (2000 * x15 + 0)) ≤ 2008) (kz_0_6 : 0 ≤ next_0 ∧ next_0 ≤ 2000) (kz_0_8 : 0 ≤ begin_0 ∧ begin_0 ≤ 2000) : (-1) * next_0 + (1 * begin_0 + 0) ≤ 0 := by
  first
    | omega
  
set_option maxHeartbeats 4000000 in
theorem vc_Re_readEdges_15_4 (tail_0o1 : Int → Int) (head_0o1 : Int → Int) (nodes_0o1 : Int) (edges_0o1 : Int) (near_0o1 : Int → Int) (f4 : GNB (nodes_0o1) (edges_0o1) (near_0o1) (tail_0o1) (head_0o1)) (kz_1_0 : 0 ≤ nodes_0o1 ∧ nodes_0o1 ≤ 24) (kz_1_1 : 0 ≤ edges_0o1 ∧ edges_0o1 ≤ 48) : GNB (nodes_0o1) (edges_0o1) (near_0o1) (tail_0o1) (head_0o1) := by
  first
    | assumption
  
set_option maxHeartbeats 4000000 in
theorem vc_Re_readEdges_15_5 (tail_0o1 : Int → Int) (head_0o1 : Int → Int) (nodes_0o1 : Int) (edges_0o1 : Int) (f5 : GKE (nodes_0o1) (edges_0o1) (tail_0o1) (head_0o1)) (kz_1_0 : 0 ≤ nodes_0o1 ∧ nodes_0o1 ≤ 24) (kz_1_1 : 0 ≤ edges_0o1 ∧ edges_0o1 ≤ 48) : GKE (nodes_0o1) (edges_0o1) (tail_0o1) (head_0o1) := by
  first
    | assumption
  
set_option maxHeartbeats 4000000 in
theorem vc_Re_readEdges_15_6 (x4 : Int) (nodes_0o1 : Int) (gx : Int) (k4 : 0 ≤ x4 ∧ x4 ≤ 23) (f7 : (0 ≤ x4) ∧ ((x4 + 1) ≤ nodes_0o1)) (kz_1_0 : 0 ≤ nodes_0o1 ∧ nodes_0o1 ≤ 24) (ex2 : gx = x4) : (0 ≤ gx) ∧ ((gx + 1) ≤ nodes_0o1) := by
  first
    | omega
  
set_option maxHeartbeats 4000000 in
theorem vc_Re_readEdges_15_7 (end_0 : Int) (gy : Int) (kz_0_5 : 0 ≤ end_0 ∧ end_0 ≤ 2000) (ey2 : gy = end_0) : 1 * end_0 + ((-1) * gy + 0) ≤ 0 := by
  first
    | omega
  
set_option maxHeartbeats 4000000 in
theorem vc_Re_readEdges_15_8 (end_0 : Int) (gy : Int) (kz_0_5 : 0 ≤ end_0 ∧ end_0 ≤ 2000) (ey2 : gy = end_0) : (-1) * end_0 + (1 * gy + 0) ≤ 0 := by
  first
    | omega
  
set_option maxHeartbeats 4000000 in
theorem vc_Re_readEdges_15_9 (x4 : Int) (x14 : Int) (x15 : Int) (tape_0 : Int → Int) (open_0 : Int → Int) (nameLength_0o1 : Int → Int) (name_0o1 : Int → Int) (tail_0o1 : Int → Int) (head_0o1 : Int → Int) (end_0 : Int) (depth_0 : Int) (nodes_0o1 : Int) (edges_0o1 : Int) (groups_0o1 : Int) (kind_0 : Int) (number_0 : Int) (next_0 : Int) (begin_0 : Int) (k4 : 0 ≤ x4 ∧ x4 ≤ 23) (k14 : 0 ≤ x14 ∧ x14 ≤ 2000) (k15 : 1 ≤ x15 ∧ x15 ≤ 1) (f0 : x15 ≠ 0) (f1 : cG4 (end_0) (depth_0) (nodes_0o1) (edges_0o1) (groups_0o1) (tape_0) (open_0) (nameLength_0o1) (name_0o1) (tail_0o1) (head_0o1) (x4) (x14)) (f16 : TKC (end_0) (next_0) (kind_0) (begin_0) (number_0) (tape_0) (x14)) (f19 : CNM (kind_0) (next_0) (begin_0) (tape_0) (x15)) (kz_0_5 : 0 ≤ end_0 ∧ end_0 ≤ 2000) (kz_0_6 : 0 ≤ next_0 ∧ next_0 ≤ 2000) (kz_0_7 : (-128) ≤ kind_0 ∧ kind_0 ≤ 127) (kz_0_8 : 0 ≤ begin_0 ∧ begin_0 ≤ 2000) (kz_0_9 : (-176) ≤ number_0 ∧ number_0 ≤ 1000000) (kz_0_11 : 0 ≤ depth_0 ∧ depth_0 ≤ 4) (kz_1_0 : 0 ≤ nodes_0o1 ∧ nodes_0o1 ≤ 24) (kz_1_1 : 0 ≤ edges_0o1 ∧ edges_0o1 ≤ 48) (kz_1_2 : 0 ≤ groups_0o1 ∧ groups_0o1 ≤ 8) : CGT (end_0) (next_0) (begin_0) (nodes_0o1) (edges_0o1) (groups_0o1) (tape_0) (nameLength_0o1) (name_0o1) (tail_0o1) (head_0o1) := by
  exact cgt_4 ‹TKC _ _ _ _ _ _ _› ‹cG4 _ _ _ _ _ _ _ _ _ _ _ _ _› (cnm_t ‹CNM _ _ _ _ _› (by omega)).1
def o_Re_readEdges_15 : or_T := (112, 16, [(0, (2, 0, 0, [8])), (1, (2, 0, 0, [164])), (4, (0, 0, 23, [])), (14, (0, 0, 2000, [])), (15, (0, 1, 1, []))], [(8, [15], [1]), (20, [3, 7, 4, 14], [60, 5, 6, 1043, 5, 11, 1000, 1001, 1002, 0, 10, 1004, 1003, 1007, 1008]), (20, [7], [60, 2, 3, 670, 0, 1, 14, 7, 8]), (20, [7], [60, 2, 2, 596, 0, 1, 7, 8]), (24, [1, 7], []), (20, [4, 7], [50, 1, 0, 1000, 2, 6, 0, 2, 0, 0, 1, 0, 0, 6, 4, 2, 1, 0, 0, 1, 2, 1, 0]), (24, [0, 3], []), (20, [3, 3], [30, 0, 1, 1, 8, -1, 1, 6]), (20, [3, 14], [60, 5, 1, 1072, 5, 6, 7, 8, 9, 0]), (20, [3, 3, 15], [30, 2008, 1, 1, 6, -1, 1, 8, 2000, 0, 0]), (20, [3, 15], [60, 3, 1, 1079, 7, 6, 8, 0])], [], [(0, 0, 23, []), (0, 0, 2000, [])], [(23, [16, 4], [0, 1, -1]), (23, [16, 4], [0, -1, 1]), (20, [3, 3], [30, 8, 1, 1, 6, -1, 1, 8]), (20, [3, 3], [30, 0, -1, 1, 6, 1, 1, 8]), (20, [7], [60, 2, 3, 670, 0, 1, 14, 7, 8]), (20, [7], [60, 2, 2, 596, 0, 1, 7, 8]), (20, [16, 7], [50, 1, 0, 1000, 2, 6, 0, 2, 0, 0, 1, 0, 0, 6, 4, 2, 1, 0, 0, 1, 2, 1, 0]), (20, [3, 17], [30, 0, 1, 1, 5, -1, 0, 0]), (20, [3, 17], [30, 0, -1, 1, 5, 1, 0, 0]), (20, [3, 7], [60, 6, 5, 1065, 5, 6, 8, 1000, 1001, 1002, 0, 1004, 1003, 1007, 1008])], [], [])
theorem oo_Re_readEdges_15 {kA : Nat → ClassId} : or_ok PRD kA GG o_Re_readEdges_15 := by
  refine or_mk fun A ta ws vs hD hth hl => ?_
  intro t0 r0 t1 r1 t4 k4 t14 k14 t15 k15 f0 f1 f4 f5 f6 f7 f11 f15 f16 f18 f19
  replace f0 := shm_142 f0
  replace f1 := shm_2141 f1
  replace f4 := shm_825 f4
  replace f5 := shm_386 f5
  replace f6 := shm_5 f6
  replace f7 := shm_416 f7
  replace f11 := shm_5 f11
  replace f15 := shm_1531 f15
  replace f16 := shm_1532 f16
  replace f18 := shm_1836 f18
  replace f19 := shm_1837 f19
  have q7 : n_v vs 7 = n_v vs 1 := f6.symm
  have q3 : n_v vs 3 = n_v vs 0 := f11.symm
  simp only [q7, q3] at f1 f4 f5 f7 f15 f16 f18 f19
  have kz_0_5 := fdq_207 hD hth r0
  have kz_0_6 := fdq_208 hD hth r0
  have kz_0_7 := fdq_297 hD hth r0
  have kz_0_8 := fdq_99 hD hth r0
  have kz_0_9 := fdq_296 hD hth r0
  have kz_0_11 := fdq_320 hD hth r0
  have kz_1_0 := fdq_73 hD hth r1
  have kz_1_1 := fdq_74 hD hth r1
  have kz_1_2 := fdq_206 hD hth r1
  obtain ⟨x, ex, hx⟩ := iv_ex (ta := ta) (lo := 0) (hi := 23) (z := v_iv (n_v vs 4)) (by omega) (by omega) (by omega) (by omega)
  have ex2 : v_iv (Value.int x) = v_iv (n_v vs 4) := ex
  have ex3 : 0 ≤ v_iv (Value.int x) ∧ v_iv (Value.int x) ≤ 23 := tv_rng hx
  obtain ⟨y, ey, hy⟩ := iv_ex (ta := ta) (lo := 0) (hi := 2000) (z := w_fi ws (n_v vs 0) 5) (by omega) (by omega) (by omega) (by omega)
  have ey2 : v_iv (Value.int y) = w_fi ws (n_v vs 0) 5 := ey
  have ey3 : 0 ≤ v_iv (Value.int y) ∧ v_iv (Value.int y) ≤ 2000 := tv_rng hy
  have e_3 : n_v (vs ++ [Value.int x, Value.int y]) 3 = n_v vs 3 := n_v_old (by rw [hl]; decide)
  have e_4 : n_v (vs ++ [Value.int x, Value.int y]) 4 = n_v vs 4 := n_v_old (by rw [hl]; decide)
  have e_7 : n_v (vs ++ [Value.int x, Value.int y]) 7 = n_v vs 7 := n_v_old (by rw [hl]; decide)
  have e_16 : n_v (vs ++ [Value.int x, Value.int y]) 16 = Value.int x := n_v_new0 hl
  have e_17 : n_v (vs ++ [Value.int x, Value.int y]) 17 = Value.int y := n_v_new1 hl
  have nf0 : fc_1 PRD (23, [16, 4], [0, 1, -1]) ws (vs ++ [Value.int x, Value.int y]) := by
    refine ⟨nf_inA hl rfl, sgq_7 ?_⟩
    · show 1 * v_iv (n_v (vs ++ [Value.int x, Value.int y]) 16) + ((-1) * v_iv (n_v (vs ++ [Value.int x, Value.int y]) 4) + 0) ≤ 0
      simp only [e_4, e_16]
      exact vc_Re_readEdges_15_0 (v_iv (n_v vs 4)) (v_iv (Value.int x)) k4 ex2
  have nf1 : fc_1 PRD (23, [16, 4], [0, -1, 1]) ws (vs ++ [Value.int x, Value.int y]) := by
    refine ⟨nf_inA hl rfl, sgq_22 ?_⟩
    · show (-1) * v_iv (n_v (vs ++ [Value.int x, Value.int y]) 16) + (1 * v_iv (n_v (vs ++ [Value.int x, Value.int y]) 4) + 0) ≤ 0
      simp only [e_4, e_16]
      exact vc_Re_readEdges_15_1 (v_iv (n_v vs 4)) (v_iv (Value.int x)) k4 ex2
  have nf2 : fc_1 PRD (20, [3, 3], [30, 8, 1, 1, 6, -1, 1, 8]) ws (vs ++ [Value.int x, Value.int y]) := by
    refine ⟨nf_inA hl rfl, sgq_1401 ?_⟩
    · show 1 * w_fi ws (n_v (vs ++ [Value.int x, Value.int y]) 3) 6 + ((-1) * w_fi ws (n_v (vs ++ [Value.int x, Value.int y]) 3) 8 + 0) ≤ 8
      simp only [e_3, q3]
      exact vc_Re_readEdges_15_2 (v_iv (n_v vs 15)) (w_fi ws (n_v vs 0) 6) (w_fi ws (n_v vs 0) 8) k15 f15 f18 kz_0_6 kz_0_8
  have nf3 : fc_1 PRD (20, [3, 3], [30, 0, -1, 1, 6, 1, 1, 8]) ws (vs ++ [Value.int x, Value.int y]) := by
    refine ⟨nf_inA hl rfl, sgq_1402 ?_⟩
    · show (-1) * w_fi ws (n_v (vs ++ [Value.int x, Value.int y]) 3) 6 + (1 * w_fi ws (n_v (vs ++ [Value.int x, Value.int y]) 3) 8 + 0) ≤ 0
      simp only [e_3, q3]
      exact vc_Re_readEdges_15_3 (v_iv (n_v vs 15)) (w_fi ws (n_v vs 0) 6) (w_fi ws (n_v vs 0) 8) k15 f15 f18 kz_0_6 kz_0_8
  have nf4 : fc_1 PRD (20, [7], [60, 2, 3, 670, 0, 1, 14, 7, 8]) ws (vs ++ [Value.int x, Value.int y]) := by
    refine ⟨nf_inA hl rfl, sgq_825 ?_⟩
    · show GNB (w_fi ws (n_v (vs ++ [Value.int x, Value.int y]) 7) 0) (w_fi ws (n_v (vs ++ [Value.int x, Value.int y]) 7) 1) (w_ei ws (w_ar ws (n_v (vs ++ [Value.int x, Value.int y]) 7) 14)) (w_ei ws (w_ar ws (n_v (vs ++ [Value.int x, Value.int y]) 7) 7)) (w_ei ws (w_ar ws (n_v (vs ++ [Value.int x, Value.int y]) 7) 8))
      simp only [e_7, q7]
      exact vc_Re_readEdges_15_4 (w_ei ws (w_ar ws (n_v vs 1) 7)) (w_ei ws (w_ar ws (n_v vs 1) 8)) (w_fi ws (n_v vs 1) 0) (w_fi ws (n_v vs 1) 1) (w_ei ws (w_ar ws (n_v vs 1) 14)) f4 kz_1_0 kz_1_1
  have nf5 : fc_1 PRD (20, [7], [60, 2, 2, 596, 0, 1, 7, 8]) ws (vs ++ [Value.int x, Value.int y]) := by
    refine ⟨nf_inA hl rfl, sgq_386 ?_⟩
    · show GKE (w_fi ws (n_v (vs ++ [Value.int x, Value.int y]) 7) 0) (w_fi ws (n_v (vs ++ [Value.int x, Value.int y]) 7) 1) (w_ei ws (w_ar ws (n_v (vs ++ [Value.int x, Value.int y]) 7) 7)) (w_ei ws (w_ar ws (n_v (vs ++ [Value.int x, Value.int y]) 7) 8))
      simp only [e_7, q7]
      exact vc_Re_readEdges_15_5 (w_ei ws (w_ar ws (n_v vs 1) 7)) (w_ei ws (w_ar ws (n_v vs 1) 8)) (w_fi ws (n_v vs 1) 0) (w_fi ws (n_v vs 1) 1) f5 kz_1_0 kz_1_1
  have nf6 : fc_1 PRD (20, [16, 7], [50, 1, 0, 1000, 2, 6, 0, 2, 0, 0, 1, 0, 0, 6, 4, 2, 1, 0, 0, 1, 2, 1, 0]) ws (vs ++ [Value.int x, Value.int y]) := by
    refine ⟨nf_inA hl rfl, sgq_416 ?_⟩
    · show (0 ≤ v_iv (n_v (vs ++ [Value.int x, Value.int y]) 16)) ∧ ((v_iv (n_v (vs ++ [Value.int x, Value.int y]) 16) + 1) ≤ w_fi ws (n_v (vs ++ [Value.int x, Value.int y]) 7) 0)
      simp only [e_7, e_16, q7]
      exact vc_Re_readEdges_15_6 (v_iv (n_v vs 4)) (w_fi ws (n_v vs 1) 0) (v_iv (Value.int x)) k4 f7 kz_1_0 ex2
  have nf7 : fc_1 PRD (20, [3, 17], [30, 0, 1, 1, 5, -1, 0, 0]) ws (vs ++ [Value.int x, Value.int y]) := by
    refine ⟨nf_inA hl rfl, sgq_1403 ?_⟩
    · show 1 * w_fi ws (n_v (vs ++ [Value.int x, Value.int y]) 3) 5 + ((-1) * v_iv (n_v (vs ++ [Value.int x, Value.int y]) 17) + 0) ≤ 0
      simp only [e_3, e_17, q3]
      exact vc_Re_readEdges_15_7 (w_fi ws (n_v vs 0) 5) (v_iv (Value.int y)) kz_0_5 ey2
  have nf8 : fc_1 PRD (20, [3, 17], [30, 0, -1, 1, 5, 1, 0, 0]) ws (vs ++ [Value.int x, Value.int y]) := by
    refine ⟨nf_inA hl rfl, sgq_1404 ?_⟩
    · show (-1) * w_fi ws (n_v (vs ++ [Value.int x, Value.int y]) 3) 5 + (1 * v_iv (n_v (vs ++ [Value.int x, Value.int y]) 17) + 0) ≤ 0
      simp only [e_3, e_17, q3]
      exact vc_Re_readEdges_15_8 (w_fi ws (n_v vs 0) 5) (v_iv (Value.int y)) kz_0_5 ey2
  have nf9 : fc_1 PRD (20, [3, 7], [60, 6, 5, 1065, 5, 6, 8, 1000, 1001, 1002, 0, 1004, 1003, 1007, 1008]) ws (vs ++ [Value.int x, Value.int y]) := by
    refine ⟨nf_inA hl rfl, sgq_1405 ?_⟩
    · show CGT (w_fi ws (n_v (vs ++ [Value.int x, Value.int y]) 3) 5) (w_fi ws (n_v (vs ++ [Value.int x, Value.int y]) 3) 6) (w_fi ws (n_v (vs ++ [Value.int x, Value.int y]) 3) 8) (w_fi ws (n_v (vs ++ [Value.int x, Value.int y]) 7) 0) (w_fi ws (n_v (vs ++ [Value.int x, Value.int y]) 7) 1) (w_fi ws (n_v (vs ++ [Value.int x, Value.int y]) 7) 2) (w_ei ws (w_ar ws (n_v (vs ++ [Value.int x, Value.int y]) 3) 0)) (w_ei ws (w_ar ws (n_v (vs ++ [Value.int x, Value.int y]) 7) 4)) (w_ei ws (w_ar ws (n_v (vs ++ [Value.int x, Value.int y]) 7) 3)) (w_ei ws (w_ar ws (n_v (vs ++ [Value.int x, Value.int y]) 7) 7)) (w_ei ws (w_ar ws (n_v (vs ++ [Value.int x, Value.int y]) 7) 8))
      simp only [e_3, e_7, q7, q3]
      exact vc_Re_readEdges_15_9 (v_iv (n_v vs 4)) (v_iv (n_v vs 14)) (v_iv (n_v vs 15)) (w_ei ws (w_ar ws (n_v vs 0) 0)) (w_ei ws (w_ar ws (n_v vs 0) 10)) (w_ei ws (w_ar ws (n_v vs 1) 4)) (w_ei ws (w_ar ws (n_v vs 1) 3)) (w_ei ws (w_ar ws (n_v vs 1) 7)) (w_ei ws (w_ar ws (n_v vs 1) 8)) (w_fi ws (n_v vs 0) 5) (w_fi ws (n_v vs 0) 11) (w_fi ws (n_v vs 1) 0) (w_fi ws (n_v vs 1) 1) (w_fi ws (n_v vs 1) 2) (w_fi ws (n_v vs 0) 7) (w_fi ws (n_v vs 0) 9) (w_fi ws (n_v vs 0) 6) (w_fi ws (n_v vs 0) 8) k4 k14 k15 f0 f1 f16 f19 kz_0_5 kz_0_6 kz_0_7 kz_0_8 kz_0_9 kz_0_11 kz_1_0 kz_1_1 kz_1_2
  exact ⟨(fun _ h => (by cases h)), [Value.int x, Value.int y], ag_two hx hy, List.forall_mem_cons.mpr ⟨⟨show (23 : Nat) < 100 from by decide, nf0⟩, List.forall_mem_cons.mpr ⟨⟨show (23 : Nat) < 100 from by decide, nf1⟩, List.forall_mem_cons.mpr ⟨⟨show (20 : Nat) < 100 from by decide, nf2⟩, List.forall_mem_cons.mpr ⟨⟨show (20 : Nat) < 100 from by decide, nf3⟩, List.forall_mem_cons.mpr ⟨⟨show (20 : Nat) < 100 from by decide, nf4⟩, List.forall_mem_cons.mpr ⟨⟨show (20 : Nat) < 100 from by decide, nf5⟩, List.forall_mem_cons.mpr ⟨⟨show (20 : Nat) < 100 from by decide, nf6⟩, List.forall_mem_cons.mpr ⟨⟨show (20 : Nat) < 100 from by decide, nf7⟩, List.forall_mem_cons.mpr ⟨⟨show (20 : Nat) < 100 from by decide, nf8⟩, List.forall_mem_cons.mpr ⟨⟨show (20 : Nat) < 100 from by decide, nf9⟩, (fun _ h => (by cases h))⟩⟩⟩⟩⟩⟩⟩⟩⟩⟩, (fun _ h => (by cases h))⟩
set_option maxHeartbeats 4000000 in
theorem vc_Re_readEdges_16_0 (x4 : Int) (x14 : Int) (x15 : Int) (x16 : Int) (x18 : Int) (x20 : Int) (next_0 : Int) (begin_0 : Int) (end_0 : Int) (tape_0 : Int → Int) (open_0 : Int → Int) (depth_0 : Int) (edges_0o1 : Int) (tail_0o1 : Int → Int) (head_0o1 : Int → Int) (link_0o1 : Int → Int) (kind_0 : Int) (number_0 : Int) (nodes_0o1 : Int) (nameLength_0o1 : Int → Int) (name_0o1 : Int → Int) (groups_0o1 : Int) (k4 : 0 ≤ x4 ∧ x4 ≤ 23) (k14 : 0 ≤ x14 ∧ x14 ≤ 2000) (k15 : 1 ≤ x15 ∧ x15 ≤ 1) (k16 : 0 ≤ x16 ∧ x16 ≤ 23) (k18 : 0 ≤ x18 ∧ x18 ≤ 23) (k20 : 2 ≤ x20 ∧ x20 ≤ 2) (d0 : x18 + 0 ≤ x4 ∧ x4 ≤ x18 + 0) (f0 : x4 = x18) (f2 : 1 * x16 + ((-1) * x4 + 0) ≤ 0) (f3 : (-1) * x16 + (1 * x4 + 0) ≤ 0) (f9 : cU4 (end_0) (depth_0) (tape_0) (open_0) (x4) (x14)) (f12 : LKG (edges_0o1) (tail_0o1) (head_0o1) (link_0o1)) (f19 : TKC (end_0) (next_0) (kind_0) (begin_0) (number_0) (tape_0) (x14)) (f22 : CNM (kind_0) (next_0) (begin_0) (tape_0) (x15)) (f27 : CGM (end_0) (next_0) (begin_0) (nodes_0o1) (edges_0o1) (groups_0o1) (tape_0) (nameLength_0o1) (name_0o1) (tail_0o1) (head_0o1) (x18)) (f31 : x15 ≠ 0) (kz_0_5 : 0 ≤ end_0 ∧ end_0 ≤ 2000) (kz_0_6 : 0 ≤ next_0 ∧ next_0 ≤ 2000) (kz_0_7 : (-128) ≤ kind_0 ∧ kind_0 ≤ 127) (kz_0_8 : 0 ≤ begin_0 ∧ begin_0 ≤ 2000) (kz_0_9 : (-176) ≤ number_0 ∧ number_0 ≤ 1000000) (kz_0_11 : 0 ≤ depth_0 ∧ depth_0 ≤ 4) (kz_1_0 : 0 ≤ nodes_0o1 ∧ nodes_0o1 ≤ 24) (kz_1_1 : 0 ≤ edges_0o1 ∧ edges_0o1 ≤ 48) (kz_1_2 : 0 ≤ groups_0o1 ∧ groups_0o1 ≤ 8) : FSY (end_0) (begin_0) (tape_0) (x20) := by
  first
    | exact fsy_of (m4_2 ‹TKC _ _ _ _ _ _ _› ‹cU4 _ _ _ _ _ _› (cnm_t ‹CNM _ _ _ _ _› (by omega)) ‹CGM _ _ _ _ _ _ _ _ _ _ _ _› (by omega) ‹LKG _ _ _ _› (Or.inl (by omega))) (by omega)
    | exact fsy_of (m4_2 ‹TKC _ _ _ _ _ _ _› ‹cU4 _ _ _ _ _ _› (cnm_t ‹CNM _ _ _ _ _› (by omega)) ‹CGM _ _ _ _ _ _ _ _ _ _ _ _› (by omega) ‹LKG _ _ _ _› (Or.inr (by omega))) (by omega)
def o_Re_readEdges_16 : or_T := (145, 21, [(0, (2, 0, 0, [8])), (1, (2, 0, 0, [164])), (4, (0, 0, 23, [])), (14, (0, 0, 2000, [])), (15, (0, 1, 1, [])), (16, (0, 0, 23, [])), (18, (0, 0, 23, [])), (20, (0, 2, 2, []))], [(7, [4, 18], [0]), (23, [16, 4], [0, 1, -1]), (23, [16, 4], [0, -1, 1]), (20, [3, 4, 14], [60, 2, 2, 1070, 5, 11, 0, 10]), (24, [1, 7], []), (20, [7], [60, 1, 3, 1085, 1, 7, 8, 15]), (24, [0, 3], []), (20, [3, 14], [60, 5, 1, 1072, 5, 6, 7, 8, 9, 0]), (20, [3, 15], [60, 3, 1, 1079, 7, 6, 8, 0]), (20, [3, 7, 18], [60, 6, 5, 1066, 5, 6, 8, 1000, 1001, 1002, 0, 1004, 1003, 1007, 1008]), (102, [17], [2944411990052395234623243954974308466357606285312, 164000]), (8, [15], [1])], [], [], [(20, [3, 20], [60, 2, 1, 1078, 5, 8, 0])], [], [(4, 18, 0, 0)])
theorem oo_Re_readEdges_16 {kA : Nat → ClassId} : or_ok PRD kA GG o_Re_readEdges_16 := by
  refine or_mk fun A ta ws vs hD hth hl => ?_
  intro t0 r0 t1 r1 t4 k4 t14 k14 t15 k15 t16 k16 t18 k18 t20 k20 d0 f0 f2 f3 f9 f10 f12 f14 f19 f22 f27 ta1 w1 le1 s1 f31
  replace f0 := shm_37 f0
  replace f2 := shm_7 f2
  replace f3 := shm_22 f3
  replace f9 := shm_2142 f9
  replace f10 := shm_5 f10
  replace f12 := shm_827 f12
  replace f14 := shm_5 f14
  replace f19 := shm_1532 f19
  replace f22 := shm_1837 f22
  replace f27 := shm_1406 f27
  replace f31 := shm_142 f31
  have q7 : n_v vs 7 = n_v vs 1 := f10.symm
  have q3 : n_v vs 3 = n_v vs 0 := f14.symm
  simp only [q3, q7] at f9 f12 f19 f22 f27
  have kz_0_5 := fdq_207 hD hth r0
  have kz_0_6 := fdq_208 hD hth r0
  have kz_0_7 := fdq_297 hD hth r0
  have kz_0_8 := fdq_99 hD hth r0
  have kz_0_9 := fdq_296 hD hth r0
  have kz_0_11 := fdq_320 hD hth r0
  have kz_1_0 := fdq_73 hD hth r1
  have kz_1_1 := fdq_74 hD hth r1
  have kz_1_2 := fdq_206 hD hth r1
  have nf0 : fc_1 PRD (20, [3, 20], [60, 2, 1, 1078, 5, 8, 0]) ws (vs) := by
    refine ⟨nf_in hl rfl, sgq_1988 ?_⟩
    · show FSY (w_fi ws (n_v vs 3) 5) (w_fi ws (n_v vs 3) 8) (w_ei ws (w_ar ws (n_v vs 3) 0)) (v_iv (n_v vs 20))
      rw [q3]
      exact vc_Re_readEdges_16_0 (v_iv (n_v vs 4)) (v_iv (n_v vs 14)) (v_iv (n_v vs 15)) (v_iv (n_v vs 16)) (v_iv (n_v vs 18)) (v_iv (n_v vs 20)) (w_fi ws (n_v vs 0) 6) (w_fi ws (n_v vs 0) 8) (w_fi ws (n_v vs 0) 5) (w_ei ws (w_ar ws (n_v vs 0) 0)) (w_ei ws (w_ar ws (n_v vs 0) 10)) (w_fi ws (n_v vs 0) 11) (w_fi ws (n_v vs 1) 1) (w_ei ws (w_ar ws (n_v vs 1) 7)) (w_ei ws (w_ar ws (n_v vs 1) 8)) (w_ei ws (w_ar ws (n_v vs 1) 15)) (w_fi ws (n_v vs 0) 7) (w_fi ws (n_v vs 0) 9) (w_fi ws (n_v vs 1) 0) (w_ei ws (w_ar ws (n_v vs 1) 4)) (w_ei ws (w_ar ws (n_v vs 1) 3)) (w_fi ws (n_v vs 1) 2) k4 k14 k15 k16 k18 k20 d0 f0 f2 f3 f9 f12 f19 f22 f27 f31 kz_0_5 kz_0_6 kz_0_7 kz_0_8 kz_0_9 kz_0_11 kz_1_0 kz_1_1 kz_1_2
  refine ⟨(fun _ h => (by cases h)), [], trivial, ?_, (fun _ h => (by cases h))⟩
  rw [List.append_nil]
  exact List.forall_mem_cons.mpr ⟨⟨show (20 : Nat) < 100 from by decide, nf0⟩, (fun _ h => (by cases h))⟩
set_option maxHeartbeats 4000000 in
theorem vc_Re_readEdges_17_0 (edges_0o1 : Int) (tail_0o1 : Int → Int) (head_0o1 : Int → Int) (near_0o1 : Int → Int) (nodes_0o1 : Int) (f21 : GNB (nodes_0o1) (edges_0o1) (near_0o1) (tail_0o1) (head_0o1)) (kz_1_0 : 0 ≤ nodes_0o1 ∧ nodes_0o1 ≤ 24) (kz_1_1 : 0 ≤ edges_0o1 ∧ edges_0o1 ≤ 48) : GNB (nodes_0o1) (edges_0o1) (near_0o1) (tail_0o1) (head_0o1) := by
  first
    | assumption
  
set_option maxHeartbeats 4000000 in
theorem vc_Re_readEdges_17_1 (edges_0o1 : Int) (tail_0o1 : Int → Int) (head_0o1 : Int → Int) (nodes_0o1 : Int) (f22 : GKE (nodes_0o1) (edges_0o1) (tail_0o1) (head_0o1)) (kz_1_0 : 0 ≤ nodes_0o1 ∧ nodes_0o1 ≤ 24) (kz_1_1 : 0 ≤ edges_0o1 ∧ edges_0o1 ≤ 48) : GKE (nodes_0o1) (edges_0o1) (tail_0o1) (head_0o1) := by
  first
    | assumption
  
set_option maxHeartbeats 4000000 in
theorem vc_Re_readEdges_17_2 (x20 : Int) (x21 : Int) (tape_0 : Int → Int) (end_0 : Int) (begin_0 : Int) (next_0 : Int) (open_0 : Int → Int) (depth_0 : Int) (edges_0o1 : Int) (tail_0o1 : Int → Int) (head_0o1 : Int → Int) (nodes_0o1 : Int) (nameLength_0o1 : Int → Int) (name_0o1 : Int → Int) (groups_0o1 : Int) (fault_0 : Int) (faultPlace_0 : Int) (k20 : 2 ≤ x20 ∧ x20 ≤ 2) (k21 : 0 ≤ x21 ∧ x21 ≤ 0) (f0 : FSY (end_0) (begin_0) (tape_0) (x20)) (f26 : (x21 = 0) ∧ ((fault_0 = x20) ∧ (faultPlace_0 = begin_0))) (kz_0_2 : (-1) ≤ fault_0 ∧ fault_0 ≤ 5) (kz_0_3 : (-1) ≤ faultPlace_0 ∧ faultPlace_0 ≤ 2000) (kz_0_5 : 0 ≤ end_0 ∧ end_0 ≤ 2000) (kz_0_6 : 0 ≤ next_0 ∧ next_0 ≤ 2000) (kz_0_8 : 0 ≤ begin_0 ∧ begin_0 ≤ 2000) (kz_0_11 : 0 ≤ depth_0 ∧ depth_0 ≤ 4) (kz_1_0 : 0 ≤ nodes_0o1 ∧ nodes_0o1 ≤ 24) (kz_1_1 : 0 ≤ edges_0o1 ∧ edges_0o1 ≤ 48) (kz_1_2 : 0 ≤ groups_0o1 ∧ groups_0o1 ≤ 8) : cO0 (end_0) (next_0) (depth_0) (fault_0) (faultPlace_0) (nodes_0o1) (edges_0o1) (groups_0o1) (tape_0) (open_0) (nameLength_0o1) (name_0o1) (tail_0o1) (head_0o1) (x21) := by
  first
    | exact cO0_f ‹FSY _ _ _ _› (by omega) (by omega) (by omega)
    | exact cO_13 ‹cO13 _ _ _ _ _ _ _ _ _ _ _ _ _ _ _› (by omega) (by omega)
    | exact cO0_t (s_go (le_s ‹cLE _ _ _ _ _ _ _ _ _ _ _ _ _ _ _ _› (by omega)) (by omega) rfl) (by omega) (by omega)
    | exact cO0_t (s_go (n13_s ‹TKC _ _ _ _ _ _ _› ‹cG13 _ _ _ _ _ _ _ _ _ _ _ _›) (by omega) rfl) (by omega) (by omega)
set_option maxHeartbeats 4000000 in
theorem vc_Re_readEdges_17_3 (x2 : Int) (x14 : Int) (next_0 : Int) (k2 : 0 ≤ x2 ∧ x2 ≤ 2000) (k14 : 0 ≤ x14 ∧ x14 ≤ 2000) (f7 : 1 * x2 + ((-1) * x14 + 0) ≤ 0) (f18 : 1 * x14 + ((-1) * next_0 + 0) ≤ 0) (kz_0_6 : 0 ≤ next_0 ∧ next_0 ≤ 2000) : 1 * x2 + ((-1) * next_0 + 0) ≤ 0 := by
  first
    | omega
  
set_option maxHeartbeats 4000000 in
theorem vc_Re_readEdges_17_4 (edges_0o1 : Int) (tail_0o1 : Int → Int) (head_0o1 : Int → Int) (link_0o1 : Int → Int) (f11 : LKG (edges_0o1) (tail_0o1) (head_0o1) (link_0o1)) (kz_1_1 : 0 ≤ edges_0o1 ∧ edges_0o1 ≤ 48) : LKG (edges_0o1) (tail_0o1) (head_0o1) (link_0o1) := by
  assumption
def o_Re_readEdges_17 : or_T := (148, 22, [(0, (2, 0, 0, [8])), (1, (2, 0, 0, [164])), (2, (0, 0, 2000, [])), (14, (0, 0, 2000, [])), (20, (0, 2, 2, [])), (21, (0, 0, 0, []))], [(20, [3, 20], [60, 2, 1, 1078, 5, 8, 0]), (20, [2, 14], [30, 0, 1, 0, 0, -1, 0, 0]), (24, [1, 7], []), (20, [7], [60, 1, 3, 1085, 1, 7, 8, 15]), (24, [0, 3], []), (20, [14, 3], [30, 0, 1, 0, 0, -1, 1, 6]), (20, [7], [60, 2, 3, 670, 0, 1, 14, 7, 8]), (20, [7], [60, 2, 2, 596, 0, 1, 7, 8]), (20, [21, 3, 20], [50, 3, 0, 1002, 1003, 1008, 2, 6, 1, 2, 1, 0, 0, 0, 2, 7, 1, 3, 2, 1, 2, 1, 2, 1, 3, 2, 1, 3, 2, 1, 8])], [], [], [(20, [1], [60, 2, 3, 670, 0, 1, 14, 7, 8]), (20, [1], [60, 2, 2, 596, 0, 1, 7, 8]), (20, [0, 1, 21], [60, 8, 6, 1063, 5, 6, 11, 2, 3, 1000, 1001, 1002, 0, 10, 1004, 1003, 1007, 1008]), (20, [2, 0], [30, 0, 1, 0, 0, -1, 1, 6]), (20, [1], [60, 1, 3, 1085, 1, 7, 8, 15])], [], [])
theorem oo_Re_readEdges_17 {kA : Nat → ClassId} : or_ok PRD kA GG o_Re_readEdges_17 := by
  refine or_mk fun A ta ws vs hD hth hl => ?_
  intro t0 r0 t1 r1 t2 k2 t14 k14 t20 k20 t21 k21 f0 f7 f9 f11 f12 f18 f21 f22 f26
  replace f0 := shm_1988 f0
  replace f9 := shm_5 f9
  replace f11 := shm_827 f11
  replace f12 := shm_5 f12
  replace f18 := shm_1527 f18
  replace f21 := shm_825 f21
  replace f22 := shm_386 f22
  replace f26 := shm_451 f26
  have q7 : n_v vs 7 = n_v vs 1 := f9.symm
  have q3 : n_v vs 3 = n_v vs 0 := f12.symm
  simp only [q3, q7] at f0 f11 f18 f21 f22 f26
  have kz_0_2 := fdq_97 hD hth r0
  have kz_0_3 := fdq_98 hD hth r0
  have kz_0_5 := fdq_207 hD hth r0
  have kz_0_6 := fdq_208 hD hth r0
  have kz_0_8 := fdq_99 hD hth r0
  have kz_0_11 := fdq_320 hD hth r0
  have kz_1_0 := fdq_73 hD hth r1
  have kz_1_1 := fdq_74 hD hth r1
  have kz_1_2 := fdq_206 hD hth r1
  have nf0 : fc_1 PRD (20, [1], [60, 2, 3, 670, 0, 1, 14, 7, 8]) ws (vs) := ⟨nf_in hl rfl, sgq_825 (vc_Re_readEdges_17_0 (w_fi ws (n_v vs 1) 1) (w_ei ws (w_ar ws (n_v vs 1) 7)) (w_ei ws (w_ar ws (n_v vs 1) 8)) (w_ei ws (w_ar ws (n_v vs 1) 14)) (w_fi ws (n_v vs 1) 0) f21 kz_1_0 kz_1_1)⟩
  have nf1 : fc_1 PRD (20, [1], [60, 2, 2, 596, 0, 1, 7, 8]) ws (vs) := ⟨nf_in hl rfl, sgq_386 (vc_Re_readEdges_17_1 (w_fi ws (n_v vs 1) 1) (w_ei ws (w_ar ws (n_v vs 1) 7)) (w_ei ws (w_ar ws (n_v vs 1) 8)) (w_fi ws (n_v vs 1) 0) f22 kz_1_0 kz_1_1)⟩
  have nf2 : fc_1 PRD (20, [0, 1, 21], [60, 8, 6, 1063, 5, 6, 11, 2, 3, 1000, 1001, 1002, 0, 10, 1004, 1003, 1007, 1008]) ws (vs) := ⟨nf_in hl rfl, sgq_2023 (vc_Re_readEdges_17_2 (v_iv (n_v vs 20)) (v_iv (n_v vs 21)) (w_ei ws (w_ar ws (n_v vs 0) 0)) (w_fi ws (n_v vs 0) 5) (w_fi ws (n_v vs 0) 8) (w_fi ws (n_v vs 0) 6) (w_ei ws (w_ar ws (n_v vs 0) 10)) (w_fi ws (n_v vs 0) 11) (w_fi ws (n_v vs 1) 1) (w_ei ws (w_ar ws (n_v vs 1) 7)) (w_ei ws (w_ar ws (n_v vs 1) 8)) (w_fi ws (n_v vs 1) 0) (w_ei ws (w_ar ws (n_v vs 1) 4)) (w_ei ws (w_ar ws (n_v vs 1) 3)) (w_fi ws (n_v vs 1) 2) (w_fi ws (n_v vs 0) 2) (w_fi ws (n_v vs 0) 3) k20 k21 f0 f26 kz_0_2 kz_0_3 kz_0_5 kz_0_6 kz_0_8 kz_0_11 kz_1_0 kz_1_1 kz_1_2)⟩
  have nf3 : fc_1 PRD (20, [2, 0], [30, 0, 1, 0, 0, -1, 1, 6]) ws (vs) := ⟨nf_in hl rfl, sgq_1527 (vc_Re_readEdges_17_3 (v_iv (n_v vs 2)) (v_iv (n_v vs 14)) (w_fi ws (n_v vs 0) 6) k2 k14 (shm_201 f7) f18 kz_0_6)⟩
  have nf4 : fc_1 PRD (20, [1], [60, 1, 3, 1085, 1, 7, 8, 15]) ws (vs) := ⟨nf_in hl rfl, sgq_827 (vc_Re_readEdges_17_4 (w_fi ws (n_v vs 1) 1) (w_ei ws (w_ar ws (n_v vs 1) 7)) (w_ei ws (w_ar ws (n_v vs 1) 8)) (w_ei ws (w_ar ws (n_v vs 1) 15)) f11 kz_1_1)⟩
  refine ⟨(fun _ h => (by cases h)), [], trivial, ?_, (fun _ h => (by cases h))⟩
  rw [List.append_nil]
  exact List.forall_mem_cons.mpr ⟨⟨show (20 : Nat) < 100 from by decide, nf0⟩, List.forall_mem_cons.mpr ⟨⟨show (20 : Nat) < 100 from by decide, nf1⟩, List.forall_mem_cons.mpr ⟨⟨show (20 : Nat) < 100 from by decide, nf2⟩, List.forall_mem_cons.mpr ⟨⟨show (20 : Nat) < 100 from by decide, nf3⟩, List.forall_mem_cons.mpr ⟨⟨show (20 : Nat) < 100 from by decide, nf4⟩, (fun _ h => (by cases h))⟩⟩⟩⟩⟩
set_option maxHeartbeats 4000000 in
theorem vc_Re_readEdges_18_1 (edges_0o1 : Int) (tail_0o1 : Int → Int) (head_0o1 : Int → Int) (near_0o1 : Int → Int) (nodes_0o1 : Int) (f28 : GNB (nodes_0o1) (edges_0o1) (near_0o1) (tail_0o1) (head_0o1)) (kz_1_0 : 0 ≤ nodes_0o1 ∧ nodes_0o1 ≤ 24) (kz_1_1 : 0 ≤ edges_0o1 ∧ edges_0o1 ≤ 48) : GNB (nodes_0o1) (edges_0o1) (near_0o1) (tail_0o1) (head_0o1) := by
  first
    | assumption
  
set_option maxHeartbeats 4000000 in
theorem vc_Re_readEdges_18_2 (edges_0o1 : Int) (tail_0o1 : Int → Int) (head_0o1 : Int → Int) (nodes_0o1 : Int) (f29 : GKE (nodes_0o1) (edges_0o1) (tail_0o1) (head_0o1)) (kz_1_0 : 0 ≤ nodes_0o1 ∧ nodes_0o1 ≤ 24) (kz_1_1 : 0 ≤ edges_0o1 ∧ edges_0o1 ≤ 48) : GKE (nodes_0o1) (edges_0o1) (tail_0o1) (head_0o1) := by
  first
    | assumption
  
set_option maxHeartbeats 4000000 in
theorem vc_Re_readEdges_18_3 (x4 : Int) (x13 : Int) (x15 : Int) (x16 : Int) (x18 : Int) (x19 : Int) (next_0 : Int) (begin_0 : Int) (kind_0 : Int) (number_0 : Int) (nodes_0o1 : Int) (k4 : 0 ≤ x4 ∧ x4 ≤ 23) (k13 : (-2147483648) ≤ x13 ∧ x13 ≤ 1000000) (k15 : 1 ≤ x15 ∧ x15 ≤ 1) (k16 : 0 ≤ x16 ∧ x16 ≤ 23) (k18 : 0 ≤ x18 ∧ x18 ≤ 23) (k19 : (-1) ≤ x19 ∧ x19 ≤ (-1)) (f5 : x4 ≠ x18) (f6 : x18 ≠ x19) (f7 : 1 * x16 + ((-1) * x4 + 0) ≤ 0) (f8 : (-1) * x16 + (1 * x4 + 0) ≤ 0) (f20 : (1 * kind_0 + 0 ≤ 3) ∨ (1 * number_0 + ((-1) * x13 + 0) ≤ 0)) (f21 : (1 * kind_0 + 0 ≤ 3) ∨ ((-1) * number_0 + (1 * x13 + 0) ≤ 0)) (f22 : ((-1) * kind_0 + 0 ≤ (-3)) ∨ (1 * next_0 + ((-1) * begin_0 + (2000 * kind_0 + 0)) ≤ 4008)) (f30 : (x18 = (-1)) ∨ ((0 ≤ x18) ∧ ((x18 + 1) ≤ nodes_0o1))) (f31 : (0 ≤ x16) ∧ ((x16 + 1) ≤ nodes_0o1)) (f36 : x15 ≠ 0) (kz_0_6 : 0 ≤ next_0 ∧ next_0 ≤ 2000) (kz_0_7 : (-128) ≤ kind_0 ∧ kind_0 ≤ 127) (kz_0_8 : 0 ≤ begin_0 ∧ begin_0 ≤ 2000) (kz_0_9 : (-176) ≤ number_0 ∧ number_0 ≤ 1000000) (kz_1_0 : 0 ≤ nodes_0o1 ∧ nodes_0o1 ≤ 24) : (0 ≤ x4) ∧ (((x4 + 1) ≤ nodes_0o1) ∧ ((0 ≤ x18) ∧ (((x18 + 1) ≤ nodes_0o1) ∧ (((x4 + 1) ≤ x18) ∨ ((x18 + 1) ≤ x4))))) := by
  first
    | omega
  
set_option maxHeartbeats 4000000 in
theorem vc_Re_readEdges_18_4 (x4 : Int) (x14 : Int) (x15 : Int) (x18 : Int) (x20 : Int) (x23 : Int) (edges_0o1 : Int) (link_0o1 : Int → Int) (next_0 : Int) (begin_0 : Int) (end_0 : Int) (tape_0 : Int → Int) (open_0 : Int → Int) (depth_0 : Int) (tail_0o1 : Int → Int) (head_0o1 : Int → Int) (kind_0 : Int) (number_0 : Int) (nodes_0o1 : Int) (nameLength_0o1 : Int → Int) (name_0o1 : Int → Int) (groups_0o1 : Int) (gy : Int) (k4 : 0 ≤ x4 ∧ x4 ≤ 23) (k14 : 0 ≤ x14 ∧ x14 ≤ 2000) (k15 : 1 ≤ x15 ∧ x15 ≤ 1) (k18 : 0 ≤ x18 ∧ x18 ≤ 23) (k20 : (-1) ≤ x20 ∧ x20 ≤ (-1)) (k23 : 0 ≤ x23 ∧ x23 ≤ 47) (g1 : x23 = edges_0o1) (f4 : x20 = link_0o1 (((x4 * 24) + x18))) (f5 : x4 ≠ x18) (f14 : cU4 (end_0) (depth_0) (tape_0) (open_0) (x4) (x14)) (f17 : LKG (edges_0o1) (tail_0o1) (head_0o1) (link_0o1)) (f24 : TKC (end_0) (next_0) (kind_0) (begin_0) (number_0) (tape_0) (x14)) (f27 : CNM (kind_0) (next_0) (begin_0) (tape_0) (x15)) (f32 : CGM (end_0) (next_0) (begin_0) (nodes_0o1) (edges_0o1) (groups_0o1) (tape_0) (nameLength_0o1) (name_0o1) (tail_0o1) (head_0o1) (x18)) (f36 : x15 ≠ 0) (kz_0_5 : 0 ≤ end_0 ∧ end_0 ≤ 2000) (kz_0_6 : 0 ≤ next_0 ∧ next_0 ≤ 2000) (kz_0_7 : (-128) ≤ kind_0 ∧ kind_0 ≤ 127) (kz_0_8 : 0 ≤ begin_0 ∧ begin_0 ≤ 2000) (kz_0_9 : (-176) ≤ number_0 ∧ number_0 ≤ 1000000) (kz_0_11 : 0 ≤ depth_0 ∧ depth_0 ≤ 4) (kz_1_0 : 0 ≤ nodes_0o1 ∧ nodes_0o1 ≤ 24) (kz_1_1 : 0 ≤ edges_0o1 ∧ edges_0o1 ≤ 48) (kz_1_2 : 0 ≤ groups_0o1 ∧ groups_0o1 ≤ 8) (ey2 : gy = edges_0o1) : CEA (end_0) (next_0) (begin_0) (nodes_0o1) (edges_0o1) (groups_0o1) (tape_0) (nameLength_0o1) (name_0o1) (tail_0o1) (head_0o1) (x4) (x18) := by
  exact m4_a ‹TKC _ _ _ _ _ _ _› ‹cU4 _ _ _ _ _ _› (cnm_t ‹CNM _ _ _ _ _› (by omega)) ‹CGM _ _ _ _ _ _ _ _ _ _ _ _› (by omega) ‹LKG _ _ _ _› (by omega) (by omega) (by omega)
set_option maxHeartbeats 4000000 in
theorem vc_Re_readEdges_18_5 (edges_0o1 : Int) (link_0o1 : Int → Int) (tail_0o1 : Int → Int) (head_0o1 : Int → Int) (f17 : LKG (edges_0o1) (tail_0o1) (head_0o1) (link_0o1)) (kz_1_1 : 0 ≤ edges_0o1 ∧ edges_0o1 ≤ 48) : LKG (edges_0o1) (tail_0o1) (head_0o1) (link_0o1) := by
  assumption
set_option maxHeartbeats 4000000 in
theorem vc_Re_readEdges_18_6 (edges_0o1 : Int) (gy : Int) (kz_1_1 : 0 ≤ edges_0o1 ∧ edges_0o1 ≤ 48) (ey2 : gy = edges_0o1) : 1 * edges_0o1 + ((-1) * gy + 0) ≤ 0 := by
  first
    | omega
  
set_option maxHeartbeats 4000000 in
theorem vc_Re_readEdges_18_7 (edges_0o1 : Int) (gy : Int) (kz_1_1 : 0 ≤ edges_0o1 ∧ edges_0o1 ≤ 48) (ey2 : gy = edges_0o1) : (-1) * edges_0o1 + (1 * gy + 0) ≤ 0 := by
  first
    | omega
  
set_option maxHeartbeats 4000000 in
theorem vc_Re_readEdges_18_8 (x6 : Int) (edges_0o1 : Int) (gy : Int) (k6 : 0 ≤ x6 ∧ x6 ≤ 48) (f16 : x6 ≤ edges_0o1) (kz_1_1 : 0 ≤ edges_0o1 ∧ edges_0o1 ≤ 48) (ey2 : gy = edges_0o1) : x6 ≤ gy := by
  first
    | omega
  
def o_Re_readEdges_18 : or_T := (182, 25, [(0, (2, 0, 0, [8])), (1, (2, 0, 0, [164])), (2, (0, 0, 2000, [])), (3, (2, 0, 0, [8])), (4, (0, 0, 23, [])), (6, (0, 0, 48, [])), (7, (2, 0, 0, [164])), (8, (0, 48, 48, [])), (13, (0, -2147483648, 1000000, [])), (14, (0, 0, 2000, [])), (15, (0, 1, 1, [])), (16, (0, 0, 23, [])), (17, (0, 0, 2000, [])), (18, (0, 0, 23, [])), (19, (0, -1, -1, [])), (20, (0, -1, -1, [])), (21, (0, -1, -1, [])), (22, (0, -1, -1, [])), (23, (0, 0, 47, [])), (24, (0, 48, 48, []))], [(7, [23, 24], [2]), (9, [23, 7], [1]), (7, [18, 22], [1]), (7, [20, 21], [0]), (20, [20, 7, 4, 18], [50, 0, 1, 1015, 1, 2, 1, 0, 3, 1, 15, 4, 6, 6, 2, 1, 2, 0, 24, 1, 3]), (7, [4, 18], [1]), (7, [18, 19], [1]), (23, [16, 4], [0, 1, -1]), (23, [16, 4], [0, -1, 1]), (20, [3, 3], [30, 8, 1, 1, 6, -1, 1, 8]), (20, [3, 3], [30, 0, -1, 1, 6, 1, 1, 8]), (20, [3, 17], [30, 0, 1, 1, 5, -1, 0, 0]), (20, [3, 17], [30, 0, -1, 1, 5, 1, 0, 0]), (20, [2, 14], [30, 0, 1, 0, 0, -1, 0, 0]), (20, [3, 4, 14], [60, 2, 2, 1070, 5, 11, 0, 10]), (24, [1, 7], []), (20, [6, 7], [50, 1, 0, 1001, 0, 2, 1, 0, 2, 1, 1]), (20, [7], [60, 1, 3, 1085, 1, 7, 8, 15]), (20, [3], [50, 1, 0, 2, 1, 3, 2, 0, 2, 0, 0]), (24, [0, 3], []), (20, [3, 3, 13], [31, 1, 3, 1, 1, 7, 0, 1, 1, 9, -1, 0, 0]), (20, [3, 3, 13], [31, 1, 3, 1, 1, 7, 0, -1, 1, 9, 1, 0, 0]), (20, [3, 3, 3, 3], [31, 1, -3, -1, 1, 7, 4008, 1, 1, 6, -1, 1, 8, 2000, 1, 7]), (20, [3, 3], [30, 0, 1, 1, 8, -1, 1, 6]), (20, [3, 14], [60, 5, 1, 1072, 5, 6, 7, 8, 9, 0]), (20, [14, 3], [30, 0, 1, 0, 0, -1, 1, 6]), (20, [3, 3, 15], [30, 2008, 1, 1, 6, -1, 1, 8, 2000, 0, 0]), (20, [3, 15], [60, 3, 1, 1079, 7, 6, 8, 0]), (20, [7], [60, 2, 3, 670, 0, 1, 14, 7, 8]), (20, [7], [60, 2, 2, 596, 0, 1, 7, 8]), (20, [18, 7], [50, 1, 0, 1000, 3, 6, 1, 2, 1, 0, 0, -1, 2, 6, 0, 2, 0, 0, 1, 0, 0, 6, 4, 2, 1, 0, 0, 1, 2, 1, 0]), (20, [16, 7], [50, 1, 0, 1000, 2, 6, 0, 2, 0, 0, 1, 0, 0, 6, 4, 2, 1, 0, 0, 1, 2, 1, 0]), (20, [3, 7, 18], [60, 6, 5, 1066, 5, 6, 8, 1000, 1001, 1002, 0, 1004, 1003, 1007, 1008]), (102, [17], [2944411990052395234623243954974308466357606285312, 164000]), (23, [16, 4], [0, 1, -1]), (23, [16, 4], [0, -1, 1]), (8, [15], [1]), (102, [14], [0]), (102, [14], [0, 8006, 8007, 8008, 8009]), (7, [6, 8], [5])], [], [(2, 0, 0, [8]), (0, 0, 47, [])], [(24, [0, 25], []), (20, [7], [60, 2, 3, 670, 0, 1, 14, 7, 8]), (20, [7], [60, 2, 2, 596, 0, 1, 7, 8]), (20, [4, 7, 18], [50, 1, 0, 1000, 2, 6, 0, 2, 0, 0, 1, 0, 2, 11, 0, 6, 4, 2, 1, 0, 0, 1, 2, 1, 0, 2, 6, 0, 2, 0, 0, 1, 2, 2, 11, 0, 6, 4, 2, 1, 2, 0, 1, 2, 1, 0, 3, 10, 0, 6, 4, 2, 1, 0, 0, 1, 1, 2, 0, 6, 4, 2, 1, 2, 0, 1, 1, 0]), (20, [25, 7, 4, 18], [60, 6, 5, 1067, 5, 6, 8, 1000, 1001, 1002, 0, 1004, 1003, 1007, 1008]), (20, [7], [60, 1, 3, 1085, 1, 7, 8, 15]), (20, [7, 26], [30, 0, 1, 1, 1, -1, 0, 0]), (20, [7, 26], [30, 0, -1, 1, 1, 1, 0, 0]), (20, [6, 26], [50, 0, 0, 0, 2, 1, 0, 1, 1])], [], [])
theorem oo_Re_readEdges_18 {kA : Nat → ClassId} : or_ok PRD kA GG o_Re_readEdges_18 := by
  refine or_mk fun A ta ws vs hD hth hl => ?_
  intro t0 r0 t1 r1 t2 k2 t3 r3 t4 k4 t6 k6 t7 r7 t8 k8 t13 k13 t14 k14 t15 k15 t16 k16 t17 k17 t18 k18 t19 k19 t20 k20 t21 k21 t22 k22 t23 k23 t24 k24 f0 f1 f2 f3 f4 f5 f6 f7 f8 f9 f10 f11 f12 f13 f14 f15 f16 f17 f18 f19 f20 f21 f22 f23 f24 f25 f26 f27 f28 f29 f30 f31 f32 ta1 w1 le1 s1 f34 f35 f36 ta2 w2 le2 s2 ta3 w3 le3 s3 f39
  replace f0 := shm_6 f0
  replace f1 := shm_215 f1
  replace f2 := shm_40 f2
  replace f3 := shm_37 f3
  replace f4 := shm_376 f4
  replace f5 := shm_40 f5
  replace f6 := shm_40 f6
  replace f7 := shm_7 f7
  replace f8 := shm_22 f8
  replace f9 := shm_1401 f9
  replace f10 := shm_1402 f10
  replace f11 := shm_1403 f11
  replace f12 := shm_1404 f12
  replace f13 := shm_201 f13
  replace f14 := shm_2142 f14
  replace f15 := shm_5 f15
  replace f16 := shm_483 f16
  replace f17 := shm_827 f17
  replace f18 := shm_1985 f18
  replace f19 := shm_5 f19
  replace f20 := shm_1528 f20
  replace f21 := shm_1529 f21
  replace f22 := shm_1530 f22
  replace f23 := shm_1531 f23
  replace f24 := shm_1532 f24
  replace f25 := shm_1527 f25
  replace f26 := shm_1836 f26
  replace f27 := shm_1837 f27
  replace f28 := shm_825 f28
  replace f29 := shm_386 f29
  replace f30 := shm_847 f30
  replace f31 := shm_416 f31
  replace f32 := shm_1406 f32
  replace f34 := shm_7 f34
  replace f35 := shm_22 f35
  replace f36 := shm_142 f36
  replace f39 := shm_24 f39
  have q7 : n_v vs 7 = n_v vs 1 := f15.symm
  have q3 : n_v vs 3 = n_v vs 0 := f19.symm
  simp only [q7, q3] at f1 f4 f9 f10 f11 f12 f14 f16 f17 f18 f20 f21 f22 f23 f24 f25 f26 f27 f28 f29 f30 f31 f32
  have cr_0_0 := fdq_95 hD hth r0
  have cr_0_10 := fdq_319 hD hth r0
  have cr_1_3 := fdq_68 hD hth r1
  have cr_1_4 := fdq_67 hD hth r1
  have cr_1_7 := fdq_70 hD hth r1
  have cr_1_8 := fdq_71 hD hth r1
  have cr_1_14 := fdq_72 hD hth r1
  have cr_1_15 := fdq_65 hD hth r1
  have g1 : v_iv (n_v vs 23) = w_fi ws (n_v vs 1) 1 := congrArg v_iv f1
  have hK_0_0 := elq_33 hD hth cr_0_0
  have hK_0_10 := elq_196 hD hth cr_0_10
  have hK_1_3 := elq_34 hD hth cr_1_3
  have hK_1_4 := elq_32 hD hth cr_1_4
  have hK_1_7 := elq_35 hD hth cr_1_7
  have hK_1_8 := elq_36 hD hth cr_1_8
  have hK_1_14 := elq_37 hD hth cr_1_14
  have hK_1_15 := elq_30 hD hth cr_1_15
  have kz_0_2 := fdq_97 hD hth r0
  have kz_0_5 := fdq_207 hD hth r0
  have kz_0_6 := fdq_208 hD hth r0
  have kz_0_7 := fdq_297 hD hth r0
  have kz_0_8 := fdq_99 hD hth r0
  have kz_0_9 := fdq_296 hD hth r0
  have kz_0_11 := fdq_320 hD hth r0
  have kz_1_0 := fdq_73 hD hth r1
  have kz_1_1 := fdq_74 hD hth r1
  have kz_1_2 := fdq_206 hD hth r1
  have kv1 := fdq_74 hD hth r1
  obtain ⟨y, ey, hy⟩ := iv_ex (ta := ta) (lo := 0) (hi := 47) (z := w_fi ws (n_v vs 1) 1) (by omega) (by omega) (by omega) (by omega)
  have ey2 : v_iv (Value.int y) = w_fi ws (n_v vs 1) 1 := ey
  have ey3 : 0 ≤ v_iv (Value.int y) ∧ v_iv (Value.int y) ≤ 47 := tv_rng hy
  have e_0 : n_v (vs ++ [n_v vs 0, Value.int y]) 0 = n_v vs 0 := n_v_old (by rw [hl]; decide)
  have e_4 : n_v (vs ++ [n_v vs 0, Value.int y]) 4 = n_v vs 4 := n_v_old (by rw [hl]; decide)
  have e_6 : n_v (vs ++ [n_v vs 0, Value.int y]) 6 = n_v vs 6 := n_v_old (by rw [hl]; decide)
  have e_7 : n_v (vs ++ [n_v vs 0, Value.int y]) 7 = n_v vs 7 := n_v_old (by rw [hl]; decide)
  have e_18 : n_v (vs ++ [n_v vs 0, Value.int y]) 18 = n_v vs 18 := n_v_old (by rw [hl]; decide)
  have e_25 : n_v (vs ++ [n_v vs 0, Value.int y]) 25 = n_v vs 0 := n_v_new0 hl
  have e_26 : n_v (vs ++ [n_v vs 0, Value.int y]) 26 = Value.int y := n_v_new1 hl
  have nf0 : fc_1 PRD (24, [0, 25], []) ws (vs ++ [n_v vs 0, Value.int y]) := by
    refine ⟨nf_inA hl rfl, sgq_5 ?_⟩
    · show n_v (vs ++ [n_v vs 0, Value.int y]) 0 = n_v (vs ++ [n_v vs 0, Value.int y]) 25
      first | rfl | simp only [e_0, e_25, q7, q3]
  have nf1 : fc_1 PRD (20, [7], [60, 2, 3, 670, 0, 1, 14, 7, 8]) ws (vs ++ [n_v vs 0, Value.int y]) := by
    refine ⟨nf_inA hl rfl, sgq_825 ?_⟩
    · show GNB (w_fi ws (n_v (vs ++ [n_v vs 0, Value.int y]) 7) 0) (w_fi ws (n_v (vs ++ [n_v vs 0, Value.int y]) 7) 1) (w_ei ws (w_ar ws (n_v (vs ++ [n_v vs 0, Value.int y]) 7) 14)) (w_ei ws (w_ar ws (n_v (vs ++ [n_v vs 0, Value.int y]) 7) 7)) (w_ei ws (w_ar ws (n_v (vs ++ [n_v vs 0, Value.int y]) 7) 8))
      simp only [e_7, q7]
      exact vc_Re_readEdges_18_1 (w_fi ws (n_v vs 1) 1) (w_ei ws (w_ar ws (n_v vs 1) 7)) (w_ei ws (w_ar ws (n_v vs 1) 8)) (w_ei ws (w_ar ws (n_v vs 1) 14)) (w_fi ws (n_v vs 1) 0) f28 kz_1_0 kz_1_1
  have nf2 : fc_1 PRD (20, [7], [60, 2, 2, 596, 0, 1, 7, 8]) ws (vs ++ [n_v vs 0, Value.int y]) := by
    refine ⟨nf_inA hl rfl, sgq_386 ?_⟩
    · show GKE (w_fi ws (n_v (vs ++ [n_v vs 0, Value.int y]) 7) 0) (w_fi ws (n_v (vs ++ [n_v vs 0, Value.int y]) 7) 1) (w_ei ws (w_ar ws (n_v (vs ++ [n_v vs 0, Value.int y]) 7) 7)) (w_ei ws (w_ar ws (n_v (vs ++ [n_v vs 0, Value.int y]) 7) 8))
      simp only [e_7, q7]
      exact vc_Re_readEdges_18_2 (w_fi ws (n_v vs 1) 1) (w_ei ws (w_ar ws (n_v vs 1) 7)) (w_ei ws (w_ar ws (n_v vs 1) 8)) (w_fi ws (n_v vs 1) 0) f29 kz_1_0 kz_1_1
  have nf3 : fc_1 PRD (20, [4, 7, 18], [50, 1, 0, 1000, 2, 6, 0, 2, 0, 0, 1, 0, 2, 11, 0, 6, 4, 2, 1, 0, 0, 1, 2, 1, 0, 2, 6, 0, 2, 0, 0, 1, 2, 2, 11, 0, 6, 4, 2, 1, 2, 0, 1, 2, 1, 0, 3, 10, 0, 6, 4, 2, 1, 0, 0, 1, 1, 2, 0, 6, 4, 2, 1, 2, 0, 1, 1, 0]) ws (vs ++ [n_v vs 0, Value.int y]) := by
    refine ⟨nf_inA hl rfl, sgq_824 ?_⟩
    · show (0 ≤ v_iv (n_v (vs ++ [n_v vs 0, Value.int y]) 4)) ∧ (((v_iv (n_v (vs ++ [n_v vs 0, Value.int y]) 4) + 1) ≤ w_fi ws (n_v (vs ++ [n_v vs 0, Value.int y]) 7) 0) ∧ ((0 ≤ v_iv (n_v (vs ++ [n_v vs 0, Value.int y]) 18)) ∧ (((v_iv (n_v (vs ++ [n_v vs 0, Value.int y]) 18) + 1) ≤ w_fi ws (n_v (vs ++ [n_v vs 0, Value.int y]) 7) 0) ∧ (((v_iv (n_v (vs ++ [n_v vs 0, Value.int y]) 4) + 1) ≤ v_iv (n_v (vs ++ [n_v vs 0, Value.int y]) 18)) ∨ ((v_iv (n_v (vs ++ [n_v vs 0, Value.int y]) 18) + 1) ≤ v_iv (n_v (vs ++ [n_v vs 0, Value.int y]) 4))))))
      simp only [e_4, e_7, e_18, q7]
      exact vc_Re_readEdges_18_3 (v_iv (n_v vs 4)) (v_iv (n_v vs 13)) (v_iv (n_v vs 15)) (v_iv (n_v vs 16)) (v_iv (n_v vs 18)) (v_iv (n_v vs 19)) (w_fi ws (n_v vs 0) 6) (w_fi ws (n_v vs 0) 8) (w_fi ws (n_v vs 0) 7) (w_fi ws (n_v vs 0) 9) (w_fi ws (n_v vs 1) 0) k4 k13 k15 k16 k18 k19 f5 f6 f7 f8 f20 f21 f22 f30 f31 f36 kz_0_6 kz_0_7 kz_0_8 kz_0_9 kz_1_0
  have nf4 : fc_1 PRD (20, [25, 7, 4, 18], [60, 6, 5, 1067, 5, 6, 8, 1000, 1001, 1002, 0, 1004, 1003, 1007, 1008]) ws (vs ++ [n_v vs 0, Value.int y]) := by
    refine ⟨nf_inA hl rfl, sgq_826 ?_⟩
    · show CEA (w_fi ws (n_v (vs ++ [n_v vs 0, Value.int y]) 25) 5) (w_fi ws (n_v (vs ++ [n_v vs 0, Value.int y]) 25) 6) (w_fi ws (n_v (vs ++ [n_v vs 0, Value.int y]) 25) 8) (w_fi ws (n_v (vs ++ [n_v vs 0, Value.int y]) 7) 0) (w_fi ws (n_v (vs ++ [n_v vs 0, Value.int y]) 7) 1) (w_fi ws (n_v (vs ++ [n_v vs 0, Value.int y]) 7) 2) (w_ei ws (w_ar ws (n_v (vs ++ [n_v vs 0, Value.int y]) 25) 0)) (w_ei ws (w_ar ws (n_v (vs ++ [n_v vs 0, Value.int y]) 7) 4)) (w_ei ws (w_ar ws (n_v (vs ++ [n_v vs 0, Value.int y]) 7) 3)) (w_ei ws (w_ar ws (n_v (vs ++ [n_v vs 0, Value.int y]) 7) 7)) (w_ei ws (w_ar ws (n_v (vs ++ [n_v vs 0, Value.int y]) 7) 8)) (v_iv (n_v (vs ++ [n_v vs 0, Value.int y]) 4)) (v_iv (n_v (vs ++ [n_v vs 0, Value.int y]) 18))
      simp only [e_4, e_7, e_18, e_25, q7]
      exact vc_Re_readEdges_18_4 (v_iv (n_v vs 4)) (v_iv (n_v vs 14)) (v_iv (n_v vs 15)) (v_iv (n_v vs 18)) (v_iv (n_v vs 20)) (v_iv (n_v vs 23)) (w_fi ws (n_v vs 1) 1) (w_ei ws (w_ar ws (n_v vs 1) 15)) (w_fi ws (n_v vs 0) 6) (w_fi ws (n_v vs 0) 8) (w_fi ws (n_v vs 0) 5) (w_ei ws (w_ar ws (n_v vs 0) 0)) (w_ei ws (w_ar ws (n_v vs 0) 10)) (w_fi ws (n_v vs 0) 11) (w_ei ws (w_ar ws (n_v vs 1) 7)) (w_ei ws (w_ar ws (n_v vs 1) 8)) (w_fi ws (n_v vs 0) 7) (w_fi ws (n_v vs 0) 9) (w_fi ws (n_v vs 1) 0) (w_ei ws (w_ar ws (n_v vs 1) 4)) (w_ei ws (w_ar ws (n_v vs 1) 3)) (w_fi ws (n_v vs 1) 2) (v_iv (Value.int y)) k4 k14 k15 k18 k20 k23 g1 f4 f5 f14 f17 f24 f27 f32 f36 kz_0_5 kz_0_6 kz_0_7 kz_0_8 kz_0_9 kz_0_11 kz_1_0 kz_1_1 kz_1_2 ey2
  have nf5 : fc_1 PRD (20, [7], [60, 1, 3, 1085, 1, 7, 8, 15]) ws (vs ++ [n_v vs 0, Value.int y]) := by
    refine ⟨nf_inA hl rfl, sgq_827 ?_⟩
    · show LKG (w_fi ws (n_v (vs ++ [n_v vs 0, Value.int y]) 7) 1) (w_ei ws (w_ar ws (n_v (vs ++ [n_v vs 0, Value.int y]) 7) 7)) (w_ei ws (w_ar ws (n_v (vs ++ [n_v vs 0, Value.int y]) 7) 8)) (w_ei ws (w_ar ws (n_v (vs ++ [n_v vs 0, Value.int y]) 7) 15))
      simp only [e_7, q7]
      exact vc_Re_readEdges_18_5 (w_fi ws (n_v vs 1) 1) (w_ei ws (w_ar ws (n_v vs 1) 15)) (w_ei ws (w_ar ws (n_v vs 1) 7)) (w_ei ws (w_ar ws (n_v vs 1) 8)) f17 kz_1_1
  have nf6 : fc_1 PRD (20, [7, 26], [30, 0, 1, 1, 1, -1, 0, 0]) ws (vs ++ [n_v vs 0, Value.int y]) := by
    refine ⟨nf_inA hl rfl, sgq_436 ?_⟩
    · show 1 * w_fi ws (n_v (vs ++ [n_v vs 0, Value.int y]) 7) 1 + ((-1) * v_iv (n_v (vs ++ [n_v vs 0, Value.int y]) 26) + 0) ≤ 0
      simp only [e_7, e_26, q7]
      exact vc_Re_readEdges_18_6 (w_fi ws (n_v vs 1) 1) (v_iv (Value.int y)) kz_1_1 ey2
  have nf7 : fc_1 PRD (20, [7, 26], [30, 0, -1, 1, 1, 1, 0, 0]) ws (vs ++ [n_v vs 0, Value.int y]) := by
    refine ⟨nf_inA hl rfl, sgq_437 ?_⟩
    · show (-1) * w_fi ws (n_v (vs ++ [n_v vs 0, Value.int y]) 7) 1 + (1 * v_iv (n_v (vs ++ [n_v vs 0, Value.int y]) 26) + 0) ≤ 0
      simp only [e_7, e_26, q7]
      exact vc_Re_readEdges_18_7 (w_fi ws (n_v vs 1) 1) (v_iv (Value.int y)) kz_1_1 ey2
  have nf8 : fc_1 PRD (20, [6, 26], [50, 0, 0, 0, 2, 1, 0, 1, 1]) ws (vs ++ [n_v vs 0, Value.int y]) := by
    refine ⟨nf_inA hl rfl, sgq_360 ?_⟩
    · show v_iv (n_v (vs ++ [n_v vs 0, Value.int y]) 6) ≤ v_iv (n_v (vs ++ [n_v vs 0, Value.int y]) 26)
      simp only [e_6, e_26]
      exact vc_Re_readEdges_18_8 (v_iv (n_v vs 6)) (w_fi ws (n_v vs 1) 1) (v_iv (Value.int y)) k6 f16 kz_1_1 ey2
  exact ⟨(fun _ h => (by cases h)), [n_v vs 0, Value.int y], ag_two t0 hy, List.forall_mem_cons.mpr ⟨⟨show (24 : Nat) < 100 from by decide, nf0⟩, List.forall_mem_cons.mpr ⟨⟨show (20 : Nat) < 100 from by decide, nf1⟩, List.forall_mem_cons.mpr ⟨⟨show (20 : Nat) < 100 from by decide, nf2⟩, List.forall_mem_cons.mpr ⟨⟨show (20 : Nat) < 100 from by decide, nf3⟩, List.forall_mem_cons.mpr ⟨⟨show (20 : Nat) < 100 from by decide, nf4⟩, List.forall_mem_cons.mpr ⟨⟨show (20 : Nat) < 100 from by decide, nf5⟩, List.forall_mem_cons.mpr ⟨⟨show (20 : Nat) < 100 from by decide, nf6⟩, List.forall_mem_cons.mpr ⟨⟨show (20 : Nat) < 100 from by decide, nf7⟩, List.forall_mem_cons.mpr ⟨⟨show (20 : Nat) < 100 from by decide, nf8⟩, (fun _ h => (by cases h))⟩⟩⟩⟩⟩⟩⟩⟩⟩, (fun _ h => (by cases h))⟩
set_option maxHeartbeats 4000000 in
theorem vc_Re_readEdges_19_0 (number_0 : Int) (gx : Int) (kz_0_9 : (-176) ≤ number_0 ∧ number_0 ≤ 1000000) (ex2 : gx = number_0) : 1 * number_0 + ((-1) * gx + 0) ≤ 0 := by
  first
    | omega
  
set_option maxHeartbeats 4000000 in
theorem vc_Re_readEdges_19_1 (number_0 : Int) (gx : Int) (kz_0_9 : (-176) ≤ number_0 ∧ number_0 ≤ 1000000) (ex2 : gx = number_0) : (-1) * number_0 + (1 * gx + 0) ≤ 0 := by
  first
    | omega
  
set_option maxHeartbeats 4000000 in
theorem vc_Re_readEdges_19_2 (next_0 : Int) (gy : Int) (kz_0_6 : 0 ≤ next_0 ∧ next_0 ≤ 2000) (ey2 : gy = next_0) : 1 * next_0 + ((-1) * gy + 0) ≤ 0 := by
  first
    | omega
  
set_option maxHeartbeats 4000000 in
theorem vc_Re_readEdges_19_3 (next_0 : Int) (gy : Int) (kz_0_6 : 0 ≤ next_0 ∧ next_0 ≤ 2000) (ey2 : gy = next_0) : (-1) * next_0 + (1 * gy + 0) ≤ 0 := by
  first
    | omega
  
set_option maxHeartbeats 4000000 in
theorem vc_Re_readEdges_19_4 (x14 : Int) (x17 : Int) (x27 : Int) (edges_0o1 : Int) (next_0 : Int) (begin_0 : Int) (end_0 : Int) (tape_0 : Int → Int) (kind_0 : Int) (number_0 : Int) (gx : Int) (gy : Int) (k14 : 0 ≤ x14 ∧ x14 ≤ 2000) (k17 : 0 ≤ x17 ∧ x17 ≤ 2000) (k27 : 1 ≤ x27 ∧ x27 ≤ 48) (g0 : x27 = edges_0o1) (f8 : 1 * end_0 + ((-1) * x17 + 0) ≤ 0) (f9 : (-1) * end_0 + (1 * x17 + 0) ≤ 0) (f19 : TKC (end_0) (next_0) (kind_0) (begin_0) (number_0) (tape_0) (x14)) (kz_0_5 : 0 ≤ end_0 ∧ end_0 ≤ 2000) (kz_0_6 : 0 ≤ next_0 ∧ next_0 ≤ 2000) (kz_0_7 : (-128) ≤ kind_0 ∧ kind_0 ≤ 127) (kz_0_8 : 0 ≤ begin_0 ∧ begin_0 ≤ 2000) (kz_0_9 : (-176) ≤ number_0 ∧ number_0 ≤ 1000000) (kz_1_1 : 0 ≤ edges_0o1 ∧ edges_0o1 ≤ 48) (ex2 : gx = number_0) (ey2 : gy = next_0) (ey3 : 0 ≤ gy ∧ gy ≤ 2000) : CLM (end_0) (next_0) := by
  first | subst g0 | skip
  first | subst ex2 | skip
  first | subst ey2 | skip
  exact clm_t ‹TKC _ _ _ _ _ _ _› (by omega)
set_option maxHeartbeats 4000000 in
theorem vc_Re_readEdges_19_5 (x4 : Int) (x14 : Int) (x15 : Int) (x18 : Int) (x27 : Int) (edges_0o1 : Int) (nodes_0o1 : Int) (next_0 : Int) (begin_0 : Int) (end_0 : Int) (tape_0 : Int → Int) (open_0 : Int → Int) (depth_0 : Int) (kind_0 : Int) (number_0 : Int) (tail_0o1 : Int → Int) (head_0o1 : Int → Int) (nameLength_0o1 : Int → Int) (name_0o1 : Int → Int) (groups_0o1 : Int) (gx : Int) (gy : Int) (k4 : 0 ≤ x4 ∧ x4 ≤ 23) (k14 : 0 ≤ x14 ∧ x14 ≤ 2000) (k15 : 1 ≤ x15 ∧ x15 ≤ 1) (k18 : 0 ≤ x18 ∧ x18 ≤ 23) (k27 : 1 ≤ x27 ∧ x27 ≤ 48) (g0 : x27 = edges_0o1) (f11 : cU4 (end_0) (depth_0) (tape_0) (open_0) (x4) (x14)) (f19 : TKC (end_0) (next_0) (kind_0) (begin_0) (number_0) (tape_0) (x14)) (f22 : CNM (kind_0) (next_0) (begin_0) (tape_0) (x15)) (f27 : CEB (end_0) (next_0) (begin_0) (nodes_0o1) (edges_0o1) (groups_0o1) (tape_0) (nameLength_0o1) (name_0o1) (tail_0o1) (head_0o1) (x4) (x18)) (f39 : x15 ≠ 0) (kz_0_5 : 0 ≤ end_0 ∧ end_0 ≤ 2000) (kz_0_6 : 0 ≤ next_0 ∧ next_0 ≤ 2000) (kz_0_7 : (-128) ≤ kind_0 ∧ kind_0 ≤ 127) (kz_0_8 : 0 ≤ begin_0 ∧ begin_0 ≤ 2000) (kz_0_9 : (-176) ≤ number_0 ∧ number_0 ≤ 1000000) (kz_0_11 : 0 ≤ depth_0 ∧ depth_0 ≤ 4) (kz_1_0 : 0 ≤ nodes_0o1 ∧ nodes_0o1 ≤ 24) (kz_1_1 : 0 ≤ edges_0o1 ∧ edges_0o1 ≤ 48) (kz_1_2 : 0 ≤ groups_0o1 ∧ groups_0o1 ≤ 8) (ex2 : gx = number_0) (ey2 : gy = next_0) : cG8 (end_0) (depth_0) (nodes_0o1) (edges_0o1) (groups_0o1) (tape_0) (open_0) (nameLength_0o1) (name_0o1) (tail_0o1) (head_0o1) (x18) (gy) := by
  first | subst g0 | skip
  first | subst ex2 | skip
  first | subst ey2 | skip
  exact m4_g ‹TKC _ _ _ _ _ _ _› ‹cU4 _ _ _ _ _ _› (cnm_t ‹CNM _ _ _ _ _› (by omega)) ‹CEB _ _ _ _ _ _ _ _ _ _ _ _ _› (by omega)
set_option maxHeartbeats 4000000 in
theorem vc_Re_readEdges_19_6 (x2 : Int) (x14 : Int) (next_0 : Int) (gy : Int) (k2 : 0 ≤ x2 ∧ x2 ≤ 2000) (k14 : 0 ≤ x14 ∧ x14 ≤ 2000) (f10 : 1 * x2 + ((-1) * x14 + 0) ≤ 0) (f20 : 1 * x14 + ((-1) * next_0 + 0) ≤ 0) (kz_0_6 : 0 ≤ next_0 ∧ next_0 ≤ 2000) (ey2 : gy = next_0) : 1 * x2 + ((-1) * gy + 0) ≤ 0 := by
  first
    | omega
  
def o_Re_readEdges_19 : or_T := (190, 28, [(0, (2, 0, 0, [8])), (1, (2, 0, 0, [164])), (2, (0, 0, 2000, [])), (4, (0, 0, 23, [])), (14, (0, 0, 2000, [])), (15, (0, 1, 1, [])), (17, (0, 0, 2000, [])), (18, (0, 0, 23, [])), (27, (0, 1, 48, []))], [(9, [27, 7], [1]), (24, [0, 25], []), (20, [3, 17], [30, 0, 1, 1, 5, -1, 0, 0]), (20, [3, 17], [30, 0, -1, 1, 5, 1, 0, 0]), (20, [2, 14], [30, 0, 1, 0, 0, -1, 0, 0]), (20, [3, 4, 14], [60, 2, 2, 1070, 5, 11, 0, 10]), (24, [1, 7], []), (24, [0, 3], []), (20, [3, 14], [60, 5, 1, 1072, 5, 6, 7, 8, 9, 0]), (20, [14, 3], [30, 0, 1, 0, 0, -1, 1, 6]), (20, [3, 15], [60, 3, 1, 1079, 7, 6, 8, 0]), (20, [25, 7, 4, 18], [60, 6, 5, 1068, 5, 6, 8, 1000, 1001, 1002, 0, 1004, 1003, 1007, 1008]), (102, [26], [9111549270234847880676097628965576950667454447616, 164001]), (102, [17], [2944411990052395234623243954974308466357606285312, 164000]), (8, [15], [1])], [], [(0, -2147483648, 1000000, []), (0, 0, 2000, [])], [(20, [3, 28], [30, 0, 1, 1, 9, -1, 0, 0]), (20, [3, 28], [30, 0, -1, 1, 9, 1, 0, 0]), (20, [3, 29], [30, 0, 1, 1, 6, -1, 0, 0]), (20, [3, 29], [30, 0, -1, 1, 6, 1, 0, 0]), (20, [3], [60, 2, 0, 1073, 5, 6]), (20, [3, 7, 18, 29], [60, 5, 6, 1046, 5, 11, 1000, 1001, 1002, 0, 10, 1004, 1003, 1007, 1008]), (20, [2, 29], [30, 0, 1, 0, 0, -1, 0, 0])], [], [])
theorem oo_Re_readEdges_19 {kA : Nat → ClassId} : or_ok PRD kA GG o_Re_readEdges_19 := by
  refine or_mk fun A ta ws vs hD hth hl => ?_
  intro t0 r0 t1 r1 t2 k2 t4 k4 t14 k14 t15 k15 t17 k17 t18 k18 t27 k27 f0 f1 f8 f9 f10 f11 f12 f14 f19 f20 f22 f27 ta1 w1 le1 s1 ta2 w2 le2 s2 f39
  replace f0 := shm_215 f0
  replace f1 := shm_5 f1
  replace f8 := shm_1403 f8
  replace f9 := shm_1404 f9
  replace f10 := shm_201 f10
  replace f11 := shm_2142 f11
  replace f12 := shm_5 f12
  replace f14 := shm_5 f14
  replace f19 := shm_1532 f19
  replace f20 := shm_1527 f20
  replace f22 := shm_1837 f22
  replace f27 := shm_829 f27
  replace f39 := shm_142 f39
  have q25 : n_v vs 25 = n_v vs 0 := f1.symm
  have q7 : n_v vs 7 = n_v vs 1 := f12.symm
  have q3 : n_v vs 3 = n_v vs 0 := f14.symm
  simp only [q7, q3, q25] at f0 f8 f9 f11 f19 f20 f22 f27
  have g0 : v_iv (n_v vs 27) = w_fi ws (n_v vs 1) 1 := congrArg v_iv f0
  have kz_0_5 := fdq_207 hD hth r0
  have kz_0_6 := fdq_208 hD hth r0
  have kz_0_7 := fdq_297 hD hth r0
  have kz_0_8 := fdq_99 hD hth r0
  have kz_0_9 := fdq_296 hD hth r0
  have kz_0_11 := fdq_320 hD hth r0
  have kz_1_0 := fdq_73 hD hth r1
  have kz_1_1 := fdq_74 hD hth r1
  have kz_1_2 := fdq_206 hD hth r1
  obtain ⟨x, ex, hx⟩ := iv_ex (ta := ta) (lo := (-2147483648)) (hi := 1000000) (z := w_fi ws (n_v vs 0) 9) (by omega) (by omega) (by omega) (by omega)
  have ex2 : v_iv (Value.int x) = w_fi ws (n_v vs 0) 9 := ex
  have ex3 : (-2147483648) ≤ v_iv (Value.int x) ∧ v_iv (Value.int x) ≤ 1000000 := tv_rng hx
  obtain ⟨y, ey, hy⟩ := iv_ex (ta := ta) (lo := 0) (hi := 2000) (z := w_fi ws (n_v vs 0) 6) (by omega) (by omega) (by omega) (by omega)
  have ey2 : v_iv (Value.int y) = w_fi ws (n_v vs 0) 6 := ey
  have ey3 : 0 ≤ v_iv (Value.int y) ∧ v_iv (Value.int y) ≤ 2000 := tv_rng hy
  have e_2 : n_v (vs ++ [Value.int x, Value.int y]) 2 = n_v vs 2 := n_v_old (by rw [hl]; decide)
  have e_3 : n_v (vs ++ [Value.int x, Value.int y]) 3 = n_v vs 3 := n_v_old (by rw [hl]; decide)
  have e_7 : n_v (vs ++ [Value.int x, Value.int y]) 7 = n_v vs 7 := n_v_old (by rw [hl]; decide)
  have e_18 : n_v (vs ++ [Value.int x, Value.int y]) 18 = n_v vs 18 := n_v_old (by rw [hl]; decide)
  have e_28 : n_v (vs ++ [Value.int x, Value.int y]) 28 = Value.int x := n_v_new0 hl
  have e_29 : n_v (vs ++ [Value.int x, Value.int y]) 29 = Value.int y := n_v_new1 hl
  have nf0 : fc_1 PRD (20, [3, 28], [30, 0, 1, 1, 9, -1, 0, 0]) ws (vs ++ [Value.int x, Value.int y]) := by
    refine ⟨nf_inA hl rfl, sgq_1521 ?_⟩
    · show 1 * w_fi ws (n_v (vs ++ [Value.int x, Value.int y]) 3) 9 + ((-1) * v_iv (n_v (vs ++ [Value.int x, Value.int y]) 28) + 0) ≤ 0
      simp only [e_3, e_28, q3]
      exact vc_Re_readEdges_19_0 (w_fi ws (n_v vs 0) 9) (v_iv (Value.int x)) kz_0_9 ex2
  have nf1 : fc_1 PRD (20, [3, 28], [30, 0, -1, 1, 9, 1, 0, 0]) ws (vs ++ [Value.int x, Value.int y]) := by
    refine ⟨nf_inA hl rfl, sgq_1522 ?_⟩
    · show (-1) * w_fi ws (n_v (vs ++ [Value.int x, Value.int y]) 3) 9 + (1 * v_iv (n_v (vs ++ [Value.int x, Value.int y]) 28) + 0) ≤ 0
      simp only [e_3, e_28, q3]
      exact vc_Re_readEdges_19_1 (w_fi ws (n_v vs 0) 9) (v_iv (Value.int x)) kz_0_9 ex2
  have nf2 : fc_1 PRD (20, [3, 29], [30, 0, 1, 1, 6, -1, 0, 0]) ws (vs ++ [Value.int x, Value.int y]) := by
    refine ⟨nf_inA hl rfl, sgq_1523 ?_⟩
    · show 1 * w_fi ws (n_v (vs ++ [Value.int x, Value.int y]) 3) 6 + ((-1) * v_iv (n_v (vs ++ [Value.int x, Value.int y]) 29) + 0) ≤ 0
      simp only [e_3, e_29, q3]
      exact vc_Re_readEdges_19_2 (w_fi ws (n_v vs 0) 6) (v_iv (Value.int y)) kz_0_6 ey2
  have nf3 : fc_1 PRD (20, [3, 29], [30, 0, -1, 1, 6, 1, 0, 0]) ws (vs ++ [Value.int x, Value.int y]) := by
    refine ⟨nf_inA hl rfl, sgq_1524 ?_⟩
    · show (-1) * w_fi ws (n_v (vs ++ [Value.int x, Value.int y]) 3) 6 + (1 * v_iv (n_v (vs ++ [Value.int x, Value.int y]) 29) + 0) ≤ 0
      simp only [e_3, e_29, q3]
      exact vc_Re_readEdges_19_3 (w_fi ws (n_v vs 0) 6) (v_iv (Value.int y)) kz_0_6 ey2
  have nf4 : fc_1 PRD (20, [3], [60, 2, 0, 1073, 5, 6]) ws (vs ++ [Value.int x, Value.int y]) := by
    refine ⟨nf_inA hl rfl, sgq_1525 ?_⟩
    · show CLM (w_fi ws (n_v (vs ++ [Value.int x, Value.int y]) 3) 5) (w_fi ws (n_v (vs ++ [Value.int x, Value.int y]) 3) 6)
      simp only [e_3, q3]
      exact vc_Re_readEdges_19_4 (v_iv (n_v vs 14)) (v_iv (n_v vs 17)) (v_iv (n_v vs 27)) (w_fi ws (n_v vs 1) 1) (w_fi ws (n_v vs 0) 6) (w_fi ws (n_v vs 0) 8) (w_fi ws (n_v vs 0) 5) (w_ei ws (w_ar ws (n_v vs 0) 0)) (w_fi ws (n_v vs 0) 7) (w_fi ws (n_v vs 0) 9) (v_iv (Value.int x)) (v_iv (Value.int y)) k14 k17 k27 g0 f8 f9 f19 kz_0_5 kz_0_6 kz_0_7 kz_0_8 kz_0_9 kz_1_1 ex2 ey2 ey3
  have nf5 : fc_1 PRD (20, [3, 7, 18, 29], [60, 5, 6, 1046, 5, 11, 1000, 1001, 1002, 0, 10, 1004, 1003, 1007, 1008]) ws (vs ++ [Value.int x, Value.int y]) := by
    refine ⟨nf_inA hl rfl, sgq_2143 ?_⟩
    · show cG8 (w_fi ws (n_v (vs ++ [Value.int x, Value.int y]) 3) 5) (w_fi ws (n_v (vs ++ [Value.int x, Value.int y]) 3) 11) (w_fi ws (n_v (vs ++ [Value.int x, Value.int y]) 7) 0) (w_fi ws (n_v (vs ++ [Value.int x, Value.int y]) 7) 1) (w_fi ws (n_v (vs ++ [Value.int x, Value.int y]) 7) 2) (w_ei ws (w_ar ws (n_v (vs ++ [Value.int x, Value.int y]) 3) 0)) (w_ei ws (w_ar ws (n_v (vs ++ [Value.int x, Value.int y]) 3) 10)) (w_ei ws (w_ar ws (n_v (vs ++ [Value.int x, Value.int y]) 7) 4)) (w_ei ws (w_ar ws (n_v (vs ++ [Value.int x, Value.int y]) 7) 3)) (w_ei ws (w_ar ws (n_v (vs ++ [Value.int x, Value.int y]) 7) 7)) (w_ei ws (w_ar ws (n_v (vs ++ [Value.int x, Value.int y]) 7) 8)) (v_iv (n_v (vs ++ [Value.int x, Value.int y]) 18)) (v_iv (n_v (vs ++ [Value.int x, Value.int y]) 29))
      simp only [e_3, e_7, e_18, e_29, q7, q3]
      exact vc_Re_readEdges_19_5 (v_iv (n_v vs 4)) (v_iv (n_v vs 14)) (v_iv (n_v vs 15)) (v_iv (n_v vs 18)) (v_iv (n_v vs 27)) (w_fi ws (n_v vs 1) 1) (w_fi ws (n_v vs 1) 0) (w_fi ws (n_v vs 0) 6) (w_fi ws (n_v vs 0) 8) (w_fi ws (n_v vs 0) 5) (w_ei ws (w_ar ws (n_v vs 0) 0)) (w_ei ws (w_ar ws (n_v vs 0) 10)) (w_fi ws (n_v vs 0) 11) (w_fi ws (n_v vs 0) 7) (w_fi ws (n_v vs 0) 9) (w_ei ws (w_ar ws (n_v vs 1) 7)) (w_ei ws (w_ar ws (n_v vs 1) 8)) (w_ei ws (w_ar ws (n_v vs 1) 4)) (w_ei ws (w_ar ws (n_v vs 1) 3)) (w_fi ws (n_v vs 1) 2) (v_iv (Value.int x)) (v_iv (Value.int y)) k4 k14 k15 k18 k27 g0 f11 f19 f22 f27 f39 kz_0_5 kz_0_6 kz_0_7 kz_0_8 kz_0_9 kz_0_11 kz_1_0 kz_1_1 kz_1_2 ex2 ey2
  have nf6 : fc_1 PRD (20, [2, 29], [30, 0, 1, 0, 0, -1, 0, 0]) ws (vs ++ [Value.int x, Value.int y]) := by
    refine ⟨nf_inA hl rfl, sgq_201 ?_⟩
    · show 1 * v_iv (n_v (vs ++ [Value.int x, Value.int y]) 2) + ((-1) * v_iv (n_v (vs ++ [Value.int x, Value.int y]) 29) + 0) ≤ 0
      simp only [e_2, e_29]
      exact vc_Re_readEdges_19_6 (v_iv (n_v vs 2)) (v_iv (n_v vs 14)) (w_fi ws (n_v vs 0) 6) (v_iv (Value.int y)) k2 k14 f10 f20 kz_0_6 ey2
  exact ⟨(fun _ h => (by cases h)), [Value.int x, Value.int y], ag_two hx hy, List.forall_mem_cons.mpr ⟨⟨show (20 : Nat) < 100 from by decide, nf0⟩, List.forall_mem_cons.mpr ⟨⟨show (20 : Nat) < 100 from by decide, nf1⟩, List.forall_mem_cons.mpr ⟨⟨show (20 : Nat) < 100 from by decide, nf2⟩, List.forall_mem_cons.mpr ⟨⟨show (20 : Nat) < 100 from by decide, nf3⟩, List.forall_mem_cons.mpr ⟨⟨show (20 : Nat) < 100 from by decide, nf4⟩, List.forall_mem_cons.mpr ⟨⟨show (20 : Nat) < 100 from by decide, nf5⟩, List.forall_mem_cons.mpr ⟨⟨show (20 : Nat) < 100 from by decide, nf6⟩, (fun _ h => (by cases h))⟩⟩⟩⟩⟩⟩⟩, (fun _ h => (by cases h))⟩
set_option maxHeartbeats 4000000 in
theorem vc_Re_readEdges_20_0 (x4 : Int) (x18 : Int) (nodes_0o1 : Int) (k4 : 0 ≤ x4 ∧ x4 ≤ 23) (k18 : 0 ≤ x18 ∧ x18 ≤ 23) (f5 : (0 ≤ x4) ∧ (((x4 + 1) ≤ nodes_0o1) ∧ ((0 ≤ x18) ∧ (((x18 + 1) ≤ nodes_0o1) ∧ (((x4 + 1) ≤ x18) ∨ ((x18 + 1) ≤ x4)))))) (kz_1_0 : 0 ≤ nodes_0o1 ∧ nodes_0o1 ≤ 24) : (0 ≤ x18) ∧ ((x18 + 1) ≤ nodes_0o1) := by
  first
    | omega
  
set_option maxHeartbeats 4000000 in
theorem vc_Re_readEdges_20_1 (x18 : Int) (x27 : Int) (x29 : Int) (edges_0o1 : Int) (tape_0 : Int → Int) (open_0 : Int → Int) (nameLength_0o1 : Int → Int) (name_0o1 : Int → Int) (tail_0o1 : Int → Int) (head_0o1 : Int → Int) (end_0 : Int) (depth_0 : Int) (nodes_0o1 : Int) (groups_0o1 : Int) (kind_0 : Int) (number_0 : Int) (next_0 : Int) (begin_0 : Int) (k18 : 0 ≤ x18 ∧ x18 ≤ 23) (k27 : 1 ≤ x27 ∧ x27 ≤ 48) (k29 : 0 ≤ x29 ∧ x29 ≤ 2000) (g0 : x27 = edges_0o1) (f2 : cG8 (end_0) (depth_0) (nodes_0o1) (edges_0o1) (groups_0o1) (tape_0) (open_0) (nameLength_0o1) (name_0o1) (tail_0o1) (head_0o1) (x18) (x29)) (f26 : TKC (end_0) (next_0) (kind_0) (begin_0) (number_0) (tape_0) (x29)) (kz_0_5 : 0 ≤ end_0 ∧ end_0 ≤ 2000) (kz_0_6 : 0 ≤ next_0 ∧ next_0 ≤ 2000) (kz_0_7 : (-128) ≤ kind_0 ∧ kind_0 ≤ 127) (kz_0_8 : 0 ≤ begin_0 ∧ begin_0 ≤ 2000) (kz_0_9 : (-176) ≤ number_0 ∧ number_0 ≤ 1000000) (kz_0_11 : 0 ≤ depth_0 ∧ depth_0 ≤ 4) (kz_1_0 : 0 ≤ nodes_0o1 ∧ nodes_0o1 ≤ 24) (kz_1_1 : 0 ≤ edges_0o1 ∧ edges_0o1 ≤ 48) (kz_1_2 : 0 ≤ groups_0o1 ∧ groups_0o1 ≤ 8) : cLE (end_0) (next_0) (kind_0) (begin_0) (number_0) (depth_0) (nodes_0o1) (edges_0o1) (groups_0o1) (tape_0) (open_0) (nameLength_0o1) (name_0o1) (tail_0o1) (head_0o1) (x18) := by
  first | subst g0 | skip
  first
    | exact le_3 ‹TKC _ _ _ _ _ _ _› ‹cG3 _ _ _ _ _ _ _ _ _ _ _ _ _› (by omega)
    | exact le_8 ‹TKC _ _ _ _ _ _ _› ‹cG8 _ _ _ _ _ _ _ _ _ _ _ _ _›
set_option maxHeartbeats 4000000 in
theorem vc_Re_readEdges_20_2 (x2 : Int) (x29 : Int) (next_0 : Int) (k2 : 0 ≤ x2 ∧ x2 ≤ 2000) (k29 : 0 ≤ x29 ∧ x29 ≤ 2000) (f3 : 1 * x2 + ((-1) * x29 + 0) ≤ 0) (f27 : 1 * x29 + ((-1) * next_0 + 0) ≤ 0) (kz_0_6 : 0 ≤ next_0 ∧ next_0 ≤ 2000) : 1 * x2 + ((-1) * next_0 + 0) ≤ 0 := by
  first
    | omega
  
set_option maxHeartbeats 4000000 in
theorem vc_Re_readEdges_20_3 (x6 : Int) (x26 : Int) (x30 : Int) (edges_0o1 : Int) (k6 : 0 ≤ x6 ∧ x6 ≤ 48) (k26 : 0 ≤ x26 ∧ x26 ≤ 47) (k30 : 1 ≤ x30 ∧ x30 ≤ 49) (d0 : x6 + 1 ≤ x30 ∧ x30 ≤ x6 + 1) (f6 : x6 ≤ x26) (f21 : edges_0o1 = (x26 + 1)) (kz_1_1 : 0 ≤ edges_0o1 ∧ edges_0o1 ≤ 48) : x30 ≤ edges_0o1 := by
  first
    | omega
  
def o_Re_readEdges_20 : or_T := (54, 31, [(0, (2, 0, 0, [8])), (1, (2, 0, 0, [164])), (2, (0, 0, 2000, [])), (4, (0, 0, 23, [])), (6, (0, 0, 48, [])), (18, (0, 0, 23, [])), (26, (0, 0, 47, [])), (27, (0, 1, 48, [])), (29, (0, 0, 2000, [])), (30, (0, 1, 49, []))], [(9, [27, 7], [1]), (20, [3, 7, 18, 29], [60, 5, 6, 1046, 5, 11, 1000, 1001, 1002, 0, 10, 1004, 1003, 1007, 1008]), (20, [2, 29], [30, 0, 1, 0, 0, -1, 0, 0]), (20, [4, 7, 18], [50, 1, 0, 1000, 2, 6, 0, 2, 0, 0, 1, 0, 2, 11, 0, 6, 4, 2, 1, 0, 0, 1, 2, 1, 0, 2, 6, 0, 2, 0, 0, 1, 2, 2, 11, 0, 6, 4, 2, 1, 2, 0, 1, 2, 1, 0, 3, 10, 0, 6, 4, 2, 1, 0, 0, 1, 1, 2, 0, 6, 4, 2, 1, 2, 0, 1, 1, 0]), (20, [6, 26], [50, 0, 0, 0, 2, 1, 0, 1, 1]), (24, [1, 7], []), (24, [0, 3], []), (20, [7, 26], [50, 1, 0, 1, 1, 3, 2, 0, 1, 4, 2, 1, 1, 0, 1]), (20, [3, 29], [60, 5, 1, 1072, 5, 6, 7, 8, 9, 0]), (20, [29, 3], [30, 0, 1, 0, 0, -1, 1, 6])], [], [], [(20, [18, 7], [50, 1, 0, 1000, 2, 6, 0, 2, 0, 0, 1, 0, 0, 6, 4, 2, 1, 0, 0, 1, 2, 1, 0]), (20, [3, 7, 18], [60, 9, 6, 1061, 5, 6, 7, 8, 9, 11, 1000, 1001, 1002, 0, 10, 1004, 1003, 1007, 1008]), (20, [2, 3], [30, 0, 1, 0, 0, -1, 1, 6]), (20, [30, 7], [50, 1, 0, 1001, 0, 2, 1, 0, 2, 1, 1])], [], [(30, 6, 1, 1)])
theorem oo_Re_readEdges_20 {kA : Nat → ClassId} : or_ok PRD kA GG o_Re_readEdges_20 := by
  refine or_mk fun A ta ws vs hD hth hl => ?_
  intro t0 r0 t1 r1 t2 k2 t4 k4 t6 k6 t18 k18 t26 k26 t27 k27 t29 k29 t30 k30 d0 f0 f2 f3 f5 f6 f13 f15 f21 f26 f27
  replace f0 := shm_215 f0
  replace f2 := shm_2143 f2
  replace f3 := shm_201 f3
  replace f5 := shm_824 f5
  replace f6 := shm_360 f6
  replace f13 := shm_5 f13
  replace f15 := shm_5 f15
  replace f21 := shm_830 f21
  replace f26 := shm_1532 f26
  replace f27 := shm_1527 f27
  have q7 : n_v vs 7 = n_v vs 1 := f13.symm
  have q3 : n_v vs 3 = n_v vs 0 := f15.symm
  simp only [q7, q3] at f0 f2 f5 f21 f26 f27
  have g0 : v_iv (n_v vs 27) = w_fi ws (n_v vs 1) 1 := congrArg v_iv f0
  have kz_0_5 := fdq_207 hD hth r0
  have kz_0_6 := fdq_208 hD hth r0
  have kz_0_7 := fdq_297 hD hth r0
  have kz_0_8 := fdq_99 hD hth r0
  have kz_0_9 := fdq_296 hD hth r0
  have kz_0_11 := fdq_320 hD hth r0
  have kz_1_0 := fdq_73 hD hth r1
  have kz_1_1 := fdq_74 hD hth r1
  have kz_1_2 := fdq_206 hD hth r1
  have nf0 : fc_1 PRD (20, [18, 7], [50, 1, 0, 1000, 2, 6, 0, 2, 0, 0, 1, 0, 0, 6, 4, 2, 1, 0, 0, 1, 2, 1, 0]) ws (vs) := by
    refine ⟨nf_in hl rfl, sgq_416 ?_⟩
    · show (0 ≤ v_iv (n_v vs 18)) ∧ ((v_iv (n_v vs 18) + 1) ≤ w_fi ws (n_v vs 7) 0)
      rw [q7]
      exact vc_Re_readEdges_20_0 (v_iv (n_v vs 4)) (v_iv (n_v vs 18)) (w_fi ws (n_v vs 1) 0) k4 k18 f5 kz_1_0
  have nf1 : fc_1 PRD (20, [3, 7, 18], [60, 9, 6, 1061, 5, 6, 7, 8, 9, 11, 1000, 1001, 1002, 0, 10, 1004, 1003, 1007, 1008]) ws (vs) := by
    refine ⟨nf_in hl rfl, sgq_2137 ?_⟩
    · show cLE (w_fi ws (n_v vs 3) 5) (w_fi ws (n_v vs 3) 6) (w_fi ws (n_v vs 3) 7) (w_fi ws (n_v vs 3) 8) (w_fi ws (n_v vs 3) 9) (w_fi ws (n_v vs 3) 11) (w_fi ws (n_v vs 7) 0) (w_fi ws (n_v vs 7) 1) (w_fi ws (n_v vs 7) 2) (w_ei ws (w_ar ws (n_v vs 3) 0)) (w_ei ws (w_ar ws (n_v vs 3) 10)) (w_ei ws (w_ar ws (n_v vs 7) 4)) (w_ei ws (w_ar ws (n_v vs 7) 3)) (w_ei ws (w_ar ws (n_v vs 7) 7)) (w_ei ws (w_ar ws (n_v vs 7) 8)) (v_iv (n_v vs 18))
      simp only [q7, q3]
      exact vc_Re_readEdges_20_1 (v_iv (n_v vs 18)) (v_iv (n_v vs 27)) (v_iv (n_v vs 29)) (w_fi ws (n_v vs 1) 1) (w_ei ws (w_ar ws (n_v vs 0) 0)) (w_ei ws (w_ar ws (n_v vs 0) 10)) (w_ei ws (w_ar ws (n_v vs 1) 4)) (w_ei ws (w_ar ws (n_v vs 1) 3)) (w_ei ws (w_ar ws (n_v vs 1) 7)) (w_ei ws (w_ar ws (n_v vs 1) 8)) (w_fi ws (n_v vs 0) 5) (w_fi ws (n_v vs 0) 11) (w_fi ws (n_v vs 1) 0) (w_fi ws (n_v vs 1) 2) (w_fi ws (n_v vs 0) 7) (w_fi ws (n_v vs 0) 9) (w_fi ws (n_v vs 0) 6) (w_fi ws (n_v vs 0) 8) k18 k27 k29 g0 f2 f26 kz_0_5 kz_0_6 kz_0_7 kz_0_8 kz_0_9 kz_0_11 kz_1_0 kz_1_1 kz_1_2
  have nf2 : fc_1 PRD (20, [2, 3], [30, 0, 1, 0, 0, -1, 1, 6]) ws (vs) := by
    refine ⟨nf_in hl rfl, sgq_1527 ?_⟩
    · show 1 * v_iv (n_v vs 2) + ((-1) * w_fi ws (n_v vs 3) 6 + 0) ≤ 0
      rw [q3]
      exact vc_Re_readEdges_20_2 (v_iv (n_v vs 2)) (v_iv (n_v vs 29)) (w_fi ws (n_v vs 0) 6) k2 k29 f3 f27 kz_0_6
  have nf3 : fc_1 PRD (20, [30, 7], [50, 1, 0, 1001, 0, 2, 1, 0, 2, 1, 1]) ws (vs) := by
    refine ⟨nf_in hl rfl, sgq_483 ?_⟩
    · show v_iv (n_v vs 30) ≤ w_fi ws (n_v vs 7) 1
      rw [q7]
      exact vc_Re_readEdges_20_3 (v_iv (n_v vs 6)) (v_iv (n_v vs 26)) (v_iv (n_v vs 30)) (w_fi ws (n_v vs 1) 1) k6 k26 k30 d0 f6 f21 kz_1_1
  refine ⟨(fun _ h => (by cases h)), [], trivial, ?_, (fun _ h => (by cases h))⟩
  rw [List.append_nil]
  exact List.forall_mem_cons.mpr ⟨⟨show (20 : Nat) < 100 from by decide, nf0⟩, List.forall_mem_cons.mpr ⟨⟨show (20 : Nat) < 100 from by decide, nf1⟩, List.forall_mem_cons.mpr ⟨⟨show (20 : Nat) < 100 from by decide, nf2⟩, List.forall_mem_cons.mpr ⟨⟨show (20 : Nat) < 100 from by decide, nf3⟩, (fun _ h => (by cases h))⟩⟩⟩⟩

set_option maxHeartbeats 4000000 in
theorem vc_Re_readEdges_21_0 (x4 : Int) (x14 : Int) (x15 : Int) (x18 : Int) (x20 : Int) (x23 : Int) (x25 : Int) (edges_0o1 : Int) (link_0o1 : Int → Int) (next_0 : Int) (begin_0 : Int) (end_0 : Int) (tape_0 : Int → Int) (open_0 : Int → Int) (depth_0 : Int) (tail_0o1 : Int → Int) (head_0o1 : Int → Int) (kind_0 : Int) (number_0 : Int) (nodes_0o1 : Int) (nameLength_0o1 : Int → Int) (name_0o1 : Int → Int) (groups_0o1 : Int) (k4 : 0 ≤ x4 ∧ x4 ≤ 23) (k14 : 0 ≤ x14 ∧ x14 ≤ 2000) (k15 : 1 ≤ x15 ∧ x15 ≤ 1) (k18 : 0 ≤ x18 ∧ x18 ≤ 23) (k20 : (-1) ≤ x20 ∧ x20 ≤ (-1)) (k23 : 48 ≤ x23 ∧ x23 ≤ 48) (k25 : 3 ≤ x25 ∧ x25 ≤ 3) (g1 : x23 = edges_0o1) (f4 : x20 = link_0o1 (((x4 * 24) + x18))) (f5 : x4 ≠ x18) (f14 : cU4 (end_0) (depth_0) (tape_0) (open_0) (x4) (x14)) (f17 : LKG (edges_0o1) (tail_0o1) (head_0o1) (link_0o1)) (f24 : TKC (end_0) (next_0) (kind_0) (begin_0) (number_0) (tape_0) (x14)) (f27 : CNM (kind_0) (next_0) (begin_0) (tape_0) (x15)) (f32 : CGM (end_0) (next_0) (begin_0) (nodes_0o1) (edges_0o1) (groups_0o1) (tape_0) (nameLength_0o1) (name_0o1) (tail_0o1) (head_0o1) (x18)) (f36 : x15 ≠ 0) (kz_0_5 : 0 ≤ end_0 ∧ end_0 ≤ 2000) (kz_0_6 : 0 ≤ next_0 ∧ next_0 ≤ 2000) (kz_0_7 : (-128) ≤ kind_0 ∧ kind_0 ≤ 127) (kz_0_8 : 0 ≤ begin_0 ∧ begin_0 ≤ 2000) (kz_0_9 : (-176) ≤ number_0 ∧ number_0 ≤ 1000000) (kz_0_11 : 0 ≤ depth_0 ∧ depth_0 ≤ 4) (kz_1_0 : 0 ≤ nodes_0o1 ∧ nodes_0o1 ≤ 24) (kz_1_1 : 0 ≤ edges_0o1 ∧ edges_0o1 ≤ 48) (kz_1_2 : 0 ≤ groups_0o1 ∧ groups_0o1 ≤ 8) : FSY (end_0) (begin_0) (tape_0) (x25) := by
  first
    | exact fsy_of (m4_3 (lk := link_0o1) ‹TKC _ _ _ _ _ _ _› ‹cU4 _ _ _ _ _ _› (cnm_t ‹CNM _ _ _ _ _› (by omega)) ‹CGM _ _ _ _ _ _ _ _ _ _ _ _› (Or.inl (by omega))) (by omega)
    | exact fsy_of (m4_3 ‹TKC _ _ _ _ _ _ _› ‹cU4 _ _ _ _ _ _› (cnm_t ‹CNM _ _ _ _ _› (by omega)) ‹CGM _ _ _ _ _ _ _ _ _ _ _ _› (Or.inr ⟨‹LKG _ _ _ _›, by omega, by omega, by omega⟩)) (by omega)
def o_Re_readEdges_21 : or_T := (169, 26, [(0, (2, 0, 0, [8])), (1, (2, 0, 0, [164])), (4, (0, 0, 23, [])), (14, (0, 0, 2000, [])), (15, (0, 1, 1, [])), (18, (0, 0, 23, [])), (20, (0, -1, -1, [])), (23, (0, 48, 48, [])), (25, (0, 3, 3, []))], [(9, [23, 7], [1]), (20, [20, 7, 4, 18], [50, 0, 1, 1015, 1, 2, 1, 0, 3, 1, 15, 4, 6, 6, 2, 1, 2, 0, 24, 1, 3]), (7, [4, 18], [1]), (20, [3, 4, 14], [60, 2, 2, 1070, 5, 11, 0, 10]), (24, [1, 7], []), (20, [7], [60, 1, 3, 1085, 1, 7, 8, 15]), (24, [0, 3], []), (20, [3, 14], [60, 5, 1, 1072, 5, 6, 7, 8, 9, 0]), (20, [3, 15], [60, 3, 1, 1079, 7, 6, 8, 0]), (20, [3, 7, 18], [60, 6, 5, 1066, 5, 6, 8, 1000, 1001, 1002, 0, 1004, 1003, 1007, 1008]), (102, [17], [2944411990052395234623243954974308466357606285312, 164000]), (8, [15], [1])], [], [], [(20, [3, 25], [60, 2, 1, 1078, 5, 8, 0])], [], [])
theorem oo_Re_readEdges_21 {kA : Nat → ClassId} : or_ok PRD kA GG o_Re_readEdges_21 := by
  refine or_mk fun A ta ws vs hD hth hl => ?_
  intro t0 r0 t1 r1 t4 k4 t14 k14 t15 k15 t18 k18 t20 k20 t23 k23 t25 k25 f1 f4 f5 f14 f15 f17 f19 f24 f27 f32 ta1 w1 le1 s1 f36
  replace f1 := shm_215 f1
  replace f4 := shm_376 f4
  replace f5 := shm_40 f5
  replace f14 := shm_2142 f14
  replace f15 := shm_5 f15
  replace f17 := shm_827 f17
  replace f19 := shm_5 f19
  replace f24 := shm_1532 f24
  replace f27 := shm_1837 f27
  replace f32 := shm_1406 f32
  replace f36 := shm_142 f36
  have q7 : n_v vs 7 = n_v vs 1 := f15.symm
  have q3 : n_v vs 3 = n_v vs 0 := f19.symm
  simp only [q7, q3] at f1 f4 f14 f17 f24 f27 f32
  have g1 : v_iv (n_v vs 23) = w_fi ws (n_v vs 1) 1 := congrArg v_iv f1
  have kz_0_5 := fdq_207 hD hth r0
  have kz_0_6 := fdq_208 hD hth r0
  have kz_0_7 := fdq_297 hD hth r0
  have kz_0_8 := fdq_99 hD hth r0
  have kz_0_9 := fdq_296 hD hth r0
  have kz_0_11 := fdq_320 hD hth r0
  have kz_1_0 := fdq_73 hD hth r1
  have kz_1_1 := fdq_74 hD hth r1
  have kz_1_2 := fdq_206 hD hth r1
  have nf0 : fc_1 PRD (20, [3, 25], [60, 2, 1, 1078, 5, 8, 0]) ws (vs) := by
    refine ⟨nf_in hl rfl, sgq_1988 ?_⟩
    · show FSY (w_fi ws (n_v vs 3) 5) (w_fi ws (n_v vs 3) 8) (w_ei ws (w_ar ws (n_v vs 3) 0)) (v_iv (n_v vs 25))
      rw [q3]
      exact vc_Re_readEdges_21_0 (v_iv (n_v vs 4)) (v_iv (n_v vs 14)) (v_iv (n_v vs 15)) (v_iv (n_v vs 18)) (v_iv (n_v vs 20)) (v_iv (n_v vs 23)) (v_iv (n_v vs 25)) (w_fi ws (n_v vs 1) 1) (w_ei ws (w_ar ws (n_v vs 1) 15)) (w_fi ws (n_v vs 0) 6) (w_fi ws (n_v vs 0) 8) (w_fi ws (n_v vs 0) 5) (w_ei ws (w_ar ws (n_v vs 0) 0)) (w_ei ws (w_ar ws (n_v vs 0) 10)) (w_fi ws (n_v vs 0) 11) (w_ei ws (w_ar ws (n_v vs 1) 7)) (w_ei ws (w_ar ws (n_v vs 1) 8)) (w_fi ws (n_v vs 0) 7) (w_fi ws (n_v vs 0) 9) (w_fi ws (n_v vs 1) 0) (w_ei ws (w_ar ws (n_v vs 1) 4)) (w_ei ws (w_ar ws (n_v vs 1) 3)) (w_fi ws (n_v vs 1) 2) k4 k14 k15 k18 k20 k23 k25 g1 f4 f5 f14 f17 f24 f27 f32 f36 kz_0_5 kz_0_6 kz_0_7 kz_0_8 kz_0_9 kz_0_11 kz_1_0 kz_1_1 kz_1_2
  refine ⟨(fun _ h => (by cases h)), [], trivial, ?_, (fun _ h => (by cases h))⟩
  rw [List.append_nil]
  exact List.forall_mem_cons.mpr ⟨⟨show (20 : Nat) < 100 from by decide, nf0⟩, (fun _ h => (by cases h))⟩
set_option maxHeartbeats 4000000 in
theorem vc_Re_readEdges_22_0 (edges_0o1 : Int) (tail_0o1 : Int → Int) (head_0o1 : Int → Int) (near_0o1 : Int → Int) (nodes_0o1 : Int) (f23 : GNB (nodes_0o1) (edges_0o1) (near_0o1) (tail_0o1) (head_0o1)) (kz_1_0 : 0 ≤ nodes_0o1 ∧ nodes_0o1 ≤ 24) (kz_1_1 : 0 ≤ edges_0o1 ∧ edges_0o1 ≤ 48) : GNB (nodes_0o1) (edges_0o1) (near_0o1) (tail_0o1) (head_0o1) := by
  first
    | assumption
  
set_option maxHeartbeats 4000000 in
theorem vc_Re_readEdges_22_1 (edges_0o1 : Int) (tail_0o1 : Int → Int) (head_0o1 : Int → Int) (nodes_0o1 : Int) (f24 : GKE (nodes_0o1) (edges_0o1) (tail_0o1) (head_0o1)) (kz_1_0 : 0 ≤ nodes_0o1 ∧ nodes_0o1 ≤ 24) (kz_1_1 : 0 ≤ edges_0o1 ∧ edges_0o1 ≤ 48) : GKE (nodes_0o1) (edges_0o1) (tail_0o1) (head_0o1) := by
  first
    | assumption
  
set_option maxHeartbeats 4000000 in
theorem vc_Re_readEdges_22_2 (x23 : Int) (x25 : Int) (x26 : Int) (edges_0o1 : Int) (tape_0 : Int → Int) (end_0 : Int) (begin_0 : Int) (next_0 : Int) (open_0 : Int → Int) (depth_0 : Int) (tail_0o1 : Int → Int) (head_0o1 : Int → Int) (nodes_0o1 : Int) (nameLength_0o1 : Int → Int) (name_0o1 : Int → Int) (groups_0o1 : Int) (fault_0 : Int) (faultPlace_0 : Int) (k23 : 48 ≤ x23 ∧ x23 ≤ 48) (k25 : 3 ≤ x25 ∧ x25 ≤ 3) (k26 : 0 ≤ x26 ∧ x26 ≤ 0) (g0 : x23 = edges_0o1) (f1 : FSY (end_0) (begin_0) (tape_0) (x25)) (f28 : (x26 = 0) ∧ ((fault_0 = x25) ∧ (faultPlace_0 = begin_0))) (kz_0_2 : (-1) ≤ fault_0 ∧ fault_0 ≤ 5) (kz_0_3 : (-1) ≤ faultPlace_0 ∧ faultPlace_0 ≤ 2000) (kz_0_5 : 0 ≤ end_0 ∧ end_0 ≤ 2000) (kz_0_6 : 0 ≤ next_0 ∧ next_0 ≤ 2000) (kz_0_8 : 0 ≤ begin_0 ∧ begin_0 ≤ 2000) (kz_0_11 : 0 ≤ depth_0 ∧ depth_0 ≤ 4) (kz_1_0 : 0 ≤ nodes_0o1 ∧ nodes_0o1 ≤ 24) (kz_1_1 : 0 ≤ edges_0o1 ∧ edges_0o1 ≤ 48) (kz_1_2 : 0 ≤ groups_0o1 ∧ groups_0o1 ≤ 8) : cO0 (end_0) (next_0) (depth_0) (fault_0) (faultPlace_0) (nodes_0o1) (edges_0o1) (groups_0o1) (tape_0) (open_0) (nameLength_0o1) (name_0o1) (tail_0o1) (head_0o1) (x26) := by
  first | subst g0 | skip
  first
    | exact cO0_f ‹FSY _ _ _ _› (by omega) (by omega) (by omega)
    | exact cO_13 ‹cO13 _ _ _ _ _ _ _ _ _ _ _ _ _ _ _› (by omega) (by omega)
    | exact cO0_t (s_go (le_s ‹cLE _ _ _ _ _ _ _ _ _ _ _ _ _ _ _ _› (by omega)) (by omega) rfl) (by omega) (by omega)
    | exact cO0_t (s_go (n13_s ‹TKC _ _ _ _ _ _ _› ‹cG13 _ _ _ _ _ _ _ _ _ _ _ _›) (by omega) rfl) (by omega) (by omega)
set_option maxHeartbeats 4000000 in
theorem vc_Re_readEdges_22_3 (x2 : Int) (x14 : Int) (next_0 : Int) (k2 : 0 ≤ x2 ∧ x2 ≤ 2000) (k14 : 0 ≤ x14 ∧ x14 ≤ 2000) (f9 : 1 * x2 + ((-1) * x14 + 0) ≤ 0) (f20 : 1 * x14 + ((-1) * next_0 + 0) ≤ 0) (kz_0_6 : 0 ≤ next_0 ∧ next_0 ≤ 2000) : 1 * x2 + ((-1) * next_0 + 0) ≤ 0 := by
  first
    | omega
  
set_option maxHeartbeats 4000000 in
theorem vc_Re_readEdges_22_4 (edges_0o1 : Int) (link_0o1 : Int → Int) (tail_0o1 : Int → Int) (head_0o1 : Int → Int) (f13 : LKG (edges_0o1) (tail_0o1) (head_0o1) (link_0o1)) (kz_1_1 : 0 ≤ edges_0o1 ∧ edges_0o1 ≤ 48) : LKG (edges_0o1) (tail_0o1) (head_0o1) (link_0o1) := by
  assumption
def o_Re_readEdges_22 : or_T := (172, 27, [(0, (2, 0, 0, [8])), (1, (2, 0, 0, [164])), (2, (0, 0, 2000, [])), (14, (0, 0, 2000, [])), (23, (0, 48, 48, [])), (25, (0, 3, 3, [])), (26, (0, 0, 0, []))], [(9, [23, 7], [1]), (20, [3, 25], [60, 2, 1, 1078, 5, 8, 0]), (20, [2, 14], [30, 0, 1, 0, 0, -1, 0, 0]), (24, [1, 7], []), (20, [7], [60, 1, 3, 1085, 1, 7, 8, 15]), (24, [0, 3], []), (20, [14, 3], [30, 0, 1, 0, 0, -1, 1, 6]), (20, [7], [60, 2, 3, 670, 0, 1, 14, 7, 8]), (20, [7], [60, 2, 2, 596, 0, 1, 7, 8]), (20, [26, 3, 25], [50, 3, 0, 1002, 1003, 1008, 2, 6, 1, 2, 1, 0, 0, 0, 2, 7, 1, 3, 2, 1, 2, 1, 2, 1, 3, 2, 1, 3, 2, 1, 8])], [], [], [(20, [1], [60, 2, 3, 670, 0, 1, 14, 7, 8]), (20, [1], [60, 2, 2, 596, 0, 1, 7, 8]), (20, [0, 1, 26], [60, 8, 6, 1063, 5, 6, 11, 2, 3, 1000, 1001, 1002, 0, 10, 1004, 1003, 1007, 1008]), (20, [2, 0], [30, 0, 1, 0, 0, -1, 1, 6]), (20, [1], [60, 1, 3, 1085, 1, 7, 8, 15])], [], [])
theorem oo_Re_readEdges_22 {kA : Nat → ClassId} : or_ok PRD kA GG o_Re_readEdges_22 := by
  refine or_mk fun A ta ws vs hD hth hl => ?_
  intro t0 r0 t1 r1 t2 k2 t14 k14 t23 k23 t25 k25 t26 k26 f0 f1 f9 f11 f13 f14 f20 f23 f24 f28
  replace f0 := shm_215 f0
  replace f1 := shm_1988 f1
  replace f11 := shm_5 f11
  replace f13 := shm_827 f13
  replace f14 := shm_5 f14
  replace f20 := shm_1527 f20
  replace f23 := shm_825 f23
  replace f24 := shm_386 f24
  replace f28 := shm_451 f28
  have q7 : n_v vs 7 = n_v vs 1 := f11.symm
  have q3 : n_v vs 3 = n_v vs 0 := f14.symm
  simp only [q7, q3] at f0 f1 f13 f20 f23 f24 f28
  have g0 : v_iv (n_v vs 23) = w_fi ws (n_v vs 1) 1 := congrArg v_iv f0
  have kz_0_2 := fdq_97 hD hth r0
  have kz_0_3 := fdq_98 hD hth r0
  have kz_0_5 := fdq_207 hD hth r0
  have kz_0_6 := fdq_208 hD hth r0
  have kz_0_8 := fdq_99 hD hth r0
  have kz_0_11 := fdq_320 hD hth r0
  have kz_1_0 := fdq_73 hD hth r1
  have kz_1_1 := fdq_74 hD hth r1
  have kz_1_2 := fdq_206 hD hth r1
  have nf0 : fc_1 PRD (20, [1], [60, 2, 3, 670, 0, 1, 14, 7, 8]) ws (vs) := ⟨nf_in hl rfl, sgq_825 (vc_Re_readEdges_22_0 (w_fi ws (n_v vs 1) 1) (w_ei ws (w_ar ws (n_v vs 1) 7)) (w_ei ws (w_ar ws (n_v vs 1) 8)) (w_ei ws (w_ar ws (n_v vs 1) 14)) (w_fi ws (n_v vs 1) 0) f23 kz_1_0 kz_1_1)⟩
  have nf1 : fc_1 PRD (20, [1], [60, 2, 2, 596, 0, 1, 7, 8]) ws (vs) := ⟨nf_in hl rfl, sgq_386 (vc_Re_readEdges_22_1 (w_fi ws (n_v vs 1) 1) (w_ei ws (w_ar ws (n_v vs 1) 7)) (w_ei ws (w_ar ws (n_v vs 1) 8)) (w_fi ws (n_v vs 1) 0) f24 kz_1_0 kz_1_1)⟩
  have nf2 : fc_1 PRD (20, [0, 1, 26], [60, 8, 6, 1063, 5, 6, 11, 2, 3, 1000, 1001, 1002, 0, 10, 1004, 1003, 1007, 1008]) ws (vs) := ⟨nf_in hl rfl, sgq_2023 (vc_Re_readEdges_22_2 (v_iv (n_v vs 23)) (v_iv (n_v vs 25)) (v_iv (n_v vs 26)) (w_fi ws (n_v vs 1) 1) (w_ei ws (w_ar ws (n_v vs 0) 0)) (w_fi ws (n_v vs 0) 5) (w_fi ws (n_v vs 0) 8) (w_fi ws (n_v vs 0) 6) (w_ei ws (w_ar ws (n_v vs 0) 10)) (w_fi ws (n_v vs 0) 11) (w_ei ws (w_ar ws (n_v vs 1) 7)) (w_ei ws (w_ar ws (n_v vs 1) 8)) (w_fi ws (n_v vs 1) 0) (w_ei ws (w_ar ws (n_v vs 1) 4)) (w_ei ws (w_ar ws (n_v vs 1) 3)) (w_fi ws (n_v vs 1) 2) (w_fi ws (n_v vs 0) 2) (w_fi ws (n_v vs 0) 3) k23 k25 k26 g0 f1 f28 kz_0_2 kz_0_3 kz_0_5 kz_0_6 kz_0_8 kz_0_11 kz_1_0 kz_1_1 kz_1_2)⟩
  have nf3 : fc_1 PRD (20, [2, 0], [30, 0, 1, 0, 0, -1, 1, 6]) ws (vs) := ⟨nf_in hl rfl, sgq_1527 (vc_Re_readEdges_22_3 (v_iv (n_v vs 2)) (v_iv (n_v vs 14)) (w_fi ws (n_v vs 0) 6) k2 k14 (shm_201 f9) f20 kz_0_6)⟩
  have nf4 : fc_1 PRD (20, [1], [60, 1, 3, 1085, 1, 7, 8, 15]) ws (vs) := ⟨nf_in hl rfl, sgq_827 (vc_Re_readEdges_22_4 (w_fi ws (n_v vs 1) 1) (w_ei ws (w_ar ws (n_v vs 1) 15)) (w_ei ws (w_ar ws (n_v vs 1) 7)) (w_ei ws (w_ar ws (n_v vs 1) 8)) f13 kz_1_1)⟩
  refine ⟨(fun _ h => (by cases h)), [], trivial, ?_, (fun _ h => (by cases h))⟩
  rw [List.append_nil]
  exact List.forall_mem_cons.mpr ⟨⟨show (20 : Nat) < 100 from by decide, nf0⟩, List.forall_mem_cons.mpr ⟨⟨show (20 : Nat) < 100 from by decide, nf1⟩, List.forall_mem_cons.mpr ⟨⟨show (20 : Nat) < 100 from by decide, nf2⟩, List.forall_mem_cons.mpr ⟨⟨show (20 : Nat) < 100 from by decide, nf3⟩, List.forall_mem_cons.mpr ⟨⟨show (20 : Nat) < 100 from by decide, nf4⟩, (fun _ h => (by cases h))⟩⟩⟩⟩⟩
set_option maxHeartbeats 4000000 in
theorem vc_Re_readEdges_23_0 (x4 : Int) (x14 : Int) (x15 : Int) (x18 : Int) (x20 : Int) (x22 : Int) (link_0o1 : Int → Int) (next_0 : Int) (begin_0 : Int) (end_0 : Int) (tape_0 : Int → Int) (open_0 : Int → Int) (depth_0 : Int) (edges_0o1 : Int) (tail_0o1 : Int → Int) (head_0o1 : Int → Int) (kind_0 : Int) (number_0 : Int) (nodes_0o1 : Int) (nameLength_0o1 : Int → Int) (name_0o1 : Int → Int) (groups_0o1 : Int) (k4 : 0 ≤ x4 ∧ x4 ≤ 23) (k14 : 0 ≤ x14 ∧ x14 ≤ 2000) (k15 : 1 ≤ x15 ∧ x15 ≤ 1) (k18 : 0 ≤ x18 ∧ x18 ≤ 23) (k20 : 0 ≤ x20 ∧ x20 ≤ 47) (k22 : 2 ≤ x22 ∧ x22 ≤ 2) (f1 : x20 = link_0o1 (((x4 * 24) + x18))) (f11 : cU4 (end_0) (depth_0) (tape_0) (open_0) (x4) (x14)) (f14 : LKG (edges_0o1) (tail_0o1) (head_0o1) (link_0o1)) (f21 : TKC (end_0) (next_0) (kind_0) (begin_0) (number_0) (tape_0) (x14)) (f24 : CNM (kind_0) (next_0) (begin_0) (tape_0) (x15)) (f29 : CGM (end_0) (next_0) (begin_0) (nodes_0o1) (edges_0o1) (groups_0o1) (tape_0) (nameLength_0o1) (name_0o1) (tail_0o1) (head_0o1) (x18)) (f33 : x15 ≠ 0) (kz_0_5 : 0 ≤ end_0 ∧ end_0 ≤ 2000) (kz_0_6 : 0 ≤ next_0 ∧ next_0 ≤ 2000) (kz_0_7 : (-128) ≤ kind_0 ∧ kind_0 ≤ 127) (kz_0_8 : 0 ≤ begin_0 ∧ begin_0 ≤ 2000) (kz_0_9 : (-176) ≤ number_0 ∧ number_0 ≤ 1000000) (kz_0_11 : 0 ≤ depth_0 ∧ depth_0 ≤ 4) (kz_1_0 : 0 ≤ nodes_0o1 ∧ nodes_0o1 ≤ 24) (kz_1_1 : 0 ≤ edges_0o1 ∧ edges_0o1 ≤ 48) (kz_1_2 : 0 ≤ groups_0o1 ∧ groups_0o1 ≤ 8) : FSY (end_0) (begin_0) (tape_0) (x22) := by
  first
    | exact fsy_of (m4_2 ‹TKC _ _ _ _ _ _ _› ‹cU4 _ _ _ _ _ _› (cnm_t ‹CNM _ _ _ _ _› (by omega)) ‹CGM _ _ _ _ _ _ _ _ _ _ _ _› (by omega) ‹LKG _ _ _ _› (Or.inl (by omega))) (by omega)
    | exact fsy_of (m4_2 ‹TKC _ _ _ _ _ _ _› ‹cU4 _ _ _ _ _ _› (cnm_t ‹CNM _ _ _ _ _› (by omega)) ‹CGM _ _ _ _ _ _ _ _ _ _ _ _› (by omega) ‹LKG _ _ _ _› (Or.inr (by omega))) (by omega)
def o_Re_readEdges_23 : or_T := (145, 23, [(0, (2, 0, 0, [8])), (1, (2, 0, 0, [164])), (4, (0, 0, 23, [])), (14, (0, 0, 2000, [])), (15, (0, 1, 1, [])), (18, (0, 0, 23, [])), (20, (0, 0, 47, [])), (22, (0, 2, 2, []))], [(20, [20, 7, 4, 18], [50, 0, 1, 1015, 1, 2, 1, 0, 3, 1, 15, 4, 6, 6, 2, 1, 2, 0, 24, 1, 3]), (20, [3, 4, 14], [60, 2, 2, 1070, 5, 11, 0, 10]), (24, [1, 7], []), (20, [7], [60, 1, 3, 1085, 1, 7, 8, 15]), (24, [0, 3], []), (20, [3, 14], [60, 5, 1, 1072, 5, 6, 7, 8, 9, 0]), (20, [3, 15], [60, 3, 1, 1079, 7, 6, 8, 0]), (20, [3, 7, 18], [60, 6, 5, 1066, 5, 6, 8, 1000, 1001, 1002, 0, 1004, 1003, 1007, 1008]), (102, [17], [2944411990052395234623243954974308466357606285312, 164000]), (8, [15], [1])], [], [], [(20, [3, 22], [60, 2, 1, 1078, 5, 8, 0])], [], [])
theorem oo_Re_readEdges_23 {kA : Nat → ClassId} : or_ok PRD kA GG o_Re_readEdges_23 := by
  refine or_mk fun A ta ws vs hD hth hl => ?_
  intro t0 r0 t1 r1 t4 k4 t14 k14 t15 k15 t18 k18 t20 k20 t22 k22 f1 f11 f12 f14 f16 f21 f24 f29 ta1 w1 le1 s1 f33
  replace f1 := shm_376 f1
  replace f11 := shm_2142 f11
  replace f12 := shm_5 f12
  replace f14 := shm_827 f14
  replace f16 := shm_5 f16
  replace f21 := shm_1532 f21
  replace f24 := shm_1837 f24
  replace f29 := shm_1406 f29
  replace f33 := shm_142 f33
  have q7 : n_v vs 7 = n_v vs 1 := f12.symm
  have q3 : n_v vs 3 = n_v vs 0 := f16.symm
  simp only [q7, q3] at f1 f11 f14 f21 f24 f29
  have kz_0_5 := fdq_207 hD hth r0
  have kz_0_6 := fdq_208 hD hth r0
  have kz_0_7 := fdq_297 hD hth r0
  have kz_0_8 := fdq_99 hD hth r0
  have kz_0_9 := fdq_296 hD hth r0
  have kz_0_11 := fdq_320 hD hth r0
  have kz_1_0 := fdq_73 hD hth r1
  have kz_1_1 := fdq_74 hD hth r1
  have kz_1_2 := fdq_206 hD hth r1
  have nf0 : fc_1 PRD (20, [3, 22], [60, 2, 1, 1078, 5, 8, 0]) ws (vs) := by
    refine ⟨nf_in hl rfl, sgq_1988 ?_⟩
    · show FSY (w_fi ws (n_v vs 3) 5) (w_fi ws (n_v vs 3) 8) (w_ei ws (w_ar ws (n_v vs 3) 0)) (v_iv (n_v vs 22))
      rw [q3]
      exact vc_Re_readEdges_23_0 (v_iv (n_v vs 4)) (v_iv (n_v vs 14)) (v_iv (n_v vs 15)) (v_iv (n_v vs 18)) (v_iv (n_v vs 20)) (v_iv (n_v vs 22)) (w_ei ws (w_ar ws (n_v vs 1) 15)) (w_fi ws (n_v vs 0) 6) (w_fi ws (n_v vs 0) 8) (w_fi ws (n_v vs 0) 5) (w_ei ws (w_ar ws (n_v vs 0) 0)) (w_ei ws (w_ar ws (n_v vs 0) 10)) (w_fi ws (n_v vs 0) 11) (w_fi ws (n_v vs 1) 1) (w_ei ws (w_ar ws (n_v vs 1) 7)) (w_ei ws (w_ar ws (n_v vs 1) 8)) (w_fi ws (n_v vs 0) 7) (w_fi ws (n_v vs 0) 9) (w_fi ws (n_v vs 1) 0) (w_ei ws (w_ar ws (n_v vs 1) 4)) (w_ei ws (w_ar ws (n_v vs 1) 3)) (w_fi ws (n_v vs 1) 2) k4 k14 k15 k18 k20 k22 f1 f11 f14 f21 f24 f29 f33 kz_0_5 kz_0_6 kz_0_7 kz_0_8 kz_0_9 kz_0_11 kz_1_0 kz_1_1 kz_1_2
  refine ⟨(fun _ h => (by cases h)), [], trivial, ?_, (fun _ h => (by cases h))⟩
  rw [List.append_nil]
  exact List.forall_mem_cons.mpr ⟨⟨show (20 : Nat) < 100 from by decide, nf0⟩, (fun _ h => (by cases h))⟩
set_option maxHeartbeats 4000000 in
theorem vc_Re_readEdges_24_0 (edges_0o1 : Int) (tail_0o1 : Int → Int) (head_0o1 : Int → Int) (near_0o1 : Int → Int) (nodes_0o1 : Int) (f22 : GNB (nodes_0o1) (edges_0o1) (near_0o1) (tail_0o1) (head_0o1)) (kz_1_0 : 0 ≤ nodes_0o1 ∧ nodes_0o1 ≤ 24) (kz_1_1 : 0 ≤ edges_0o1 ∧ edges_0o1 ≤ 48) : GNB (nodes_0o1) (edges_0o1) (near_0o1) (tail_0o1) (head_0o1) := by
  first
    | assumption
  
set_option maxHeartbeats 4000000 in
theorem vc_Re_readEdges_24_1 (edges_0o1 : Int) (tail_0o1 : Int → Int) (head_0o1 : Int → Int) (nodes_0o1 : Int) (f23 : GKE (nodes_0o1) (edges_0o1) (tail_0o1) (head_0o1)) (kz_1_0 : 0 ≤ nodes_0o1 ∧ nodes_0o1 ≤ 24) (kz_1_1 : 0 ≤ edges_0o1 ∧ edges_0o1 ≤ 48) : GKE (nodes_0o1) (edges_0o1) (tail_0o1) (head_0o1) := by
  first
    | assumption
  
set_option maxHeartbeats 4000000 in
theorem vc_Re_readEdges_24_2 (x22 : Int) (x23 : Int) (tape_0 : Int → Int) (end_0 : Int) (begin_0 : Int) (next_0 : Int) (open_0 : Int → Int) (depth_0 : Int) (edges_0o1 : Int) (tail_0o1 : Int → Int) (head_0o1 : Int → Int) (nodes_0o1 : Int) (nameLength_0o1 : Int → Int) (name_0o1 : Int → Int) (groups_0o1 : Int) (fault_0 : Int) (faultPlace_0 : Int) (k22 : 2 ≤ x22 ∧ x22 ≤ 2) (k23 : 0 ≤ x23 ∧ x23 ≤ 0) (f0 : FSY (end_0) (begin_0) (tape_0) (x22)) (f27 : (x23 = 0) ∧ ((fault_0 = x22) ∧ (faultPlace_0 = begin_0))) (kz_0_2 : (-1) ≤ fault_0 ∧ fault_0 ≤ 5) (kz_0_3 : (-1) ≤ faultPlace_0 ∧ faultPlace_0 ≤ 2000) (kz_0_5 : 0 ≤ end_0 ∧ end_0 ≤ 2000) (kz_0_6 : 0 ≤ next_0 ∧ next_0 ≤ 2000) (kz_0_8 : 0 ≤ begin_0 ∧ begin_0 ≤ 2000) (kz_0_11 : 0 ≤ depth_0 ∧ depth_0 ≤ 4) (kz_1_0 : 0 ≤ nodes_0o1 ∧ nodes_0o1 ≤ 24) (kz_1_1 : 0 ≤ edges_0o1 ∧ edges_0o1 ≤ 48) (kz_1_2 : 0 ≤ groups_0o1 ∧ groups_0o1 ≤ 8) : cO0 (end_0) (next_0) (depth_0) (fault_0) (faultPlace_0) (nodes_0o1) (edges_0o1) (groups_0o1) (tape_0) (open_0) (nameLength_0o1) (name_0o1) (tail_0o1) (head_0o1) (x23) := by
  first
    | exact cO0_f ‹FSY _ _ _ _› (by omega) (by omega) (by omega)
    | exact cO_13 ‹cO13 _ _ _ _ _ _ _ _ _ _ _ _ _ _ _› (by omega) (by omega)
    | exact cO0_t (s_go (le_s ‹cLE _ _ _ _ _ _ _ _ _ _ _ _ _ _ _ _› (by omega)) (by omega) rfl) (by omega) (by omega)
    | exact cO0_t (s_go (n13_s ‹TKC _ _ _ _ _ _ _› ‹cG13 _ _ _ _ _ _ _ _ _ _ _ _›) (by omega) rfl) (by omega) (by omega)
set_option maxHeartbeats 4000000 in
theorem vc_Re_readEdges_24_3 (x2 : Int) (x14 : Int) (next_0 : Int) (k2 : 0 ≤ x2 ∧ x2 ≤ 2000) (k14 : 0 ≤ x14 ∧ x14 ≤ 2000) (f8 : 1 * x2 + ((-1) * x14 + 0) ≤ 0) (f19 : 1 * x14 + ((-1) * next_0 + 0) ≤ 0) (kz_0_6 : 0 ≤ next_0 ∧ next_0 ≤ 2000) : 1 * x2 + ((-1) * next_0 + 0) ≤ 0 := by
  first
    | omega
  
set_option maxHeartbeats 4000000 in
theorem vc_Re_readEdges_24_4 (link_0o1 : Int → Int) (edges_0o1 : Int) (tail_0o1 : Int → Int) (head_0o1 : Int → Int) (f12 : LKG (edges_0o1) (tail_0o1) (head_0o1) (link_0o1)) (kz_1_1 : 0 ≤ edges_0o1 ∧ edges_0o1 ≤ 48) : LKG (edges_0o1) (tail_0o1) (head_0o1) (link_0o1) := by
  assumption
def o_Re_readEdges_24 : or_T := (148, 24, [(0, (2, 0, 0, [8])), (1, (2, 0, 0, [164])), (2, (0, 0, 2000, [])), (14, (0, 0, 2000, [])), (22, (0, 2, 2, [])), (23, (0, 0, 0, []))], [(20, [3, 22], [60, 2, 1, 1078, 5, 8, 0]), (20, [2, 14], [30, 0, 1, 0, 0, -1, 0, 0]), (24, [1, 7], []), (20, [7], [60, 1, 3, 1085, 1, 7, 8, 15]), (24, [0, 3], []), (20, [14, 3], [30, 0, 1, 0, 0, -1, 1, 6]), (20, [7], [60, 2, 3, 670, 0, 1, 14, 7, 8]), (20, [7], [60, 2, 2, 596, 0, 1, 7, 8]), (20, [23, 3, 22], [50, 3, 0, 1002, 1003, 1008, 2, 6, 1, 2, 1, 0, 0, 0, 2, 7, 1, 3, 2, 1, 2, 1, 2, 1, 3, 2, 1, 3, 2, 1, 8])], [], [], [(20, [1], [60, 2, 3, 670, 0, 1, 14, 7, 8]), (20, [1], [60, 2, 2, 596, 0, 1, 7, 8]), (20, [0, 1, 23], [60, 8, 6, 1063, 5, 6, 11, 2, 3, 1000, 1001, 1002, 0, 10, 1004, 1003, 1007, 1008]), (20, [2, 0], [30, 0, 1, 0, 0, -1, 1, 6]), (20, [1], [60, 1, 3, 1085, 1, 7, 8, 15])], [], [])
theorem oo_Re_readEdges_24 {kA : Nat → ClassId} : or_ok PRD kA GG o_Re_readEdges_24 := by
  refine or_mk fun A ta ws vs hD hth hl => ?_
  intro t0 r0 t1 r1 t2 k2 t14 k14 t22 k22 t23 k23 f0 f8 f10 f12 f13 f19 f22 f23 f27
  replace f0 := shm_1988 f0
  replace f10 := shm_5 f10
  replace f12 := shm_827 f12
  replace f13 := shm_5 f13
  replace f19 := shm_1527 f19
  replace f22 := shm_825 f22
  replace f23 := shm_386 f23
  replace f27 := shm_451 f27
  have q7 : n_v vs 7 = n_v vs 1 := f10.symm
  have q3 : n_v vs 3 = n_v vs 0 := f13.symm
  simp only [q3, q7] at f0 f12 f19 f22 f23 f27
  have kz_0_2 := fdq_97 hD hth r0
  have kz_0_3 := fdq_98 hD hth r0
  have kz_0_5 := fdq_207 hD hth r0
  have kz_0_6 := fdq_208 hD hth r0
  have kz_0_8 := fdq_99 hD hth r0
  have kz_0_11 := fdq_320 hD hth r0
  have kz_1_0 := fdq_73 hD hth r1
  have kz_1_1 := fdq_74 hD hth r1
  have kz_1_2 := fdq_206 hD hth r1
  have nf0 : fc_1 PRD (20, [1], [60, 2, 3, 670, 0, 1, 14, 7, 8]) ws (vs) := ⟨nf_in hl rfl, sgq_825 (vc_Re_readEdges_24_0 (w_fi ws (n_v vs 1) 1) (w_ei ws (w_ar ws (n_v vs 1) 7)) (w_ei ws (w_ar ws (n_v vs 1) 8)) (w_ei ws (w_ar ws (n_v vs 1) 14)) (w_fi ws (n_v vs 1) 0) f22 kz_1_0 kz_1_1)⟩
  have nf1 : fc_1 PRD (20, [1], [60, 2, 2, 596, 0, 1, 7, 8]) ws (vs) := ⟨nf_in hl rfl, sgq_386 (vc_Re_readEdges_24_1 (w_fi ws (n_v vs 1) 1) (w_ei ws (w_ar ws (n_v vs 1) 7)) (w_ei ws (w_ar ws (n_v vs 1) 8)) (w_fi ws (n_v vs 1) 0) f23 kz_1_0 kz_1_1)⟩
  have nf2 : fc_1 PRD (20, [0, 1, 23], [60, 8, 6, 1063, 5, 6, 11, 2, 3, 1000, 1001, 1002, 0, 10, 1004, 1003, 1007, 1008]) ws (vs) := ⟨nf_in hl rfl, sgq_2023 (vc_Re_readEdges_24_2 (v_iv (n_v vs 22)) (v_iv (n_v vs 23)) (w_ei ws (w_ar ws (n_v vs 0) 0)) (w_fi ws (n_v vs 0) 5) (w_fi ws (n_v vs 0) 8) (w_fi ws (n_v vs 0) 6) (w_ei ws (w_ar ws (n_v vs 0) 10)) (w_fi ws (n_v vs 0) 11) (w_fi ws (n_v vs 1) 1) (w_ei ws (w_ar ws (n_v vs 1) 7)) (w_ei ws (w_ar ws (n_v vs 1) 8)) (w_fi ws (n_v vs 1) 0) (w_ei ws (w_ar ws (n_v vs 1) 4)) (w_ei ws (w_ar ws (n_v vs 1) 3)) (w_fi ws (n_v vs 1) 2) (w_fi ws (n_v vs 0) 2) (w_fi ws (n_v vs 0) 3) k22 k23 f0 f27 kz_0_2 kz_0_3 kz_0_5 kz_0_6 kz_0_8 kz_0_11 kz_1_0 kz_1_1 kz_1_2)⟩
  have nf3 : fc_1 PRD (20, [2, 0], [30, 0, 1, 0, 0, -1, 1, 6]) ws (vs) := ⟨nf_in hl rfl, sgq_1527 (vc_Re_readEdges_24_3 (v_iv (n_v vs 2)) (v_iv (n_v vs 14)) (w_fi ws (n_v vs 0) 6) k2 k14 (shm_201 f8) f19 kz_0_6)⟩
  have nf4 : fc_1 PRD (20, [1], [60, 1, 3, 1085, 1, 7, 8, 15]) ws (vs) := ⟨nf_in hl rfl, sgq_827 (vc_Re_readEdges_24_4 (w_ei ws (w_ar ws (n_v vs 1) 15)) (w_fi ws (n_v vs 1) 1) (w_ei ws (w_ar ws (n_v vs 1) 7)) (w_ei ws (w_ar ws (n_v vs 1) 8)) f12 kz_1_1)⟩
  refine ⟨(fun _ h => (by cases h)), [], trivial, ?_, (fun _ h => (by cases h))⟩
  rw [List.append_nil]
  exact List.forall_mem_cons.mpr ⟨⟨show (20 : Nat) < 100 from by decide, nf0⟩, List.forall_mem_cons.mpr ⟨⟨show (20 : Nat) < 100 from by decide, nf1⟩, List.forall_mem_cons.mpr ⟨⟨show (20 : Nat) < 100 from by decide, nf2⟩, List.forall_mem_cons.mpr ⟨⟨show (20 : Nat) < 100 from by decide, nf3⟩, List.forall_mem_cons.mpr ⟨⟨show (20 : Nat) < 100 from by decide, nf4⟩, (fun _ h => (by cases h))⟩⟩⟩⟩⟩
set_option maxHeartbeats 4000000 in
theorem vc_Re_readEdges_25_0 (x4 : Int) (x14 : Int) (x15 : Int) (x18 : Int) (x21 : Int) (next_0 : Int) (begin_0 : Int) (end_0 : Int) (tape_0 : Int → Int) (open_0 : Int → Int) (depth_0 : Int) (edges_0o1 : Int) (tail_0o1 : Int → Int) (head_0o1 : Int → Int) (link_0o1 : Int → Int) (kind_0 : Int) (number_0 : Int) (nodes_0o1 : Int) (nameLength_0o1 : Int → Int) (name_0o1 : Int → Int) (groups_0o1 : Int) (k4 : 0 ≤ x4 ∧ x4 ≤ 23) (k14 : 0 ≤ x14 ∧ x14 ≤ 2000) (k15 : 1 ≤ x15 ∧ x15 ≤ 1) (k18 : (-1) ≤ x18 ∧ x18 ≤ (-1)) (k21 : 3 ≤ x21 ∧ x21 ≤ 3) (f9 : cU4 (end_0) (depth_0) (tape_0) (open_0) (x4) (x14)) (f19 : TKC (end_0) (next_0) (kind_0) (begin_0) (number_0) (tape_0) (x14)) (f22 : CNM (kind_0) (next_0) (begin_0) (tape_0) (x15)) (f27 : CGM (end_0) (next_0) (begin_0) (nodes_0o1) (edges_0o1) (groups_0o1) (tape_0) (nameLength_0o1) (name_0o1) (tail_0o1) (head_0o1) (x18)) (f31 : x15 ≠ 0) (kz_0_5 : 0 ≤ end_0 ∧ end_0 ≤ 2000) (kz_0_6 : 0 ≤ next_0 ∧ next_0 ≤ 2000) (kz_0_7 : (-128) ≤ kind_0 ∧ kind_0 ≤ 127) (kz_0_8 : 0 ≤ begin_0 ∧ begin_0 ≤ 2000) (kz_0_9 : (-176) ≤ number_0 ∧ number_0 ≤ 1000000) (kz_0_11 : 0 ≤ depth_0 ∧ depth_0 ≤ 4) (kz_1_0 : 0 ≤ nodes_0o1 ∧ nodes_0o1 ≤ 24) (kz_1_1 : 0 ≤ edges_0o1 ∧ edges_0o1 ≤ 48) (kz_1_2 : 0 ≤ groups_0o1 ∧ groups_0o1 ≤ 8) : FSY (end_0) (begin_0) (tape_0) (x21) := by
  first
    | exact fsy_of (m4_3 (lk := link_0o1) ‹TKC _ _ _ _ _ _ _› ‹cU4 _ _ _ _ _ _› (cnm_t ‹CNM _ _ _ _ _› (by omega)) ‹CGM _ _ _ _ _ _ _ _ _ _ _ _› (Or.inl (by omega))) (by omega)
    | exact fsy_of (m4_3 ‹TKC _ _ _ _ _ _ _› ‹cU4 _ _ _ _ _ _› (cnm_t ‹CNM _ _ _ _ _› (by omega)) ‹CGM _ _ _ _ _ _ _ _ _ _ _ _› (Or.inr ⟨‹LKG _ _ _ _›, by omega, by omega, by omega⟩)) (by omega)
def o_Re_readEdges_25 : or_T := (169, 22, [(0, (2, 0, 0, [8])), (1, (2, 0, 0, [164])), (4, (0, 0, 23, [])), (14, (0, 0, 2000, [])), (15, (0, 1, 1, [])), (18, (0, -1, -1, [])), (21, (0, 3, 3, []))], [(20, [3, 4, 14], [60, 2, 2, 1070, 5, 11, 0, 10]), (24, [1, 7], []), (24, [0, 3], []), (20, [3, 14], [60, 5, 1, 1072, 5, 6, 7, 8, 9, 0]), (20, [3, 15], [60, 3, 1, 1079, 7, 6, 8, 0]), (20, [3, 7, 18], [60, 6, 5, 1066, 5, 6, 8, 1000, 1001, 1002, 0, 1004, 1003, 1007, 1008]), (102, [17], [2944411990052395234623243954974308466357606285312, 164000]), (8, [15], [1])], [], [], [(20, [3, 21], [60, 2, 1, 1078, 5, 8, 0])], [], [])
theorem oo_Re_readEdges_25 {kA : Nat → ClassId} : or_ok PRD kA GG o_Re_readEdges_25 := by
  refine or_mk fun A ta ws vs hD hth hl => ?_
  intro t0 r0 t1 r1 t4 k4 t14 k14 t15 k15 t18 k18 t21 k21 f9 f10 f14 f19 f22 f27 ta1 w1 le1 s1 f31
  replace f9 := shm_2142 f9
  replace f10 := shm_5 f10
  replace f14 := shm_5 f14
  replace f19 := shm_1532 f19
  replace f22 := shm_1837 f22
  replace f27 := shm_1406 f27
  replace f31 := shm_142 f31
  have q7 : n_v vs 7 = n_v vs 1 := f10.symm
  have q3 : n_v vs 3 = n_v vs 0 := f14.symm
  simp only [q3, q7] at f9 f19 f22 f27
  have kz_0_5 := fdq_207 hD hth r0
  have kz_0_6 := fdq_208 hD hth r0
  have kz_0_7 := fdq_297 hD hth r0
  have kz_0_8 := fdq_99 hD hth r0
  have kz_0_9 := fdq_296 hD hth r0
  have kz_0_11 := fdq_320 hD hth r0
  have kz_1_0 := fdq_73 hD hth r1
  have kz_1_1 := fdq_74 hD hth r1
  have kz_1_2 := fdq_206 hD hth r1
  have nf0 : fc_1 PRD (20, [3, 21], [60, 2, 1, 1078, 5, 8, 0]) ws (vs) := by
    refine ⟨nf_in hl rfl, sgq_1988 ?_⟩
    · show FSY (w_fi ws (n_v vs 3) 5) (w_fi ws (n_v vs 3) 8) (w_ei ws (w_ar ws (n_v vs 3) 0)) (v_iv (n_v vs 21))
      rw [q3]
      exact vc_Re_readEdges_25_0 (v_iv (n_v vs 4)) (v_iv (n_v vs 14)) (v_iv (n_v vs 15)) (v_iv (n_v vs 18)) (v_iv (n_v vs 21)) (w_fi ws (n_v vs 0) 6) (w_fi ws (n_v vs 0) 8) (w_fi ws (n_v vs 0) 5) (w_ei ws (w_ar ws (n_v vs 0) 0)) (w_ei ws (w_ar ws (n_v vs 0) 10)) (w_fi ws (n_v vs 0) 11) (w_fi ws (n_v vs 1) 1) (w_ei ws (w_ar ws (n_v vs 1) 7)) (w_ei ws (w_ar ws (n_v vs 1) 8)) (w_ei ws (w_ar ws (n_v vs 1) 15)) (w_fi ws (n_v vs 0) 7) (w_fi ws (n_v vs 0) 9) (w_fi ws (n_v vs 1) 0) (w_ei ws (w_ar ws (n_v vs 1) 4)) (w_ei ws (w_ar ws (n_v vs 1) 3)) (w_fi ws (n_v vs 1) 2) k4 k14 k15 k18 k21 f9 f19 f22 f27 f31 kz_0_5 kz_0_6 kz_0_7 kz_0_8 kz_0_9 kz_0_11 kz_1_0 kz_1_1 kz_1_2
  refine ⟨(fun _ h => (by cases h)), [], trivial, ?_, (fun _ h => (by cases h))⟩
  rw [List.append_nil]
  exact List.forall_mem_cons.mpr ⟨⟨show (20 : Nat) < 100 from by decide, nf0⟩, (fun _ h => (by cases h))⟩
set_option maxHeartbeats 4000000 in
theorem vc_Re_readEdges_26_0 (edges_0o1 : Int) (tail_0o1 : Int → Int) (head_0o1 : Int → Int) (near_0o1 : Int → Int) (nodes_0o1 : Int) (f21 : GNB (nodes_0o1) (edges_0o1) (near_0o1) (tail_0o1) (head_0o1)) (kz_1_0 : 0 ≤ nodes_0o1 ∧ nodes_0o1 ≤ 24) (kz_1_1 : 0 ≤ edges_0o1 ∧ edges_0o1 ≤ 48) : GNB (nodes_0o1) (edges_0o1) (near_0o1) (tail_0o1) (head_0o1) := by
  first
    | assumption
  
set_option maxHeartbeats 4000000 in
theorem vc_Re_readEdges_26_1 (edges_0o1 : Int) (tail_0o1 : Int → Int) (head_0o1 : Int → Int) (nodes_0o1 : Int) (f22 : GKE (nodes_0o1) (edges_0o1) (tail_0o1) (head_0o1)) (kz_1_0 : 0 ≤ nodes_0o1 ∧ nodes_0o1 ≤ 24) (kz_1_1 : 0 ≤ edges_0o1 ∧ edges_0o1 ≤ 48) : GKE (nodes_0o1) (edges_0o1) (tail_0o1) (head_0o1) := by
  first
    | assumption
  
set_option maxHeartbeats 4000000 in
theorem vc_Re_readEdges_26_2 (x21 : Int) (x22 : Int) (tape_0 : Int → Int) (end_0 : Int) (begin_0 : Int) (next_0 : Int) (open_0 : Int → Int) (depth_0 : Int) (edges_0o1 : Int) (tail_0o1 : Int → Int) (head_0o1 : Int → Int) (nodes_0o1 : Int) (nameLength_0o1 : Int → Int) (name_0o1 : Int → Int) (groups_0o1 : Int) (fault_0 : Int) (faultPlace_0 : Int) (k21 : 3 ≤ x21 ∧ x21 ≤ 3) (k22 : 0 ≤ x22 ∧ x22 ≤ 0) (f0 : FSY (end_0) (begin_0) (tape_0) (x21)) (f26 : (x22 = 0) ∧ ((fault_0 = x21) ∧ (faultPlace_0 = begin_0))) (kz_0_2 : (-1) ≤ fault_0 ∧ fault_0 ≤ 5) (kz_0_3 : (-1) ≤ faultPlace_0 ∧ faultPlace_0 ≤ 2000) (kz_0_5 : 0 ≤ end_0 ∧ end_0 ≤ 2000) (kz_0_6 : 0 ≤ next_0 ∧ next_0 ≤ 2000) (kz_0_8 : 0 ≤ begin_0 ∧ begin_0 ≤ 2000) (kz_0_11 : 0 ≤ depth_0 ∧ depth_0 ≤ 4) (kz_1_0 : 0 ≤ nodes_0o1 ∧ nodes_0o1 ≤ 24) (kz_1_1 : 0 ≤ edges_0o1 ∧ edges_0o1 ≤ 48) (kz_1_2 : 0 ≤ groups_0o1 ∧ groups_0o1 ≤ 8) : cO0 (end_0) (next_0) (depth_0) (fault_0) (faultPlace_0) (nodes_0o1) (edges_0o1) (groups_0o1) (tape_0) (open_0) (nameLength_0o1) (name_0o1) (tail_0o1) (head_0o1) (x22) := by
  first
    | exact cO0_f ‹FSY _ _ _ _› (by omega) (by omega) (by omega)
    | exact cO_13 ‹cO13 _ _ _ _ _ _ _ _ _ _ _ _ _ _ _› (by omega) (by omega)
    | exact cO0_t (s_go (le_s ‹cLE _ _ _ _ _ _ _ _ _ _ _ _ _ _ _ _› (by omega)) (by omega) rfl) (by omega) (by omega)
    | exact cO0_t (s_go (n13_s ‹TKC _ _ _ _ _ _ _› ‹cG13 _ _ _ _ _ _ _ _ _ _ _ _›) (by omega) rfl) (by omega) (by omega)
set_option maxHeartbeats 4000000 in
theorem vc_Re_readEdges_26_3 (x2 : Int) (x14 : Int) (next_0 : Int) (k2 : 0 ≤ x2 ∧ x2 ≤ 2000) (k14 : 0 ≤ x14 ∧ x14 ≤ 2000) (f7 : 1 * x2 + ((-1) * x14 + 0) ≤ 0) (f18 : 1 * x14 + ((-1) * next_0 + 0) ≤ 0) (kz_0_6 : 0 ≤ next_0 ∧ next_0 ≤ 2000) : 1 * x2 + ((-1) * next_0 + 0) ≤ 0 := by
  first
    | omega
  
set_option maxHeartbeats 4000000 in
theorem vc_Re_readEdges_26_4 (edges_0o1 : Int) (tail_0o1 : Int → Int) (head_0o1 : Int → Int) (link_0o1 : Int → Int) (f11 : LKG (edges_0o1) (tail_0o1) (head_0o1) (link_0o1)) (kz_1_1 : 0 ≤ edges_0o1 ∧ edges_0o1 ≤ 48) : LKG (edges_0o1) (tail_0o1) (head_0o1) (link_0o1) := by
  assumption
def o_Re_readEdges_26 : or_T := (172, 23, [(0, (2, 0, 0, [8])), (1, (2, 0, 0, [164])), (2, (0, 0, 2000, [])), (14, (0, 0, 2000, [])), (21, (0, 3, 3, [])), (22, (0, 0, 0, []))], [(20, [3, 21], [60, 2, 1, 1078, 5, 8, 0]), (20, [2, 14], [30, 0, 1, 0, 0, -1, 0, 0]), (24, [1, 7], []), (20, [7], [60, 1, 3, 1085, 1, 7, 8, 15]), (24, [0, 3], []), (20, [14, 3], [30, 0, 1, 0, 0, -1, 1, 6]), (20, [7], [60, 2, 3, 670, 0, 1, 14, 7, 8]), (20, [7], [60, 2, 2, 596, 0, 1, 7, 8]), (20, [22, 3, 21], [50, 3, 0, 1002, 1003, 1008, 2, 6, 1, 2, 1, 0, 0, 0, 2, 7, 1, 3, 2, 1, 2, 1, 2, 1, 3, 2, 1, 3, 2, 1, 8])], [], [], [(20, [1], [60, 2, 3, 670, 0, 1, 14, 7, 8]), (20, [1], [60, 2, 2, 596, 0, 1, 7, 8]), (20, [0, 1, 22], [60, 8, 6, 1063, 5, 6, 11, 2, 3, 1000, 1001, 1002, 0, 10, 1004, 1003, 1007, 1008]), (20, [2, 0], [30, 0, 1, 0, 0, -1, 1, 6]), (20, [1], [60, 1, 3, 1085, 1, 7, 8, 15])], [], [])
theorem oo_Re_readEdges_26 {kA : Nat → ClassId} : or_ok PRD kA GG o_Re_readEdges_26 := by
  refine or_mk fun A ta ws vs hD hth hl => ?_
  intro t0 r0 t1 r1 t2 k2 t14 k14 t21 k21 t22 k22 f0 f7 f9 f11 f12 f18 f21 f22 f26
  replace f0 := shm_1988 f0
  replace f9 := shm_5 f9
  replace f11 := shm_827 f11
  replace f12 := shm_5 f12
  replace f18 := shm_1527 f18
  replace f21 := shm_825 f21
  replace f22 := shm_386 f22
  replace f26 := shm_451 f26
  have q7 : n_v vs 7 = n_v vs 1 := f9.symm
  have q3 : n_v vs 3 = n_v vs 0 := f12.symm
  simp only [q3, q7] at f0 f11 f18 f21 f22 f26
  have kz_0_2 := fdq_97 hD hth r0
  have kz_0_3 := fdq_98 hD hth r0
  have kz_0_5 := fdq_207 hD hth r0
  have kz_0_6 := fdq_208 hD hth r0
  have kz_0_8 := fdq_99 hD hth r0
  have kz_0_11 := fdq_320 hD hth r0
  have kz_1_0 := fdq_73 hD hth r1
  have kz_1_1 := fdq_74 hD hth r1
  have kz_1_2 := fdq_206 hD hth r1
  have nf0 : fc_1 PRD (20, [1], [60, 2, 3, 670, 0, 1, 14, 7, 8]) ws (vs) := ⟨nf_in hl rfl, sgq_825 (vc_Re_readEdges_26_0 (w_fi ws (n_v vs 1) 1) (w_ei ws (w_ar ws (n_v vs 1) 7)) (w_ei ws (w_ar ws (n_v vs 1) 8)) (w_ei ws (w_ar ws (n_v vs 1) 14)) (w_fi ws (n_v vs 1) 0) f21 kz_1_0 kz_1_1)⟩
  have nf1 : fc_1 PRD (20, [1], [60, 2, 2, 596, 0, 1, 7, 8]) ws (vs) := ⟨nf_in hl rfl, sgq_386 (vc_Re_readEdges_26_1 (w_fi ws (n_v vs 1) 1) (w_ei ws (w_ar ws (n_v vs 1) 7)) (w_ei ws (w_ar ws (n_v vs 1) 8)) (w_fi ws (n_v vs 1) 0) f22 kz_1_0 kz_1_1)⟩
  have nf2 : fc_1 PRD (20, [0, 1, 22], [60, 8, 6, 1063, 5, 6, 11, 2, 3, 1000, 1001, 1002, 0, 10, 1004, 1003, 1007, 1008]) ws (vs) := ⟨nf_in hl rfl, sgq_2023 (vc_Re_readEdges_26_2 (v_iv (n_v vs 21)) (v_iv (n_v vs 22)) (w_ei ws (w_ar ws (n_v vs 0) 0)) (w_fi ws (n_v vs 0) 5) (w_fi ws (n_v vs 0) 8) (w_fi ws (n_v vs 0) 6) (w_ei ws (w_ar ws (n_v vs 0) 10)) (w_fi ws (n_v vs 0) 11) (w_fi ws (n_v vs 1) 1) (w_ei ws (w_ar ws (n_v vs 1) 7)) (w_ei ws (w_ar ws (n_v vs 1) 8)) (w_fi ws (n_v vs 1) 0) (w_ei ws (w_ar ws (n_v vs 1) 4)) (w_ei ws (w_ar ws (n_v vs 1) 3)) (w_fi ws (n_v vs 1) 2) (w_fi ws (n_v vs 0) 2) (w_fi ws (n_v vs 0) 3) k21 k22 f0 f26 kz_0_2 kz_0_3 kz_0_5 kz_0_6 kz_0_8 kz_0_11 kz_1_0 kz_1_1 kz_1_2)⟩
  have nf3 : fc_1 PRD (20, [2, 0], [30, 0, 1, 0, 0, -1, 1, 6]) ws (vs) := ⟨nf_in hl rfl, sgq_1527 (vc_Re_readEdges_26_3 (v_iv (n_v vs 2)) (v_iv (n_v vs 14)) (w_fi ws (n_v vs 0) 6) k2 k14 (shm_201 f7) f18 kz_0_6)⟩
  have nf4 : fc_1 PRD (20, [1], [60, 1, 3, 1085, 1, 7, 8, 15]) ws (vs) := ⟨nf_in hl rfl, sgq_827 (vc_Re_readEdges_26_4 (w_fi ws (n_v vs 1) 1) (w_ei ws (w_ar ws (n_v vs 1) 7)) (w_ei ws (w_ar ws (n_v vs 1) 8)) (w_ei ws (w_ar ws (n_v vs 1) 15)) f11 kz_1_1)⟩
  refine ⟨(fun _ h => (by cases h)), [], trivial, ?_, (fun _ h => (by cases h))⟩
  rw [List.append_nil]
  exact List.forall_mem_cons.mpr ⟨⟨show (20 : Nat) < 100 from by decide, nf0⟩, List.forall_mem_cons.mpr ⟨⟨show (20 : Nat) < 100 from by decide, nf1⟩, List.forall_mem_cons.mpr ⟨⟨show (20 : Nat) < 100 from by decide, nf2⟩, List.forall_mem_cons.mpr ⟨⟨show (20 : Nat) < 100 from by decide, nf3⟩, List.forall_mem_cons.mpr ⟨⟨show (20 : Nat) < 100 from by decide, nf4⟩, (fun _ h => (by cases h))⟩⟩⟩⟩⟩
set_option maxHeartbeats 4000000 in
theorem vc_Re_readEdges_27_0 (x4 : Int) (x14 : Int) (x15 : Int) (x16 : Int) (tape_0 : Int → Int) (open_0 : Int → Int) (nameLength_0o1 : Int → Int) (name_0o1 : Int → Int) (tail_0o1 : Int → Int) (head_0o1 : Int → Int) (end_0 : Int) (depth_0 : Int) (nodes_0o1 : Int) (edges_0o1 : Int) (groups_0o1 : Int) (kind_0 : Int) (number_0 : Int) (next_0 : Int) (begin_0 : Int) (k4 : 0 ≤ x4 ∧ x4 ≤ 23) (k14 : 0 ≤ x14 ∧ x14 ≤ 2000) (k15 : 0 ≤ x15 ∧ x15 ≤ 0) (k16 : 1 ≤ x16 ∧ x16 ≤ 1) (f0 : x15 = 0) (f1 : cG4 (end_0) (depth_0) (nodes_0o1) (edges_0o1) (groups_0o1) (tape_0) (open_0) (nameLength_0o1) (name_0o1) (tail_0o1) (head_0o1) (x4) (x14)) (f16 : TKC (end_0) (next_0) (kind_0) (begin_0) (number_0) (tape_0) (x14)) (f19 : CNM (kind_0) (next_0) (begin_0) (tape_0) (x15)) (kz_0_5 : 0 ≤ end_0 ∧ end_0 ≤ 2000) (kz_0_6 : 0 ≤ next_0 ∧ next_0 ≤ 2000) (kz_0_7 : (-128) ≤ kind_0 ∧ kind_0 ≤ 127) (kz_0_8 : 0 ≤ begin_0 ∧ begin_0 ≤ 2000) (kz_0_9 : (-176) ≤ number_0 ∧ number_0 ≤ 1000000) (kz_0_11 : 0 ≤ depth_0 ∧ depth_0 ≤ 4) (kz_1_0 : 0 ≤ nodes_0o1 ∧ nodes_0o1 ≤ 24) (kz_1_1 : 0 ≤ edges_0o1 ∧ edges_0o1 ≤ 48) (kz_1_2 : 0 ≤ groups_0o1 ∧ groups_0o1 ≤ 8) : FSY (end_0) (begin_0) (tape_0) (x16) := by
  exact fsy_of (n4_f ‹TKC _ _ _ _ _ _ _› ‹cG4 _ _ _ _ _ _ _ _ _ _ _ _ _› (cnm_f ‹CNM _ _ _ _ _› (by omega))) (by omega)
def o_Re_readEdges_27 : or_T := (107, 17, [(0, (2, 0, 0, [8])), (1, (2, 0, 0, [164])), (4, (0, 0, 23, [])), (14, (0, 0, 2000, [])), (15, (0, 0, 0, [])), (16, (0, 1, 1, []))], [(8, [15], [0]), (20, [3, 7, 4, 14], [60, 5, 6, 1043, 5, 11, 1000, 1001, 1002, 0, 10, 1004, 1003, 1007, 1008]), (24, [1, 7], []), (24, [0, 3], []), (20, [3, 14], [60, 5, 1, 1072, 5, 6, 7, 8, 9, 0]), (20, [3, 15], [60, 3, 1, 1079, 7, 6, 8, 0])], [], [], [(20, [3, 16], [60, 2, 1, 1078, 5, 8, 0])], [], [])
theorem oo_Re_readEdges_27 {kA : Nat → ClassId} : or_ok PRD kA GG o_Re_readEdges_27 := by
  refine or_mk fun A ta ws vs hD hth hl => ?_
  intro t0 r0 t1 r1 t4 k4 t14 k14 t15 k15 t16 k16 f0 f1 f6 f11 f16 f19
  replace f0 := shm_192 f0
  replace f1 := shm_2141 f1
  replace f6 := shm_5 f6
  replace f11 := shm_5 f11
  replace f16 := shm_1532 f16
  replace f19 := shm_1837 f19
  have q7 : n_v vs 7 = n_v vs 1 := f6.symm
  have q3 : n_v vs 3 = n_v vs 0 := f11.symm
  simp only [q7, q3] at f1 f16 f19
  have kz_0_5 := fdq_207 hD hth r0
  have kz_0_6 := fdq_208 hD hth r0
  have kz_0_7 := fdq_297 hD hth r0
  have kz_0_8 := fdq_99 hD hth r0
  have kz_0_9 := fdq_296 hD hth r0
  have kz_0_11 := fdq_320 hD hth r0
  have kz_1_0 := fdq_73 hD hth r1
  have kz_1_1 := fdq_74 hD hth r1
  have kz_1_2 := fdq_206 hD hth r1
  have nf0 : fc_1 PRD (20, [3, 16], [60, 2, 1, 1078, 5, 8, 0]) ws (vs) := by
    refine ⟨nf_in hl rfl, sgq_1988 ?_⟩
    · show FSY (w_fi ws (n_v vs 3) 5) (w_fi ws (n_v vs 3) 8) (w_ei ws (w_ar ws (n_v vs 3) 0)) (v_iv (n_v vs 16))
      rw [q3]
      exact vc_Re_readEdges_27_0 (v_iv (n_v vs 4)) (v_iv (n_v vs 14)) (v_iv (n_v vs 15)) (v_iv (n_v vs 16)) (w_ei ws (w_ar ws (n_v vs 0) 0)) (w_ei ws (w_ar ws (n_v vs 0) 10)) (w_ei ws (w_ar ws (n_v vs 1) 4)) (w_ei ws (w_ar ws (n_v vs 1) 3)) (w_ei ws (w_ar ws (n_v vs 1) 7)) (w_ei ws (w_ar ws (n_v vs 1) 8)) (w_fi ws (n_v vs 0) 5) (w_fi ws (n_v vs 0) 11) (w_fi ws (n_v vs 1) 0) (w_fi ws (n_v vs 1) 1) (w_fi ws (n_v vs 1) 2) (w_fi ws (n_v vs 0) 7) (w_fi ws (n_v vs 0) 9) (w_fi ws (n_v vs 0) 6) (w_fi ws (n_v vs 0) 8) k4 k14 k15 k16 f0 f1 f16 f19 kz_0_5 kz_0_6 kz_0_7 kz_0_8 kz_0_9 kz_0_11 kz_1_0 kz_1_1 kz_1_2
  refine ⟨(fun _ h => (by cases h)), [], trivial, ?_, (fun _ h => (by cases h))⟩
  rw [List.append_nil]
  exact List.forall_mem_cons.mpr ⟨⟨show (20 : Nat) < 100 from by decide, nf0⟩, (fun _ h => (by cases h))⟩
set_option maxHeartbeats 4000000 in
theorem vc_Re_readEdges_28_0 (tail_0o1 : Int → Int) (head_0o1 : Int → Int) (nodes_0o1 : Int) (edges_0o1 : Int) (near_0o1 : Int → Int) (f4 : GNB (nodes_0o1) (edges_0o1) (near_0o1) (tail_0o1) (head_0o1)) (kz_1_0 : 0 ≤ nodes_0o1 ∧ nodes_0o1 ≤ 24) (kz_1_1 : 0 ≤ edges_0o1 ∧ edges_0o1 ≤ 48) : GNB (nodes_0o1) (edges_0o1) (near_0o1) (tail_0o1) (head_0o1) := by
  first
    | assumption
  
set_option maxHeartbeats 4000000 in
theorem vc_Re_readEdges_28_1 (tail_0o1 : Int → Int) (head_0o1 : Int → Int) (nodes_0o1 : Int) (edges_0o1 : Int) (f5 : GKE (nodes_0o1) (edges_0o1) (tail_0o1) (head_0o1)) (kz_1_0 : 0 ≤ nodes_0o1 ∧ nodes_0o1 ≤ 24) (kz_1_1 : 0 ≤ edges_0o1 ∧ edges_0o1 ≤ 48) : GKE (nodes_0o1) (edges_0o1) (tail_0o1) (head_0o1) := by
  first
    | assumption
  
set_option maxHeartbeats 4000000 in
theorem vc_Re_readEdges_28_2 (x16 : Int) (x17 : Int) (tape_0 : Int → Int) (end_0 : Int) (begin_0 : Int) (open_0 : Int → Int) (nameLength_0o1 : Int → Int) (name_0o1 : Int → Int) (tail_0o1 : Int → Int) (head_0o1 : Int → Int) (depth_0 : Int) (nodes_0o1 : Int) (edges_0o1 : Int) (groups_0o1 : Int) (next_0 : Int) (fault_0 : Int) (faultPlace_0 : Int) (k16 : 1 ≤ x16 ∧ x16 ≤ 1) (k17 : 0 ≤ x17 ∧ x17 ≤ 0) (f0 : FSY (end_0) (begin_0) (tape_0) (x16)) (f19 : (x17 = 0) ∧ ((fault_0 = x16) ∧ (faultPlace_0 = begin_0))) (kz_0_2 : (-1) ≤ fault_0 ∧ fault_0 ≤ 5) (kz_0_3 : (-1) ≤ faultPlace_0 ∧ faultPlace_0 ≤ 2000) (kz_0_5 : 0 ≤ end_0 ∧ end_0 ≤ 2000) (kz_0_6 : 0 ≤ next_0 ∧ next_0 ≤ 2000) (kz_0_8 : 0 ≤ begin_0 ∧ begin_0 ≤ 2000) (kz_0_11 : 0 ≤ depth_0 ∧ depth_0 ≤ 4) (kz_1_0 : 0 ≤ nodes_0o1 ∧ nodes_0o1 ≤ 24) (kz_1_1 : 0 ≤ edges_0o1 ∧ edges_0o1 ≤ 48) (kz_1_2 : 0 ≤ groups_0o1 ∧ groups_0o1 ≤ 8) : cO0 (end_0) (next_0) (depth_0) (fault_0) (faultPlace_0) (nodes_0o1) (edges_0o1) (groups_0o1) (tape_0) (open_0) (nameLength_0o1) (name_0o1) (tail_0o1) (head_0o1) (x17) := by
  first
    | exact cO0_f ‹FSY _ _ _ _› (by omega) (by omega) (by omega)
    | exact cO_13 ‹cO13 _ _ _ _ _ _ _ _ _ _ _ _ _ _ _› (by omega) (by omega)
    | exact cO0_t (s_go (le_s ‹cLE _ _ _ _ _ _ _ _ _ _ _ _ _ _ _ _› (by omega)) (by omega) rfl) (by omega) (by omega)
    | exact cO0_t (s_go (n13_s ‹TKC _ _ _ _ _ _ _› ‹cG13 _ _ _ _ _ _ _ _ _ _ _ _›) (by omega) rfl) (by omega) (by omega)
set_option maxHeartbeats 4000000 in
theorem vc_Re_readEdges_28_3 (x2 : Int) (x14 : Int) (next_0 : Int) (k2 : 0 ≤ x2 ∧ x2 ≤ 2000) (k14 : 0 ≤ x14 ∧ x14 ≤ 2000) (f2 : 1 * x2 + ((-1) * x14 + 0) ≤ 0) (f16 : 1 * x14 + ((-1) * next_0 + 0) ≤ 0) (kz_0_6 : 0 ≤ next_0 ∧ next_0 ≤ 2000) : 1 * x2 + ((-1) * next_0 + 0) ≤ 0 := by
  first
    | omega
  
set_option maxHeartbeats 4000000 in
theorem vc_Re_readEdges_28_4 (tail_0o1 : Int → Int) (head_0o1 : Int → Int) (edges_0o1 : Int) (link_0o1 : Int → Int) (f9 : LKG (edges_0o1) (tail_0o1) (head_0o1) (link_0o1)) (kz_1_1 : 0 ≤ edges_0o1 ∧ edges_0o1 ≤ 48) : LKG (edges_0o1) (tail_0o1) (head_0o1) (link_0o1) := by
  assumption
def o_Re_readEdges_28 : or_T := (110, 18, [(0, (2, 0, 0, [8])), (1, (2, 0, 0, [164])), (2, (0, 0, 2000, [])), (14, (0, 0, 2000, [])), (16, (0, 1, 1, [])), (17, (0, 0, 0, []))], [(20, [3, 16], [60, 2, 1, 1078, 5, 8, 0]), (20, [2, 14], [30, 0, 1, 0, 0, -1, 0, 0]), (20, [7], [60, 2, 3, 670, 0, 1, 14, 7, 8]), (20, [7], [60, 2, 2, 596, 0, 1, 7, 8]), (24, [1, 7], []), (20, [7], [60, 1, 3, 1085, 1, 7, 8, 15]), (24, [0, 3], []), (20, [14, 3], [30, 0, 1, 0, 0, -1, 1, 6]), (20, [17, 3, 16], [50, 3, 0, 1002, 1003, 1008, 2, 6, 1, 2, 1, 0, 0, 0, 2, 7, 1, 3, 2, 1, 2, 1, 2, 1, 3, 2, 1, 3, 2, 1, 8])], [], [], [(20, [1], [60, 2, 3, 670, 0, 1, 14, 7, 8]), (20, [1], [60, 2, 2, 596, 0, 1, 7, 8]), (20, [0, 1, 17], [60, 8, 6, 1063, 5, 6, 11, 2, 3, 1000, 1001, 1002, 0, 10, 1004, 1003, 1007, 1008]), (20, [2, 0], [30, 0, 1, 0, 0, -1, 1, 6]), (20, [1], [60, 1, 3, 1085, 1, 7, 8, 15])], [], [])
theorem oo_Re_readEdges_28 {kA : Nat → ClassId} : or_ok PRD kA GG o_Re_readEdges_28 := by
  refine or_mk fun A ta ws vs hD hth hl => ?_
  intro t0 r0 t1 r1 t2 k2 t14 k14 t16 k16 t17 k17 f0 f2 f4 f5 f6 f9 f10 f16 f19
  replace f0 := shm_1988 f0
  replace f4 := shm_825 f4
  replace f5 := shm_386 f5
  replace f6 := shm_5 f6
  replace f9 := shm_827 f9
  replace f10 := shm_5 f10
  replace f16 := shm_1527 f16
  replace f19 := shm_451 f19
  have q7 : n_v vs 7 = n_v vs 1 := f6.symm
  have q3 : n_v vs 3 = n_v vs 0 := f10.symm
  simp only [q3, q7] at f0 f4 f5 f9 f16 f19
  have kz_0_2 := fdq_97 hD hth r0
  have kz_0_3 := fdq_98 hD hth r0
  have kz_0_5 := fdq_207 hD hth r0
  have kz_0_6 := fdq_208 hD hth r0
  have kz_0_8 := fdq_99 hD hth r0
  have kz_0_11 := fdq_320 hD hth r0
  have kz_1_0 := fdq_73 hD hth r1
  have kz_1_1 := fdq_74 hD hth r1
  have kz_1_2 := fdq_206 hD hth r1
  have nf0 : fc_1 PRD (20, [1], [60, 2, 3, 670, 0, 1, 14, 7, 8]) ws (vs) := ⟨nf_in hl rfl, sgq_825 (vc_Re_readEdges_28_0 (w_ei ws (w_ar ws (n_v vs 1) 7)) (w_ei ws (w_ar ws (n_v vs 1) 8)) (w_fi ws (n_v vs 1) 0) (w_fi ws (n_v vs 1) 1) (w_ei ws (w_ar ws (n_v vs 1) 14)) f4 kz_1_0 kz_1_1)⟩
  have nf1 : fc_1 PRD (20, [1], [60, 2, 2, 596, 0, 1, 7, 8]) ws (vs) := ⟨nf_in hl rfl, sgq_386 (vc_Re_readEdges_28_1 (w_ei ws (w_ar ws (n_v vs 1) 7)) (w_ei ws (w_ar ws (n_v vs 1) 8)) (w_fi ws (n_v vs 1) 0) (w_fi ws (n_v vs 1) 1) f5 kz_1_0 kz_1_1)⟩
  have nf2 : fc_1 PRD (20, [0, 1, 17], [60, 8, 6, 1063, 5, 6, 11, 2, 3, 1000, 1001, 1002, 0, 10, 1004, 1003, 1007, 1008]) ws (vs) := ⟨nf_in hl rfl, sgq_2023 (vc_Re_readEdges_28_2 (v_iv (n_v vs 16)) (v_iv (n_v vs 17)) (w_ei ws (w_ar ws (n_v vs 0) 0)) (w_fi ws (n_v vs 0) 5) (w_fi ws (n_v vs 0) 8) (w_ei ws (w_ar ws (n_v vs 0) 10)) (w_ei ws (w_ar ws (n_v vs 1) 4)) (w_ei ws (w_ar ws (n_v vs 1) 3)) (w_ei ws (w_ar ws (n_v vs 1) 7)) (w_ei ws (w_ar ws (n_v vs 1) 8)) (w_fi ws (n_v vs 0) 11) (w_fi ws (n_v vs 1) 0) (w_fi ws (n_v vs 1) 1) (w_fi ws (n_v vs 1) 2) (w_fi ws (n_v vs 0) 6) (w_fi ws (n_v vs 0) 2) (w_fi ws (n_v vs 0) 3) k16 k17 f0 f19 kz_0_2 kz_0_3 kz_0_5 kz_0_6 kz_0_8 kz_0_11 kz_1_0 kz_1_1 kz_1_2)⟩
  have nf3 : fc_1 PRD (20, [2, 0], [30, 0, 1, 0, 0, -1, 1, 6]) ws (vs) := ⟨nf_in hl rfl, sgq_1527 (vc_Re_readEdges_28_3 (v_iv (n_v vs 2)) (v_iv (n_v vs 14)) (w_fi ws (n_v vs 0) 6) k2 k14 (shm_201 f2) f16 kz_0_6)⟩
  have nf4 : fc_1 PRD (20, [1], [60, 1, 3, 1085, 1, 7, 8, 15]) ws (vs) := ⟨nf_in hl rfl, sgq_827 (vc_Re_readEdges_28_4 (w_ei ws (w_ar ws (n_v vs 1) 7)) (w_ei ws (w_ar ws (n_v vs 1) 8)) (w_fi ws (n_v vs 1) 1) (w_ei ws (w_ar ws (n_v vs 1) 15)) f9 kz_1_1)⟩
  refine ⟨(fun _ h => (by cases h)), [], trivial, ?_, (fun _ h => (by cases h))⟩
  rw [List.append_nil]
  exact List.forall_mem_cons.mpr ⟨⟨show (20 : Nat) < 100 from by decide, nf0⟩, List.forall_mem_cons.mpr ⟨⟨show (20 : Nat) < 100 from by decide, nf1⟩, List.forall_mem_cons.mpr ⟨⟨show (20 : Nat) < 100 from by decide, nf2⟩, List.forall_mem_cons.mpr ⟨⟨show (20 : Nat) < 100 from by decide, nf3⟩, List.forall_mem_cons.mpr ⟨⟨show (20 : Nat) < 100 from by decide, nf4⟩, (fun _ h => (by cases h))⟩⟩⟩⟩⟩
set_option maxHeartbeats 4000000 in
theorem vc_Re_readEdges_29_0 (near_0o1 : Int → Int) (tail_0o1 : Int → Int) (head_0o1 : Int → Int) (nodes_0o1 : Int) (edges_0o1 : Int) (f6 : GNB (nodes_0o1) (edges_0o1) (near_0o1) (tail_0o1) (head_0o1)) (kz_1_0 : 0 ≤ nodes_0o1 ∧ nodes_0o1 ≤ 24) (kz_1_1 : 0 ≤ edges_0o1 ∧ edges_0o1 ≤ 48) : GNB (nodes_0o1) (edges_0o1) (near_0o1) (tail_0o1) (head_0o1) := by
  first
    | assumption
  
set_option maxHeartbeats 4000000 in
theorem vc_Re_readEdges_29_1 (tail_0o1 : Int → Int) (head_0o1 : Int → Int) (nodes_0o1 : Int) (edges_0o1 : Int) (f7 : GKE (nodes_0o1) (edges_0o1) (tail_0o1) (head_0o1)) (kz_1_0 : 0 ≤ nodes_0o1 ∧ nodes_0o1 ≤ 24) (kz_1_1 : 0 ≤ edges_0o1 ∧ edges_0o1 ≤ 48) : GKE (nodes_0o1) (edges_0o1) (tail_0o1) (head_0o1) := by
  first
    | assumption
  
set_option maxHeartbeats 4000000 in
theorem vc_Re_readEdges_29_2 (x4 : Int) (x9 : Int) (x14 : Int) (kind_0 : Int) (tail_0o1 : Int → Int) (head_0o1 : Int → Int) (nodes_0o1 : Int) (edges_0o1 : Int) (tape_0 : Int → Int) (open_0 : Int → Int) (nameLength_0o1 : Int → Int) (name_0o1 : Int → Int) (end_0 : Int) (next_0 : Int) (begin_0 : Int) (number_0 : Int) (depth_0 : Int) (groups_0o1 : Int) (fault_0 : Int) (faultPlace_0 : Int) (k4 : 0 ≤ x4 ∧ x4 ≤ 23) (k9 : 59 ≤ x9 ∧ x9 ≤ 59) (k14 : 1 ≤ x14 ∧ x14 ≤ 1) (g1 : x9 = kind_0) (f10 : cLE (end_0) (next_0) (kind_0) (begin_0) (number_0) (depth_0) (nodes_0o1) (edges_0o1) (groups_0o1) (tape_0) (open_0) (nameLength_0o1) (name_0o1) (tail_0o1) (head_0o1) (x4)) (f14 : fault_0 = 0) (kz_0_2 : (-1) ≤ fault_0 ∧ fault_0 ≤ 5) (kz_0_3 : (-1) ≤ faultPlace_0 ∧ faultPlace_0 ≤ 2000) (kz_0_5 : 0 ≤ end_0 ∧ end_0 ≤ 2000) (kz_0_6 : 0 ≤ next_0 ∧ next_0 ≤ 2000) (kz_0_7 : (-128) ≤ kind_0 ∧ kind_0 ≤ 127) (kz_0_8 : 0 ≤ begin_0 ∧ begin_0 ≤ 2000) (kz_0_9 : (-176) ≤ number_0 ∧ number_0 ≤ 1000000) (kz_0_11 : 0 ≤ depth_0 ∧ depth_0 ≤ 4) (kz_1_0 : 0 ≤ nodes_0o1 ∧ nodes_0o1 ≤ 24) (kz_1_1 : 0 ≤ edges_0o1 ∧ edges_0o1 ≤ 48) (kz_1_2 : 0 ≤ groups_0o1 ∧ groups_0o1 ≤ 8) : cO0 (end_0) (next_0) (depth_0) (fault_0) (faultPlace_0) (nodes_0o1) (edges_0o1) (groups_0o1) (tape_0) (open_0) (nameLength_0o1) (name_0o1) (tail_0o1) (head_0o1) (x14) := by
  first | subst g1 | skip
  first
    | exact cO0_f ‹FSY _ _ _ _› (by omega) (by omega) (by omega)
    | exact cO_13 ‹cO13 _ _ _ _ _ _ _ _ _ _ _ _ _ _ _› (by omega) (by omega)
    | exact cO0_t (s_go (le_s ‹cLE _ _ _ _ _ _ _ _ _ _ _ _ _ _ _ _› (by omega)) (by omega) rfl) (by omega) (by omega)
    | exact cO0_t (s_go (n13_s ‹TKC _ _ _ _ _ _ _› ‹cG13 _ _ _ _ _ _ _ _ _ _ _ _›) (by omega) rfl) (by omega) (by omega)
set_option maxHeartbeats 4000000 in
theorem vc_Re_readEdges_29_3 (x2 : Int) (next_0 : Int) (k2 : 0 ≤ x2 ∧ x2 ≤ 2000) (f11 : 1 * x2 + ((-1) * next_0 + 0) ≤ 0) (kz_0_6 : 0 ≤ next_0 ∧ next_0 ≤ 2000) : 1 * x2 + ((-1) * next_0 + 0) ≤ 0 := by
  first
    | omega
  
set_option maxHeartbeats 4000000 in
theorem vc_Re_readEdges_29_4 (tail_0o1 : Int → Int) (head_0o1 : Int → Int) (edges_0o1 : Int) (link_0o1 : Int → Int) (f13 : LKG (edges_0o1) (tail_0o1) (head_0o1) (link_0o1)) (kz_1_1 : 0 ≤ edges_0o1 ∧ edges_0o1 ≤ 48) : LKG (edges_0o1) (tail_0o1) (head_0o1) (link_0o1) := by
  assumption
def o_Re_readEdges_29 : or_T := (279, 15, [(0, (2, 0, 0, [8])), (1, (2, 0, 0, [164])), (2, (0, 0, 2000, [])), (3, (2, 0, 0, [8])), (4, (0, 0, 23, [])), (6, (0, 0, 48, [])), (7, (2, 0, 0, [164])), (8, (0, 48, 48, [])), (9, (0, 59, 59, [])), (10, (0, 45, 45, [])), (11, (0, 62, 62, [])), (12, (0, 91, 91, [])), (13, (0, 59, 59, [])), (14, (0, 1, 1, []))], [(7, [9, 13], [0]), (9, [9, 3], [7]), (7, [9, 12], [1]), (7, [9, 11], [1]), (7, [9, 10], [1]), (7, [6, 8], [5]), (20, [7], [60, 2, 3, 670, 0, 1, 14, 7, 8]), (20, [7], [60, 2, 2, 596, 0, 1, 7, 8]), (24, [1, 7], []), (20, [4, 7], [50, 1, 0, 1000, 2, 6, 0, 2, 0, 0, 1, 0, 0, 6, 4, 2, 1, 0, 0, 1, 2, 1, 0]), (20, [3, 7, 4], [60, 9, 6, 1061, 5, 6, 7, 8, 9, 11, 1000, 1001, 1002, 0, 10, 1004, 1003, 1007, 1008]), (20, [2, 3], [30, 0, 1, 0, 0, -1, 1, 6]), (20, [6, 7], [50, 1, 0, 1001, 0, 2, 1, 0, 2, 1, 1]), (20, [7], [60, 1, 3, 1085, 1, 7, 8, 15]), (20, [3], [50, 1, 0, 2, 1, 3, 2, 0, 2, 0, 0]), (24, [0, 3], [])], [], [], [(20, [1], [60, 2, 3, 670, 0, 1, 14, 7, 8]), (20, [1], [60, 2, 2, 596, 0, 1, 7, 8]), (20, [0, 1, 14], [60, 8, 6, 1063, 5, 6, 11, 2, 3, 1000, 1001, 1002, 0, 10, 1004, 1003, 1007, 1008]), (20, [2, 0], [30, 0, 1, 0, 0, -1, 1, 6]), (20, [1], [60, 1, 3, 1085, 1, 7, 8, 15])], [], [])
theorem oo_Re_readEdges_29 {kA : Nat → ClassId} : or_ok PRD kA GG o_Re_readEdges_29 := by
  refine or_mk fun A ta ws vs hD hth hl => ?_
  intro t0 r0 t1 r1 t2 k2 t3 r3 t4 k4 t6 k6 t7 r7 t8 k8 t9 k9 t10 k10 t11 k11 t12 k12 t13 k13 t14 k14 f0 f1 f2 f3 f4 f5 f6 f7 f8 f9 f10 f11 f12 f13 f14 f15
  replace f1 := shm_198 f1
  replace f6 := shm_825 f6
  replace f7 := shm_386 f7
  replace f8 := shm_5 f8
  replace f10 := shm_2137 f10
  replace f11 := shm_1527 f11
  replace f13 := shm_827 f13
  replace f14 := shm_1985 f14
  replace f15 := shm_5 f15
  have q7 : n_v vs 7 = n_v vs 1 := f8.symm
  have q3 : n_v vs 3 = n_v vs 0 := f15.symm
  simp only [q3, q7] at f1 f6 f7 f10 f11 f13 f14
  have g1 : v_iv (n_v vs 9) = w_fi ws (n_v vs 0) 7 := congrArg v_iv f1
  have kz_0_2 := fdq_97 hD hth r0
  have kz_0_3 := fdq_98 hD hth r0
  have kz_0_5 := fdq_207 hD hth r0
  have kz_0_6 := fdq_208 hD hth r0
  have kz_0_7 := fdq_297 hD hth r0
  have kz_0_8 := fdq_99 hD hth r0
  have kz_0_9 := fdq_296 hD hth r0
  have kz_0_11 := fdq_320 hD hth r0
  have kz_1_0 := fdq_73 hD hth r1
  have kz_1_1 := fdq_74 hD hth r1
  have kz_1_2 := fdq_206 hD hth r1
  have nf0 : fc_1 PRD (20, [1], [60, 2, 3, 670, 0, 1, 14, 7, 8]) ws (vs) := ⟨nf_in hl rfl, sgq_825 (vc_Re_readEdges_29_0 (w_ei ws (w_ar ws (n_v vs 1) 14)) (w_ei ws (w_ar ws (n_v vs 1) 7)) (w_ei ws (w_ar ws (n_v vs 1) 8)) (w_fi ws (n_v vs 1) 0) (w_fi ws (n_v vs 1) 1) f6 kz_1_0 kz_1_1)⟩
  have nf1 : fc_1 PRD (20, [1], [60, 2, 2, 596, 0, 1, 7, 8]) ws (vs) := ⟨nf_in hl rfl, sgq_386 (vc_Re_readEdges_29_1 (w_ei ws (w_ar ws (n_v vs 1) 7)) (w_ei ws (w_ar ws (n_v vs 1) 8)) (w_fi ws (n_v vs 1) 0) (w_fi ws (n_v vs 1) 1) f7 kz_1_0 kz_1_1)⟩
  have nf2 : fc_1 PRD (20, [0, 1, 14], [60, 8, 6, 1063, 5, 6, 11, 2, 3, 1000, 1001, 1002, 0, 10, 1004, 1003, 1007, 1008]) ws (vs) := ⟨nf_in hl rfl, sgq_2023 (vc_Re_readEdges_29_2 (v_iv (n_v vs 4)) (v_iv (n_v vs 9)) (v_iv (n_v vs 14)) (w_fi ws (n_v vs 0) 7) (w_ei ws (w_ar ws (n_v vs 1) 7)) (w_ei ws (w_ar ws (n_v vs 1) 8)) (w_fi ws (n_v vs 1) 0) (w_fi ws (n_v vs 1) 1) (w_ei ws (w_ar ws (n_v vs 0) 0)) (w_ei ws (w_ar ws (n_v vs 0) 10)) (w_ei ws (w_ar ws (n_v vs 1) 4)) (w_ei ws (w_ar ws (n_v vs 1) 3)) (w_fi ws (n_v vs 0) 5) (w_fi ws (n_v vs 0) 6) (w_fi ws (n_v vs 0) 8) (w_fi ws (n_v vs 0) 9) (w_fi ws (n_v vs 0) 11) (w_fi ws (n_v vs 1) 2) (w_fi ws (n_v vs 0) 2) (w_fi ws (n_v vs 0) 3) k4 k9 k14 g1 f10 f14 kz_0_2 kz_0_3 kz_0_5 kz_0_6 kz_0_7 kz_0_8 kz_0_9 kz_0_11 kz_1_0 kz_1_1 kz_1_2)⟩
  have nf3 : fc_1 PRD (20, [2, 0], [30, 0, 1, 0, 0, -1, 1, 6]) ws (vs) := ⟨nf_in hl rfl, sgq_1527 (vc_Re_readEdges_29_3 (v_iv (n_v vs 2)) (w_fi ws (n_v vs 0) 6) k2 f11 kz_0_6)⟩
  have nf4 : fc_1 PRD (20, [1], [60, 1, 3, 1085, 1, 7, 8, 15]) ws (vs) := ⟨nf_in hl rfl, sgq_827 (vc_Re_readEdges_29_4 (w_ei ws (w_ar ws (n_v vs 1) 7)) (w_ei ws (w_ar ws (n_v vs 1) 8)) (w_fi ws (n_v vs 1) 1) (w_ei ws (w_ar ws (n_v vs 1) 15)) f13 kz_1_1)⟩
  refine ⟨(fun _ h => (by cases h)), [], trivial, ?_, (fun _ h => (by cases h))⟩
  rw [List.append_nil]
  exact List.forall_mem_cons.mpr ⟨⟨show (20 : Nat) < 100 from by decide, nf0⟩, List.forall_mem_cons.mpr ⟨⟨show (20 : Nat) < 100 from by decide, nf1⟩, List.forall_mem_cons.mpr ⟨⟨show (20 : Nat) < 100 from by decide, nf2⟩, List.forall_mem_cons.mpr ⟨⟨show (20 : Nat) < 100 from by decide, nf3⟩, List.forall_mem_cons.mpr ⟨⟨show (20 : Nat) < 100 from by decide, nf4⟩, (fun _ h => (by cases h))⟩⟩⟩⟩⟩
set_option maxHeartbeats 4000000 in
theorem vc_Re_readEdges_30_0 (x4 : Int) (x9 : Int) (x10 : Int) (x11 : Int) (x12 : Int) (x13 : Int) (x14 : Int) (kind_0 : Int) (tail_0o1 : Int → Int) (head_0o1 : Int → Int) (nodes_0o1 : Int) (edges_0o1 : Int) (tape_0 : Int → Int) (open_0 : Int → Int) (nameLength_0o1 : Int → Int) (name_0o1 : Int → Int) (end_0 : Int) (next_0 : Int) (begin_0 : Int) (number_0 : Int) (depth_0 : Int) (groups_0o1 : Int) (k4 : 0 ≤ x4 ∧ x4 ≤ 23) (k9 : (-128) ≤ x9 ∧ x9 ≤ 127) (k10 : 45 ≤ x10 ∧ x10 ≤ 45) (k11 : 62 ≤ x11 ∧ x11 ≤ 62) (k12 : 91 ≤ x12 ∧ x12 ≤ 91) (k13 : 59 ≤ x13 ∧ x13 ≤ 59) (k14 : 1 ≤ x14 ∧ x14 ≤ 1) (f0 : x9 ≠ x13) (g1 : x9 = kind_0) (f2 : x9 ≠ x12) (f3 : x9 ≠ x11) (f4 : x9 ≠ x10) (f10 : cLE (end_0) (next_0) (kind_0) (begin_0) (number_0) (depth_0) (nodes_0o1) (edges_0o1) (groups_0o1) (tape_0) (open_0) (nameLength_0o1) (name_0o1) (tail_0o1) (head_0o1) (x4)) (kz_0_5 : 0 ≤ end_0 ∧ end_0 ≤ 2000) (kz_0_6 : 0 ≤ next_0 ∧ next_0 ≤ 2000) (kz_0_7 : (-128) ≤ kind_0 ∧ kind_0 ≤ 127) (kz_0_8 : 0 ≤ begin_0 ∧ begin_0 ≤ 2000) (kz_0_9 : (-176) ≤ number_0 ∧ number_0 ≤ 1000000) (kz_0_11 : 0 ≤ depth_0 ∧ depth_0 ≤ 4) (kz_1_0 : 0 ≤ nodes_0o1 ∧ nodes_0o1 ≤ 24) (kz_1_1 : 0 ≤ edges_0o1 ∧ edges_0o1 ≤ 48) (kz_1_2 : 0 ≤ groups_0o1 ∧ groups_0o1 ≤ 8) : FSY (end_0) (begin_0) (tape_0) (x14) := by
  first
    | exact fsy_of (s_f (le_s ‹cLE _ _ _ _ _ _ _ _ _ _ _ _ _ _ _ _› (by omega)) (by omega)) (by omega)
    | exact fsy_of (s_f (n13_s ‹TKC _ _ _ _ _ _ _› ‹cG13 _ _ _ _ _ _ _ _ _ _ _ _›) (by omega)) (by omega)
def o_Re_readEdges_30 : or_T := (268, 15, [(0, (2, 0, 0, [8])), (1, (2, 0, 0, [164])), (4, (0, 0, 23, [])), (9, (0, -128, 127, [])), (10, (0, 45, 45, [])), (11, (0, 62, 62, [])), (12, (0, 91, 91, [])), (13, (0, 59, 59, [])), (14, (0, 1, 1, []))], [(7, [9, 13], [1]), (9, [9, 3], [7]), (7, [9, 12], [1]), (7, [9, 11], [1]), (7, [9, 10], [1]), (24, [1, 7], []), (20, [3, 7, 4], [60, 9, 6, 1061, 5, 6, 7, 8, 9, 11, 1000, 1001, 1002, 0, 10, 1004, 1003, 1007, 1008]), (24, [0, 3], [])], [], [], [(20, [3, 14], [60, 2, 1, 1078, 5, 8, 0])], [], [])
theorem oo_Re_readEdges_30 {kA : Nat → ClassId} : or_ok PRD kA GG o_Re_readEdges_30 := by
  refine or_mk fun A ta ws vs hD hth hl => ?_
  intro t0 r0 t1 r1 t4 k4 t9 k9 t10 k10 t11 k11 t12 k12 t13 k13 t14 k14 f0 f1 f2 f3 f4 f8 f10 f15
  replace f0 := shm_40 f0
  replace f1 := shm_198 f1
  replace f2 := shm_40 f2
  replace f3 := shm_40 f3
  replace f4 := shm_40 f4
  replace f8 := shm_5 f8
  replace f10 := shm_2137 f10
  replace f15 := shm_5 f15
  have q7 : n_v vs 7 = n_v vs 1 := f8.symm
  have q3 : n_v vs 3 = n_v vs 0 := f15.symm
  simp only [q3, q7] at f1 f10
  have g1 : v_iv (n_v vs 9) = w_fi ws (n_v vs 0) 7 := congrArg v_iv f1
  have kz_0_5 := fdq_207 hD hth r0
  have kz_0_6 := fdq_208 hD hth r0
  have kz_0_7 := fdq_297 hD hth r0
  have kz_0_8 := fdq_99 hD hth r0
  have kz_0_9 := fdq_296 hD hth r0
  have kz_0_11 := fdq_320 hD hth r0
  have kz_1_0 := fdq_73 hD hth r1
  have kz_1_1 := fdq_74 hD hth r1
  have kz_1_2 := fdq_206 hD hth r1
  have nf0 : fc_1 PRD (20, [3, 14], [60, 2, 1, 1078, 5, 8, 0]) ws (vs) := by
    refine ⟨nf_in hl rfl, sgq_1988 ?_⟩
    · show FSY (w_fi ws (n_v vs 3) 5) (w_fi ws (n_v vs 3) 8) (w_ei ws (w_ar ws (n_v vs 3) 0)) (v_iv (n_v vs 14))
      rw [q3]
      exact vc_Re_readEdges_30_0 (v_iv (n_v vs 4)) (v_iv (n_v vs 9)) (v_iv (n_v vs 10)) (v_iv (n_v vs 11)) (v_iv (n_v vs 12)) (v_iv (n_v vs 13)) (v_iv (n_v vs 14)) (w_fi ws (n_v vs 0) 7) (w_ei ws (w_ar ws (n_v vs 1) 7)) (w_ei ws (w_ar ws (n_v vs 1) 8)) (w_fi ws (n_v vs 1) 0) (w_fi ws (n_v vs 1) 1) (w_ei ws (w_ar ws (n_v vs 0) 0)) (w_ei ws (w_ar ws (n_v vs 0) 10)) (w_ei ws (w_ar ws (n_v vs 1) 4)) (w_ei ws (w_ar ws (n_v vs 1) 3)) (w_fi ws (n_v vs 0) 5) (w_fi ws (n_v vs 0) 6) (w_fi ws (n_v vs 0) 8) (w_fi ws (n_v vs 0) 9) (w_fi ws (n_v vs 0) 11) (w_fi ws (n_v vs 1) 2) k4 k9 k10 k11 k12 k13 k14 f0 g1 f2 f3 f4 f10 kz_0_5 kz_0_6 kz_0_7 kz_0_8 kz_0_9 kz_0_11 kz_1_0 kz_1_1 kz_1_2
  refine ⟨(fun _ h => (by cases h)), [], trivial, ?_, (fun _ h => (by cases h))⟩
  rw [List.append_nil]
  exact List.forall_mem_cons.mpr ⟨⟨show (20 : Nat) < 100 from by decide, nf0⟩, (fun _ h => (by cases h))⟩
set_option maxHeartbeats 4000000 in
theorem vc_Re_readEdges_31_0 (near_0o1 : Int → Int) (tail_0o1 : Int → Int) (head_0o1 : Int → Int) (nodes_0o1 : Int) (edges_0o1 : Int) (f3 : GNB (nodes_0o1) (edges_0o1) (near_0o1) (tail_0o1) (head_0o1)) (kz_1_0 : 0 ≤ nodes_0o1 ∧ nodes_0o1 ≤ 24) (kz_1_1 : 0 ≤ edges_0o1 ∧ edges_0o1 ≤ 48) : GNB (nodes_0o1) (edges_0o1) (near_0o1) (tail_0o1) (head_0o1) := by
  first
    | assumption
  
set_option maxHeartbeats 4000000 in
theorem vc_Re_readEdges_31_1 (tail_0o1 : Int → Int) (head_0o1 : Int → Int) (nodes_0o1 : Int) (edges_0o1 : Int) (f4 : GKE (nodes_0o1) (edges_0o1) (tail_0o1) (head_0o1)) (kz_1_0 : 0 ≤ nodes_0o1 ∧ nodes_0o1 ≤ 24) (kz_1_1 : 0 ≤ edges_0o1 ∧ edges_0o1 ≤ 48) : GKE (nodes_0o1) (edges_0o1) (tail_0o1) (head_0o1) := by
  first
    | assumption
  
set_option maxHeartbeats 4000000 in
theorem vc_Re_readEdges_31_2 (x9 : Int) (x14 : Int) (x15 : Int) (x16 : Int) (kind_0 : Int) (tape_0 : Int → Int) (end_0 : Int) (begin_0 : Int) (tail_0o1 : Int → Int) (head_0o1 : Int → Int) (nodes_0o1 : Int) (edges_0o1 : Int) (open_0 : Int → Int) (nameLength_0o1 : Int → Int) (name_0o1 : Int → Int) (next_0 : Int) (depth_0 : Int) (groups_0o1 : Int) (fault_0 : Int) (faultPlace_0 : Int) (k9 : (-128) ≤ x9 ∧ x9 ≤ 127) (k14 : 1 ≤ x14 ∧ x14 ≤ 1) (k15 : 0 ≤ x15 ∧ x15 ≤ 0) (k16 : 0 ≤ x16 ∧ x16 ≤ 0) (g0 : x9 = kind_0) (f2 : FSY (end_0) (begin_0) (tape_0) (x14)) (f12 : (x15 = 0) ∧ ((fault_0 = x14) ∧ (faultPlace_0 = begin_0))) (kz_0_2 : (-1) ≤ fault_0 ∧ fault_0 ≤ 5) (kz_0_3 : (-1) ≤ faultPlace_0 ∧ faultPlace_0 ≤ 2000) (kz_0_5 : 0 ≤ end_0 ∧ end_0 ≤ 2000) (kz_0_6 : 0 ≤ next_0 ∧ next_0 ≤ 2000) (kz_0_7 : (-128) ≤ kind_0 ∧ kind_0 ≤ 127) (kz_0_8 : 0 ≤ begin_0 ∧ begin_0 ≤ 2000) (kz_0_11 : 0 ≤ depth_0 ∧ depth_0 ≤ 4) (kz_1_0 : 0 ≤ nodes_0o1 ∧ nodes_0o1 ≤ 24) (kz_1_1 : 0 ≤ edges_0o1 ∧ edges_0o1 ≤ 48) (kz_1_2 : 0 ≤ groups_0o1 ∧ groups_0o1 ≤ 8) : cO0 (end_0) (next_0) (depth_0) (fault_0) (faultPlace_0) (nodes_0o1) (edges_0o1) (groups_0o1) (tape_0) (open_0) (nameLength_0o1) (name_0o1) (tail_0o1) (head_0o1) (x16) := by
  first | subst g0 | skip
  first
    | exact cO0_f ‹FSY _ _ _ _› (by omega) (by omega) (by omega)
    | exact cO_13 ‹cO13 _ _ _ _ _ _ _ _ _ _ _ _ _ _ _› (by omega) (by omega)
    | exact cO0_t (s_go (le_s ‹cLE _ _ _ _ _ _ _ _ _ _ _ _ _ _ _ _› (by omega)) (by omega) rfl) (by omega) (by omega)
    | exact cO0_t (s_go (n13_s ‹TKC _ _ _ _ _ _ _› ‹cG13 _ _ _ _ _ _ _ _ _ _ _ _›) (by omega) rfl) (by omega) (by omega)
set_option maxHeartbeats 4000000 in
theorem vc_Re_readEdges_31_3 (x2 : Int) (next_0 : Int) (k2 : 0 ≤ x2 ∧ x2 ≤ 2000) (f8 : 1 * x2 + ((-1) * next_0 + 0) ≤ 0) (kz_0_6 : 0 ≤ next_0 ∧ next_0 ≤ 2000) : 1 * x2 + ((-1) * next_0 + 0) ≤ 0 := by
  first
    | omega
  
set_option maxHeartbeats 4000000 in
theorem vc_Re_readEdges_31_4 (tail_0o1 : Int → Int) (head_0o1 : Int → Int) (edges_0o1 : Int) (link_0o1 : Int → Int) (f10 : LKG (edges_0o1) (tail_0o1) (head_0o1) (link_0o1)) (kz_1_1 : 0 ≤ edges_0o1 ∧ edges_0o1 ≤ 48) : LKG (edges_0o1) (tail_0o1) (head_0o1) (link_0o1) := by
  assumption
def o_Re_readEdges_31 : or_T := (279, 17, [(0, (2, 0, 0, [8])), (1, (2, 0, 0, [164])), (2, (0, 0, 2000, [])), (9, (0, -128, 127, [])), (14, (0, 1, 1, [])), (15, (0, 0, 0, [])), (16, (0, 0, 0, []))], [(9, [9, 3], [7]), (20, [3, 14], [60, 2, 1, 1078, 5, 8, 0]), (20, [7], [60, 2, 3, 670, 0, 1, 14, 7, 8]), (20, [7], [60, 2, 2, 596, 0, 1, 7, 8]), (24, [1, 7], []), (20, [2, 3], [30, 0, 1, 0, 0, -1, 1, 6]), (20, [7], [60, 1, 3, 1085, 1, 7, 8, 15]), (24, [0, 3], []), (20, [15, 3, 14], [50, 3, 0, 1002, 1003, 1008, 2, 6, 1, 2, 1, 0, 0, 0, 2, 7, 1, 3, 2, 1, 2, 1, 2, 1, 3, 2, 1, 3, 2, 1, 8])], [], [], [(20, [1], [60, 2, 3, 670, 0, 1, 14, 7, 8]), (20, [1], [60, 2, 2, 596, 0, 1, 7, 8]), (20, [0, 1, 16], [60, 8, 6, 1063, 5, 6, 11, 2, 3, 1000, 1001, 1002, 0, 10, 1004, 1003, 1007, 1008]), (20, [2, 0], [30, 0, 1, 0, 0, -1, 1, 6]), (20, [1], [60, 1, 3, 1085, 1, 7, 8, 15])], [], [])
theorem oo_Re_readEdges_31 {kA : Nat → ClassId} : or_ok PRD kA GG o_Re_readEdges_31 := by
  refine or_mk fun A ta ws vs hD hth hl => ?_
  intro t0 r0 t1 r1 t2 k2 t9 k9 t14 k14 t15 k15 t16 k16 f0 f2 f3 f4 f5 f8 f10 f11 f12
  replace f0 := shm_198 f0
  replace f2 := shm_1988 f2
  replace f3 := shm_825 f3
  replace f4 := shm_386 f4
  replace f5 := shm_5 f5
  replace f8 := shm_1527 f8
  replace f10 := shm_827 f10
  replace f11 := shm_5 f11
  replace f12 := shm_451 f12
  have q7 : n_v vs 7 = n_v vs 1 := f5.symm
  have q3 : n_v vs 3 = n_v vs 0 := f11.symm
  simp only [q3, q7] at f0 f2 f3 f4 f8 f10 f12
  have g0 : v_iv (n_v vs 9) = w_fi ws (n_v vs 0) 7 := congrArg v_iv f0
  have kz_0_2 := fdq_97 hD hth r0
  have kz_0_3 := fdq_98 hD hth r0
  have kz_0_5 := fdq_207 hD hth r0
  have kz_0_6 := fdq_208 hD hth r0
  have kz_0_7 := fdq_297 hD hth r0
  have kz_0_8 := fdq_99 hD hth r0
  have kz_0_11 := fdq_320 hD hth r0
  have kz_1_0 := fdq_73 hD hth r1
  have kz_1_1 := fdq_74 hD hth r1
  have kz_1_2 := fdq_206 hD hth r1
  have nf0 : fc_1 PRD (20, [1], [60, 2, 3, 670, 0, 1, 14, 7, 8]) ws (vs) := ⟨nf_in hl rfl, sgq_825 (vc_Re_readEdges_31_0 (w_ei ws (w_ar ws (n_v vs 1) 14)) (w_ei ws (w_ar ws (n_v vs 1) 7)) (w_ei ws (w_ar ws (n_v vs 1) 8)) (w_fi ws (n_v vs 1) 0) (w_fi ws (n_v vs 1) 1) f3 kz_1_0 kz_1_1)⟩
  have nf1 : fc_1 PRD (20, [1], [60, 2, 2, 596, 0, 1, 7, 8]) ws (vs) := ⟨nf_in hl rfl, sgq_386 (vc_Re_readEdges_31_1 (w_ei ws (w_ar ws (n_v vs 1) 7)) (w_ei ws (w_ar ws (n_v vs 1) 8)) (w_fi ws (n_v vs 1) 0) (w_fi ws (n_v vs 1) 1) f4 kz_1_0 kz_1_1)⟩
  have nf2 : fc_1 PRD (20, [0, 1, 16], [60, 8, 6, 1063, 5, 6, 11, 2, 3, 1000, 1001, 1002, 0, 10, 1004, 1003, 1007, 1008]) ws (vs) := ⟨nf_in hl rfl, sgq_2023 (vc_Re_readEdges_31_2 (v_iv (n_v vs 9)) (v_iv (n_v vs 14)) (v_iv (n_v vs 15)) (v_iv (n_v vs 16)) (w_fi ws (n_v vs 0) 7) (w_ei ws (w_ar ws (n_v vs 0) 0)) (w_fi ws (n_v vs 0) 5) (w_fi ws (n_v vs 0) 8) (w_ei ws (w_ar ws (n_v vs 1) 7)) (w_ei ws (w_ar ws (n_v vs 1) 8)) (w_fi ws (n_v vs 1) 0) (w_fi ws (n_v vs 1) 1) (w_ei ws (w_ar ws (n_v vs 0) 10)) (w_ei ws (w_ar ws (n_v vs 1) 4)) (w_ei ws (w_ar ws (n_v vs 1) 3)) (w_fi ws (n_v vs 0) 6) (w_fi ws (n_v vs 0) 11) (w_fi ws (n_v vs 1) 2) (w_fi ws (n_v vs 0) 2) (w_fi ws (n_v vs 0) 3) k9 k14 k15 k16 g0 f2 f12 kz_0_2 kz_0_3 kz_0_5 kz_0_6 kz_0_7 kz_0_8 kz_0_11 kz_1_0 kz_1_1 kz_1_2)⟩
  have nf3 : fc_1 PRD (20, [2, 0], [30, 0, 1, 0, 0, -1, 1, 6]) ws (vs) := ⟨nf_in hl rfl, sgq_1527 (vc_Re_readEdges_31_3 (v_iv (n_v vs 2)) (w_fi ws (n_v vs 0) 6) k2 f8 kz_0_6)⟩
  have nf4 : fc_1 PRD (20, [1], [60, 1, 3, 1085, 1, 7, 8, 15]) ws (vs) := ⟨nf_in hl rfl, sgq_827 (vc_Re_readEdges_31_4 (w_ei ws (w_ar ws (n_v vs 1) 7)) (w_ei ws (w_ar ws (n_v vs 1) 8)) (w_fi ws (n_v vs 1) 1) (w_ei ws (w_ar ws (n_v vs 1) 15)) f10 kz_1_1)⟩
  refine ⟨(fun _ h => (by cases h)), [], trivial, ?_, (fun _ h => (by cases h))⟩
  rw [List.append_nil]
  exact List.forall_mem_cons.mpr ⟨⟨show (20 : Nat) < 100 from by decide, nf0⟩, List.forall_mem_cons.mpr ⟨⟨show (20 : Nat) < 100 from by decide, nf1⟩, List.forall_mem_cons.mpr ⟨⟨show (20 : Nat) < 100 from by decide, nf2⟩, List.forall_mem_cons.mpr ⟨⟨show (20 : Nat) < 100 from by decide, nf3⟩, List.forall_mem_cons.mpr ⟨⟨show (20 : Nat) < 100 from by decide, nf4⟩, (fun _ h => (by cases h))⟩⟩⟩⟩⟩
set_option maxHeartbeats 4000000 in
theorem vc_Re_readEdges_32_0 (next_0 : Int) (gx : Int) (kz_0_6 : 0 ≤ next_0 ∧ next_0 ≤ 2000) (ex2 : gx = next_0) : 1 * next_0 + ((-1) * gx + 0) ≤ 0 := by
  first
    | omega
  
set_option maxHeartbeats 4000000 in
theorem vc_Re_readEdges_32_1 (next_0 : Int) (gx : Int) (kz_0_6 : 0 ≤ next_0 ∧ next_0 ≤ 2000) (ex2 : gx = next_0) : (-1) * next_0 + (1 * gx + 0) ≤ 0 := by
  first
    | omega
  
set_option maxHeartbeats 4000000 in
theorem vc_Re_readEdges_32_2 (x4 : Int) (x9 : Int) (kind_0 : Int) (tail_0o1 : Int → Int) (head_0o1 : Int → Int) (nodes_0o1 : Int) (edges_0o1 : Int) (tape_0 : Int → Int) (open_0 : Int → Int) (nameLength_0o1 : Int → Int) (name_0o1 : Int → Int) (end_0 : Int) (next_0 : Int) (begin_0 : Int) (number_0 : Int) (depth_0 : Int) (groups_0o1 : Int) (gx : Int) (k4 : 0 ≤ x4 ∧ x4 ≤ 23) (k9 : 91 ≤ x9 ∧ x9 ≤ 91) (g1 : x9 = kind_0) (f9 : cLE (end_0) (next_0) (kind_0) (begin_0) (number_0) (depth_0) (nodes_0o1) (edges_0o1) (groups_0o1) (tape_0) (open_0) (nameLength_0o1) (name_0o1) (tail_0o1) (head_0o1) (x4)) (kz_0_5 : 0 ≤ end_0 ∧ end_0 ≤ 2000) (kz_0_6 : 0 ≤ next_0 ∧ next_0 ≤ 2000) (kz_0_7 : (-128) ≤ kind_0 ∧ kind_0 ≤ 127) (kz_0_8 : 0 ≤ begin_0 ∧ begin_0 ≤ 2000) (kz_0_9 : (-176) ≤ number_0 ∧ number_0 ≤ 1000000) (kz_0_11 : 0 ≤ depth_0 ∧ depth_0 ≤ 4) (kz_1_0 : 0 ≤ nodes_0o1 ∧ nodes_0o1 ≤ 24) (kz_1_1 : 0 ≤ edges_0o1 ∧ edges_0o1 ≤ 48) (kz_1_2 : 0 ≤ groups_0o1 ∧ groups_0o1 ≤ 8) (ex2 : gx = next_0) : cG9w (end_0) (depth_0) (nodes_0o1) (edges_0o1) (groups_0o1) (tape_0) (open_0) (nameLength_0o1) (name_0o1) (tail_0o1) (head_0o1) (gx) := by
  exact le_9 ‹cLE _ _ _ _ _ _ _ _ _ _ _ _ _ _ _ _› (by omega) (by omega)
set_option maxHeartbeats 4000000 in
theorem vc_Re_readEdges_32_3 (fault_0 : Int) (f13 : fault_0 = 0) (kz_0_2 : (-1) ≤ fault_0 ∧ fault_0 ≤ 5) : fault_0 = 0 := by
  first
    | omega
  
set_option maxHeartbeats 4000000 in
theorem vc_Re_readEdges_32_4 (x2 : Int) (next_0 : Int) (gx : Int) (k2 : 0 ≤ x2 ∧ x2 ≤ 2000) (f10 : 1 * x2 + ((-1) * next_0 + 0) ≤ 0) (kz_0_6 : 0 ≤ next_0 ∧ next_0 ≤ 2000) (ex2 : gx = next_0) : 1 * x2 + ((-1) * gx + 0) ≤ 0 := by
  first
    | omega
  
def o_Re_readEdges_32 : or_T := (213, 15, [(0, (2, 0, 0, [8])), (1, (2, 0, 0, [164])), (2, (0, 0, 2000, [])), (4, (0, 0, 23, [])), (9, (0, 91, 91, []))], [(9, [9, 3], [7]), (24, [1, 7], []), (20, [3, 7, 4], [60, 9, 6, 1061, 5, 6, 7, 8, 9, 11, 1000, 1001, 1002, 0, 10, 1004, 1003, 1007, 1008]), (20, [2, 3], [30, 0, 1, 0, 0, -1, 1, 6]), (20, [3], [50, 1, 0, 2, 1, 3, 2, 0, 2, 0, 0]), (24, [0, 3], [])], [], [(0, 0, 2000, [])], [(20, [3, 15], [30, 0, 1, 1, 6, -1, 0, 0]), (20, [3, 15], [30, 0, -1, 1, 6, 1, 0, 0]), (20, [3, 7, 15], [60, 5, 6, 1049, 5, 11, 1000, 1001, 1002, 0, 10, 1004, 1003, 1007, 1008]), (20, [3], [50, 1, 0, 2, 1, 3, 2, 0, 2, 0, 0]), (20, [2, 15], [30, 0, 1, 0, 0, -1, 0, 0])], [], [])
theorem oo_Re_readEdges_32 {kA : Nat → ClassId} : or_ok PRD kA GG o_Re_readEdges_32 := by
  refine or_mk fun A ta ws vs hD hth hl => ?_
  intro t0 r0 t1 r1 t2 k2 t4 k4 t9 k9 f1 f7 f9 f10 f13 f14
  replace f1 := shm_198 f1
  replace f7 := shm_5 f7
  replace f9 := shm_2137 f9
  replace f10 := shm_1527 f10
  replace f13 := shm_1985 f13
  replace f14 := shm_5 f14
  have q7 : n_v vs 7 = n_v vs 1 := f7.symm
  have q3 : n_v vs 3 = n_v vs 0 := f14.symm
  simp only [q3, q7] at f1 f9 f10 f13
  have g1 : v_iv (n_v vs 9) = w_fi ws (n_v vs 0) 7 := congrArg v_iv f1
  have kz_0_2 := fdq_97 hD hth r0
  have kz_0_5 := fdq_207 hD hth r0
  have kz_0_6 := fdq_208 hD hth r0
  have kz_0_7 := fdq_297 hD hth r0
  have kz_0_8 := fdq_99 hD hth r0
  have kz_0_9 := fdq_296 hD hth r0
  have kz_0_11 := fdq_320 hD hth r0
  have kz_1_0 := fdq_73 hD hth r1
  have kz_1_1 := fdq_74 hD hth r1
  have kz_1_2 := fdq_206 hD hth r1
  obtain ⟨x, ex, hx⟩ := iv_ex (ta := ta) (lo := 0) (hi := 2000) (z := w_fi ws (n_v vs 0) 6) (by omega) (by omega) (by omega) (by omega)
  have ex2 : v_iv (Value.int x) = w_fi ws (n_v vs 0) 6 := ex
  have ex3 : 0 ≤ v_iv (Value.int x) ∧ v_iv (Value.int x) ≤ 2000 := tv_rng hx
  have e_2 : n_v (vs ++ [Value.int x]) 2 = n_v vs 2 := n_v_old (by rw [hl]; decide)
  have e_3 : n_v (vs ++ [Value.int x]) 3 = n_v vs 3 := n_v_old (by rw [hl]; decide)
  have e_7 : n_v (vs ++ [Value.int x]) 7 = n_v vs 7 := n_v_old (by rw [hl]; decide)
  have e_15 : n_v (vs ++ [Value.int x]) 15 = Value.int x := n_v_new hl
  have nf0 : fc_1 PRD (20, [3, 15], [30, 0, 1, 1, 6, -1, 0, 0]) ws (vs ++ [Value.int x]) := by
    refine ⟨nf_inA hl rfl, sgq_1523 ?_⟩
    · show 1 * w_fi ws (n_v (vs ++ [Value.int x]) 3) 6 + ((-1) * v_iv (n_v (vs ++ [Value.int x]) 15) + 0) ≤ 0
      simp only [e_3, e_15, q3]
      exact vc_Re_readEdges_32_0 (w_fi ws (n_v vs 0) 6) (v_iv (Value.int x)) kz_0_6 ex2
  have nf1 : fc_1 PRD (20, [3, 15], [30, 0, -1, 1, 6, 1, 0, 0]) ws (vs ++ [Value.int x]) := by
    refine ⟨nf_inA hl rfl, sgq_1524 ?_⟩
    · show (-1) * w_fi ws (n_v (vs ++ [Value.int x]) 3) 6 + (1 * v_iv (n_v (vs ++ [Value.int x]) 15) + 0) ≤ 0
      simp only [e_3, e_15, q3]
      exact vc_Re_readEdges_32_1 (w_fi ws (n_v vs 0) 6) (v_iv (Value.int x)) kz_0_6 ex2
  have nf2 : fc_1 PRD (20, [3, 7, 15], [60, 5, 6, 1049, 5, 11, 1000, 1001, 1002, 0, 10, 1004, 1003, 1007, 1008]) ws (vs ++ [Value.int x]) := by
    refine ⟨nf_inA hl rfl, sgq_1993 ?_⟩
    · show cG9w (w_fi ws (n_v (vs ++ [Value.int x]) 3) 5) (w_fi ws (n_v (vs ++ [Value.int x]) 3) 11) (w_fi ws (n_v (vs ++ [Value.int x]) 7) 0) (w_fi ws (n_v (vs ++ [Value.int x]) 7) 1) (w_fi ws (n_v (vs ++ [Value.int x]) 7) 2) (w_ei ws (w_ar ws (n_v (vs ++ [Value.int x]) 3) 0)) (w_ei ws (w_ar ws (n_v (vs ++ [Value.int x]) 3) 10)) (w_ei ws (w_ar ws (n_v (vs ++ [Value.int x]) 7) 4)) (w_ei ws (w_ar ws (n_v (vs ++ [Value.int x]) 7) 3)) (w_ei ws (w_ar ws (n_v (vs ++ [Value.int x]) 7) 7)) (w_ei ws (w_ar ws (n_v (vs ++ [Value.int x]) 7) 8)) (v_iv (n_v (vs ++ [Value.int x]) 15))
      simp only [e_3, e_7, e_15, q7, q3]
      exact vc_Re_readEdges_32_2 (v_iv (n_v vs 4)) (v_iv (n_v vs 9)) (w_fi ws (n_v vs 0) 7) (w_ei ws (w_ar ws (n_v vs 1) 7)) (w_ei ws (w_ar ws (n_v vs 1) 8)) (w_fi ws (n_v vs 1) 0) (w_fi ws (n_v vs 1) 1) (w_ei ws (w_ar ws (n_v vs 0) 0)) (w_ei ws (w_ar ws (n_v vs 0) 10)) (w_ei ws (w_ar ws (n_v vs 1) 4)) (w_ei ws (w_ar ws (n_v vs 1) 3)) (w_fi ws (n_v vs 0) 5) (w_fi ws (n_v vs 0) 6) (w_fi ws (n_v vs 0) 8) (w_fi ws (n_v vs 0) 9) (w_fi ws (n_v vs 0) 11) (w_fi ws (n_v vs 1) 2) (v_iv (Value.int x)) k4 k9 g1 f9 kz_0_5 kz_0_6 kz_0_7 kz_0_8 kz_0_9 kz_0_11 kz_1_0 kz_1_1 kz_1_2 ex2
  have nf3 : fc_1 PRD (20, [3], [50, 1, 0, 2, 1, 3, 2, 0, 2, 0, 0]) ws (vs ++ [Value.int x]) := by
    refine ⟨nf_inA hl rfl, sgq_1985 ?_⟩
    · show w_fi ws (n_v (vs ++ [Value.int x]) 3) 2 = 0
      simp only [e_3, q3]
      exact vc_Re_readEdges_32_3 (w_fi ws (n_v vs 0) 2) f13 kz_0_2
  have nf4 : fc_1 PRD (20, [2, 15], [30, 0, 1, 0, 0, -1, 0, 0]) ws (vs ++ [Value.int x]) := by
    refine ⟨nf_inA hl rfl, sgq_201 ?_⟩
    · show 1 * v_iv (n_v (vs ++ [Value.int x]) 2) + ((-1) * v_iv (n_v (vs ++ [Value.int x]) 15) + 0) ≤ 0
      simp only [e_2, e_15]
      exact vc_Re_readEdges_32_4 (v_iv (n_v vs 2)) (w_fi ws (n_v vs 0) 6) (v_iv (Value.int x)) k2 f10 kz_0_6 ex2
  exact ⟨(fun _ h => (by cases h)), [Value.int x], ag_one hx, List.forall_mem_cons.mpr ⟨⟨show (20 : Nat) < 100 from by decide, nf0⟩, List.forall_mem_cons.mpr ⟨⟨show (20 : Nat) < 100 from by decide, nf1⟩, List.forall_mem_cons.mpr ⟨⟨show (20 : Nat) < 100 from by decide, nf2⟩, List.forall_mem_cons.mpr ⟨⟨show (20 : Nat) < 100 from by decide, nf3⟩, List.forall_mem_cons.mpr ⟨⟨show (20 : Nat) < 100 from by decide, nf4⟩, (fun _ h => (by cases h))⟩⟩⟩⟩⟩, (fun _ h => (by cases h))⟩
set_option maxHeartbeats 4000000 in
theorem vc_Re_readEdges_33_0 (tail_0o1 : Int → Int) (head_0o1 : Int → Int) (nodes_0o1 : Int) (edges_0o1 : Int) (near_0o1 : Int → Int) (f3 : GNB (nodes_0o1) (edges_0o1) (near_0o1) (tail_0o1) (head_0o1)) (kz_1_0 : 0 ≤ nodes_0o1 ∧ nodes_0o1 ≤ 24) (kz_1_1 : 0 ≤ edges_0o1 ∧ edges_0o1 ≤ 48) : GNB (nodes_0o1) (edges_0o1) (near_0o1) (tail_0o1) (head_0o1) := by
  first
    | assumption
  
set_option maxHeartbeats 4000000 in
theorem vc_Re_readEdges_33_1 (tail_0o1 : Int → Int) (head_0o1 : Int → Int) (nodes_0o1 : Int) (edges_0o1 : Int) (f4 : GKE (nodes_0o1) (edges_0o1) (tail_0o1) (head_0o1)) (kz_1_0 : 0 ≤ nodes_0o1 ∧ nodes_0o1 ≤ 24) (kz_1_1 : 0 ≤ edges_0o1 ∧ edges_0o1 ≤ 48) : GKE (nodes_0o1) (edges_0o1) (tail_0o1) (head_0o1) := by
  first
    | assumption
  
set_option maxHeartbeats 4000000 in
theorem vc_Re_readEdges_33_2 (x16 : Int) (x17 : Int) (tape_0 : Int → Int) (open_0 : Int → Int) (nameLength_0o1 : Int → Int) (name_0o1 : Int → Int) (tail_0o1 : Int → Int) (head_0o1 : Int → Int) (end_0 : Int) (depth_0 : Int) (nodes_0o1 : Int) (edges_0o1 : Int) (groups_0o1 : Int) (next_0 : Int) (fault_0 : Int) (faultPlace_0 : Int) (k16 : 0 ≤ x16 ∧ x16 ≤ 0) (k17 : 0 ≤ x17 ∧ x17 ≤ 0) (f0 : x16 = 0) (f12 : cO13 (end_0) (next_0) (depth_0) (fault_0) (faultPlace_0) (nodes_0o1) (edges_0o1) (groups_0o1) (tape_0) (open_0) (nameLength_0o1) (name_0o1) (tail_0o1) (head_0o1) (x16)) (kz_0_2 : (-1) ≤ fault_0 ∧ fault_0 ≤ 5) (kz_0_3 : (-1) ≤ faultPlace_0 ∧ faultPlace_0 ≤ 2000) (kz_0_5 : 0 ≤ end_0 ∧ end_0 ≤ 2000) (kz_0_6 : 0 ≤ next_0 ∧ next_0 ≤ 2000) (kz_0_11 : 0 ≤ depth_0 ∧ depth_0 ≤ 4) (kz_1_0 : 0 ≤ nodes_0o1 ∧ nodes_0o1 ≤ 24) (kz_1_1 : 0 ≤ edges_0o1 ∧ edges_0o1 ≤ 48) (kz_1_2 : 0 ≤ groups_0o1 ∧ groups_0o1 ≤ 8) : cO0 (end_0) (next_0) (depth_0) (fault_0) (faultPlace_0) (nodes_0o1) (edges_0o1) (groups_0o1) (tape_0) (open_0) (nameLength_0o1) (name_0o1) (tail_0o1) (head_0o1) (x17) := by
  first
    | exact cO0_f ‹FSY _ _ _ _› (by omega) (by omega) (by omega)
    | exact cO_13 ‹cO13 _ _ _ _ _ _ _ _ _ _ _ _ _ _ _› (by omega) (by omega)
    | exact cO0_t (s_go (le_s ‹cLE _ _ _ _ _ _ _ _ _ _ _ _ _ _ _ _› (by omega)) (by omega) rfl) (by omega) (by omega)
    | exact cO0_t (s_go (n13_s ‹TKC _ _ _ _ _ _ _› ‹cG13 _ _ _ _ _ _ _ _ _ _ _ _›) (by omega) rfl) (by omega) (by omega)
set_option maxHeartbeats 4000000 in
theorem vc_Re_readEdges_33_3 (x2 : Int) (x15 : Int) (next_0 : Int) (k2 : 0 ≤ x2 ∧ x2 ≤ 2000) (k15 : 0 ≤ x15 ∧ x15 ≤ 2000) (f2 : 1 * x2 + ((-1) * x15 + 0) ≤ 0) (f13 : 1 * x15 + ((-1) * next_0 + 0) ≤ 0) (kz_0_6 : 0 ≤ next_0 ∧ next_0 ≤ 2000) : 1 * x2 + ((-1) * next_0 + 0) ≤ 0 := by
  first
    | omega
  
set_option maxHeartbeats 4000000 in
theorem vc_Re_readEdges_33_4 (tail_0o1 : Int → Int) (head_0o1 : Int → Int) (edges_0o1 : Int) (link_0o1 : Int → Int) (f8 : LKG (edges_0o1) (tail_0o1) (head_0o1) (link_0o1)) (kz_1_1 : 0 ≤ edges_0o1 ∧ edges_0o1 ≤ 48) : LKG (edges_0o1) (tail_0o1) (head_0o1) (link_0o1) := by
  assumption
def o_Re_readEdges_33 : or_T := (220, 18, [(0, (2, 0, 0, [8])), (1, (2, 0, 0, [164])), (2, (0, 0, 2000, [])), (15, (0, 0, 2000, [])), (16, (0, 0, 0, [])), (17, (0, 0, 0, []))], [(8, [16], [0]), (20, [2, 15], [30, 0, 1, 0, 0, -1, 0, 0]), (20, [7], [60, 2, 3, 670, 0, 1, 14, 7, 8]), (20, [7], [60, 2, 2, 596, 0, 1, 7, 8]), (24, [1, 7], []), (20, [7], [60, 1, 3, 1085, 1, 7, 8, 15]), (24, [0, 3], []), (20, [3, 7, 16], [60, 8, 6, 1064, 5, 6, 11, 2, 3, 1000, 1001, 1002, 0, 10, 1004, 1003, 1007, 1008]), (20, [15, 3], [30, 0, 1, 0, 0, -1, 1, 6])], [], [], [(20, [1], [60, 2, 3, 670, 0, 1, 14, 7, 8]), (20, [1], [60, 2, 2, 596, 0, 1, 7, 8]), (20, [0, 1, 17], [60, 8, 6, 1063, 5, 6, 11, 2, 3, 1000, 1001, 1002, 0, 10, 1004, 1003, 1007, 1008]), (20, [2, 0], [30, 0, 1, 0, 0, -1, 1, 6]), (20, [1], [60, 1, 3, 1085, 1, 7, 8, 15])], [], [])
theorem oo_Re_readEdges_33 {kA : Nat → ClassId} : or_ok PRD kA GG o_Re_readEdges_33 := by
  refine or_mk fun A ta ws vs hD hth hl => ?_
  intro t0 r0 t1 r1 t2 k2 t15 k15 t16 k16 t17 k17 f0 f2 f3 f4 f5 f8 f9 f12 f13
  replace f3 := shm_825 f3
  replace f4 := shm_386 f4
  replace f5 := shm_5 f5
  replace f8 := shm_827 f8
  replace f9 := shm_5 f9
  replace f12 := shm_1991 f12
  replace f13 := shm_1527 f13
  have q7 : n_v vs 7 = n_v vs 1 := f5.symm
  have q3 : n_v vs 3 = n_v vs 0 := f9.symm
  simp only [q7, q3] at f3 f4 f8 f12 f13
  have kz_0_2 := fdq_97 hD hth r0
  have kz_0_3 := fdq_98 hD hth r0
  have kz_0_5 := fdq_207 hD hth r0
  have kz_0_6 := fdq_208 hD hth r0
  have kz_0_11 := fdq_320 hD hth r0
  have kz_1_0 := fdq_73 hD hth r1
  have kz_1_1 := fdq_74 hD hth r1
  have kz_1_2 := fdq_206 hD hth r1
  have nf0 : fc_1 PRD (20, [1], [60, 2, 3, 670, 0, 1, 14, 7, 8]) ws (vs) := ⟨nf_in hl rfl, sgq_825 (vc_Re_readEdges_33_0 (w_ei ws (w_ar ws (n_v vs 1) 7)) (w_ei ws (w_ar ws (n_v vs 1) 8)) (w_fi ws (n_v vs 1) 0) (w_fi ws (n_v vs 1) 1) (w_ei ws (w_ar ws (n_v vs 1) 14)) f3 kz_1_0 kz_1_1)⟩
  have nf1 : fc_1 PRD (20, [1], [60, 2, 2, 596, 0, 1, 7, 8]) ws (vs) := ⟨nf_in hl rfl, sgq_386 (vc_Re_readEdges_33_1 (w_ei ws (w_ar ws (n_v vs 1) 7)) (w_ei ws (w_ar ws (n_v vs 1) 8)) (w_fi ws (n_v vs 1) 0) (w_fi ws (n_v vs 1) 1) f4 kz_1_0 kz_1_1)⟩
  have nf2 : fc_1 PRD (20, [0, 1, 17], [60, 8, 6, 1063, 5, 6, 11, 2, 3, 1000, 1001, 1002, 0, 10, 1004, 1003, 1007, 1008]) ws (vs) := ⟨nf_in hl rfl, sgq_2023 (vc_Re_readEdges_33_2 (v_iv (n_v vs 16)) (v_iv (n_v vs 17)) (w_ei ws (w_ar ws (n_v vs 0) 0)) (w_ei ws (w_ar ws (n_v vs 0) 10)) (w_ei ws (w_ar ws (n_v vs 1) 4)) (w_ei ws (w_ar ws (n_v vs 1) 3)) (w_ei ws (w_ar ws (n_v vs 1) 7)) (w_ei ws (w_ar ws (n_v vs 1) 8)) (w_fi ws (n_v vs 0) 5) (w_fi ws (n_v vs 0) 11) (w_fi ws (n_v vs 1) 0) (w_fi ws (n_v vs 1) 1) (w_fi ws (n_v vs 1) 2) (w_fi ws (n_v vs 0) 6) (w_fi ws (n_v vs 0) 2) (w_fi ws (n_v vs 0) 3) k16 k17 (shm_192 f0) f12 kz_0_2 kz_0_3 kz_0_5 kz_0_6 kz_0_11 kz_1_0 kz_1_1 kz_1_2)⟩
  have nf3 : fc_1 PRD (20, [2, 0], [30, 0, 1, 0, 0, -1, 1, 6]) ws (vs) := ⟨nf_in hl rfl, sgq_1527 (vc_Re_readEdges_33_3 (v_iv (n_v vs 2)) (v_iv (n_v vs 15)) (w_fi ws (n_v vs 0) 6) k2 k15 (shm_201 f2) f13 kz_0_6)⟩
  have nf4 : fc_1 PRD (20, [1], [60, 1, 3, 1085, 1, 7, 8, 15]) ws (vs) := ⟨nf_in hl rfl, sgq_827 (vc_Re_readEdges_33_4 (w_ei ws (w_ar ws (n_v vs 1) 7)) (w_ei ws (w_ar ws (n_v vs 1) 8)) (w_fi ws (n_v vs 1) 1) (w_ei ws (w_ar ws (n_v vs 1) 15)) f8 kz_1_1)⟩
  refine ⟨(fun _ h => (by cases h)), [], trivial, ?_, (fun _ h => (by cases h))⟩
  rw [List.append_nil]
  exact List.forall_mem_cons.mpr ⟨⟨show (20 : Nat) < 100 from by decide, nf0⟩, List.forall_mem_cons.mpr ⟨⟨show (20 : Nat) < 100 from by decide, nf1⟩, List.forall_mem_cons.mpr ⟨⟨show (20 : Nat) < 100 from by decide, nf2⟩, List.forall_mem_cons.mpr ⟨⟨show (20 : Nat) < 100 from by decide, nf3⟩, List.forall_mem_cons.mpr ⟨⟨show (20 : Nat) < 100 from by decide, nf4⟩, (fun _ h => (by cases h))⟩⟩⟩⟩⟩
set_option maxHeartbeats 4000000 in
theorem vc_Re_readEdges_34_0 (x14 : Int) (x16 : Int) (number_0 : Int) (k14 : 9 ≤ x14 ∧ x14 ≤ 9) (k16 : 1 ≤ x16 ∧ x16 ≤ 1) (f10 : (1 * x16 + 0 ≤ 0) ∨ (1 * number_0 + ((-1) * x14 + 0) ≤ 0)) (f11 : (1 * x16 + 0 ≤ 0) ∨ ((-1) * number_0 + 0 ≤ (-1))) (kz_0_9 : (-176) ≤ number_0 ∧ number_0 ≤ 1000000) : 1 * number_0 + 0 ≤ 9 := by
  first
    | omega
    | (skip; exact (cO13_1 ‹cO13 _ _ _ _ _ _ _ _ _ _ _ _ _ _ _› (by omega) rfl).1)
set_option maxHeartbeats 4000000 in
theorem vc_Re_readEdges_34_1 (x16 : Int) (number_0 : Int) (k16 : 1 ≤ x16 ∧ x16 ≤ 1) (f11 : (1 * x16 + 0 ≤ 0) ∨ ((-1) * number_0 + 0 ≤ (-1))) (kz_0_9 : (-176) ≤ number_0 ∧ number_0 ≤ 1000000) : (-1) * number_0 + 0 ≤ (-1) := by
  first
    | omega
    | (skip; exact (cO13_1 ‹cO13 _ _ _ _ _ _ _ _ _ _ _ _ _ _ _› (by omega) rfl).1)
set_option maxHeartbeats 4000000 in
theorem vc_Re_readEdges_34_2 (x16 : Int) (tape_0 : Int → Int) (open_0 : Int → Int) (nameLength_0o1 : Int → Int) (name_0o1 : Int → Int) (tail_0o1 : Int → Int) (head_0o1 : Int → Int) (end_0 : Int) (depth_0 : Int) (nodes_0o1 : Int) (edges_0o1 : Int) (groups_0o1 : Int) (next_0 : Int) (fault_0 : Int) (faultPlace_0 : Int) (k16 : 1 ≤ x16 ∧ x16 ≤ 1) (f0 : x16 ≠ 0) (f12 : cO13 (end_0) (next_0) (depth_0) (fault_0) (faultPlace_0) (nodes_0o1) (edges_0o1) (groups_0o1) (tape_0) (open_0) (nameLength_0o1) (name_0o1) (tail_0o1) (head_0o1) (x16)) (kz_0_2 : (-1) ≤ fault_0 ∧ fault_0 ≤ 5) (kz_0_3 : (-1) ≤ faultPlace_0 ∧ faultPlace_0 ≤ 2000) (kz_0_5 : 0 ≤ end_0 ∧ end_0 ≤ 2000) (kz_0_6 : 0 ≤ next_0 ∧ next_0 ≤ 2000) (kz_0_11 : 0 ≤ depth_0 ∧ depth_0 ≤ 4) (kz_1_0 : 0 ≤ nodes_0o1 ∧ nodes_0o1 ≤ 24) (kz_1_1 : 0 ≤ edges_0o1 ∧ edges_0o1 ≤ 48) (kz_1_2 : 0 ≤ groups_0o1 ∧ groups_0o1 ≤ 8) : cG13n (end_0) (next_0) (depth_0) (nodes_0o1) (edges_0o1) (groups_0o1) (tape_0) (open_0) (nameLength_0o1) (name_0o1) (tail_0o1) (head_0o1) := by
  first
    | assumption
    | exact (cO13_1 ‹cO13 _ _ _ _ _ _ _ _ _ _ _ _ _ _ _› (by omega) rfl).2
set_option maxHeartbeats 4000000 in
theorem vc_Re_readEdges_34_3 (x2 : Int) (x15 : Int) (next_0 : Int) (k2 : 0 ≤ x2 ∧ x2 ≤ 2000) (k15 : 0 ≤ x15 ∧ x15 ≤ 2000) (f2 : 1 * x2 + ((-1) * x15 + 0) ≤ 0) (f13 : 1 * x15 + ((-1) * next_0 + 0) ≤ 0) (kz_0_6 : 0 ≤ next_0 ∧ next_0 ≤ 2000) : 1 * x2 + ((-1) * next_0 + 0) ≤ 0 := by
  first
    | omega
    | (skip; exact (cO13_1 ‹cO13 _ _ _ _ _ _ _ _ _ _ _ _ _ _ _› (by omega) rfl).1)
set_option maxHeartbeats 4000000 in
theorem vc_Re_readEdges_34_4 (x16 : Int) (tape_0 : Int → Int) (open_0 : Int → Int) (nameLength_0o1 : Int → Int) (name_0o1 : Int → Int) (tail_0o1 : Int → Int) (head_0o1 : Int → Int) (end_0 : Int) (depth_0 : Int) (nodes_0o1 : Int) (edges_0o1 : Int) (groups_0o1 : Int) (next_0 : Int) (fault_0 : Int) (faultPlace_0 : Int) (k16 : 1 ≤ x16 ∧ x16 ≤ 1) (f0 : x16 ≠ 0) (f12 : cO13 (end_0) (next_0) (depth_0) (fault_0) (faultPlace_0) (nodes_0o1) (edges_0o1) (groups_0o1) (tape_0) (open_0) (nameLength_0o1) (name_0o1) (tail_0o1) (head_0o1) (x16)) (kz_0_2 : (-1) ≤ fault_0 ∧ fault_0 ≤ 5) (kz_0_3 : (-1) ≤ faultPlace_0 ∧ faultPlace_0 ≤ 2000) (kz_0_5 : 0 ≤ end_0 ∧ end_0 ≤ 2000) (kz_0_6 : 0 ≤ next_0 ∧ next_0 ≤ 2000) (kz_0_11 : 0 ≤ depth_0 ∧ depth_0 ≤ 4) (kz_1_0 : 0 ≤ nodes_0o1 ∧ nodes_0o1 ≤ 24) (kz_1_1 : 0 ≤ edges_0o1 ∧ edges_0o1 ≤ 48) (kz_1_2 : 0 ≤ groups_0o1 ∧ groups_0o1 ≤ 8) : fault_0 = 0 := by
  first
    | omega
    | (skip; exact (cO13_1 ‹cO13 _ _ _ _ _ _ _ _ _ _ _ _ _ _ _› (by omega) rfl).1)
def o_Re_readEdges_34 : or_T := (223, 17, [(0, (2, 0, 0, [8])), (1, (2, 0, 0, [164])), (2, (0, 0, 2000, [])), (14, (0, 9, 9, [])), (15, (0, 0, 2000, [])), (16, (0, 1, 1, []))], [(8, [16], [1]), (20, [2, 15], [30, 0, 1, 0, 0, -1, 0, 0]), (24, [1, 7], []), (24, [0, 3], []), (20, [16, 3, 14], [31, 1, 0, 1, 0, 0, 0, 1, 1, 9, -1, 0, 0]), (20, [16, 3], [31, 1, 0, 1, 0, 0, -1, -1, 1, 9]), (20, [3, 7, 16], [60, 8, 6, 1064, 5, 6, 11, 2, 3, 1000, 1001, 1002, 0, 10, 1004, 1003, 1007, 1008]), (20, [15, 3], [30, 0, 1, 0, 0, -1, 1, 6])], [], [], [(20, [3], [30, 9, 1, 1, 9]), (20, [3], [30, -1, -1, 1, 9]), (20, [3, 7], [60, 6, 6, 1057, 5, 6, 11, 1000, 1001, 1002, 0, 10, 1004, 1003, 1007, 1008]), (20, [2, 3], [30, 0, 1, 0, 0, -1, 1, 6]), (20, [3], [50, 1, 0, 2, 1, 3, 2, 0, 2, 0, 0])], [], [])
theorem oo_Re_readEdges_34 {kA : Nat → ClassId} : or_ok PRD kA GG o_Re_readEdges_34 := by
  refine or_mk fun A ta ws vs hD hth hl => ?_
  intro t0 r0 t1 r1 t2 k2 t14 k14 t15 k15 t16 k16 f0 f2 f5 f9 f10 f11 f12 f13
  replace f0 := shm_142 f0
  replace f2 := shm_201 f2
  replace f5 := shm_5 f5
  replace f9 := shm_5 f9
  replace f10 := shm_1989 f10
  replace f11 := shm_1990 f11
  replace f12 := shm_1991 f12
  replace f13 := shm_1527 f13
  have q7 : n_v vs 7 = n_v vs 1 := f5.symm
  have q3 : n_v vs 3 = n_v vs 0 := f9.symm
  simp only [q7, q3] at f10 f11 f12 f13
  have kz_0_2 := fdq_97 hD hth r0
  have kz_0_3 := fdq_98 hD hth r0
  have kz_0_5 := fdq_207 hD hth r0
  have kz_0_6 := fdq_208 hD hth r0
  have kz_0_9 := fdq_296 hD hth r0
  have kz_0_11 := fdq_320 hD hth r0
  have kz_1_0 := fdq_73 hD hth r1
  have kz_1_1 := fdq_74 hD hth r1
  have kz_1_2 := fdq_206 hD hth r1
  have nf0 : fc_1 PRD (20, [3], [30, 9, 1, 1, 9]) ws (vs) := by
    refine ⟨nf_in hl rfl, sgq_2138 ?_⟩
    · show 1 * w_fi ws (n_v vs 3) 9 + 0 ≤ 9
      rw [q3]
      exact vc_Re_readEdges_34_0 (v_iv (n_v vs 14)) (v_iv (n_v vs 16)) (w_fi ws (n_v vs 0) 9) k14 k16 f10 f11 kz_0_9
  have nf1 : fc_1 PRD (20, [3], [30, -1, -1, 1, 9]) ws (vs) := by
    refine ⟨nf_in hl rfl, sgq_2139 ?_⟩
    · show (-1) * w_fi ws (n_v vs 3) 9 + 0 ≤ (-1)
      rw [q3]
      exact vc_Re_readEdges_34_1 (v_iv (n_v vs 16)) (w_fi ws (n_v vs 0) 9) k16 f11 kz_0_9
  have nf2 : fc_1 PRD (20, [3, 7], [60, 6, 6, 1057, 5, 6, 11, 1000, 1001, 1002, 0, 10, 1004, 1003, 1007, 1008]) ws (vs) := by
    refine ⟨nf_in hl rfl, sgq_2140 ?_⟩
    · show cG13n (w_fi ws (n_v vs 3) 5) (w_fi ws (n_v vs 3) 6) (w_fi ws (n_v vs 3) 11) (w_fi ws (n_v vs 7) 0) (w_fi ws (n_v vs 7) 1) (w_fi ws (n_v vs 7) 2) (w_ei ws (w_ar ws (n_v vs 3) 0)) (w_ei ws (w_ar ws (n_v vs 3) 10)) (w_ei ws (w_ar ws (n_v vs 7) 4)) (w_ei ws (w_ar ws (n_v vs 7) 3)) (w_ei ws (w_ar ws (n_v vs 7) 7)) (w_ei ws (w_ar ws (n_v vs 7) 8))
      simp only [q7, q3]
      exact vc_Re_readEdges_34_2 (v_iv (n_v vs 16)) (w_ei ws (w_ar ws (n_v vs 0) 0)) (w_ei ws (w_ar ws (n_v vs 0) 10)) (w_ei ws (w_ar ws (n_v vs 1) 4)) (w_ei ws (w_ar ws (n_v vs 1) 3)) (w_ei ws (w_ar ws (n_v vs 1) 7)) (w_ei ws (w_ar ws (n_v vs 1) 8)) (w_fi ws (n_v vs 0) 5) (w_fi ws (n_v vs 0) 11) (w_fi ws (n_v vs 1) 0) (w_fi ws (n_v vs 1) 1) (w_fi ws (n_v vs 1) 2) (w_fi ws (n_v vs 0) 6) (w_fi ws (n_v vs 0) 2) (w_fi ws (n_v vs 0) 3) k16 f0 f12 kz_0_2 kz_0_3 kz_0_5 kz_0_6 kz_0_11 kz_1_0 kz_1_1 kz_1_2
  have nf3 : fc_1 PRD (20, [2, 3], [30, 0, 1, 0, 0, -1, 1, 6]) ws (vs) := by
    refine ⟨nf_in hl rfl, sgq_1527 ?_⟩
    · show 1 * v_iv (n_v vs 2) + ((-1) * w_fi ws (n_v vs 3) 6 + 0) ≤ 0
      rw [q3]
      exact vc_Re_readEdges_34_3 (v_iv (n_v vs 2)) (v_iv (n_v vs 15)) (w_fi ws (n_v vs 0) 6) k2 k15 f2 f13 kz_0_6
  have nf4 : fc_1 PRD (20, [3], [50, 1, 0, 2, 1, 3, 2, 0, 2, 0, 0]) ws (vs) := by
    refine ⟨nf_in hl rfl, sgq_1985 ?_⟩
    · show w_fi ws (n_v vs 3) 2 = 0
      rw [q3]
      exact vc_Re_readEdges_34_4 (v_iv (n_v vs 16)) (w_ei ws (w_ar ws (n_v vs 0) 0)) (w_ei ws (w_ar ws (n_v vs 0) 10)) (w_ei ws (w_ar ws (n_v vs 1) 4)) (w_ei ws (w_ar ws (n_v vs 1) 3)) (w_ei ws (w_ar ws (n_v vs 1) 7)) (w_ei ws (w_ar ws (n_v vs 1) 8)) (w_fi ws (n_v vs 0) 5) (w_fi ws (n_v vs 0) 11) (w_fi ws (n_v vs 1) 0) (w_fi ws (n_v vs 1) 1) (w_fi ws (n_v vs 1) 2) (w_fi ws (n_v vs 0) 6) (w_fi ws (n_v vs 0) 2) (w_fi ws (n_v vs 0) 3) k16 f0 f12 kz_0_2 kz_0_3 kz_0_5 kz_0_6 kz_0_11 kz_1_0 kz_1_1 kz_1_2
  refine ⟨(fun _ h => (by cases h)), [], trivial, ?_, (fun _ h => (by cases h))⟩
  rw [List.append_nil]
  exact List.forall_mem_cons.mpr ⟨⟨show (20 : Nat) < 100 from by decide, nf0⟩, List.forall_mem_cons.mpr ⟨⟨show (20 : Nat) < 100 from by decide, nf1⟩, List.forall_mem_cons.mpr ⟨⟨show (20 : Nat) < 100 from by decide, nf2⟩, List.forall_mem_cons.mpr ⟨⟨show (20 : Nat) < 100 from by decide, nf3⟩, List.forall_mem_cons.mpr ⟨⟨show (20 : Nat) < 100 from by decide, nf4⟩, (fun _ h => (by cases h))⟩⟩⟩⟩⟩
set_option maxHeartbeats 4000000 in
theorem vc_Re_readEdges_35_0 (number_0 : Int) (gx : Int) (kz_0_9 : (-176) ≤ number_0 ∧ number_0 ≤ 1000000) (ex2 : gx = number_0) : 1 * number_0 + ((-1) * gx + 0) ≤ 0 := by
  first
    | omega
  
set_option maxHeartbeats 4000000 in
theorem vc_Re_readEdges_35_1 (number_0 : Int) (gx : Int) (kz_0_9 : (-176) ≤ number_0 ∧ number_0 ≤ 1000000) (ex2 : gx = number_0) : (-1) * number_0 + (1 * gx + 0) ≤ 0 := by
  first
    | omega
  
set_option maxHeartbeats 4000000 in
theorem vc_Re_readEdges_35_2 (next_0 : Int) (gy : Int) (kz_0_6 : 0 ≤ next_0 ∧ next_0 ≤ 2000) (ey2 : gy = next_0) : 1 * next_0 + ((-1) * gy + 0) ≤ 0 := by
  first
    | omega
  
end
section

set_option maxHeartbeats 4000000 in
theorem vc_Re_readEdges_35_3 (next_0 : Int) (gy : Int) (kz_0_6 : 0 ≤ next_0 ∧ next_0 ≤ 2000) (ey2 : gy = next_0) : (-1) * next_0 + (1 * gy + 0) ≤ 0 := by
  first
    | omega
  
set_option maxHeartbeats 4000000 in
theorem vc_Re_readEdges_35_4 (x4 : Int) (kind_0 : Int) (tail_0o1 : Int → Int) (head_0o1 : Int → Int) (nodes_0o1 : Int) (edges_0o1 : Int) (tape_0 : Int → Int) (open_0 : Int → Int) (nameLength_0o1 : Int → Int) (name_0o1 : Int → Int) (end_0 : Int) (next_0 : Int) (begin_0 : Int) (number_0 : Int) (depth_0 : Int) (groups_0o1 : Int) (gy : Int) (k4 : 0 ≤ x4 ∧ x4 ≤ 23) (f9 : cLE (end_0) (next_0) (kind_0) (begin_0) (number_0) (depth_0) (nodes_0o1) (edges_0o1) (groups_0o1) (tape_0) (open_0) (nameLength_0o1) (name_0o1) (tail_0o1) (head_0o1) (x4)) (kz_0_5 : 0 ≤ end_0 ∧ end_0 ≤ 2000) (kz_0_6 : 0 ≤ next_0 ∧ next_0 ≤ 2000) (kz_0_7 : (-128) ≤ kind_0 ∧ kind_0 ≤ 127) (kz_0_8 : 0 ≤ begin_0 ∧ begin_0 ≤ 2000) (kz_0_9 : (-176) ≤ number_0 ∧ number_0 ≤ 1000000) (kz_0_11 : 0 ≤ depth_0 ∧ depth_0 ≤ 4) (kz_1_0 : 0 ≤ nodes_0o1 ∧ nodes_0o1 ≤ 24) (kz_1_1 : 0 ≤ edges_0o1 ∧ edges_0o1 ≤ 48) (kz_1_2 : 0 ≤ groups_0o1 ∧ groups_0o1 ≤ 8) (ey2 : gy = next_0) : CLM (end_0) (next_0) := by
  exact clm_le ‹cLE _ _ _ _ _ _ _ _ _ _ _ _ _ _ _ _› (by omega)
set_option maxHeartbeats 4000000 in
theorem vc_Re_readEdges_35_5 (x4 : Int) (x9 : Int) (kind_0 : Int) (tail_0o1 : Int → Int) (head_0o1 : Int → Int) (nodes_0o1 : Int) (edges_0o1 : Int) (tape_0 : Int → Int) (open_0 : Int → Int) (nameLength_0o1 : Int → Int) (name_0o1 : Int → Int) (end_0 : Int) (next_0 : Int) (begin_0 : Int) (number_0 : Int) (depth_0 : Int) (groups_0o1 : Int) (gy : Int) (k4 : 0 ≤ x4 ∧ x4 ≤ 23) (k9 : 62 ≤ x9 ∧ x9 ≤ 62) (g1 : x9 = kind_0) (f9 : cLE (end_0) (next_0) (kind_0) (begin_0) (number_0) (depth_0) (nodes_0o1) (edges_0o1) (groups_0o1) (tape_0) (open_0) (nameLength_0o1) (name_0o1) (tail_0o1) (head_0o1) (x4)) (kz_0_5 : 0 ≤ end_0 ∧ end_0 ≤ 2000) (kz_0_6 : 0 ≤ next_0 ∧ next_0 ≤ 2000) (kz_0_7 : (-128) ≤ kind_0 ∧ kind_0 ≤ 127) (kz_0_8 : 0 ≤ begin_0 ∧ begin_0 ≤ 2000) (kz_0_9 : (-176) ≤ number_0 ∧ number_0 ≤ 1000000) (kz_0_11 : 0 ≤ depth_0 ∧ depth_0 ≤ 4) (kz_1_0 : 0 ≤ nodes_0o1 ∧ nodes_0o1 ≤ 24) (kz_1_1 : 0 ≤ edges_0o1 ∧ edges_0o1 ≤ 48) (kz_1_2 : 0 ≤ groups_0o1 ∧ groups_0o1 ≤ 8) (ey2 : gy = next_0) : cG4 (end_0) (depth_0) (nodes_0o1) (edges_0o1) (groups_0o1) (tape_0) (open_0) (nameLength_0o1) (name_0o1) (tail_0o1) (head_0o1) (x4) (gy) := by
  exact le_4 ‹cLE _ _ _ _ _ _ _ _ _ _ _ _ _ _ _ _› (by omega) (by omega)
set_option maxHeartbeats 4000000 in
theorem vc_Re_readEdges_35_6 (x2 : Int) (next_0 : Int) (gy : Int) (k2 : 0 ≤ x2 ∧ x2 ≤ 2000) (f10 : 1 * x2 + ((-1) * next_0 + 0) ≤ 0) (kz_0_6 : 0 ≤ next_0 ∧ next_0 ≤ 2000) (ey2 : gy = next_0) : 1 * x2 + ((-1) * gy + 0) ≤ 0 := by
  first
    | omega
  
set_option maxHeartbeats 4000000 in
theorem vc_Re_readEdges_35_7 (x4 : Int) (x9 : Int) (kind_0 : Int) (tail_0o1 : Int → Int) (head_0o1 : Int → Int) (nodes_0o1 : Int) (edges_0o1 : Int) (tape_0 : Int → Int) (open_0 : Int → Int) (nameLength_0o1 : Int → Int) (name_0o1 : Int → Int) (end_0 : Int) (next_0 : Int) (begin_0 : Int) (number_0 : Int) (depth_0 : Int) (groups_0o1 : Int) (gy : Int) (k4 : 0 ≤ x4 ∧ x4 ≤ 23) (k9 : 62 ≤ x9 ∧ x9 ≤ 62) (g1 : x9 = kind_0) (f9 : cLE (end_0) (next_0) (kind_0) (begin_0) (number_0) (depth_0) (nodes_0o1) (edges_0o1) (groups_0o1) (tape_0) (open_0) (nameLength_0o1) (name_0o1) (tail_0o1) (head_0o1) (x4)) (kz_0_5 : 0 ≤ end_0 ∧ end_0 ≤ 2000) (kz_0_6 : 0 ≤ next_0 ∧ next_0 ≤ 2000) (kz_0_7 : (-128) ≤ kind_0 ∧ kind_0 ≤ 127) (kz_0_8 : 0 ≤ begin_0 ∧ begin_0 ≤ 2000) (kz_0_9 : (-176) ≤ number_0 ∧ number_0 ≤ 1000000) (kz_0_11 : 0 ≤ depth_0 ∧ depth_0 ≤ 4) (kz_1_0 : 0 ≤ nodes_0o1 ∧ nodes_0o1 ≤ 24) (kz_1_1 : 0 ≤ edges_0o1 ∧ edges_0o1 ≤ 48) (kz_1_2 : 0 ≤ groups_0o1 ∧ groups_0o1 ≤ 8) (ey2 : gy = next_0) : cU4 (end_0) (depth_0) (tape_0) (open_0) (x4) (gy) := by
  exact cu_4 (le_4 ‹cLE _ _ _ _ _ _ _ _ _ _ _ _ _ _ _ _› (by omega) (by omega))
def o_Re_readEdges_35 : or_T := (95, 14, [(0, (2, 0, 0, [8])), (1, (2, 0, 0, [164])), (2, (0, 0, 2000, [])), (4, (0, 0, 23, [])), (9, (0, 62, 62, []))], [(9, [9, 3], [7]), (24, [1, 7], []), (20, [3, 7, 4], [60, 9, 6, 1061, 5, 6, 7, 8, 9, 11, 1000, 1001, 1002, 0, 10, 1004, 1003, 1007, 1008]), (20, [2, 3], [30, 0, 1, 0, 0, -1, 1, 6]), (24, [0, 3], [])], [], [(0, -2147483648, 1000000, []), (0, 0, 2000, [])], [(20, [3, 14], [30, 0, 1, 1, 9, -1, 0, 0]), (20, [3, 14], [30, 0, -1, 1, 9, 1, 0, 0]), (20, [3, 15], [30, 0, 1, 1, 6, -1, 0, 0]), (20, [3, 15], [30, 0, -1, 1, 6, 1, 0, 0]), (20, [3], [60, 2, 0, 1073, 5, 6]), (20, [3, 7, 4, 15], [60, 5, 6, 1043, 5, 11, 1000, 1001, 1002, 0, 10, 1004, 1003, 1007, 1008]), (20, [2, 15], [30, 0, 1, 0, 0, -1, 0, 0]), (20, [3, 4, 15], [60, 2, 2, 1070, 5, 11, 0, 10])], [], [])
theorem oo_Re_readEdges_35 {kA : Nat → ClassId} : or_ok PRD kA GG o_Re_readEdges_35 := by
  refine or_mk fun A ta ws vs hD hth hl => ?_
  intro t0 r0 t1 r1 t2 k2 t4 k4 t9 k9 f1 f7 f9 f10 f14
  replace f1 := shm_198 f1
  replace f7 := shm_5 f7
  replace f9 := shm_2137 f9
  replace f10 := shm_1527 f10
  replace f14 := shm_5 f14
  have q7 : n_v vs 7 = n_v vs 1 := f7.symm
  have q3 : n_v vs 3 = n_v vs 0 := f14.symm
  simp only [q3, q7] at f1 f9 f10
  have g1 : v_iv (n_v vs 9) = w_fi ws (n_v vs 0) 7 := congrArg v_iv f1
  have kz_0_5 := fdq_207 hD hth r0
  have kz_0_6 := fdq_208 hD hth r0
  have kz_0_7 := fdq_297 hD hth r0
  have kz_0_8 := fdq_99 hD hth r0
  have kz_0_9 := fdq_296 hD hth r0
  have kz_0_11 := fdq_320 hD hth r0
  have kz_1_0 := fdq_73 hD hth r1
  have kz_1_1 := fdq_74 hD hth r1
  have kz_1_2 := fdq_206 hD hth r1
  obtain ⟨x, ex, hx⟩ := iv_ex (ta := ta) (lo := (-2147483648)) (hi := 1000000) (z := w_fi ws (n_v vs 0) 9) (by omega) (by omega) (by omega) (by omega)
  have ex2 : v_iv (Value.int x) = w_fi ws (n_v vs 0) 9 := ex
  have ex3 : (-2147483648) ≤ v_iv (Value.int x) ∧ v_iv (Value.int x) ≤ 1000000 := tv_rng hx
  obtain ⟨y, ey, hy⟩ := iv_ex (ta := ta) (lo := 0) (hi := 2000) (z := w_fi ws (n_v vs 0) 6) (by omega) (by omega) (by omega) (by omega)
  have ey2 : v_iv (Value.int y) = w_fi ws (n_v vs 0) 6 := ey
  have ey3 : 0 ≤ v_iv (Value.int y) ∧ v_iv (Value.int y) ≤ 2000 := tv_rng hy
  have e_2 : n_v (vs ++ [Value.int x, Value.int y]) 2 = n_v vs 2 := n_v_old (by rw [hl]; decide)
  have e_3 : n_v (vs ++ [Value.int x, Value.int y]) 3 = n_v vs 3 := n_v_old (by rw [hl]; decide)
  have e_4 : n_v (vs ++ [Value.int x, Value.int y]) 4 = n_v vs 4 := n_v_old (by rw [hl]; decide)
  have e_7 : n_v (vs ++ [Value.int x, Value.int y]) 7 = n_v vs 7 := n_v_old (by rw [hl]; decide)
  have e_14 : n_v (vs ++ [Value.int x, Value.int y]) 14 = Value.int x := n_v_new0 hl
  have e_15 : n_v (vs ++ [Value.int x, Value.int y]) 15 = Value.int y := n_v_new1 hl
  have nf0 : fc_1 PRD (20, [3, 14], [30, 0, 1, 1, 9, -1, 0, 0]) ws (vs ++ [Value.int x, Value.int y]) := by
    refine ⟨nf_inA hl rfl, sgq_1521 ?_⟩
    · show 1 * w_fi ws (n_v (vs ++ [Value.int x, Value.int y]) 3) 9 + ((-1) * v_iv (n_v (vs ++ [Value.int x, Value.int y]) 14) + 0) ≤ 0
      simp only [e_3, e_14, q3]
      exact vc_Re_readEdges_35_0 (w_fi ws (n_v vs 0) 9) (v_iv (Value.int x)) kz_0_9 ex2
  have nf1 : fc_1 PRD (20, [3, 14], [30, 0, -1, 1, 9, 1, 0, 0]) ws (vs ++ [Value.int x, Value.int y]) := by
    refine ⟨nf_inA hl rfl, sgq_1522 ?_⟩
    · show (-1) * w_fi ws (n_v (vs ++ [Value.int x, Value.int y]) 3) 9 + (1 * v_iv (n_v (vs ++ [Value.int x, Value.int y]) 14) + 0) ≤ 0
      simp only [e_3, e_14, q3]
      exact vc_Re_readEdges_35_1 (w_fi ws (n_v vs 0) 9) (v_iv (Value.int x)) kz_0_9 ex2
  have nf2 : fc_1 PRD (20, [3, 15], [30, 0, 1, 1, 6, -1, 0, 0]) ws (vs ++ [Value.int x, Value.int y]) := by
    refine ⟨nf_inA hl rfl, sgq_1523 ?_⟩
    · show 1 * w_fi ws (n_v (vs ++ [Value.int x, Value.int y]) 3) 6 + ((-1) * v_iv (n_v (vs ++ [Value.int x, Value.int y]) 15) + 0) ≤ 0
      simp only [e_3, e_15, q3]
      exact vc_Re_readEdges_35_2 (w_fi ws (n_v vs 0) 6) (v_iv (Value.int y)) kz_0_6 ey2
  have nf3 : fc_1 PRD (20, [3, 15], [30, 0, -1, 1, 6, 1, 0, 0]) ws (vs ++ [Value.int x, Value.int y]) := by
    refine ⟨nf_inA hl rfl, sgq_1524 ?_⟩
    · show (-1) * w_fi ws (n_v (vs ++ [Value.int x, Value.int y]) 3) 6 + (1 * v_iv (n_v (vs ++ [Value.int x, Value.int y]) 15) + 0) ≤ 0
      simp only [e_3, e_15, q3]
      exact vc_Re_readEdges_35_3 (w_fi ws (n_v vs 0) 6) (v_iv (Value.int y)) kz_0_6 ey2
  have nf4 : fc_1 PRD (20, [3], [60, 2, 0, 1073, 5, 6]) ws (vs ++ [Value.int x, Value.int y]) := by
    refine ⟨nf_inA hl rfl, sgq_1525 ?_⟩
    · show CLM (w_fi ws (n_v (vs ++ [Value.int x, Value.int y]) 3) 5) (w_fi ws (n_v (vs ++ [Value.int x, Value.int y]) 3) 6)
      simp only [e_3, q3]
      exact vc_Re_readEdges_35_4 (v_iv (n_v vs 4)) (w_fi ws (n_v vs 0) 7) (w_ei ws (w_ar ws (n_v vs 1) 7)) (w_ei ws (w_ar ws (n_v vs 1) 8)) (w_fi ws (n_v vs 1) 0) (w_fi ws (n_v vs 1) 1) (w_ei ws (w_ar ws (n_v vs 0) 0)) (w_ei ws (w_ar ws (n_v vs 0) 10)) (w_ei ws (w_ar ws (n_v vs 1) 4)) (w_ei ws (w_ar ws (n_v vs 1) 3)) (w_fi ws (n_v vs 0) 5) (w_fi ws (n_v vs 0) 6) (w_fi ws (n_v vs 0) 8) (w_fi ws (n_v vs 0) 9) (w_fi ws (n_v vs 0) 11) (w_fi ws (n_v vs 1) 2) (v_iv (Value.int y)) k4 f9 kz_0_5 kz_0_6 kz_0_7 kz_0_8 kz_0_9 kz_0_11 kz_1_0 kz_1_1 kz_1_2 ey2
  have nf5 : fc_1 PRD (20, [3, 7, 4, 15], [60, 5, 6, 1043, 5, 11, 1000, 1001, 1002, 0, 10, 1004, 1003, 1007, 1008]) ws (vs ++ [Value.int x, Value.int y]) := by
    refine ⟨nf_inA hl rfl, sgq_2141 ?_⟩
    · show cG4 (w_fi ws (n_v (vs ++ [Value.int x, Value.int y]) 3) 5) (w_fi ws (n_v (vs ++ [Value.int x, Value.int y]) 3) 11) (w_fi ws (n_v (vs ++ [Value.int x, Value.int y]) 7) 0) (w_fi ws (n_v (vs ++ [Value.int x, Value.int y]) 7) 1) (w_fi ws (n_v (vs ++ [Value.int x, Value.int y]) 7) 2) (w_ei ws (w_ar ws (n_v (vs ++ [Value.int x, Value.int y]) 3) 0)) (w_ei ws (w_ar ws (n_v (vs ++ [Value.int x, Value.int y]) 3) 10)) (w_ei ws (w_ar ws (n_v (vs ++ [Value.int x, Value.int y]) 7) 4)) (w_ei ws (w_ar ws (n_v (vs ++ [Value.int x, Value.int y]) 7) 3)) (w_ei ws (w_ar ws (n_v (vs ++ [Value.int x, Value.int y]) 7) 7)) (w_ei ws (w_ar ws (n_v (vs ++ [Value.int x, Value.int y]) 7) 8)) (v_iv (n_v (vs ++ [Value.int x, Value.int y]) 4)) (v_iv (n_v (vs ++ [Value.int x, Value.int y]) 15))
      simp only [e_3, e_4, e_7, e_15, q7, q3]
      exact vc_Re_readEdges_35_5 (v_iv (n_v vs 4)) (v_iv (n_v vs 9)) (w_fi ws (n_v vs 0) 7) (w_ei ws (w_ar ws (n_v vs 1) 7)) (w_ei ws (w_ar ws (n_v vs 1) 8)) (w_fi ws (n_v vs 1) 0) (w_fi ws (n_v vs 1) 1) (w_ei ws (w_ar ws (n_v vs 0) 0)) (w_ei ws (w_ar ws (n_v vs 0) 10)) (w_ei ws (w_ar ws (n_v vs 1) 4)) (w_ei ws (w_ar ws (n_v vs 1) 3)) (w_fi ws (n_v vs 0) 5) (w_fi ws (n_v vs 0) 6) (w_fi ws (n_v vs 0) 8) (w_fi ws (n_v vs 0) 9) (w_fi ws (n_v vs 0) 11) (w_fi ws (n_v vs 1) 2) (v_iv (Value.int y)) k4 k9 g1 f9 kz_0_5 kz_0_6 kz_0_7 kz_0_8 kz_0_9 kz_0_11 kz_1_0 kz_1_1 kz_1_2 ey2
  have nf6 : fc_1 PRD (20, [2, 15], [30, 0, 1, 0, 0, -1, 0, 0]) ws (vs ++ [Value.int x, Value.int y]) := by
    refine ⟨nf_inA hl rfl, sgq_201 ?_⟩
    · show 1 * v_iv (n_v (vs ++ [Value.int x, Value.int y]) 2) + ((-1) * v_iv (n_v (vs ++ [Value.int x, Value.int y]) 15) + 0) ≤ 0
      simp only [e_2, e_15]
      exact vc_Re_readEdges_35_6 (v_iv (n_v vs 2)) (w_fi ws (n_v vs 0) 6) (v_iv (Value.int y)) k2 f10 kz_0_6 ey2
  have nf7 : fc_1 PRD (20, [3, 4, 15], [60, 2, 2, 1070, 5, 11, 0, 10]) ws (vs ++ [Value.int x, Value.int y]) := by
    refine ⟨nf_inA hl rfl, sgq_2142 ?_⟩
    · show cU4 (w_fi ws (n_v (vs ++ [Value.int x, Value.int y]) 3) 5) (w_fi ws (n_v (vs ++ [Value.int x, Value.int y]) 3) 11) (w_ei ws (w_ar ws (n_v (vs ++ [Value.int x, Value.int y]) 3) 0)) (w_ei ws (w_ar ws (n_v (vs ++ [Value.int x, Value.int y]) 3) 10)) (v_iv (n_v (vs ++ [Value.int x, Value.int y]) 4)) (v_iv (n_v (vs ++ [Value.int x, Value.int y]) 15))
      simp only [e_3, e_4, e_15, q3]
      exact vc_Re_readEdges_35_7 (v_iv (n_v vs 4)) (v_iv (n_v vs 9)) (w_fi ws (n_v vs 0) 7) (w_ei ws (w_ar ws (n_v vs 1) 7)) (w_ei ws (w_ar ws (n_v vs 1) 8)) (w_fi ws (n_v vs 1) 0) (w_fi ws (n_v vs 1) 1) (w_ei ws (w_ar ws (n_v vs 0) 0)) (w_ei ws (w_ar ws (n_v vs 0) 10)) (w_ei ws (w_ar ws (n_v vs 1) 4)) (w_ei ws (w_ar ws (n_v vs 1) 3)) (w_fi ws (n_v vs 0) 5) (w_fi ws (n_v vs 0) 6) (w_fi ws (n_v vs 0) 8) (w_fi ws (n_v vs 0) 9) (w_fi ws (n_v vs 0) 11) (w_fi ws (n_v vs 1) 2) (v_iv (Value.int y)) k4 k9 g1 f9 kz_0_5 kz_0_6 kz_0_7 kz_0_8 kz_0_9 kz_0_11 kz_1_0 kz_1_1 kz_1_2 ey2
  exact ⟨(fun _ h => (by cases h)), [Value.int x, Value.int y], ag_two hx hy, List.forall_mem_cons.mpr ⟨⟨show (20 : Nat) < 100 from by decide, nf0⟩, List.forall_mem_cons.mpr ⟨⟨show (20 : Nat) < 100 from by decide, nf1⟩, List.forall_mem_cons.mpr ⟨⟨show (20 : Nat) < 100 from by decide, nf2⟩, List.forall_mem_cons.mpr ⟨⟨show (20 : Nat) < 100 from by decide, nf3⟩, List.forall_mem_cons.mpr ⟨⟨show (20 : Nat) < 100 from by decide, nf4⟩, List.forall_mem_cons.mpr ⟨⟨show (20 : Nat) < 100 from by decide, nf5⟩, List.forall_mem_cons.mpr ⟨⟨show (20 : Nat) < 100 from by decide, nf6⟩, List.forall_mem_cons.mpr ⟨⟨show (20 : Nat) < 100 from by decide, nf7⟩, (fun _ h => (by cases h))⟩⟩⟩⟩⟩⟩⟩⟩, (fun _ h => (by cases h))⟩
set_option maxHeartbeats 4000000 in
theorem vc_Re_readEdges_36_0 (x4 : Int) (gx : Int) (k4 : 0 ≤ x4 ∧ x4 ≤ 23) (ex2 : gx = x4) : 1 * gx + ((-1) * x4 + 0) ≤ 0 := by
  first
    | omega
  
set_option maxHeartbeats 4000000 in
theorem vc_Re_readEdges_36_1 (x4 : Int) (gx : Int) (k4 : 0 ≤ x4 ∧ x4 ≤ 23) (ex2 : gx = x4) : (-1) * gx + (1 * x4 + 0) ≤ 0 := by
  first
    | omega
  
set_option maxHeartbeats 4000000 in
theorem vc_Re_readEdges_36_2 (x16 : Int) (next_0 : Int) (begin_0 : Int) (k16 : 1 ≤ x16 ∧ x16 ≤ 1) (f15 : 1 * begin_0 + ((-1) * next_0 + 0) ≤ 0) (f18 : 1 * next_0 + ((-1) * begin_0 + (2000 * x16 + 0)) ≤ 2008) (kz_0_6 : 0 ≤ next_0 ∧ next_0 ≤ 2000) (kz_0_8 : 0 ≤ begin_0 ∧ begin_0 ≤ 2000) : 1 * next_0 + ((-1) * begin_0 + 0) ≤ 8 := by
  first
    | omega
  
set_option maxHeartbeats 4000000 in
theorem vc_Re_readEdges_36_3 (x16 : Int) (next_0 : Int) (begin_0 : Int) (k16 : 1 ≤ x16 ∧ x16 ≤ 1) (f15 : 1 * begin_0 + ((-1) * next_0 + 0) ≤ 0) (f18 : 1 * next_0 + ((-1) * begin_0 + (2000 * x16 + 0)) ≤ 2008) (kz_0_6 : 0 ≤ next_0 ∧ next_0 ≤ 2000) (kz_0_8 : 0 ≤ begin_0 ∧ begin_0 ≤ 2000) : (-1) * next_0 + (1 * begin_0 + 0) ≤ 0 := by
  first
    | omega
  
set_option maxHeartbeats 4000000 in
theorem vc_Re_readEdges_36_4 (tail_0o1 : Int → Int) (head_0o1 : Int → Int) (nodes_0o1 : Int) (edges_0o1 : Int) (near_0o1 : Int → Int) (f4 : GNB (nodes_0o1) (edges_0o1) (near_0o1) (tail_0o1) (head_0o1)) (kz_1_0 : 0 ≤ nodes_0o1 ∧ nodes_0o1 ≤ 24) (kz_1_1 : 0 ≤ edges_0o1 ∧ edges_0o1 ≤ 48) : GNB (nodes_0o1) (edges_0o1) (near_0o1) (tail_0o1) (head_0o1) := by
  first
    | assumption
  
set_option maxHeartbeats 4000000 in
theorem vc_Re_readEdges_36_5 (tail_0o1 : Int → Int) (head_0o1 : Int → Int) (nodes_0o1 : Int) (edges_0o1 : Int) (f5 : GKE (nodes_0o1) (edges_0o1) (tail_0o1) (head_0o1)) (kz_1_0 : 0 ≤ nodes_0o1 ∧ nodes_0o1 ≤ 24) (kz_1_1 : 0 ≤ edges_0o1 ∧ edges_0o1 ≤ 48) : GKE (nodes_0o1) (edges_0o1) (tail_0o1) (head_0o1) := by
  first
    | assumption
  
set_option maxHeartbeats 4000000 in
theorem vc_Re_readEdges_36_6 (x4 : Int) (nodes_0o1 : Int) (gx : Int) (k4 : 0 ≤ x4 ∧ x4 ≤ 23) (f7 : (0 ≤ x4) ∧ ((x4 + 1) ≤ nodes_0o1)) (kz_1_0 : 0 ≤ nodes_0o1 ∧ nodes_0o1 ≤ 24) (ex2 : gx = x4) : (0 ≤ gx) ∧ ((gx + 1) ≤ nodes_0o1) := by
  first
    | omega
  
set_option maxHeartbeats 4000000 in
theorem vc_Re_readEdges_36_7 (end_0 : Int) (gy : Int) (kz_0_5 : 0 ≤ end_0 ∧ end_0 ≤ 2000) (ey2 : gy = end_0) : 1 * end_0 + ((-1) * gy + 0) ≤ 0 := by
  first
    | omega
  
set_option maxHeartbeats 4000000 in
theorem vc_Re_readEdges_36_8 (end_0 : Int) (gy : Int) (kz_0_5 : 0 ≤ end_0 ∧ end_0 ≤ 2000) (ey2 : gy = end_0) : (-1) * end_0 + (1 * gy + 0) ≤ 0 := by
  first
    | omega
  
set_option maxHeartbeats 4000000 in
theorem vc_Re_readEdges_36_9 (x4 : Int) (x15 : Int) (x16 : Int) (tape_0 : Int → Int) (open_0 : Int → Int) (nameLength_0o1 : Int → Int) (name_0o1 : Int → Int) (tail_0o1 : Int → Int) (head_0o1 : Int → Int) (end_0 : Int) (depth_0 : Int) (nodes_0o1 : Int) (edges_0o1 : Int) (groups_0o1 : Int) (kind_0 : Int) (number_0 : Int) (next_0 : Int) (begin_0 : Int) (k4 : 0 ≤ x4 ∧ x4 ≤ 23) (k15 : 0 ≤ x15 ∧ x15 ≤ 2000) (k16 : 1 ≤ x16 ∧ x16 ≤ 1) (f0 : x16 ≠ 0) (f1 : cG4 (end_0) (depth_0) (nodes_0o1) (edges_0o1) (groups_0o1) (tape_0) (open_0) (nameLength_0o1) (name_0o1) (tail_0o1) (head_0o1) (x4) (x15)) (f16 : TKC (end_0) (next_0) (kind_0) (begin_0) (number_0) (tape_0) (x15)) (f19 : CNM (kind_0) (next_0) (begin_0) (tape_0) (x16)) (kz_0_5 : 0 ≤ end_0 ∧ end_0 ≤ 2000) (kz_0_6 : 0 ≤ next_0 ∧ next_0 ≤ 2000) (kz_0_7 : (-128) ≤ kind_0 ∧ kind_0 ≤ 127) (kz_0_8 : 0 ≤ begin_0 ∧ begin_0 ≤ 2000) (kz_0_9 : (-176) ≤ number_0 ∧ number_0 ≤ 1000000) (kz_0_11 : 0 ≤ depth_0 ∧ depth_0 ≤ 4) (kz_1_0 : 0 ≤ nodes_0o1 ∧ nodes_0o1 ≤ 24) (kz_1_1 : 0 ≤ edges_0o1 ∧ edges_0o1 ≤ 48) (kz_1_2 : 0 ≤ groups_0o1 ∧ groups_0o1 ≤ 8) : CGT (end_0) (next_0) (begin_0) (nodes_0o1) (edges_0o1) (groups_0o1) (tape_0) (nameLength_0o1) (name_0o1) (tail_0o1) (head_0o1) := by
  exact cgt_4 ‹TKC _ _ _ _ _ _ _› ‹cG4 _ _ _ _ _ _ _ _ _ _ _ _ _› (cnm_t ‹CNM _ _ _ _ _› (by omega)).1
def o_Re_readEdges_36 : or_T := (112, 17, [(0, (2, 0, 0, [8])), (1, (2, 0, 0, [164])), (4, (0, 0, 23, [])), (15, (0, 0, 2000, [])), (16, (0, 1, 1, []))], [(8, [16], [1]), (20, [3, 7, 4, 15], [60, 5, 6, 1043, 5, 11, 1000, 1001, 1002, 0, 10, 1004, 1003, 1007, 1008]), (20, [7], [60, 2, 3, 670, 0, 1, 14, 7, 8]), (20, [7], [60, 2, 2, 596, 0, 1, 7, 8]), (24, [1, 7], []), (20, [4, 7], [50, 1, 0, 1000, 2, 6, 0, 2, 0, 0, 1, 0, 0, 6, 4, 2, 1, 0, 0, 1, 2, 1, 0]), (24, [0, 3], []), (20, [3, 3], [30, 0, 1, 1, 8, -1, 1, 6]), (20, [3, 15], [60, 5, 1, 1072, 5, 6, 7, 8, 9, 0]), (20, [3, 3, 16], [30, 2008, 1, 1, 6, -1, 1, 8, 2000, 0, 0]), (20, [3, 16], [60, 3, 1, 1079, 7, 6, 8, 0])], [], [(0, 0, 23, []), (0, 0, 2000, [])], [(23, [17, 4], [0, 1, -1]), (23, [17, 4], [0, -1, 1]), (20, [3, 3], [30, 8, 1, 1, 6, -1, 1, 8]), (20, [3, 3], [30, 0, -1, 1, 6, 1, 1, 8]), (20, [7], [60, 2, 3, 670, 0, 1, 14, 7, 8]), (20, [7], [60, 2, 2, 596, 0, 1, 7, 8]), (20, [17, 7], [50, 1, 0, 1000, 2, 6, 0, 2, 0, 0, 1, 0, 0, 6, 4, 2, 1, 0, 0, 1, 2, 1, 0]), (20, [3, 18], [30, 0, 1, 1, 5, -1, 0, 0]), (20, [3, 18], [30, 0, -1, 1, 5, 1, 0, 0]), (20, [3, 7], [60, 6, 5, 1065, 5, 6, 8, 1000, 1001, 1002, 0, 1004, 1003, 1007, 1008])], [], [])
theorem oo_Re_readEdges_36 {kA : Nat → ClassId} : or_ok PRD kA GG o_Re_readEdges_36 := by
  refine or_mk fun A ta ws vs hD hth hl => ?_
  intro t0 r0 t1 r1 t4 k4 t15 k15 t16 k16 f0 f1 f4 f5 f6 f7 f11 f15 f16 f18 f19
  replace f0 := shm_142 f0
  replace f1 := shm_2141 f1
  replace f4 := shm_825 f4
  replace f5 := shm_386 f5
  replace f6 := shm_5 f6
  replace f7 := shm_416 f7
  replace f11 := shm_5 f11
  replace f15 := shm_1531 f15
  replace f16 := shm_1532 f16
  replace f18 := shm_1836 f18
  replace f19 := shm_1837 f19
  have q7 : n_v vs 7 = n_v vs 1 := f6.symm
  have q3 : n_v vs 3 = n_v vs 0 := f11.symm
  simp only [q7, q3] at f1 f4 f5 f7 f15 f16 f18 f19
  have kz_0_5 := fdq_207 hD hth r0
  have kz_0_6 := fdq_208 hD hth r0
  have kz_0_7 := fdq_297 hD hth r0
  have kz_0_8 := fdq_99 hD hth r0
  have kz_0_9 := fdq_296 hD hth r0
  have kz_0_11 := fdq_320 hD hth r0
  have kz_1_0 := fdq_73 hD hth r1
  have kz_1_1 := fdq_74 hD hth r1
  have kz_1_2 := fdq_206 hD hth r1
  obtain ⟨x, ex, hx⟩ := iv_ex (ta := ta) (lo := 0) (hi := 23) (z := v_iv (n_v vs 4)) (by omega) (by omega) (by omega) (by omega)
  have ex2 : v_iv (Value.int x) = v_iv (n_v vs 4) := ex
  have ex3 : 0 ≤ v_iv (Value.int x) ∧ v_iv (Value.int x) ≤ 23 := tv_rng hx
  obtain ⟨y, ey, hy⟩ := iv_ex (ta := ta) (lo := 0) (hi := 2000) (z := w_fi ws (n_v vs 0) 5) (by omega) (by omega) (by omega) (by omega)
  have ey2 : v_iv (Value.int y) = w_fi ws (n_v vs 0) 5 := ey
  have ey3 : 0 ≤ v_iv (Value.int y) ∧ v_iv (Value.int y) ≤ 2000 := tv_rng hy
  have e_3 : n_v (vs ++ [Value.int x, Value.int y]) 3 = n_v vs 3 := n_v_old (by rw [hl]; decide)
  have e_4 : n_v (vs ++ [Value.int x, Value.int y]) 4 = n_v vs 4 := n_v_old (by rw [hl]; decide)
  have e_7 : n_v (vs ++ [Value.int x, Value.int y]) 7 = n_v vs 7 := n_v_old (by rw [hl]; decide)
  have e_17 : n_v (vs ++ [Value.int x, Value.int y]) 17 = Value.int x := n_v_new0 hl
  have e_18 : n_v (vs ++ [Value.int x, Value.int y]) 18 = Value.int y := n_v_new1 hl
  have nf0 : fc_1 PRD (23, [17, 4], [0, 1, -1]) ws (vs ++ [Value.int x, Value.int y]) := by
    refine ⟨nf_inA hl rfl, sgq_7 ?_⟩
    · show 1 * v_iv (n_v (vs ++ [Value.int x, Value.int y]) 17) + ((-1) * v_iv (n_v (vs ++ [Value.int x, Value.int y]) 4) + 0) ≤ 0
      simp only [e_4, e_17]
      exact vc_Re_readEdges_36_0 (v_iv (n_v vs 4)) (v_iv (Value.int x)) k4 ex2
  have nf1 : fc_1 PRD (23, [17, 4], [0, -1, 1]) ws (vs ++ [Value.int x, Value.int y]) := by
    refine ⟨nf_inA hl rfl, sgq_22 ?_⟩
    · show (-1) * v_iv (n_v (vs ++ [Value.int x, Value.int y]) 17) + (1 * v_iv (n_v (vs ++ [Value.int x, Value.int y]) 4) + 0) ≤ 0
      simp only [e_4, e_17]
      exact vc_Re_readEdges_36_1 (v_iv (n_v vs 4)) (v_iv (Value.int x)) k4 ex2
  have nf2 : fc_1 PRD (20, [3, 3], [30, 8, 1, 1, 6, -1, 1, 8]) ws (vs ++ [Value.int x, Value.int y]) := by
    refine ⟨nf_inA hl rfl, sgq_1401 ?_⟩
    · show 1 * w_fi ws (n_v (vs ++ [Value.int x, Value.int y]) 3) 6 + ((-1) * w_fi ws (n_v (vs ++ [Value.int x, Value.int y]) 3) 8 + 0) ≤ 8
      simp only [e_3, q3]
      exact vc_Re_readEdges_36_2 (v_iv (n_v vs 16)) (w_fi ws (n_v vs 0) 6) (w_fi ws (n_v vs 0) 8) k16 f15 f18 kz_0_6 kz_0_8
  have nf3 : fc_1 PRD (20, [3, 3], [30, 0, -1, 1, 6, 1, 1, 8]) ws (vs ++ [Value.int x, Value.int y]) := by
    refine ⟨nf_inA hl rfl, sgq_1402 ?_⟩
    · show (-1) * w_fi ws (n_v (vs ++ [Value.int x, Value.int y]) 3) 6 + (1 * w_fi ws (n_v (vs ++ [Value.int x, Value.int y]) 3) 8 + 0) ≤ 0
      simp only [e_3, q3]
      exact vc_Re_readEdges_36_3 (v_iv (n_v vs 16)) (w_fi ws (n_v vs 0) 6) (w_fi ws (n_v vs 0) 8) k16 f15 f18 kz_0_6 kz_0_8
  have nf4 : fc_1 PRD (20, [7], [60, 2, 3, 670, 0, 1, 14, 7, 8]) ws (vs ++ [Value.int x, Value.int y]) := by
    refine ⟨nf_inA hl rfl, sgq_825 ?_⟩
    · show GNB (w_fi ws (n_v (vs ++ [Value.int x, Value.int y]) 7) 0) (w_fi ws (n_v (vs ++ [Value.int x, Value.int y]) 7) 1) (w_ei ws (w_ar ws (n_v (vs ++ [Value.int x, Value.int y]) 7) 14)) (w_ei ws (w_ar ws (n_v (vs ++ [Value.int x, Value.int y]) 7) 7)) (w_ei ws (w_ar ws (n_v (vs ++ [Value.int x, Value.int y]) 7) 8))
      simp only [e_7, q7]
      exact vc_Re_readEdges_36_4 (w_ei ws (w_ar ws (n_v vs 1) 7)) (w_ei ws (w_ar ws (n_v vs 1) 8)) (w_fi ws (n_v vs 1) 0) (w_fi ws (n_v vs 1) 1) (w_ei ws (w_ar ws (n_v vs 1) 14)) f4 kz_1_0 kz_1_1
  have nf5 : fc_1 PRD (20, [7], [60, 2, 2, 596, 0, 1, 7, 8]) ws (vs ++ [Value.int x, Value.int y]) := by
    refine ⟨nf_inA hl rfl, sgq_386 ?_⟩
    · show GKE (w_fi ws (n_v (vs ++ [Value.int x, Value.int y]) 7) 0) (w_fi ws (n_v (vs ++ [Value.int x, Value.int y]) 7) 1) (w_ei ws (w_ar ws (n_v (vs ++ [Value.int x, Value.int y]) 7) 7)) (w_ei ws (w_ar ws (n_v (vs ++ [Value.int x, Value.int y]) 7) 8))
      simp only [e_7, q7]
      exact vc_Re_readEdges_36_5 (w_ei ws (w_ar ws (n_v vs 1) 7)) (w_ei ws (w_ar ws (n_v vs 1) 8)) (w_fi ws (n_v vs 1) 0) (w_fi ws (n_v vs 1) 1) f5 kz_1_0 kz_1_1
  have nf6 : fc_1 PRD (20, [17, 7], [50, 1, 0, 1000, 2, 6, 0, 2, 0, 0, 1, 0, 0, 6, 4, 2, 1, 0, 0, 1, 2, 1, 0]) ws (vs ++ [Value.int x, Value.int y]) := by
    refine ⟨nf_inA hl rfl, sgq_416 ?_⟩
    · show (0 ≤ v_iv (n_v (vs ++ [Value.int x, Value.int y]) 17)) ∧ ((v_iv (n_v (vs ++ [Value.int x, Value.int y]) 17) + 1) ≤ w_fi ws (n_v (vs ++ [Value.int x, Value.int y]) 7) 0)
      simp only [e_7, e_17, q7]
      exact vc_Re_readEdges_36_6 (v_iv (n_v vs 4)) (w_fi ws (n_v vs 1) 0) (v_iv (Value.int x)) k4 f7 kz_1_0 ex2
  have nf7 : fc_1 PRD (20, [3, 18], [30, 0, 1, 1, 5, -1, 0, 0]) ws (vs ++ [Value.int x, Value.int y]) := by
    refine ⟨nf_inA hl rfl, sgq_1403 ?_⟩
    · show 1 * w_fi ws (n_v (vs ++ [Value.int x, Value.int y]) 3) 5 + ((-1) * v_iv (n_v (vs ++ [Value.int x, Value.int y]) 18) + 0) ≤ 0
      simp only [e_3, e_18, q3]
      exact vc_Re_readEdges_36_7 (w_fi ws (n_v vs 0) 5) (v_iv (Value.int y)) kz_0_5 ey2
  have nf8 : fc_1 PRD (20, [3, 18], [30, 0, -1, 1, 5, 1, 0, 0]) ws (vs ++ [Value.int x, Value.int y]) := by
    refine ⟨nf_inA hl rfl, sgq_1404 ?_⟩
    · show (-1) * w_fi ws (n_v (vs ++ [Value.int x, Value.int y]) 3) 5 + (1 * v_iv (n_v (vs ++ [Value.int x, Value.int y]) 18) + 0) ≤ 0
      simp only [e_3, e_18, q3]
      exact vc_Re_readEdges_36_8 (w_fi ws (n_v vs 0) 5) (v_iv (Value.int y)) kz_0_5 ey2
  have nf9 : fc_1 PRD (20, [3, 7], [60, 6, 5, 1065, 5, 6, 8, 1000, 1001, 1002, 0, 1004, 1003, 1007, 1008]) ws (vs ++ [Value.int x, Value.int y]) := by
    refine ⟨nf_inA hl rfl, sgq_1405 ?_⟩
    · show CGT (w_fi ws (n_v (vs ++ [Value.int x, Value.int y]) 3) 5) (w_fi ws (n_v (vs ++ [Value.int x, Value.int y]) 3) 6) (w_fi ws (n_v (vs ++ [Value.int x, Value.int y]) 3) 8) (w_fi ws (n_v (vs ++ [Value.int x, Value.int y]) 7) 0) (w_fi ws (n_v (vs ++ [Value.int x, Value.int y]) 7) 1) (w_fi ws (n_v (vs ++ [Value.int x, Value.int y]) 7) 2) (w_ei ws (w_ar ws (n_v (vs ++ [Value.int x, Value.int y]) 3) 0)) (w_ei ws (w_ar ws (n_v (vs ++ [Value.int x, Value.int y]) 7) 4)) (w_ei ws (w_ar ws (n_v (vs ++ [Value.int x, Value.int y]) 7) 3)) (w_ei ws (w_ar ws (n_v (vs ++ [Value.int x, Value.int y]) 7) 7)) (w_ei ws (w_ar ws (n_v (vs ++ [Value.int x, Value.int y]) 7) 8))
      simp only [e_3, e_7, q7, q3]
      exact vc_Re_readEdges_36_9 (v_iv (n_v vs 4)) (v_iv (n_v vs 15)) (v_iv (n_v vs 16)) (w_ei ws (w_ar ws (n_v vs 0) 0)) (w_ei ws (w_ar ws (n_v vs 0) 10)) (w_ei ws (w_ar ws (n_v vs 1) 4)) (w_ei ws (w_ar ws (n_v vs 1) 3)) (w_ei ws (w_ar ws (n_v vs 1) 7)) (w_ei ws (w_ar ws (n_v vs 1) 8)) (w_fi ws (n_v vs 0) 5) (w_fi ws (n_v vs 0) 11) (w_fi ws (n_v vs 1) 0) (w_fi ws (n_v vs 1) 1) (w_fi ws (n_v vs 1) 2) (w_fi ws (n_v vs 0) 7) (w_fi ws (n_v vs 0) 9) (w_fi ws (n_v vs 0) 6) (w_fi ws (n_v vs 0) 8) k4 k15 k16 f0 f1 f16 f19 kz_0_5 kz_0_6 kz_0_7 kz_0_8 kz_0_9 kz_0_11 kz_1_0 kz_1_1 kz_1_2
  exact ⟨(fun _ h => (by cases h)), [Value.int x, Value.int y], ag_two hx hy, List.forall_mem_cons.mpr ⟨⟨show (23 : Nat) < 100 from by decide, nf0⟩, List.forall_mem_cons.mpr ⟨⟨show (23 : Nat) < 100 from by decide, nf1⟩, List.forall_mem_cons.mpr ⟨⟨show (20 : Nat) < 100 from by decide, nf2⟩, List.forall_mem_cons.mpr ⟨⟨show (20 : Nat) < 100 from by decide, nf3⟩, List.forall_mem_cons.mpr ⟨⟨show (20 : Nat) < 100 from by decide, nf4⟩, List.forall_mem_cons.mpr ⟨⟨show (20 : Nat) < 100 from by decide, nf5⟩, List.forall_mem_cons.mpr ⟨⟨show (20 : Nat) < 100 from by decide, nf6⟩, List.forall_mem_cons.mpr ⟨⟨show (20 : Nat) < 100 from by decide, nf7⟩, List.forall_mem_cons.mpr ⟨⟨show (20 : Nat) < 100 from by decide, nf8⟩, List.forall_mem_cons.mpr ⟨⟨show (20 : Nat) < 100 from by decide, nf9⟩, (fun _ h => (by cases h))⟩⟩⟩⟩⟩⟩⟩⟩⟩⟩, (fun _ h => (by cases h))⟩
set_option maxHeartbeats 4000000 in
theorem vc_Re_readEdges_37_0 (x4 : Int) (x15 : Int) (x16 : Int) (x17 : Int) (x19 : Int) (x21 : Int) (next_0 : Int) (begin_0 : Int) (end_0 : Int) (tape_0 : Int → Int) (open_0 : Int → Int) (depth_0 : Int) (edges_0o1 : Int) (tail_0o1 : Int → Int) (head_0o1 : Int → Int) (link_0o1 : Int → Int) (kind_0 : Int) (number_0 : Int) (nodes_0o1 : Int) (nameLength_0o1 : Int → Int) (name_0o1 : Int → Int) (groups_0o1 : Int) (k4 : 0 ≤ x4 ∧ x4 ≤ 23) (k15 : 0 ≤ x15 ∧ x15 ≤ 2000) (k16 : 1 ≤ x16 ∧ x16 ≤ 1) (k17 : 0 ≤ x17 ∧ x17 ≤ 23) (k19 : 0 ≤ x19 ∧ x19 ≤ 23) (k21 : 2 ≤ x21 ∧ x21 ≤ 2) (d0 : x19 + 0 ≤ x4 ∧ x4 ≤ x19 + 0) (f0 : x4 = x19) (f2 : 1 * x17 + ((-1) * x4 + 0) ≤ 0) (f3 : (-1) * x17 + (1 * x4 + 0) ≤ 0) (f9 : cU4 (end_0) (depth_0) (tape_0) (open_0) (x4) (x15)) (f12 : LKG (edges_0o1) (tail_0o1) (head_0o1) (link_0o1)) (f19 : TKC (end_0) (next_0) (kind_0) (begin_0) (number_0) (tape_0) (x15)) (f22 : CNM (kind_0) (next_0) (begin_0) (tape_0) (x16)) (f27 : CGM (end_0) (next_0) (begin_0) (nodes_0o1) (edges_0o1) (groups_0o1) (tape_0) (nameLength_0o1) (name_0o1) (tail_0o1) (head_0o1) (x19)) (f31 : x16 ≠ 0) (kz_0_5 : 0 ≤ end_0 ∧ end_0 ≤ 2000) (kz_0_6 : 0 ≤ next_0 ∧ next_0 ≤ 2000) (kz_0_7 : (-128) ≤ kind_0 ∧ kind_0 ≤ 127) (kz_0_8 : 0 ≤ begin_0 ∧ begin_0 ≤ 2000) (kz_0_9 : (-176) ≤ number_0 ∧ number_0 ≤ 1000000) (kz_0_11 : 0 ≤ depth_0 ∧ depth_0 ≤ 4) (kz_1_0 : 0 ≤ nodes_0o1 ∧ nodes_0o1 ≤ 24) (kz_1_1 : 0 ≤ edges_0o1 ∧ edges_0o1 ≤ 48) (kz_1_2 : 0 ≤ groups_0o1 ∧ groups_0o1 ≤ 8) : FSY (end_0) (begin_0) (tape_0) (x21) := by
  first
    | exact fsy_of (m4_2 ‹TKC _ _ _ _ _ _ _› ‹cU4 _ _ _ _ _ _› (cnm_t ‹CNM _ _ _ _ _› (by omega)) ‹CGM _ _ _ _ _ _ _ _ _ _ _ _› (by omega) ‹LKG _ _ _ _› (Or.inl (by omega))) (by omega)
    | exact fsy_of (m4_2 ‹TKC _ _ _ _ _ _ _› ‹cU4 _ _ _ _ _ _› (cnm_t ‹CNM _ _ _ _ _› (by omega)) ‹CGM _ _ _ _ _ _ _ _ _ _ _ _› (by omega) ‹LKG _ _ _ _› (Or.inr (by omega))) (by omega)
def o_Re_readEdges_37 : or_T := (145, 22, [(0, (2, 0, 0, [8])), (1, (2, 0, 0, [164])), (4, (0, 0, 23, [])), (15, (0, 0, 2000, [])), (16, (0, 1, 1, [])), (17, (0, 0, 23, [])), (19, (0, 0, 23, [])), (21, (0, 2, 2, []))], [(7, [4, 19], [0]), (23, [17, 4], [0, 1, -1]), (23, [17, 4], [0, -1, 1]), (20, [3, 4, 15], [60, 2, 2, 1070, 5, 11, 0, 10]), (24, [1, 7], []), (20, [7], [60, 1, 3, 1085, 1, 7, 8, 15]), (24, [0, 3], []), (20, [3, 15], [60, 5, 1, 1072, 5, 6, 7, 8, 9, 0]), (20, [3, 16], [60, 3, 1, 1079, 7, 6, 8, 0]), (20, [3, 7, 19], [60, 6, 5, 1066, 5, 6, 8, 1000, 1001, 1002, 0, 1004, 1003, 1007, 1008]), (102, [18], [2944411990052395234623243954974308466357606285312, 164000]), (8, [16], [1])], [], [], [(20, [3, 21], [60, 2, 1, 1078, 5, 8, 0])], [], [(4, 19, 0, 0)])
theorem oo_Re_readEdges_37 {kA : Nat → ClassId} : or_ok PRD kA GG o_Re_readEdges_37 := by
  refine or_mk fun A ta ws vs hD hth hl => ?_
  intro t0 r0 t1 r1 t4 k4 t15 k15 t16 k16 t17 k17 t19 k19 t21 k21 d0 f0 f2 f3 f9 f10 f12 f14 f19 f22 f27 ta1 w1 le1 s1 f31
  replace f0 := shm_37 f0
  replace f2 := shm_7 f2
  replace f3 := shm_22 f3
  replace f9 := shm_2142 f9
  replace f10 := shm_5 f10
  replace f12 := shm_827 f12
  replace f14 := shm_5 f14
  replace f19 := shm_1532 f19
  replace f22 := shm_1837 f22
  replace f27 := shm_1406 f27
  replace f31 := shm_142 f31
  have q7 : n_v vs 7 = n_v vs 1 := f10.symm
  have q3 : n_v vs 3 = n_v vs 0 := f14.symm
  simp only [q3, q7] at f9 f12 f19 f22 f27
  have kz_0_5 := fdq_207 hD hth r0
  have kz_0_6 := fdq_208 hD hth r0
  have kz_0_7 := fdq_297 hD hth r0
  have kz_0_8 := fdq_99 hD hth r0
  have kz_0_9 := fdq_296 hD hth r0
  have kz_0_11 := fdq_320 hD hth r0
  have kz_1_0 := fdq_73 hD hth r1
  have kz_1_1 := fdq_74 hD hth r1
  have kz_1_2 := fdq_206 hD hth r1
  have nf0 : fc_1 PRD (20, [3, 21], [60, 2, 1, 1078, 5, 8, 0]) ws (vs) := by
    refine ⟨nf_in hl rfl, sgq_1988 ?_⟩
    · show FSY (w_fi ws (n_v vs 3) 5) (w_fi ws (n_v vs 3) 8) (w_ei ws (w_ar ws (n_v vs 3) 0)) (v_iv (n_v vs 21))
      rw [q3]
      exact vc_Re_readEdges_37_0 (v_iv (n_v vs 4)) (v_iv (n_v vs 15)) (v_iv (n_v vs 16)) (v_iv (n_v vs 17)) (v_iv (n_v vs 19)) (v_iv (n_v vs 21)) (w_fi ws (n_v vs 0) 6) (w_fi ws (n_v vs 0) 8) (w_fi ws (n_v vs 0) 5) (w_ei ws (w_ar ws (n_v vs 0) 0)) (w_ei ws (w_ar ws (n_v vs 0) 10)) (w_fi ws (n_v vs 0) 11) (w_fi ws (n_v vs 1) 1) (w_ei ws (w_ar ws (n_v vs 1) 7)) (w_ei ws (w_ar ws (n_v vs 1) 8)) (w_ei ws (w_ar ws (n_v vs 1) 15)) (w_fi ws (n_v vs 0) 7) (w_fi ws (n_v vs 0) 9) (w_fi ws (n_v vs 1) 0) (w_ei ws (w_ar ws (n_v vs 1) 4)) (w_ei ws (w_ar ws (n_v vs 1) 3)) (w_fi ws (n_v vs 1) 2) k4 k15 k16 k17 k19 k21 d0 f0 f2 f3 f9 f12 f19 f22 f27 f31 kz_0_5 kz_0_6 kz_0_7 kz_0_8 kz_0_9 kz_0_11 kz_1_0 kz_1_1 kz_1_2
  refine ⟨(fun _ h => (by cases h)), [], trivial, ?_, (fun _ h => (by cases h))⟩
  rw [List.append_nil]
  exact List.forall_mem_cons.mpr ⟨⟨show (20 : Nat) < 100 from by decide, nf0⟩, (fun _ h => (by cases h))⟩
set_option maxHeartbeats 4000000 in
theorem vc_Re_readEdges_38_0 (edges_0o1 : Int) (tail_0o1 : Int → Int) (head_0o1 : Int → Int) (near_0o1 : Int → Int) (nodes_0o1 : Int) (f21 : GNB (nodes_0o1) (edges_0o1) (near_0o1) (tail_0o1) (head_0o1)) (kz_1_0 : 0 ≤ nodes_0o1 ∧ nodes_0o1 ≤ 24) (kz_1_1 : 0 ≤ edges_0o1 ∧ edges_0o1 ≤ 48) : GNB (nodes_0o1) (edges_0o1) (near_0o1) (tail_0o1) (head_0o1) := by
  first
    | assumption
  
set_option maxHeartbeats 4000000 in
theorem vc_Re_readEdges_38_1 (edges_0o1 : Int) (tail_0o1 : Int → Int) (head_0o1 : Int → Int) (nodes_0o1 : Int) (f22 : GKE (nodes_0o1) (edges_0o1) (tail_0o1) (head_0o1)) (kz_1_0 : 0 ≤ nodes_0o1 ∧ nodes_0o1 ≤ 24) (kz_1_1 : 0 ≤ edges_0o1 ∧ edges_0o1 ≤ 48) : GKE (nodes_0o1) (edges_0o1) (tail_0o1) (head_0o1) := by
  first
    | assumption
  
set_option maxHeartbeats 4000000 in
theorem vc_Re_readEdges_38_2 (x21 : Int) (x22 : Int) (tape_0 : Int → Int) (end_0 : Int) (begin_0 : Int) (next_0 : Int) (open_0 : Int → Int) (depth_0 : Int) (edges_0o1 : Int) (tail_0o1 : Int → Int) (head_0o1 : Int → Int) (nodes_0o1 : Int) (nameLength_0o1 : Int → Int) (name_0o1 : Int → Int) (groups_0o1 : Int) (fault_0 : Int) (faultPlace_0 : Int) (k21 : 2 ≤ x21 ∧ x21 ≤ 2) (k22 : 0 ≤ x22 ∧ x22 ≤ 0) (f0 : FSY (end_0) (begin_0) (tape_0) (x21)) (f26 : (x22 = 0) ∧ ((fault_0 = x21) ∧ (faultPlace_0 = begin_0))) (kz_0_2 : (-1) ≤ fault_0 ∧ fault_0 ≤ 5) (kz_0_3 : (-1) ≤ faultPlace_0 ∧ faultPlace_0 ≤ 2000) (kz_0_5 : 0 ≤ end_0 ∧ end_0 ≤ 2000) (kz_0_6 : 0 ≤ next_0 ∧ next_0 ≤ 2000) (kz_0_8 : 0 ≤ begin_0 ∧ begin_0 ≤ 2000) (kz_0_11 : 0 ≤ depth_0 ∧ depth_0 ≤ 4) (kz_1_0 : 0 ≤ nodes_0o1 ∧ nodes_0o1 ≤ 24) (kz_1_1 : 0 ≤ edges_0o1 ∧ edges_0o1 ≤ 48) (kz_1_2 : 0 ≤ groups_0o1 ∧ groups_0o1 ≤ 8) : cO0 (end_0) (next_0) (depth_0) (fault_0) (faultPlace_0) (nodes_0o1) (edges_0o1) (groups_0o1) (tape_0) (open_0) (nameLength_0o1) (name_0o1) (tail_0o1) (head_0o1) (x22) := by
  first
    | exact cO0_f ‹FSY _ _ _ _› (by omega) (by omega) (by omega)
    | exact cO_13 ‹cO13 _ _ _ _ _ _ _ _ _ _ _ _ _ _ _› (by omega) (by omega)
    | exact cO0_t (s_go (le_s ‹cLE _ _ _ _ _ _ _ _ _ _ _ _ _ _ _ _› (by omega)) (by omega) rfl) (by omega) (by omega)
    | exact cO0_t (s_go (n13_s ‹TKC _ _ _ _ _ _ _› ‹cG13 _ _ _ _ _ _ _ _ _ _ _ _›) (by omega) rfl) (by omega) (by omega)
set_option maxHeartbeats 4000000 in
theorem vc_Re_readEdges_38_3 (x2 : Int) (x15 : Int) (next_0 : Int) (k2 : 0 ≤ x2 ∧ x2 ≤ 2000) (k15 : 0 ≤ x15 ∧ x15 ≤ 2000) (f7 : 1 * x2 + ((-1) * x15 + 0) ≤ 0) (f18 : 1 * x15 + ((-1) * next_0 + 0) ≤ 0) (kz_0_6 : 0 ≤ next_0 ∧ next_0 ≤ 2000) : 1 * x2 + ((-1) * next_0 + 0) ≤ 0 := by
  first
    | omega
  
set_option maxHeartbeats 4000000 in
theorem vc_Re_readEdges_38_4 (edges_0o1 : Int) (tail_0o1 : Int → Int) (head_0o1 : Int → Int) (link_0o1 : Int → Int) (f11 : LKG (edges_0o1) (tail_0o1) (head_0o1) (link_0o1)) (kz_1_1 : 0 ≤ edges_0o1 ∧ edges_0o1 ≤ 48) : LKG (edges_0o1) (tail_0o1) (head_0o1) (link_0o1) := by
  assumption
def o_Re_readEdges_38 : or_T := (148, 23, [(0, (2, 0, 0, [8])), (1, (2, 0, 0, [164])), (2, (0, 0, 2000, [])), (15, (0, 0, 2000, [])), (21, (0, 2, 2, [])), (22, (0, 0, 0, []))], [(20, [3, 21], [60, 2, 1, 1078, 5, 8, 0]), (20, [2, 15], [30, 0, 1, 0, 0, -1, 0, 0]), (24, [1, 7], []), (20, [7], [60, 1, 3, 1085, 1, 7, 8, 15]), (24, [0, 3], []), (20, [15, 3], [30, 0, 1, 0, 0, -1, 1, 6]), (20, [7], [60, 2, 3, 670, 0, 1, 14, 7, 8]), (20, [7], [60, 2, 2, 596, 0, 1, 7, 8]), (20, [22, 3, 21], [50, 3, 0, 1002, 1003, 1008, 2, 6, 1, 2, 1, 0, 0, 0, 2, 7, 1, 3, 2, 1, 2, 1, 2, 1, 3, 2, 1, 3, 2, 1, 8])], [], [], [(20, [1], [60, 2, 3, 670, 0, 1, 14, 7, 8]), (20, [1], [60, 2, 2, 596, 0, 1, 7, 8]), (20, [0, 1, 22], [60, 8, 6, 1063, 5, 6, 11, 2, 3, 1000, 1001, 1002, 0, 10, 1004, 1003, 1007, 1008]), (20, [2, 0], [30, 0, 1, 0, 0, -1, 1, 6]), (20, [1], [60, 1, 3, 1085, 1, 7, 8, 15])], [], [])
theorem oo_Re_readEdges_38 {kA : Nat → ClassId} : or_ok PRD kA GG o_Re_readEdges_38 := by
  refine or_mk fun A ta ws vs hD hth hl => ?_
  intro t0 r0 t1 r1 t2 k2 t15 k15 t21 k21 t22 k22 f0 f7 f9 f11 f12 f18 f21 f22 f26
  replace f0 := shm_1988 f0
  replace f9 := shm_5 f9
  replace f11 := shm_827 f11
  replace f12 := shm_5 f12
  replace f18 := shm_1527 f18
  replace f21 := shm_825 f21
  replace f22 := shm_386 f22
  replace f26 := shm_451 f26
  have q7 : n_v vs 7 = n_v vs 1 := f9.symm
  have q3 : n_v vs 3 = n_v vs 0 := f12.symm
  simp only [q3, q7] at f0 f11 f18 f21 f22 f26
  have kz_0_2 := fdq_97 hD hth r0
  have kz_0_3 := fdq_98 hD hth r0
  have kz_0_5 := fdq_207 hD hth r0
  have kz_0_6 := fdq_208 hD hth r0
  have kz_0_8 := fdq_99 hD hth r0
  have kz_0_11 := fdq_320 hD hth r0
  have kz_1_0 := fdq_73 hD hth r1
  have kz_1_1 := fdq_74 hD hth r1
  have kz_1_2 := fdq_206 hD hth r1
  have nf0 : fc_1 PRD (20, [1], [60, 2, 3, 670, 0, 1, 14, 7, 8]) ws (vs) := ⟨nf_in hl rfl, sgq_825 (vc_Re_readEdges_38_0 (w_fi ws (n_v vs 1) 1) (w_ei ws (w_ar ws (n_v vs 1) 7)) (w_ei ws (w_ar ws (n_v vs 1) 8)) (w_ei ws (w_ar ws (n_v vs 1) 14)) (w_fi ws (n_v vs 1) 0) f21 kz_1_0 kz_1_1)⟩
  have nf1 : fc_1 PRD (20, [1], [60, 2, 2, 596, 0, 1, 7, 8]) ws (vs) := ⟨nf_in hl rfl, sgq_386 (vc_Re_readEdges_38_1 (w_fi ws (n_v vs 1) 1) (w_ei ws (w_ar ws (n_v vs 1) 7)) (w_ei ws (w_ar ws (n_v vs 1) 8)) (w_fi ws (n_v vs 1) 0) f22 kz_1_0 kz_1_1)⟩
  have nf2 : fc_1 PRD (20, [0, 1, 22], [60, 8, 6, 1063, 5, 6, 11, 2, 3, 1000, 1001, 1002, 0, 10, 1004, 1003, 1007, 1008]) ws (vs) := ⟨nf_in hl rfl, sgq_2023 (vc_Re_readEdges_38_2 (v_iv (n_v vs 21)) (v_iv (n_v vs 22)) (w_ei ws (w_ar ws (n_v vs 0) 0)) (w_fi ws (n_v vs 0) 5) (w_fi ws (n_v vs 0) 8) (w_fi ws (n_v vs 0) 6) (w_ei ws (w_ar ws (n_v vs 0) 10)) (w_fi ws (n_v vs 0) 11) (w_fi ws (n_v vs 1) 1) (w_ei ws (w_ar ws (n_v vs 1) 7)) (w_ei ws (w_ar ws (n_v vs 1) 8)) (w_fi ws (n_v vs 1) 0) (w_ei ws (w_ar ws (n_v vs 1) 4)) (w_ei ws (w_ar ws (n_v vs 1) 3)) (w_fi ws (n_v vs 1) 2) (w_fi ws (n_v vs 0) 2) (w_fi ws (n_v vs 0) 3) k21 k22 f0 f26 kz_0_2 kz_0_3 kz_0_5 kz_0_6 kz_0_8 kz_0_11 kz_1_0 kz_1_1 kz_1_2)⟩
  have nf3 : fc_1 PRD (20, [2, 0], [30, 0, 1, 0, 0, -1, 1, 6]) ws (vs) := ⟨nf_in hl rfl, sgq_1527 (vc_Re_readEdges_38_3 (v_iv (n_v vs 2)) (v_iv (n_v vs 15)) (w_fi ws (n_v vs 0) 6) k2 k15 (shm_201 f7) f18 kz_0_6)⟩
  have nf4 : fc_1 PRD (20, [1], [60, 1, 3, 1085, 1, 7, 8, 15]) ws (vs) := ⟨nf_in hl rfl, sgq_827 (vc_Re_readEdges_38_4 (w_fi ws (n_v vs 1) 1) (w_ei ws (w_ar ws (n_v vs 1) 7)) (w_ei ws (w_ar ws (n_v vs 1) 8)) (w_ei ws (w_ar ws (n_v vs 1) 15)) f11 kz_1_1)⟩
  refine ⟨(fun _ h => (by cases h)), [], trivial, ?_, (fun _ h => (by cases h))⟩
  rw [List.append_nil]
  exact List.forall_mem_cons.mpr ⟨⟨show (20 : Nat) < 100 from by decide, nf0⟩, List.forall_mem_cons.mpr ⟨⟨show (20 : Nat) < 100 from by decide, nf1⟩, List.forall_mem_cons.mpr ⟨⟨show (20 : Nat) < 100 from by decide, nf2⟩, List.forall_mem_cons.mpr ⟨⟨show (20 : Nat) < 100 from by decide, nf3⟩, List.forall_mem_cons.mpr ⟨⟨show (20 : Nat) < 100 from by decide, nf4⟩, (fun _ h => (by cases h))⟩⟩⟩⟩⟩
set_option maxHeartbeats 4000000 in
theorem vc_Re_readEdges_39_1 (edges_0o1 : Int) (tail_0o1 : Int → Int) (head_0o1 : Int → Int) (near_0o1 : Int → Int) (nodes_0o1 : Int) (f28 : GNB (nodes_0o1) (edges_0o1) (near_0o1) (tail_0o1) (head_0o1)) (kz_1_0 : 0 ≤ nodes_0o1 ∧ nodes_0o1 ≤ 24) (kz_1_1 : 0 ≤ edges_0o1 ∧ edges_0o1 ≤ 48) : GNB (nodes_0o1) (edges_0o1) (near_0o1) (tail_0o1) (head_0o1) := by
  first
    | assumption
  
set_option maxHeartbeats 4000000 in
theorem vc_Re_readEdges_39_2 (edges_0o1 : Int) (tail_0o1 : Int → Int) (head_0o1 : Int → Int) (nodes_0o1 : Int) (f29 : GKE (nodes_0o1) (edges_0o1) (tail_0o1) (head_0o1)) (kz_1_0 : 0 ≤ nodes_0o1 ∧ nodes_0o1 ≤ 24) (kz_1_1 : 0 ≤ edges_0o1 ∧ edges_0o1 ≤ 48) : GKE (nodes_0o1) (edges_0o1) (tail_0o1) (head_0o1) := by
  first
    | assumption
  
set_option maxHeartbeats 4000000 in
theorem vc_Re_readEdges_39_3 (x4 : Int) (x14 : Int) (x16 : Int) (x17 : Int) (x19 : Int) (x20 : Int) (next_0 : Int) (begin_0 : Int) (kind_0 : Int) (number_0 : Int) (nodes_0o1 : Int) (k4 : 0 ≤ x4 ∧ x4 ≤ 23) (k14 : (-2147483648) ≤ x14 ∧ x14 ≤ 1000000) (k16 : 1 ≤ x16 ∧ x16 ≤ 1) (k17 : 0 ≤ x17 ∧ x17 ≤ 23) (k19 : 0 ≤ x19 ∧ x19 ≤ 23) (k20 : (-1) ≤ x20 ∧ x20 ≤ (-1)) (f5 : x4 ≠ x19) (f6 : x19 ≠ x20) (f7 : 1 * x17 + ((-1) * x4 + 0) ≤ 0) (f8 : (-1) * x17 + (1 * x4 + 0) ≤ 0) (f20 : (1 * kind_0 + 0 ≤ 3) ∨ (1 * number_0 + ((-1) * x14 + 0) ≤ 0)) (f21 : (1 * kind_0 + 0 ≤ 3) ∨ ((-1) * number_0 + (1 * x14 + 0) ≤ 0)) (f22 : ((-1) * kind_0 + 0 ≤ (-3)) ∨ (1 * next_0 + ((-1) * begin_0 + (2000 * kind_0 + 0)) ≤ 4008)) (f30 : (x19 = (-1)) ∨ ((0 ≤ x19) ∧ ((x19 + 1) ≤ nodes_0o1))) (f31 : (0 ≤ x17) ∧ ((x17 + 1) ≤ nodes_0o1)) (f36 : x16 ≠ 0) (kz_0_6 : 0 ≤ next_0 ∧ next_0 ≤ 2000) (kz_0_7 : (-128) ≤ kind_0 ∧ kind_0 ≤ 127) (kz_0_8 : 0 ≤ begin_0 ∧ begin_0 ≤ 2000) (kz_0_9 : (-176) ≤ number_0 ∧ number_0 ≤ 1000000) (kz_1_0 : 0 ≤ nodes_0o1 ∧ nodes_0o1 ≤ 24) : (0 ≤ x4) ∧ (((x4 + 1) ≤ nodes_0o1) ∧ ((0 ≤ x19) ∧ (((x19 + 1) ≤ nodes_0o1) ∧ (((x4 + 1) ≤ x19) ∨ ((x19 + 1) ≤ x4))))) := by
  first
    | omega
  
set_option maxHeartbeats 4000000 in
theorem vc_Re_readEdges_39_4 (x4 : Int) (x15 : Int) (x16 : Int) (x19 : Int) (x21 : Int) (x24 : Int) (edges_0o1 : Int) (link_0o1 : Int → Int) (next_0 : Int) (begin_0 : Int) (end_0 : Int) (tape_0 : Int → Int) (open_0 : Int → Int) (depth_0 : Int) (tail_0o1 : Int → Int) (head_0o1 : Int → Int) (kind_0 : Int) (number_0 : Int) (nodes_0o1 : Int) (nameLength_0o1 : Int → Int) (name_0o1 : Int → Int) (groups_0o1 : Int) (gy : Int) (k4 : 0 ≤ x4 ∧ x4 ≤ 23) (k15 : 0 ≤ x15 ∧ x15 ≤ 2000) (k16 : 1 ≤ x16 ∧ x16 ≤ 1) (k19 : 0 ≤ x19 ∧ x19 ≤ 23) (k21 : (-1) ≤ x21 ∧ x21 ≤ (-1)) (k24 : 0 ≤ x24 ∧ x24 ≤ 47) (g1 : x24 = edges_0o1) (f4 : x21 = link_0o1 (((x4 * 24) + x19))) (f5 : x4 ≠ x19) (f14 : cU4 (end_0) (depth_0) (tape_0) (open_0) (x4) (x15)) (f17 : LKG (edges_0o1) (tail_0o1) (head_0o1) (link_0o1)) (f24 : TKC (end_0) (next_0) (kind_0) (begin_0) (number_0) (tape_0) (x15)) (f27 : CNM (kind_0) (next_0) (begin_0) (tape_0) (x16)) (f32 : CGM (end_0) (next_0) (begin_0) (nodes_0o1) (edges_0o1) (groups_0o1) (tape_0) (nameLength_0o1) (name_0o1) (tail_0o1) (head_0o1) (x19)) (f36 : x16 ≠ 0) (kz_0_5 : 0 ≤ end_0 ∧ end_0 ≤ 2000) (kz_0_6 : 0 ≤ next_0 ∧ next_0 ≤ 2000) (kz_0_7 : (-128) ≤ kind_0 ∧ kind_0 ≤ 127) (kz_0_8 : 0 ≤ begin_0 ∧ begin_0 ≤ 2000) (kz_0_9 : (-176) ≤ number_0 ∧ number_0 ≤ 1000000) (kz_0_11 : 0 ≤ depth_0 ∧ depth_0 ≤ 4) (kz_1_0 : 0 ≤ nodes_0o1 ∧ nodes_0o1 ≤ 24) (kz_1_1 : 0 ≤ edges_0o1 ∧ edges_0o1 ≤ 48) (kz_1_2 : 0 ≤ groups_0o1 ∧ groups_0o1 ≤ 8) (ey2 : gy = edges_0o1) : CEA (end_0) (next_0) (begin_0) (nodes_0o1) (edges_0o1) (groups_0o1) (tape_0) (nameLength_0o1) (name_0o1) (tail_0o1) (head_0o1) (x4) (x19) := by
  exact m4_a ‹TKC _ _ _ _ _ _ _› ‹cU4 _ _ _ _ _ _› (cnm_t ‹CNM _ _ _ _ _› (by omega)) ‹CGM _ _ _ _ _ _ _ _ _ _ _ _› (by omega) ‹LKG _ _ _ _› (by omega) (by omega) (by omega)
set_option maxHeartbeats 4000000 in
theorem vc_Re_readEdges_39_5 (edges_0o1 : Int) (link_0o1 : Int → Int) (tail_0o1 : Int → Int) (head_0o1 : Int → Int) (f17 : LKG (edges_0o1) (tail_0o1) (head_0o1) (link_0o1)) (kz_1_1 : 0 ≤ edges_0o1 ∧ edges_0o1 ≤ 48) : LKG (edges_0o1) (tail_0o1) (head_0o1) (link_0o1) := by
  assumption
set_option maxHeartbeats 4000000 in
theorem vc_Re_readEdges_39_6 (edges_0o1 : Int) (gy : Int) (kz_1_1 : 0 ≤ edges_0o1 ∧ edges_0o1 ≤ 48) (ey2 : gy = edges_0o1) : 1 * edges_0o1 + ((-1) * gy + 0) ≤ 0 := by
  first
    | omega
  
set_option maxHeartbeats 4000000 in
theorem vc_Re_readEdges_39_7 (edges_0o1 : Int) (gy : Int) (kz_1_1 : 0 ≤ edges_0o1 ∧ edges_0o1 ≤ 48) (ey2 : gy = edges_0o1) : (-1) * edges_0o1 + (1 * gy + 0) ≤ 0 := by
  first
    | omega
  
set_option maxHeartbeats 4000000 in
theorem vc_Re_readEdges_39_8 (x6 : Int) (edges_0o1 : Int) (gy : Int) (k6 : 0 ≤ x6 ∧ x6 ≤ 48) (f16 : x6 ≤ edges_0o1) (kz_1_1 : 0 ≤ edges_0o1 ∧ edges_0o1 ≤ 48) (ey2 : gy = edges_0o1) : x6 ≤ gy := by
  first
    | omega
  
def o_Re_readEdges_39 : or_T := (182, 26, [(0, (2, 0, 0, [8])), (1, (2, 0, 0, [164])), (2, (0, 0, 2000, [])), (3, (2, 0, 0, [8])), (4, (0, 0, 23, [])), (6, (0, 0, 48, [])), (7, (2, 0, 0, [164])), (8, (0, 48, 48, [])), (14, (0, -2147483648, 1000000, [])), (15, (0, 0, 2000, [])), (16, (0, 1, 1, [])), (17, (0, 0, 23, [])), (18, (0, 0, 2000, [])), (19, (0, 0, 23, [])), (20, (0, -1, -1, [])), (21, (0, -1, -1, [])), (22, (0, -1, -1, [])), (23, (0, -1, -1, [])), (24, (0, 0, 47, [])), (25, (0, 48, 48, []))], [(7, [24, 25], [2]), (9, [24, 7], [1]), (7, [19, 23], [1]), (7, [21, 22], [0]), (20, [21, 7, 4, 19], [50, 0, 1, 1015, 1, 2, 1, 0, 3, 1, 15, 4, 6, 6, 2, 1, 2, 0, 24, 1, 3]), (7, [4, 19], [1]), (7, [19, 20], [1]), (23, [17, 4], [0, 1, -1]), (23, [17, 4], [0, -1, 1]), (20, [3, 3], [30, 8, 1, 1, 6, -1, 1, 8]), (20, [3, 3], [30, 0, -1, 1, 6, 1, 1, 8]), (20, [3, 18], [30, 0, 1, 1, 5, -1, 0, 0]), (20, [3, 18], [30, 0, -1, 1, 5, 1, 0, 0]), (20, [2, 15], [30, 0, 1, 0, 0, -1, 0, 0]), (20, [3, 4, 15], [60, 2, 2, 1070, 5, 11, 0, 10]), (24, [1, 7], []), (20, [6, 7], [50, 1, 0, 1001, 0, 2, 1, 0, 2, 1, 1]), (20, [7], [60, 1, 3, 1085, 1, 7, 8, 15]), (20, [3], [50, 1, 0, 2, 1, 3, 2, 0, 2, 0, 0]), (24, [0, 3], []), (20, [3, 3, 14], [31, 1, 3, 1, 1, 7, 0, 1, 1, 9, -1, 0, 0]), (20, [3, 3, 14], [31, 1, 3, 1, 1, 7, 0, -1, 1, 9, 1, 0, 0]), (20, [3, 3, 3, 3], [31, 1, -3, -1, 1, 7, 4008, 1, 1, 6, -1, 1, 8, 2000, 1, 7]), (20, [3, 3], [30, 0, 1, 1, 8, -1, 1, 6]), (20, [3, 15], [60, 5, 1, 1072, 5, 6, 7, 8, 9, 0]), (20, [15, 3], [30, 0, 1, 0, 0, -1, 1, 6]), (20, [3, 3, 16], [30, 2008, 1, 1, 6, -1, 1, 8, 2000, 0, 0]), (20, [3, 16], [60, 3, 1, 1079, 7, 6, 8, 0]), (20, [7], [60, 2, 3, 670, 0, 1, 14, 7, 8]), (20, [7], [60, 2, 2, 596, 0, 1, 7, 8]), (20, [19, 7], [50, 1, 0, 1000, 3, 6, 1, 2, 1, 0, 0, -1, 2, 6, 0, 2, 0, 0, 1, 0, 0, 6, 4, 2, 1, 0, 0, 1, 2, 1, 0]), (20, [17, 7], [50, 1, 0, 1000, 2, 6, 0, 2, 0, 0, 1, 0, 0, 6, 4, 2, 1, 0, 0, 1, 2, 1, 0]), (20, [3, 7, 19], [60, 6, 5, 1066, 5, 6, 8, 1000, 1001, 1002, 0, 1004, 1003, 1007, 1008]), (102, [18], [2944411990052395234623243954974308466357606285312, 164000]), (23, [17, 4], [0, 1, -1]), (23, [17, 4], [0, -1, 1]), (8, [16], [1]), (102, [15], [0]), (102, [15], [0, 8006, 8007, 8008, 8009]), (7, [6, 8], [5])], [], [(2, 0, 0, [8]), (0, 0, 47, [])], [(24, [0, 26], []), (20, [7], [60, 2, 3, 670, 0, 1, 14, 7, 8]), (20, [7], [60, 2, 2, 596, 0, 1, 7, 8]), (20, [4, 7, 19], [50, 1, 0, 1000, 2, 6, 0, 2, 0, 0, 1, 0, 2, 11, 0, 6, 4, 2, 1, 0, 0, 1, 2, 1, 0, 2, 6, 0, 2, 0, 0, 1, 2, 2, 11, 0, 6, 4, 2, 1, 2, 0, 1, 2, 1, 0, 3, 10, 0, 6, 4, 2, 1, 0, 0, 1, 1, 2, 0, 6, 4, 2, 1, 2, 0, 1, 1, 0]), (20, [26, 7, 4, 19], [60, 6, 5, 1067, 5, 6, 8, 1000, 1001, 1002, 0, 1004, 1003, 1007, 1008]), (20, [7], [60, 1, 3, 1085, 1, 7, 8, 15]), (20, [7, 27], [30, 0, 1, 1, 1, -1, 0, 0]), (20, [7, 27], [30, 0, -1, 1, 1, 1, 0, 0]), (20, [6, 27], [50, 0, 0, 0, 2, 1, 0, 1, 1])], [], [])
theorem oo_Re_readEdges_39 {kA : Nat → ClassId} : or_ok PRD kA GG o_Re_readEdges_39 := by
  refine or_mk fun A ta ws vs hD hth hl => ?_
  intro t0 r0 t1 r1 t2 k2 t3 r3 t4 k4 t6 k6 t7 r7 t8 k8 t14 k14 t15 k15 t16 k16 t17 k17 t18 k18 t19 k19 t20 k20 t21 k21 t22 k22 t23 k23 t24 k24 t25 k25 f0 f1 f2 f3 f4 f5 f6 f7 f8 f9 f10 f11 f12 f13 f14 f15 f16 f17 f18 f19 f20 f21 f22 f23 f24 f25 f26 f27 f28 f29 f30 f31 f32 ta1 w1 le1 s1 f34 f35 f36 ta2 w2 le2 s2 ta3 w3 le3 s3 f39
  replace f0 := shm_6 f0
  replace f1 := shm_215 f1
  replace f2 := shm_40 f2
  replace f3 := shm_37 f3
  replace f4 := shm_376 f4
  replace f5 := shm_40 f5
  replace f6 := shm_40 f6
  replace f7 := shm_7 f7
  replace f8 := shm_22 f8
  replace f9 := shm_1401 f9
  replace f10 := shm_1402 f10
  replace f11 := shm_1403 f11
  replace f12 := shm_1404 f12
  replace f13 := shm_201 f13
  replace f14 := shm_2142 f14
  replace f15 := shm_5 f15
  replace f16 := shm_483 f16
  replace f17 := shm_827 f17
  replace f18 := shm_1985 f18
  replace f19 := shm_5 f19
  replace f20 := shm_1528 f20
  replace f21 := shm_1529 f21
  replace f22 := shm_1530 f22
  replace f23 := shm_1531 f23
  replace f24 := shm_1532 f24
  replace f25 := shm_1527 f25
  replace f26 := shm_1836 f26
  replace f27 := shm_1837 f27
  replace f28 := shm_825 f28
  replace f29 := shm_386 f29
  replace f30 := shm_847 f30
  replace f31 := shm_416 f31
  replace f32 := shm_1406 f32
  replace f34 := shm_7 f34
  replace f35 := shm_22 f35
  replace f36 := shm_142 f36
  replace f39 := shm_24 f39
  have q7 : n_v vs 7 = n_v vs 1 := f15.symm
  have q3 : n_v vs 3 = n_v vs 0 := f19.symm
  simp only [q7, q3] at f1 f4 f9 f10 f11 f12 f14 f16 f17 f18 f20 f21 f22 f23 f24 f25 f26 f27 f28 f29 f30 f31 f32
  have cr_0_0 := fdq_95 hD hth r0
  have cr_0_10 := fdq_319 hD hth r0
  have cr_1_3 := fdq_68 hD hth r1
  have cr_1_4 := fdq_67 hD hth r1
  have cr_1_7 := fdq_70 hD hth r1
  have cr_1_8 := fdq_71 hD hth r1
  have cr_1_14 := fdq_72 hD hth r1
  have cr_1_15 := fdq_65 hD hth r1
  have g1 : v_iv (n_v vs 24) = w_fi ws (n_v vs 1) 1 := congrArg v_iv f1
  have hK_0_0 := elq_33 hD hth cr_0_0
  have hK_0_10 := elq_196 hD hth cr_0_10
  have hK_1_3 := elq_34 hD hth cr_1_3
  have hK_1_4 := elq_32 hD hth cr_1_4
  have hK_1_7 := elq_35 hD hth cr_1_7
  have hK_1_8 := elq_36 hD hth cr_1_8
  have hK_1_14 := elq_37 hD hth cr_1_14
  have hK_1_15 := elq_30 hD hth cr_1_15
  have kz_0_2 := fdq_97 hD hth r0
  have kz_0_5 := fdq_207 hD hth r0
  have kz_0_6 := fdq_208 hD hth r0
  have kz_0_7 := fdq_297 hD hth r0
  have kz_0_8 := fdq_99 hD hth r0
  have kz_0_9 := fdq_296 hD hth r0
  have kz_0_11 := fdq_320 hD hth r0
  have kz_1_0 := fdq_73 hD hth r1
  have kz_1_1 := fdq_74 hD hth r1
  have kz_1_2 := fdq_206 hD hth r1
  have kv1 := fdq_74 hD hth r1
  obtain ⟨y, ey, hy⟩ := iv_ex (ta := ta) (lo := 0) (hi := 47) (z := w_fi ws (n_v vs 1) 1) (by omega) (by omega) (by omega) (by omega)
  have ey2 : v_iv (Value.int y) = w_fi ws (n_v vs 1) 1 := ey
  have ey3 : 0 ≤ v_iv (Value.int y) ∧ v_iv (Value.int y) ≤ 47 := tv_rng hy
  have e_0 : n_v (vs ++ [n_v vs 0, Value.int y]) 0 = n_v vs 0 := n_v_old (by rw [hl]; decide)
  have e_4 : n_v (vs ++ [n_v vs 0, Value.int y]) 4 = n_v vs 4 := n_v_old (by rw [hl]; decide)
  have e_6 : n_v (vs ++ [n_v vs 0, Value.int y]) 6 = n_v vs 6 := n_v_old (by rw [hl]; decide)
  have e_7 : n_v (vs ++ [n_v vs 0, Value.int y]) 7 = n_v vs 7 := n_v_old (by rw [hl]; decide)
  have e_19 : n_v (vs ++ [n_v vs 0, Value.int y]) 19 = n_v vs 19 := n_v_old (by rw [hl]; decide)
  have e_26 : n_v (vs ++ [n_v vs 0, Value.int y]) 26 = n_v vs 0 := n_v_new0 hl
  have e_27 : n_v (vs ++ [n_v vs 0, Value.int y]) 27 = Value.int y := n_v_new1 hl
  have nf0 : fc_1 PRD (24, [0, 26], []) ws (vs ++ [n_v vs 0, Value.int y]) := by
    refine ⟨nf_inA hl rfl, sgq_5 ?_⟩
    · show n_v (vs ++ [n_v vs 0, Value.int y]) 0 = n_v (vs ++ [n_v vs 0, Value.int y]) 26
      first | rfl | simp only [e_0, e_26, q7, q3]
  have nf1 : fc_1 PRD (20, [7], [60, 2, 3, 670, 0, 1, 14, 7, 8]) ws (vs ++ [n_v vs 0, Value.int y]) := by
    refine ⟨nf_inA hl rfl, sgq_825 ?_⟩
    · show GNB (w_fi ws (n_v (vs ++ [n_v vs 0, Value.int y]) 7) 0) (w_fi ws (n_v (vs ++ [n_v vs 0, Value.int y]) 7) 1) (w_ei ws (w_ar ws (n_v (vs ++ [n_v vs 0, Value.int y]) 7) 14)) (w_ei ws (w_ar ws (n_v (vs ++ [n_v vs 0, Value.int y]) 7) 7)) (w_ei ws (w_ar ws (n_v (vs ++ [n_v vs 0, Value.int y]) 7) 8))
      simp only [e_7, q7]
      exact vc_Re_readEdges_39_1 (w_fi ws (n_v vs 1) 1) (w_ei ws (w_ar ws (n_v vs 1) 7)) (w_ei ws (w_ar ws (n_v vs 1) 8)) (w_ei ws (w_ar ws (n_v vs 1) 14)) (w_fi ws (n_v vs 1) 0) f28 kz_1_0 kz_1_1
  have nf2 : fc_1 PRD (20, [7], [60, 2, 2, 596, 0, 1, 7, 8]) ws (vs ++ [n_v vs 0, Value.int y]) := by
    refine ⟨nf_inA hl rfl, sgq_386 ?_⟩
    · show GKE (w_fi ws (n_v (vs ++ [n_v vs 0, Value.int y]) 7) 0) (w_fi ws (n_v (vs ++ [n_v vs 0, Value.int y]) 7) 1) (w_ei ws (w_ar ws (n_v (vs ++ [n_v vs 0, Value.int y]) 7) 7)) (w_ei ws (w_ar ws (n_v (vs ++ [n_v vs 0, Value.int y]) 7) 8))
      simp only [e_7, q7]
      exact vc_Re_readEdges_39_2 (w_fi ws (n_v vs 1) 1) (w_ei ws (w_ar ws (n_v vs 1) 7)) (w_ei ws (w_ar ws (n_v vs 1) 8)) (w_fi ws (n_v vs 1) 0) f29 kz_1_0 kz_1_1
  have nf3 : fc_1 PRD (20, [4, 7, 19], [50, 1, 0, 1000, 2, 6, 0, 2, 0, 0, 1, 0, 2, 11, 0, 6, 4, 2, 1, 0, 0, 1, 2, 1, 0, 2, 6, 0, 2, 0, 0, 1, 2, 2, 11, 0, 6, 4, 2, 1, 2, 0, 1, 2, 1, 0, 3, 10, 0, 6, 4, 2, 1, 0, 0, 1, 1, 2, 0, 6, 4, 2, 1, 2, 0, 1, 1, 0]) ws (vs ++ [n_v vs 0, Value.int y]) := by
    refine ⟨nf_inA hl rfl, sgq_824 ?_⟩
    · show (0 ≤ v_iv (n_v (vs ++ [n_v vs 0, Value.int y]) 4)) ∧ (((v_iv (n_v (vs ++ [n_v vs 0, Value.int y]) 4) + 1) ≤ w_fi ws (n_v (vs ++ [n_v vs 0, Value.int y]) 7) 0) ∧ ((0 ≤ v_iv (n_v (vs ++ [n_v vs 0, Value.int y]) 19)) ∧ (((v_iv (n_v (vs ++ [n_v vs 0, Value.int y]) 19) + 1) ≤ w_fi ws (n_v (vs ++ [n_v vs 0, Value.int y]) 7) 0) ∧ (((v_iv (n_v (vs ++ [n_v vs 0, Value.int y]) 4) + 1) ≤ v_iv (n_v (vs ++ [n_v vs 0, Value.int y]) 19)) ∨ ((v_iv (n_v (vs ++ [n_v vs 0, Value.int y]) 19) + 1) ≤ v_iv (n_v (vs ++ [n_v vs 0, Value.int y]) 4))))))
      simp only [e_4, e_7, e_19, q7]
      exact vc_Re_readEdges_39_3 (v_iv (n_v vs 4)) (v_iv (n_v vs 14)) (v_iv (n_v vs 16)) (v_iv (n_v vs 17)) (v_iv (n_v vs 19)) (v_iv (n_v vs 20)) (w_fi ws (n_v vs 0) 6) (w_fi ws (n_v vs 0) 8) (w_fi ws (n_v vs 0) 7) (w_fi ws (n_v vs 0) 9) (w_fi ws (n_v vs 1) 0) k4 k14 k16 k17 k19 k20 f5 f6 f7 f8 f20 f21 f22 f30 f31 f36 kz_0_6 kz_0_7 kz_0_8 kz_0_9 kz_1_0
  have nf4 : fc_1 PRD (20, [26, 7, 4, 19], [60, 6, 5, 1067, 5, 6, 8, 1000, 1001, 1002, 0, 1004, 1003, 1007, 1008]) ws (vs ++ [n_v vs 0, Value.int y]) := by
    refine ⟨nf_inA hl rfl, sgq_826 ?_⟩
    · show CEA (w_fi ws (n_v (vs ++ [n_v vs 0, Value.int y]) 26) 5) (w_fi ws (n_v (vs ++ [n_v vs 0, Value.int y]) 26) 6) (w_fi ws (n_v (vs ++ [n_v vs 0, Value.int y]) 26) 8) (w_fi ws (n_v (vs ++ [n_v vs 0, Value.int y]) 7) 0) (w_fi ws (n_v (vs ++ [n_v vs 0, Value.int y]) 7) 1) (w_fi ws (n_v (vs ++ [n_v vs 0, Value.int y]) 7) 2) (w_ei ws (w_ar ws (n_v (vs ++ [n_v vs 0, Value.int y]) 26) 0)) (w_ei ws (w_ar ws (n_v (vs ++ [n_v vs 0, Value.int y]) 7) 4)) (w_ei ws (w_ar ws (n_v (vs ++ [n_v vs 0, Value.int y]) 7) 3)) (w_ei ws (w_ar ws (n_v (vs ++ [n_v vs 0, Value.int y]) 7) 7)) (w_ei ws (w_ar ws (n_v (vs ++ [n_v vs 0, Value.int y]) 7) 8)) (v_iv (n_v (vs ++ [n_v vs 0, Value.int y]) 4)) (v_iv (n_v (vs ++ [n_v vs 0, Value.int y]) 19))
      simp only [e_4, e_7, e_19, e_26, q7]
      exact vc_Re_readEdges_39_4 (v_iv (n_v vs 4)) (v_iv (n_v vs 15)) (v_iv (n_v vs 16)) (v_iv (n_v vs 19)) (v_iv (n_v vs 21)) (v_iv (n_v vs 24)) (w_fi ws (n_v vs 1) 1) (w_ei ws (w_ar ws (n_v vs 1) 15)) (w_fi ws (n_v vs 0) 6) (w_fi ws (n_v vs 0) 8) (w_fi ws (n_v vs 0) 5) (w_ei ws (w_ar ws (n_v vs 0) 0)) (w_ei ws (w_ar ws (n_v vs 0) 10)) (w_fi ws (n_v vs 0) 11) (w_ei ws (w_ar ws (n_v vs 1) 7)) (w_ei ws (w_ar ws (n_v vs 1) 8)) (w_fi ws (n_v vs 0) 7) (w_fi ws (n_v vs 0) 9) (w_fi ws (n_v vs 1) 0) (w_ei ws (w_ar ws (n_v vs 1) 4)) (w_ei ws (w_ar ws (n_v vs 1) 3)) (w_fi ws (n_v vs 1) 2) (v_iv (Value.int y)) k4 k15 k16 k19 k21 k24 g1 f4 f5 f14 f17 f24 f27 f32 f36 kz_0_5 kz_0_6 kz_0_7 kz_0_8 kz_0_9 kz_0_11 kz_1_0 kz_1_1 kz_1_2 ey2
  have nf5 : fc_1 PRD (20, [7], [60, 1, 3, 1085, 1, 7, 8, 15]) ws (vs ++ [n_v vs 0, Value.int y]) := by
    refine ⟨nf_inA hl rfl, sgq_827 ?_⟩
    · show LKG (w_fi ws (n_v (vs ++ [n_v vs 0, Value.int y]) 7) 1) (w_ei ws (w_ar ws (n_v (vs ++ [n_v vs 0, Value.int y]) 7) 7)) (w_ei ws (w_ar ws (n_v (vs ++ [n_v vs 0, Value.int y]) 7) 8)) (w_ei ws (w_ar ws (n_v (vs ++ [n_v vs 0, Value.int y]) 7) 15))
      simp only [e_7, q7]
      exact vc_Re_readEdges_39_5 (w_fi ws (n_v vs 1) 1) (w_ei ws (w_ar ws (n_v vs 1) 15)) (w_ei ws (w_ar ws (n_v vs 1) 7)) (w_ei ws (w_ar ws (n_v vs 1) 8)) f17 kz_1_1
  have nf6 : fc_1 PRD (20, [7, 27], [30, 0, 1, 1, 1, -1, 0, 0]) ws (vs ++ [n_v vs 0, Value.int y]) := by
    refine ⟨nf_inA hl rfl, sgq_436 ?_⟩
    · show 1 * w_fi ws (n_v (vs ++ [n_v vs 0, Value.int y]) 7) 1 + ((-1) * v_iv (n_v (vs ++ [n_v vs 0, Value.int y]) 27) + 0) ≤ 0
      simp only [e_7, e_27, q7]
      exact vc_Re_readEdges_39_6 (w_fi ws (n_v vs 1) 1) (v_iv (Value.int y)) kz_1_1 ey2
  have nf7 : fc_1 PRD (20, [7, 27], [30, 0, -1, 1, 1, 1, 0, 0]) ws (vs ++ [n_v vs 0, Value.int y]) := by
    refine ⟨nf_inA hl rfl, sgq_437 ?_⟩
    · show (-1) * w_fi ws (n_v (vs ++ [n_v vs 0, Value.int y]) 7) 1 + (1 * v_iv (n_v (vs ++ [n_v vs 0, Value.int y]) 27) + 0) ≤ 0
      simp only [e_7, e_27, q7]
      exact vc_Re_readEdges_39_7 (w_fi ws (n_v vs 1) 1) (v_iv (Value.int y)) kz_1_1 ey2
  have nf8 : fc_1 PRD (20, [6, 27], [50, 0, 0, 0, 2, 1, 0, 1, 1]) ws (vs ++ [n_v vs 0, Value.int y]) := by
    refine ⟨nf_inA hl rfl, sgq_360 ?_⟩
    · show v_iv (n_v (vs ++ [n_v vs 0, Value.int y]) 6) ≤ v_iv (n_v (vs ++ [n_v vs 0, Value.int y]) 27)
      simp only [e_6, e_27]
      exact vc_Re_readEdges_39_8 (v_iv (n_v vs 6)) (w_fi ws (n_v vs 1) 1) (v_iv (Value.int y)) k6 f16 kz_1_1 ey2
  exact ⟨(fun _ h => (by cases h)), [n_v vs 0, Value.int y], ag_two t0 hy, List.forall_mem_cons.mpr ⟨⟨show (24 : Nat) < 100 from by decide, nf0⟩, List.forall_mem_cons.mpr ⟨⟨show (20 : Nat) < 100 from by decide, nf1⟩, List.forall_mem_cons.mpr ⟨⟨show (20 : Nat) < 100 from by decide, nf2⟩, List.forall_mem_cons.mpr ⟨⟨show (20 : Nat) < 100 from by decide, nf3⟩, List.forall_mem_cons.mpr ⟨⟨show (20 : Nat) < 100 from by decide, nf4⟩, List.forall_mem_cons.mpr ⟨⟨show (20 : Nat) < 100 from by decide, nf5⟩, List.forall_mem_cons.mpr ⟨⟨show (20 : Nat) < 100 from by decide, nf6⟩, List.forall_mem_cons.mpr ⟨⟨show (20 : Nat) < 100 from by decide, nf7⟩, List.forall_mem_cons.mpr ⟨⟨show (20 : Nat) < 100 from by decide, nf8⟩, (fun _ h => (by cases h))⟩⟩⟩⟩⟩⟩⟩⟩⟩, (fun _ h => (by cases h))⟩

set_option maxHeartbeats 4000000 in
theorem vc_Re_readEdges_40_0 (number_0 : Int) (gx : Int) (kz_0_9 : (-176) ≤ number_0 ∧ number_0 ≤ 1000000) (ex2 : gx = number_0) : 1 * number_0 + ((-1) * gx + 0) ≤ 0 := by
  first
    | omega
  
set_option maxHeartbeats 4000000 in
theorem vc_Re_readEdges_40_1 (number_0 : Int) (gx : Int) (kz_0_9 : (-176) ≤ number_0 ∧ number_0 ≤ 1000000) (ex2 : gx = number_0) : (-1) * number_0 + (1 * gx + 0) ≤ 0 := by
  first
    | omega
  
set_option maxHeartbeats 4000000 in
theorem vc_Re_readEdges_40_2 (next_0 : Int) (gy : Int) (kz_0_6 : 0 ≤ next_0 ∧ next_0 ≤ 2000) (ey2 : gy = next_0) : 1 * next_0 + ((-1) * gy + 0) ≤ 0 := by
  first
    | omega
  
set_option maxHeartbeats 4000000 in
theorem vc_Re_readEdges_40_3 (next_0 : Int) (gy : Int) (kz_0_6 : 0 ≤ next_0 ∧ next_0 ≤ 2000) (ey2 : gy = next_0) : (-1) * next_0 + (1 * gy + 0) ≤ 0 := by
  first
    | omega
  
set_option maxHeartbeats 4000000 in
theorem vc_Re_readEdges_40_4 (x15 : Int) (x18 : Int) (x28 : Int) (edges_0o1 : Int) (next_0 : Int) (begin_0 : Int) (end_0 : Int) (tape_0 : Int → Int) (kind_0 : Int) (number_0 : Int) (gx : Int) (gy : Int) (k15 : 0 ≤ x15 ∧ x15 ≤ 2000) (k18 : 0 ≤ x18 ∧ x18 ≤ 2000) (k28 : 1 ≤ x28 ∧ x28 ≤ 48) (g0 : x28 = edges_0o1) (f8 : 1 * end_0 + ((-1) * x18 + 0) ≤ 0) (f9 : (-1) * end_0 + (1 * x18 + 0) ≤ 0) (f19 : TKC (end_0) (next_0) (kind_0) (begin_0) (number_0) (tape_0) (x15)) (kz_0_5 : 0 ≤ end_0 ∧ end_0 ≤ 2000) (kz_0_6 : 0 ≤ next_0 ∧ next_0 ≤ 2000) (kz_0_7 : (-128) ≤ kind_0 ∧ kind_0 ≤ 127) (kz_0_8 : 0 ≤ begin_0 ∧ begin_0 ≤ 2000) (kz_0_9 : (-176) ≤ number_0 ∧ number_0 ≤ 1000000) (kz_1_1 : 0 ≤ edges_0o1 ∧ edges_0o1 ≤ 48) (ex2 : gx = number_0) (ey2 : gy = next_0) (ey3 : 0 ≤ gy ∧ gy ≤ 2000) : CLM (end_0) (next_0) := by
  first | subst g0 | skip
  first | subst ex2 | skip
  first | subst ey2 | skip
  exact clm_t ‹TKC _ _ _ _ _ _ _› (by omega)
set_option maxHeartbeats 4000000 in
theorem vc_Re_readEdges_40_5 (x4 : Int) (x15 : Int) (x16 : Int) (x19 : Int) (x28 : Int) (edges_0o1 : Int) (nodes_0o1 : Int) (next_0 : Int) (begin_0 : Int) (end_0 : Int) (tape_0 : Int → Int) (open_0 : Int → Int) (depth_0 : Int) (kind_0 : Int) (number_0 : Int) (tail_0o1 : Int → Int) (head_0o1 : Int → Int) (nameLength_0o1 : Int → Int) (name_0o1 : Int → Int) (groups_0o1 : Int) (gx : Int) (gy : Int) (k4 : 0 ≤ x4 ∧ x4 ≤ 23) (k15 : 0 ≤ x15 ∧ x15 ≤ 2000) (k16 : 1 ≤ x16 ∧ x16 ≤ 1) (k19 : 0 ≤ x19 ∧ x19 ≤ 23) (k28 : 1 ≤ x28 ∧ x28 ≤ 48) (g0 : x28 = edges_0o1) (f11 : cU4 (end_0) (depth_0) (tape_0) (open_0) (x4) (x15)) (f19 : TKC (end_0) (next_0) (kind_0) (begin_0) (number_0) (tape_0) (x15)) (f22 : CNM (kind_0) (next_0) (begin_0) (tape_0) (x16)) (f27 : CEB (end_0) (next_0) (begin_0) (nodes_0o1) (edges_0o1) (groups_0o1) (tape_0) (nameLength_0o1) (name_0o1) (tail_0o1) (head_0o1) (x4) (x19)) (f39 : x16 ≠ 0) (kz_0_5 : 0 ≤ end_0 ∧ end_0 ≤ 2000) (kz_0_6 : 0 ≤ next_0 ∧ next_0 ≤ 2000) (kz_0_7 : (-128) ≤ kind_0 ∧ kind_0 ≤ 127) (kz_0_8 : 0 ≤ begin_0 ∧ begin_0 ≤ 2000) (kz_0_9 : (-176) ≤ number_0 ∧ number_0 ≤ 1000000) (kz_0_11 : 0 ≤ depth_0 ∧ depth_0 ≤ 4) (kz_1_0 : 0 ≤ nodes_0o1 ∧ nodes_0o1 ≤ 24) (kz_1_1 : 0 ≤ edges_0o1 ∧ edges_0o1 ≤ 48) (kz_1_2 : 0 ≤ groups_0o1 ∧ groups_0o1 ≤ 8) (ex2 : gx = number_0) (ey2 : gy = next_0) : cG8 (end_0) (depth_0) (nodes_0o1) (edges_0o1) (groups_0o1) (tape_0) (open_0) (nameLength_0o1) (name_0o1) (tail_0o1) (head_0o1) (x19) (gy) := by
  first | subst g0 | skip
  first | subst ex2 | skip
  first | subst ey2 | skip
  exact m4_g ‹TKC _ _ _ _ _ _ _› ‹cU4 _ _ _ _ _ _› (cnm_t ‹CNM _ _ _ _ _› (by omega)) ‹CEB _ _ _ _ _ _ _ _ _ _ _ _ _› (by omega)
set_option maxHeartbeats 4000000 in
theorem vc_Re_readEdges_40_6 (x2 : Int) (x15 : Int) (next_0 : Int) (gy : Int) (k2 : 0 ≤ x2 ∧ x2 ≤ 2000) (k15 : 0 ≤ x15 ∧ x15 ≤ 2000) (f10 : 1 * x2 + ((-1) * x15 + 0) ≤ 0) (f20 : 1 * x15 + ((-1) * next_0 + 0) ≤ 0) (kz_0_6 : 0 ≤ next_0 ∧ next_0 ≤ 2000) (ey2 : gy = next_0) : 1 * x2 + ((-1) * gy + 0) ≤ 0 := by
  first
    | omega
  
def o_Re_readEdges_40 : or_T := (190, 29, [(0, (2, 0, 0, [8])), (1, (2, 0, 0, [164])), (2, (0, 0, 2000, [])), (4, (0, 0, 23, [])), (15, (0, 0, 2000, [])), (16, (0, 1, 1, [])), (18, (0, 0, 2000, [])), (19, (0, 0, 23, [])), (28, (0, 1, 48, []))], [(9, [28, 7], [1]), (24, [0, 26], []), (20, [3, 18], [30, 0, 1, 1, 5, -1, 0, 0]), (20, [3, 18], [30, 0, -1, 1, 5, 1, 0, 0]), (20, [2, 15], [30, 0, 1, 0, 0, -1, 0, 0]), (20, [3, 4, 15], [60, 2, 2, 1070, 5, 11, 0, 10]), (24, [1, 7], []), (24, [0, 3], []), (20, [3, 15], [60, 5, 1, 1072, 5, 6, 7, 8, 9, 0]), (20, [15, 3], [30, 0, 1, 0, 0, -1, 1, 6]), (20, [3, 16], [60, 3, 1, 1079, 7, 6, 8, 0]), (20, [26, 7, 4, 19], [60, 6, 5, 1068, 5, 6, 8, 1000, 1001, 1002, 0, 1004, 1003, 1007, 1008]), (102, [27], [9111549270234847880676097628965576950667454447616, 164001]), (102, [18], [2944411990052395234623243954974308466357606285312, 164000]), (8, [16], [1])], [], [(0, -2147483648, 1000000, []), (0, 0, 2000, [])], [(20, [3, 29], [30, 0, 1, 1, 9, -1, 0, 0]), (20, [3, 29], [30, 0, -1, 1, 9, 1, 0, 0]), (20, [3, 30], [30, 0, 1, 1, 6, -1, 0, 0]), (20, [3, 30], [30, 0, -1, 1, 6, 1, 0, 0]), (20, [3], [60, 2, 0, 1073, 5, 6]), (20, [3, 7, 19, 30], [60, 5, 6, 1046, 5, 11, 1000, 1001, 1002, 0, 10, 1004, 1003, 1007, 1008]), (20, [2, 30], [30, 0, 1, 0, 0, -1, 0, 0])], [], [])
theorem oo_Re_readEdges_40 {kA : Nat → ClassId} : or_ok PRD kA GG o_Re_readEdges_40 := by
  refine or_mk fun A ta ws vs hD hth hl => ?_
  intro t0 r0 t1 r1 t2 k2 t4 k4 t15 k15 t16 k16 t18 k18 t19 k19 t28 k28 f0 f1 f8 f9 f10 f11 f12 f14 f19 f20 f22 f27 ta1 w1 le1 s1 ta2 w2 le2 s2 f39
  replace f0 := shm_215 f0
  replace f1 := shm_5 f1
  replace f8 := shm_1403 f8
  replace f9 := shm_1404 f9
  replace f10 := shm_201 f10
  replace f11 := shm_2142 f11
  replace f12 := shm_5 f12
  replace f14 := shm_5 f14
  replace f19 := shm_1532 f19
  replace f20 := shm_1527 f20
  replace f22 := shm_1837 f22
  replace f27 := shm_829 f27
  replace f39 := shm_142 f39
  have q26 : n_v vs 26 = n_v vs 0 := f1.symm
  have q7 : n_v vs 7 = n_v vs 1 := f12.symm
  have q3 : n_v vs 3 = n_v vs 0 := f14.symm
  simp only [q7, q3, q26] at f0 f8 f9 f11 f19 f20 f22 f27
  have g0 : v_iv (n_v vs 28) = w_fi ws (n_v vs 1) 1 := congrArg v_iv f0
  have kz_0_5 := fdq_207 hD hth r0
  have kz_0_6 := fdq_208 hD hth r0
  have kz_0_7 := fdq_297 hD hth r0
  have kz_0_8 := fdq_99 hD hth r0
  have kz_0_9 := fdq_296 hD hth r0
  have kz_0_11 := fdq_320 hD hth r0
  have kz_1_0 := fdq_73 hD hth r1
  have kz_1_1 := fdq_74 hD hth r1
  have kz_1_2 := fdq_206 hD hth r1
  obtain ⟨x, ex, hx⟩ := iv_ex (ta := ta) (lo := (-2147483648)) (hi := 1000000) (z := w_fi ws (n_v vs 0) 9) (by omega) (by omega) (by omega) (by omega)
  have ex2 : v_iv (Value.int x) = w_fi ws (n_v vs 0) 9 := ex
  have ex3 : (-2147483648) ≤ v_iv (Value.int x) ∧ v_iv (Value.int x) ≤ 1000000 := tv_rng hx
  obtain ⟨y, ey, hy⟩ := iv_ex (ta := ta) (lo := 0) (hi := 2000) (z := w_fi ws (n_v vs 0) 6) (by omega) (by omega) (by omega) (by omega)
  have ey2 : v_iv (Value.int y) = w_fi ws (n_v vs 0) 6 := ey
  have ey3 : 0 ≤ v_iv (Value.int y) ∧ v_iv (Value.int y) ≤ 2000 := tv_rng hy
  have e_2 : n_v (vs ++ [Value.int x, Value.int y]) 2 = n_v vs 2 := n_v_old (by rw [hl]; decide)
  have e_3 : n_v (vs ++ [Value.int x, Value.int y]) 3 = n_v vs 3 := n_v_old (by rw [hl]; decide)
  have e_7 : n_v (vs ++ [Value.int x, Value.int y]) 7 = n_v vs 7 := n_v_old (by rw [hl]; decide)
  have e_19 : n_v (vs ++ [Value.int x, Value.int y]) 19 = n_v vs 19 := n_v_old (by rw [hl]; decide)
  have e_29 : n_v (vs ++ [Value.int x, Value.int y]) 29 = Value.int x := n_v_new0 hl
  have e_30 : n_v (vs ++ [Value.int x, Value.int y]) 30 = Value.int y := n_v_new1 hl
  have nf0 : fc_1 PRD (20, [3, 29], [30, 0, 1, 1, 9, -1, 0, 0]) ws (vs ++ [Value.int x, Value.int y]) := by
    refine ⟨nf_inA hl rfl, sgq_1521 ?_⟩
    · show 1 * w_fi ws (n_v (vs ++ [Value.int x, Value.int y]) 3) 9 + ((-1) * v_iv (n_v (vs ++ [Value.int x, Value.int y]) 29) + 0) ≤ 0
      simp only [e_3, e_29, q3]
      exact vc_Re_readEdges_40_0 (w_fi ws (n_v vs 0) 9) (v_iv (Value.int x)) kz_0_9 ex2
  have nf1 : fc_1 PRD (20, [3, 29], [30, 0, -1, 1, 9, 1, 0, 0]) ws (vs ++ [Value.int x, Value.int y]) := by
    refine ⟨nf_inA hl rfl, sgq_1522 ?_⟩
    · show (-1) * w_fi ws (n_v (vs ++ [Value.int x, Value.int y]) 3) 9 + (1 * v_iv (n_v (vs ++ [Value.int x, Value.int y]) 29) + 0) ≤ 0
      simp only [e_3, e_29, q3]
      exact vc_Re_readEdges_40_1 (w_fi ws (n_v vs 0) 9) (v_iv (Value.int x)) kz_0_9 ex2
  have nf2 : fc_1 PRD (20, [3, 30], [30, 0, 1, 1, 6, -1, 0, 0]) ws (vs ++ [Value.int x, Value.int y]) := by
    refine ⟨nf_inA hl rfl, sgq_1523 ?_⟩
    · show 1 * w_fi ws (n_v (vs ++ [Value.int x, Value.int y]) 3) 6 + ((-1) * v_iv (n_v (vs ++ [Value.int x, Value.int y]) 30) + 0) ≤ 0
      simp only [e_3, e_30, q3]
      exact vc_Re_readEdges_40_2 (w_fi ws (n_v vs 0) 6) (v_iv (Value.int y)) kz_0_6 ey2
  have nf3 : fc_1 PRD (20, [3, 30], [30, 0, -1, 1, 6, 1, 0, 0]) ws (vs ++ [Value.int x, Value.int y]) := by
    refine ⟨nf_inA hl rfl, sgq_1524 ?_⟩
    · show (-1) * w_fi ws (n_v (vs ++ [Value.int x, Value.int y]) 3) 6 + (1 * v_iv (n_v (vs ++ [Value.int x, Value.int y]) 30) + 0) ≤ 0
      simp only [e_3, e_30, q3]
      exact vc_Re_readEdges_40_3 (w_fi ws (n_v vs 0) 6) (v_iv (Value.int y)) kz_0_6 ey2
  have nf4 : fc_1 PRD (20, [3], [60, 2, 0, 1073, 5, 6]) ws (vs ++ [Value.int x, Value.int y]) := by
    refine ⟨nf_inA hl rfl, sgq_1525 ?_⟩
    · show CLM (w_fi ws (n_v (vs ++ [Value.int x, Value.int y]) 3) 5) (w_fi ws (n_v (vs ++ [Value.int x, Value.int y]) 3) 6)
      simp only [e_3, q3]
      exact vc_Re_readEdges_40_4 (v_iv (n_v vs 15)) (v_iv (n_v vs 18)) (v_iv (n_v vs 28)) (w_fi ws (n_v vs 1) 1) (w_fi ws (n_v vs 0) 6) (w_fi ws (n_v vs 0) 8) (w_fi ws (n_v vs 0) 5) (w_ei ws (w_ar ws (n_v vs 0) 0)) (w_fi ws (n_v vs 0) 7) (w_fi ws (n_v vs 0) 9) (v_iv (Value.int x)) (v_iv (Value.int y)) k15 k18 k28 g0 f8 f9 f19 kz_0_5 kz_0_6 kz_0_7 kz_0_8 kz_0_9 kz_1_1 ex2 ey2 ey3
  have nf5 : fc_1 PRD (20, [3, 7, 19, 30], [60, 5, 6, 1046, 5, 11, 1000, 1001, 1002, 0, 10, 1004, 1003, 1007, 1008]) ws (vs ++ [Value.int x, Value.int y]) := by
    refine ⟨nf_inA hl rfl, sgq_2143 ?_⟩
    · show cG8 (w_fi ws (n_v (vs ++ [Value.int x, Value.int y]) 3) 5) (w_fi ws (n_v (vs ++ [Value.int x, Value.int y]) 3) 11) (w_fi ws (n_v (vs ++ [Value.int x, Value.int y]) 7) 0) (w_fi ws (n_v (vs ++ [Value.int x, Value.int y]) 7) 1) (w_fi ws (n_v (vs ++ [Value.int x, Value.int y]) 7) 2) (w_ei ws (w_ar ws (n_v (vs ++ [Value.int x, Value.int y]) 3) 0)) (w_ei ws (w_ar ws (n_v (vs ++ [Value.int x, Value.int y]) 3) 10)) (w_ei ws (w_ar ws (n_v (vs ++ [Value.int x, Value.int y]) 7) 4)) (w_ei ws (w_ar ws (n_v (vs ++ [Value.int x, Value.int y]) 7) 3)) (w_ei ws (w_ar ws (n_v (vs ++ [Value.int x, Value.int y]) 7) 7)) (w_ei ws (w_ar ws (n_v (vs ++ [Value.int x, Value.int y]) 7) 8)) (v_iv (n_v (vs ++ [Value.int x, Value.int y]) 19)) (v_iv (n_v (vs ++ [Value.int x, Value.int y]) 30))
      simp only [e_3, e_7, e_19, e_30, q7, q3]
      exact vc_Re_readEdges_40_5 (v_iv (n_v vs 4)) (v_iv (n_v vs 15)) (v_iv (n_v vs 16)) (v_iv (n_v vs 19)) (v_iv (n_v vs 28)) (w_fi ws (n_v vs 1) 1) (w_fi ws (n_v vs 1) 0) (w_fi ws (n_v vs 0) 6) (w_fi ws (n_v vs 0) 8) (w_fi ws (n_v vs 0) 5) (w_ei ws (w_ar ws (n_v vs 0) 0)) (w_ei ws (w_ar ws (n_v vs 0) 10)) (w_fi ws (n_v vs 0) 11) (w_fi ws (n_v vs 0) 7) (w_fi ws (n_v vs 0) 9) (w_ei ws (w_ar ws (n_v vs 1) 7)) (w_ei ws (w_ar ws (n_v vs 1) 8)) (w_ei ws (w_ar ws (n_v vs 1) 4)) (w_ei ws (w_ar ws (n_v vs 1) 3)) (w_fi ws (n_v vs 1) 2) (v_iv (Value.int x)) (v_iv (Value.int y)) k4 k15 k16 k19 k28 g0 f11 f19 f22 f27 f39 kz_0_5 kz_0_6 kz_0_7 kz_0_8 kz_0_9 kz_0_11 kz_1_0 kz_1_1 kz_1_2 ex2 ey2
  have nf6 : fc_1 PRD (20, [2, 30], [30, 0, 1, 0, 0, -1, 0, 0]) ws (vs ++ [Value.int x, Value.int y]) := by
    refine ⟨nf_inA hl rfl, sgq_201 ?_⟩
    · show 1 * v_iv (n_v (vs ++ [Value.int x, Value.int y]) 2) + ((-1) * v_iv (n_v (vs ++ [Value.int x, Value.int y]) 30) + 0) ≤ 0
      simp only [e_2, e_30]
      exact vc_Re_readEdges_40_6 (v_iv (n_v vs 2)) (v_iv (n_v vs 15)) (w_fi ws (n_v vs 0) 6) (v_iv (Value.int y)) k2 k15 f10 f20 kz_0_6 ey2
  exact ⟨(fun _ h => (by cases h)), [Value.int x, Value.int y], ag_two hx hy, List.forall_mem_cons.mpr ⟨⟨show (20 : Nat) < 100 from by decide, nf0⟩, List.forall_mem_cons.mpr ⟨⟨show (20 : Nat) < 100 from by decide, nf1⟩, List.forall_mem_cons.mpr ⟨⟨show (20 : Nat) < 100 from by decide, nf2⟩, List.forall_mem_cons.mpr ⟨⟨show (20 : Nat) < 100 from by decide, nf3⟩, List.forall_mem_cons.mpr ⟨⟨show (20 : Nat) < 100 from by decide, nf4⟩, List.forall_mem_cons.mpr ⟨⟨show (20 : Nat) < 100 from by decide, nf5⟩, List.forall_mem_cons.mpr ⟨⟨show (20 : Nat) < 100 from by decide, nf6⟩, (fun _ h => (by cases h))⟩⟩⟩⟩⟩⟩⟩, (fun _ h => (by cases h))⟩
set_option maxHeartbeats 4000000 in
theorem vc_Re_readEdges_41_0 (x4 : Int) (x19 : Int) (nodes_0o1 : Int) (k4 : 0 ≤ x4 ∧ x4 ≤ 23) (k19 : 0 ≤ x19 ∧ x19 ≤ 23) (f5 : (0 ≤ x4) ∧ (((x4 + 1) ≤ nodes_0o1) ∧ ((0 ≤ x19) ∧ (((x19 + 1) ≤ nodes_0o1) ∧ (((x4 + 1) ≤ x19) ∨ ((x19 + 1) ≤ x4)))))) (kz_1_0 : 0 ≤ nodes_0o1 ∧ nodes_0o1 ≤ 24) : (0 ≤ x19) ∧ ((x19 + 1) ≤ nodes_0o1) := by
  first
    | omega
  
set_option maxHeartbeats 4000000 in
theorem vc_Re_readEdges_41_1 (x19 : Int) (x28 : Int) (x30 : Int) (edges_0o1 : Int) (tape_0 : Int → Int) (open_0 : Int → Int) (nameLength_0o1 : Int → Int) (name_0o1 : Int → Int) (tail_0o1 : Int → Int) (head_0o1 : Int → Int) (end_0 : Int) (depth_0 : Int) (nodes_0o1 : Int) (groups_0o1 : Int) (kind_0 : Int) (number_0 : Int) (next_0 : Int) (begin_0 : Int) (k19 : 0 ≤ x19 ∧ x19 ≤ 23) (k28 : 1 ≤ x28 ∧ x28 ≤ 48) (k30 : 0 ≤ x30 ∧ x30 ≤ 2000) (g0 : x28 = edges_0o1) (f2 : cG8 (end_0) (depth_0) (nodes_0o1) (edges_0o1) (groups_0o1) (tape_0) (open_0) (nameLength_0o1) (name_0o1) (tail_0o1) (head_0o1) (x19) (x30)) (f26 : TKC (end_0) (next_0) (kind_0) (begin_0) (number_0) (tape_0) (x30)) (kz_0_5 : 0 ≤ end_0 ∧ end_0 ≤ 2000) (kz_0_6 : 0 ≤ next_0 ∧ next_0 ≤ 2000) (kz_0_7 : (-128) ≤ kind_0 ∧ kind_0 ≤ 127) (kz_0_8 : 0 ≤ begin_0 ∧ begin_0 ≤ 2000) (kz_0_9 : (-176) ≤ number_0 ∧ number_0 ≤ 1000000) (kz_0_11 : 0 ≤ depth_0 ∧ depth_0 ≤ 4) (kz_1_0 : 0 ≤ nodes_0o1 ∧ nodes_0o1 ≤ 24) (kz_1_1 : 0 ≤ edges_0o1 ∧ edges_0o1 ≤ 48) (kz_1_2 : 0 ≤ groups_0o1 ∧ groups_0o1 ≤ 8) : cLE (end_0) (next_0) (kind_0) (begin_0) (number_0) (depth_0) (nodes_0o1) (edges_0o1) (groups_0o1) (tape_0) (open_0) (nameLength_0o1) (name_0o1) (tail_0o1) (head_0o1) (x19) := by
  first | subst g0 | skip
  first
    | exact le_3 ‹TKC _ _ _ _ _ _ _› ‹cG3 _ _ _ _ _ _ _ _ _ _ _ _ _› (by omega)
    | exact le_8 ‹TKC _ _ _ _ _ _ _› ‹cG8 _ _ _ _ _ _ _ _ _ _ _ _ _›
set_option maxHeartbeats 4000000 in
theorem vc_Re_readEdges_41_2 (x2 : Int) (x30 : Int) (next_0 : Int) (k2 : 0 ≤ x2 ∧ x2 ≤ 2000) (k30 : 0 ≤ x30 ∧ x30 ≤ 2000) (f3 : 1 * x2 + ((-1) * x30 + 0) ≤ 0) (f27 : 1 * x30 + ((-1) * next_0 + 0) ≤ 0) (kz_0_6 : 0 ≤ next_0 ∧ next_0 ≤ 2000) : 1 * x2 + ((-1) * next_0 + 0) ≤ 0 := by
  first
    | omega
  
set_option maxHeartbeats 4000000 in
theorem vc_Re_readEdges_41_3 (x6 : Int) (x27 : Int) (x31 : Int) (edges_0o1 : Int) (k6 : 0 ≤ x6 ∧ x6 ≤ 48) (k27 : 0 ≤ x27 ∧ x27 ≤ 47) (k31 : 1 ≤ x31 ∧ x31 ≤ 49) (d0 : x6 + 1 ≤ x31 ∧ x31 ≤ x6 + 1) (f6 : x6 ≤ x27) (f21 : edges_0o1 = (x27 + 1)) (kz_1_1 : 0 ≤ edges_0o1 ∧ edges_0o1 ≤ 48) : x31 ≤ edges_0o1 := by
  first
    | omega
  
def o_Re_readEdges_41 : or_T := (54, 32, [(0, (2, 0, 0, [8])), (1, (2, 0, 0, [164])), (2, (0, 0, 2000, [])), (4, (0, 0, 23, [])), (6, (0, 0, 48, [])), (19, (0, 0, 23, [])), (27, (0, 0, 47, [])), (28, (0, 1, 48, [])), (30, (0, 0, 2000, [])), (31, (0, 1, 49, []))], [(9, [28, 7], [1]), (20, [3, 7, 19, 30], [60, 5, 6, 1046, 5, 11, 1000, 1001, 1002, 0, 10, 1004, 1003, 1007, 1008]), (20, [2, 30], [30, 0, 1, 0, 0, -1, 0, 0]), (20, [4, 7, 19], [50, 1, 0, 1000, 2, 6, 0, 2, 0, 0, 1, 0, 2, 11, 0, 6, 4, 2, 1, 0, 0, 1, 2, 1, 0, 2, 6, 0, 2, 0, 0, 1, 2, 2, 11, 0, 6, 4, 2, 1, 2, 0, 1, 2, 1, 0, 3, 10, 0, 6, 4, 2, 1, 0, 0, 1, 1, 2, 0, 6, 4, 2, 1, 2, 0, 1, 1, 0]), (20, [6, 27], [50, 0, 0, 0, 2, 1, 0, 1, 1]), (24, [1, 7], []), (24, [0, 3], []), (20, [7, 27], [50, 1, 0, 1, 1, 3, 2, 0, 1, 4, 2, 1, 1, 0, 1]), (20, [3, 30], [60, 5, 1, 1072, 5, 6, 7, 8, 9, 0]), (20, [30, 3], [30, 0, 1, 0, 0, -1, 1, 6])], [], [], [(20, [19, 7], [50, 1, 0, 1000, 2, 6, 0, 2, 0, 0, 1, 0, 0, 6, 4, 2, 1, 0, 0, 1, 2, 1, 0]), (20, [3, 7, 19], [60, 9, 6, 1061, 5, 6, 7, 8, 9, 11, 1000, 1001, 1002, 0, 10, 1004, 1003, 1007, 1008]), (20, [2, 3], [30, 0, 1, 0, 0, -1, 1, 6]), (20, [31, 7], [50, 1, 0, 1001, 0, 2, 1, 0, 2, 1, 1])], [], [(31, 6, 1, 1)])
theorem oo_Re_readEdges_41 {kA : Nat → ClassId} : or_ok PRD kA GG o_Re_readEdges_41 := by
  refine or_mk fun A ta ws vs hD hth hl => ?_
  intro t0 r0 t1 r1 t2 k2 t4 k4 t6 k6 t19 k19 t27 k27 t28 k28 t30 k30 t31 k31 d0 f0 f2 f3 f5 f6 f13 f15 f21 f26 f27
  replace f0 := shm_215 f0
  replace f2 := shm_2143 f2
  replace f3 := shm_201 f3
  replace f5 := shm_824 f5
  replace f6 := shm_360 f6
  replace f13 := shm_5 f13
  replace f15 := shm_5 f15
  replace f21 := shm_830 f21
  replace f26 := shm_1532 f26
  replace f27 := shm_1527 f27
  have q7 : n_v vs 7 = n_v vs 1 := f13.symm
  have q3 : n_v vs 3 = n_v vs 0 := f15.symm
  simp only [q7, q3] at f0 f2 f5 f21 f26 f27
  have g0 : v_iv (n_v vs 28) = w_fi ws (n_v vs 1) 1 := congrArg v_iv f0
  have kz_0_5 := fdq_207 hD hth r0
  have kz_0_6 := fdq_208 hD hth r0
  have kz_0_7 := fdq_297 hD hth r0
  have kz_0_8 := fdq_99 hD hth r0
  have kz_0_9 := fdq_296 hD hth r0
  have kz_0_11 := fdq_320 hD hth r0
  have kz_1_0 := fdq_73 hD hth r1
  have kz_1_1 := fdq_74 hD hth r1
  have kz_1_2 := fdq_206 hD hth r1
  have nf0 : fc_1 PRD (20, [19, 7], [50, 1, 0, 1000, 2, 6, 0, 2, 0, 0, 1, 0, 0, 6, 4, 2, 1, 0, 0, 1, 2, 1, 0]) ws (vs) := by
    refine ⟨nf_in hl rfl, sgq_416 ?_⟩
    · show (0 ≤ v_iv (n_v vs 19)) ∧ ((v_iv (n_v vs 19) + 1) ≤ w_fi ws (n_v vs 7) 0)
      rw [q7]
      exact vc_Re_readEdges_41_0 (v_iv (n_v vs 4)) (v_iv (n_v vs 19)) (w_fi ws (n_v vs 1) 0) k4 k19 f5 kz_1_0
  have nf1 : fc_1 PRD (20, [3, 7, 19], [60, 9, 6, 1061, 5, 6, 7, 8, 9, 11, 1000, 1001, 1002, 0, 10, 1004, 1003, 1007, 1008]) ws (vs) := by
    refine ⟨nf_in hl rfl, sgq_2137 ?_⟩
    · show cLE (w_fi ws (n_v vs 3) 5) (w_fi ws (n_v vs 3) 6) (w_fi ws (n_v vs 3) 7) (w_fi ws (n_v vs 3) 8) (w_fi ws (n_v vs 3) 9) (w_fi ws (n_v vs 3) 11) (w_fi ws (n_v vs 7) 0) (w_fi ws (n_v vs 7) 1) (w_fi ws (n_v vs 7) 2) (w_ei ws (w_ar ws (n_v vs 3) 0)) (w_ei ws (w_ar ws (n_v vs 3) 10)) (w_ei ws (w_ar ws (n_v vs 7) 4)) (w_ei ws (w_ar ws (n_v vs 7) 3)) (w_ei ws (w_ar ws (n_v vs 7) 7)) (w_ei ws (w_ar ws (n_v vs 7) 8)) (v_iv (n_v vs 19))
      simp only [q7, q3]
      exact vc_Re_readEdges_41_1 (v_iv (n_v vs 19)) (v_iv (n_v vs 28)) (v_iv (n_v vs 30)) (w_fi ws (n_v vs 1) 1) (w_ei ws (w_ar ws (n_v vs 0) 0)) (w_ei ws (w_ar ws (n_v vs 0) 10)) (w_ei ws (w_ar ws (n_v vs 1) 4)) (w_ei ws (w_ar ws (n_v vs 1) 3)) (w_ei ws (w_ar ws (n_v vs 1) 7)) (w_ei ws (w_ar ws (n_v vs 1) 8)) (w_fi ws (n_v vs 0) 5) (w_fi ws (n_v vs 0) 11) (w_fi ws (n_v vs 1) 0) (w_fi ws (n_v vs 1) 2) (w_fi ws (n_v vs 0) 7) (w_fi ws (n_v vs 0) 9) (w_fi ws (n_v vs 0) 6) (w_fi ws (n_v vs 0) 8) k19 k28 k30 g0 f2 f26 kz_0_5 kz_0_6 kz_0_7 kz_0_8 kz_0_9 kz_0_11 kz_1_0 kz_1_1 kz_1_2
  have nf2 : fc_1 PRD (20, [2, 3], [30, 0, 1, 0, 0, -1, 1, 6]) ws (vs) := by
    refine ⟨nf_in hl rfl, sgq_1527 ?_⟩
    · show 1 * v_iv (n_v vs 2) + ((-1) * w_fi ws (n_v vs 3) 6 + 0) ≤ 0
      rw [q3]
      exact vc_Re_readEdges_41_2 (v_iv (n_v vs 2)) (v_iv (n_v vs 30)) (w_fi ws (n_v vs 0) 6) k2 k30 f3 f27 kz_0_6
  have nf3 : fc_1 PRD (20, [31, 7], [50, 1, 0, 1001, 0, 2, 1, 0, 2, 1, 1]) ws (vs) := by
    refine ⟨nf_in hl rfl, sgq_483 ?_⟩
    · show v_iv (n_v vs 31) ≤ w_fi ws (n_v vs 7) 1
      rw [q7]
      exact vc_Re_readEdges_41_3 (v_iv (n_v vs 6)) (v_iv (n_v vs 27)) (v_iv (n_v vs 31)) (w_fi ws (n_v vs 1) 1) k6 k27 k31 d0 f6 f21 kz_1_1
  refine ⟨(fun _ h => (by cases h)), [], trivial, ?_, (fun _ h => (by cases h))⟩
  rw [List.append_nil]
  exact List.forall_mem_cons.mpr ⟨⟨show (20 : Nat) < 100 from by decide, nf0⟩, List.forall_mem_cons.mpr ⟨⟨show (20 : Nat) < 100 from by decide, nf1⟩, List.forall_mem_cons.mpr ⟨⟨show (20 : Nat) < 100 from by decide, nf2⟩, List.forall_mem_cons.mpr ⟨⟨show (20 : Nat) < 100 from by decide, nf3⟩, (fun _ h => (by cases h))⟩⟩⟩⟩
set_option maxHeartbeats 4000000 in
theorem vc_Re_readEdges_42_0 (x4 : Int) (x15 : Int) (x16 : Int) (x19 : Int) (x21 : Int) (x24 : Int) (x26 : Int) (edges_0o1 : Int) (link_0o1 : Int → Int) (next_0 : Int) (begin_0 : Int) (end_0 : Int) (tape_0 : Int → Int) (open_0 : Int → Int) (depth_0 : Int) (tail_0o1 : Int → Int) (head_0o1 : Int → Int) (kind_0 : Int) (number_0 : Int) (nodes_0o1 : Int) (nameLength_0o1 : Int → Int) (name_0o1 : Int → Int) (groups_0o1 : Int) (k4 : 0 ≤ x4 ∧ x4 ≤ 23) (k15 : 0 ≤ x15 ∧ x15 ≤ 2000) (k16 : 1 ≤ x16 ∧ x16 ≤ 1) (k19 : 0 ≤ x19 ∧ x19 ≤ 23) (k21 : (-1) ≤ x21 ∧ x21 ≤ (-1)) (k24 : 48 ≤ x24 ∧ x24 ≤ 48) (k26 : 3 ≤ x26 ∧ x26 ≤ 3) (g1 : x24 = edges_0o1) (f4 : x21 = link_0o1 (((x4 * 24) + x19))) (f5 : x4 ≠ x19) (f14 : cU4 (end_0) (depth_0) (tape_0) (open_0) (x4) (x15)) (f17 : LKG (edges_0o1) (tail_0o1) (head_0o1) (link_0o1)) (f24 : TKC (end_0) (next_0) (kind_0) (begin_0) (number_0) (tape_0) (x15)) (f27 : CNM (kind_0) (next_0) (begin_0) (tape_0) (x16)) (f32 : CGM (end_0) (next_0) (begin_0) (nodes_0o1) (edges_0o1) (groups_0o1) (tape_0) (nameLength_0o1) (name_0o1) (tail_0o1) (head_0o1) (x19)) (f36 : x16 ≠ 0) (kz_0_5 : 0 ≤ end_0 ∧ end_0 ≤ 2000) (kz_0_6 : 0 ≤ next_0 ∧ next_0 ≤ 2000) (kz_0_7 : (-128) ≤ kind_0 ∧ kind_0 ≤ 127) (kz_0_8 : 0 ≤ begin_0 ∧ begin_0 ≤ 2000) (kz_0_9 : (-176) ≤ number_0 ∧ number_0 ≤ 1000000) (kz_0_11 : 0 ≤ depth_0 ∧ depth_0 ≤ 4) (kz_1_0 : 0 ≤ nodes_0o1 ∧ nodes_0o1 ≤ 24) (kz_1_1 : 0 ≤ edges_0o1 ∧ edges_0o1 ≤ 48) (kz_1_2 : 0 ≤ groups_0o1 ∧ groups_0o1 ≤ 8) : FSY (end_0) (begin_0) (tape_0) (x26) := by
  first
    | exact fsy_of (m4_3 (lk := link_0o1) ‹TKC _ _ _ _ _ _ _› ‹cU4 _ _ _ _ _ _› (cnm_t ‹CNM _ _ _ _ _› (by omega)) ‹CGM _ _ _ _ _ _ _ _ _ _ _ _› (Or.inl (by omega))) (by omega)
    | exact fsy_of (m4_3 ‹TKC _ _ _ _ _ _ _› ‹cU4 _ _ _ _ _ _› (cnm_t ‹CNM _ _ _ _ _› (by omega)) ‹CGM _ _ _ _ _ _ _ _ _ _ _ _› (Or.inr ⟨‹LKG _ _ _ _›, by omega, by omega, by omega⟩)) (by omega)
def o_Re_readEdges_42 : or_T := (169, 27, [(0, (2, 0, 0, [8])), (1, (2, 0, 0, [164])), (4, (0, 0, 23, [])), (15, (0, 0, 2000, [])), (16, (0, 1, 1, [])), (19, (0, 0, 23, [])), (21, (0, -1, -1, [])), (24, (0, 48, 48, [])), (26, (0, 3, 3, []))], [(9, [24, 7], [1]), (20, [21, 7, 4, 19], [50, 0, 1, 1015, 1, 2, 1, 0, 3, 1, 15, 4, 6, 6, 2, 1, 2, 0, 24, 1, 3]), (7, [4, 19], [1]), (20, [3, 4, 15], [60, 2, 2, 1070, 5, 11, 0, 10]), (24, [1, 7], []), (20, [7], [60, 1, 3, 1085, 1, 7, 8, 15]), (24, [0, 3], []), (20, [3, 15], [60, 5, 1, 1072, 5, 6, 7, 8, 9, 0]), (20, [3, 16], [60, 3, 1, 1079, 7, 6, 8, 0]), (20, [3, 7, 19], [60, 6, 5, 1066, 5, 6, 8, 1000, 1001, 1002, 0, 1004, 1003, 1007, 1008]), (102, [18], [2944411990052395234623243954974308466357606285312, 164000]), (8, [16], [1])], [], [], [(20, [3, 26], [60, 2, 1, 1078, 5, 8, 0])], [], [])
theorem oo_Re_readEdges_42 {kA : Nat → ClassId} : or_ok PRD kA GG o_Re_readEdges_42 := by
  refine or_mk fun A ta ws vs hD hth hl => ?_
  intro t0 r0 t1 r1 t4 k4 t15 k15 t16 k16 t19 k19 t21 k21 t24 k24 t26 k26 f1 f4 f5 f14 f15 f17 f19 f24 f27 f32 ta1 w1 le1 s1 f36
  replace f1 := shm_215 f1
  replace f4 := shm_376 f4
  replace f5 := shm_40 f5
  replace f14 := shm_2142 f14
  replace f15 := shm_5 f15
  replace f17 := shm_827 f17
  replace f19 := shm_5 f19
  replace f24 := shm_1532 f24
  replace f27 := shm_1837 f27
  replace f32 := shm_1406 f32
  replace f36 := shm_142 f36
  have q7 : n_v vs 7 = n_v vs 1 := f15.symm
  have q3 : n_v vs 3 = n_v vs 0 := f19.symm
  simp only [q7, q3] at f1 f4 f14 f17 f24 f27 f32
  have g1 : v_iv (n_v vs 24) = w_fi ws (n_v vs 1) 1 := congrArg v_iv f1
  have kz_0_5 := fdq_207 hD hth r0
  have kz_0_6 := fdq_208 hD hth r0
  have kz_0_7 := fdq_297 hD hth r0
  have kz_0_8 := fdq_99 hD hth r0
  have kz_0_9 := fdq_296 hD hth r0
  have kz_0_11 := fdq_320 hD hth r0
  have kz_1_0 := fdq_73 hD hth r1
  have kz_1_1 := fdq_74 hD hth r1
  have kz_1_2 := fdq_206 hD hth r1
  have nf0 : fc_1 PRD (20, [3, 26], [60, 2, 1, 1078, 5, 8, 0]) ws (vs) := by
    refine ⟨nf_in hl rfl, sgq_1988 ?_⟩
    · show FSY (w_fi ws (n_v vs 3) 5) (w_fi ws (n_v vs 3) 8) (w_ei ws (w_ar ws (n_v vs 3) 0)) (v_iv (n_v vs 26))
      rw [q3]
      exact vc_Re_readEdges_42_0 (v_iv (n_v vs 4)) (v_iv (n_v vs 15)) (v_iv (n_v vs 16)) (v_iv (n_v vs 19)) (v_iv (n_v vs 21)) (v_iv (n_v vs 24)) (v_iv (n_v vs 26)) (w_fi ws (n_v vs 1) 1) (w_ei ws (w_ar ws (n_v vs 1) 15)) (w_fi ws (n_v vs 0) 6) (w_fi ws (n_v vs 0) 8) (w_fi ws (n_v vs 0) 5) (w_ei ws (w_ar ws (n_v vs 0) 0)) (w_ei ws (w_ar ws (n_v vs 0) 10)) (w_fi ws (n_v vs 0) 11) (w_ei ws (w_ar ws (n_v vs 1) 7)) (w_ei ws (w_ar ws (n_v vs 1) 8)) (w_fi ws (n_v vs 0) 7) (w_fi ws (n_v vs 0) 9) (w_fi ws (n_v vs 1) 0) (w_ei ws (w_ar ws (n_v vs 1) 4)) (w_ei ws (w_ar ws (n_v vs 1) 3)) (w_fi ws (n_v vs 1) 2) k4 k15 k16 k19 k21 k24 k26 g1 f4 f5 f14 f17 f24 f27 f32 f36 kz_0_5 kz_0_6 kz_0_7 kz_0_8 kz_0_9 kz_0_11 kz_1_0 kz_1_1 kz_1_2
  refine ⟨(fun _ h => (by cases h)), [], trivial, ?_, (fun _ h => (by cases h))⟩
  rw [List.append_nil]
  exact List.forall_mem_cons.mpr ⟨⟨show (20 : Nat) < 100 from by decide, nf0⟩, (fun _ h => (by cases h))⟩
set_option maxHeartbeats 4000000 in
theorem vc_Re_readEdges_43_0 (edges_0o1 : Int) (tail_0o1 : Int → Int) (head_0o1 : Int → Int) (near_0o1 : Int → Int) (nodes_0o1 : Int) (f23 : GNB (nodes_0o1) (edges_0o1) (near_0o1) (tail_0o1) (head_0o1)) (kz_1_0 : 0 ≤ nodes_0o1 ∧ nodes_0o1 ≤ 24) (kz_1_1 : 0 ≤ edges_0o1 ∧ edges_0o1 ≤ 48) : GNB (nodes_0o1) (edges_0o1) (near_0o1) (tail_0o1) (head_0o1) := by
  first
    | assumption
  
set_option maxHeartbeats 4000000 in
theorem vc_Re_readEdges_43_1 (edges_0o1 : Int) (tail_0o1 : Int → Int) (head_0o1 : Int → Int) (nodes_0o1 : Int) (f24 : GKE (nodes_0o1) (edges_0o1) (tail_0o1) (head_0o1)) (kz_1_0 : 0 ≤ nodes_0o1 ∧ nodes_0o1 ≤ 24) (kz_1_1 : 0 ≤ edges_0o1 ∧ edges_0o1 ≤ 48) : GKE (nodes_0o1) (edges_0o1) (tail_0o1) (head_0o1) := by
  first
    | assumption
  
set_option maxHeartbeats 4000000 in
theorem vc_Re_readEdges_43_2 (x24 : Int) (x26 : Int) (x27 : Int) (edges_0o1 : Int) (tape_0 : Int → Int) (end_0 : Int) (begin_0 : Int) (next_0 : Int) (open_0 : Int → Int) (depth_0 : Int) (tail_0o1 : Int → Int) (head_0o1 : Int → Int) (nodes_0o1 : Int) (nameLength_0o1 : Int → Int) (name_0o1 : Int → Int) (groups_0o1 : Int) (fault_0 : Int) (faultPlace_0 : Int) (k24 : 48 ≤ x24 ∧ x24 ≤ 48) (k26 : 3 ≤ x26 ∧ x26 ≤ 3) (k27 : 0 ≤ x27 ∧ x27 ≤ 0) (g0 : x24 = edges_0o1) (f1 : FSY (end_0) (begin_0) (tape_0) (x26)) (f28 : (x27 = 0) ∧ ((fault_0 = x26) ∧ (faultPlace_0 = begin_0))) (kz_0_2 : (-1) ≤ fault_0 ∧ fault_0 ≤ 5) (kz_0_3 : (-1) ≤ faultPlace_0 ∧ faultPlace_0 ≤ 2000) (kz_0_5 : 0 ≤ end_0 ∧ end_0 ≤ 2000) (kz_0_6 : 0 ≤ next_0 ∧ next_0 ≤ 2000) (kz_0_8 : 0 ≤ begin_0 ∧ begin_0 ≤ 2000) (kz_0_11 : 0 ≤ depth_0 ∧ depth_0 ≤ 4) (kz_1_0 : 0 ≤ nodes_0o1 ∧ nodes_0o1 ≤ 24) (kz_1_1 : 0 ≤ edges_0o1 ∧ edges_0o1 ≤ 48) (kz_1_2 : 0 ≤ groups_0o1 ∧ groups_0o1 ≤ 8) : cO0 (end_0) (next_0) (depth_0) (fault_0) (faultPlace_0) (nodes_0o1) (edges_0o1) (groups_0o1) (tape_0) (open_0) (nameLength_0o1) (name_0o1) (tail_0o1) (head_0o1) (x27) := by
  first | subst g0 | skip
  first
    | exact cO0_f ‹FSY _ _ _ _› (by omega) (by omega) (by omega)
    | exact cO_13 ‹cO13 _ _ _ _ _ _ _ _ _ _ _ _ _ _ _› (by omega) (by omega)
    | exact cO0_t (s_go (le_s ‹cLE _ _ _ _ _ _ _ _ _ _ _ _ _ _ _ _› (by omega)) (by omega) rfl) (by omega) (by omega)
    | exact cO0_t (s_go (n13_s ‹TKC _ _ _ _ _ _ _› ‹cG13 _ _ _ _ _ _ _ _ _ _ _ _›) (by omega) rfl) (by omega) (by omega)
set_option maxHeartbeats 4000000 in
theorem vc_Re_readEdges_43_3 (x2 : Int) (x15 : Int) (next_0 : Int) (k2 : 0 ≤ x2 ∧ x2 ≤ 2000) (k15 : 0 ≤ x15 ∧ x15 ≤ 2000) (f9 : 1 * x2 + ((-1) * x15 + 0) ≤ 0) (f20 : 1 * x15 + ((-1) * next_0 + 0) ≤ 0) (kz_0_6 : 0 ≤ next_0 ∧ next_0 ≤ 2000) : 1 * x2 + ((-1) * next_0 + 0) ≤ 0 := by
  first
    | omega
  
set_option maxHeartbeats 4000000 in
theorem vc_Re_readEdges_43_4 (edges_0o1 : Int) (link_0o1 : Int → Int) (tail_0o1 : Int → Int) (head_0o1 : Int → Int) (f13 : LKG (edges_0o1) (tail_0o1) (head_0o1) (link_0o1)) (kz_1_1 : 0 ≤ edges_0o1 ∧ edges_0o1 ≤ 48) : LKG (edges_0o1) (tail_0o1) (head_0o1) (link_0o1) := by
  assumption
def o_Re_readEdges_43 : or_T := (172, 28, [(0, (2, 0, 0, [8])), (1, (2, 0, 0, [164])), (2, (0, 0, 2000, [])), (15, (0, 0, 2000, [])), (24, (0, 48, 48, [])), (26, (0, 3, 3, [])), (27, (0, 0, 0, []))], [(9, [24, 7], [1]), (20, [3, 26], [60, 2, 1, 1078, 5, 8, 0]), (20, [2, 15], [30, 0, 1, 0, 0, -1, 0, 0]), (24, [1, 7], []), (20, [7], [60, 1, 3, 1085, 1, 7, 8, 15]), (24, [0, 3], []), (20, [15, 3], [30, 0, 1, 0, 0, -1, 1, 6]), (20, [7], [60, 2, 3, 670, 0, 1, 14, 7, 8]), (20, [7], [60, 2, 2, 596, 0, 1, 7, 8]), (20, [27, 3, 26], [50, 3, 0, 1002, 1003, 1008, 2, 6, 1, 2, 1, 0, 0, 0, 2, 7, 1, 3, 2, 1, 2, 1, 2, 1, 3, 2, 1, 3, 2, 1, 8])], [], [], [(20, [1], [60, 2, 3, 670, 0, 1, 14, 7, 8]), (20, [1], [60, 2, 2, 596, 0, 1, 7, 8]), (20, [0, 1, 27], [60, 8, 6, 1063, 5, 6, 11, 2, 3, 1000, 1001, 1002, 0, 10, 1004, 1003, 1007, 1008]), (20, [2, 0], [30, 0, 1, 0, 0, -1, 1, 6]), (20, [1], [60, 1, 3, 1085, 1, 7, 8, 15])], [], [])
theorem oo_Re_readEdges_43 {kA : Nat → ClassId} : or_ok PRD kA GG o_Re_readEdges_43 := by
  refine or_mk fun A ta ws vs hD hth hl => ?_
  intro t0 r0 t1 r1 t2 k2 t15 k15 t24 k24 t26 k26 t27 k27 f0 f1 f9 f11 f13 f14 f20 f23 f24 f28
  replace f0 := shm_215 f0
  replace f1 := shm_1988 f1
  replace f11 := shm_5 f11
  replace f13 := shm_827 f13
  replace f14 := shm_5 f14
  replace f20 := shm_1527 f20
  replace f23 := shm_825 f23
  replace f24 := shm_386 f24
  replace f28 := shm_451 f28
  have q7 : n_v vs 7 = n_v vs 1 := f11.symm
  have q3 : n_v vs 3 = n_v vs 0 := f14.symm
  simp only [q7, q3] at f0 f1 f13 f20 f23 f24 f28
  have g0 : v_iv (n_v vs 24) = w_fi ws (n_v vs 1) 1 := congrArg v_iv f0
  have kz_0_2 := fdq_97 hD hth r0
  have kz_0_3 := fdq_98 hD hth r0
  have kz_0_5 := fdq_207 hD hth r0
  have kz_0_6 := fdq_208 hD hth r0
  have kz_0_8 := fdq_99 hD hth r0
  have kz_0_11 := fdq_320 hD hth r0
  have kz_1_0 := fdq_73 hD hth r1
  have kz_1_1 := fdq_74 hD hth r1
  have kz_1_2 := fdq_206 hD hth r1
  have nf0 : fc_1 PRD (20, [1], [60, 2, 3, 670, 0, 1, 14, 7, 8]) ws (vs) := ⟨nf_in hl rfl, sgq_825 (vc_Re_readEdges_43_0 (w_fi ws (n_v vs 1) 1) (w_ei ws (w_ar ws (n_v vs 1) 7)) (w_ei ws (w_ar ws (n_v vs 1) 8)) (w_ei ws (w_ar ws (n_v vs 1) 14)) (w_fi ws (n_v vs 1) 0) f23 kz_1_0 kz_1_1)⟩
  have nf1 : fc_1 PRD (20, [1], [60, 2, 2, 596, 0, 1, 7, 8]) ws (vs) := ⟨nf_in hl rfl, sgq_386 (vc_Re_readEdges_43_1 (w_fi ws (n_v vs 1) 1) (w_ei ws (w_ar ws (n_v vs 1) 7)) (w_ei ws (w_ar ws (n_v vs 1) 8)) (w_fi ws (n_v vs 1) 0) f24 kz_1_0 kz_1_1)⟩
  have nf2 : fc_1 PRD (20, [0, 1, 27], [60, 8, 6, 1063, 5, 6, 11, 2, 3, 1000, 1001, 1002, 0, 10, 1004, 1003, 1007, 1008]) ws (vs) := ⟨nf_in hl rfl, sgq_2023 (vc_Re_readEdges_43_2 (v_iv (n_v vs 24)) (v_iv (n_v vs 26)) (v_iv (n_v vs 27)) (w_fi ws (n_v vs 1) 1) (w_ei ws (w_ar ws (n_v vs 0) 0)) (w_fi ws (n_v vs 0) 5) (w_fi ws (n_v vs 0) 8) (w_fi ws (n_v vs 0) 6) (w_ei ws (w_ar ws (n_v vs 0) 10)) (w_fi ws (n_v vs 0) 11) (w_ei ws (w_ar ws (n_v vs 1) 7)) (w_ei ws (w_ar ws (n_v vs 1) 8)) (w_fi ws (n_v vs 1) 0) (w_ei ws (w_ar ws (n_v vs 1) 4)) (w_ei ws (w_ar ws (n_v vs 1) 3)) (w_fi ws (n_v vs 1) 2) (w_fi ws (n_v vs 0) 2) (w_fi ws (n_v vs 0) 3) k24 k26 k27 g0 f1 f28 kz_0_2 kz_0_3 kz_0_5 kz_0_6 kz_0_8 kz_0_11 kz_1_0 kz_1_1 kz_1_2)⟩
  have nf3 : fc_1 PRD (20, [2, 0], [30, 0, 1, 0, 0, -1, 1, 6]) ws (vs) := ⟨nf_in hl rfl, sgq_1527 (vc_Re_readEdges_43_3 (v_iv (n_v vs 2)) (v_iv (n_v vs 15)) (w_fi ws (n_v vs 0) 6) k2 k15 (shm_201 f9) f20 kz_0_6)⟩
  have nf4 : fc_1 PRD (20, [1], [60, 1, 3, 1085, 1, 7, 8, 15]) ws (vs) := ⟨nf_in hl rfl, sgq_827 (vc_Re_readEdges_43_4 (w_fi ws (n_v vs 1) 1) (w_ei ws (w_ar ws (n_v vs 1) 15)) (w_ei ws (w_ar ws (n_v vs 1) 7)) (w_ei ws (w_ar ws (n_v vs 1) 8)) f13 kz_1_1)⟩
  refine ⟨(fun _ h => (by cases h)), [], trivial, ?_, (fun _ h => (by cases h))⟩
  rw [List.append_nil]
  exact List.forall_mem_cons.mpr ⟨⟨show (20 : Nat) < 100 from by decide, nf0⟩, List.forall_mem_cons.mpr ⟨⟨show (20 : Nat) < 100 from by decide, nf1⟩, List.forall_mem_cons.mpr ⟨⟨show (20 : Nat) < 100 from by decide, nf2⟩, List.forall_mem_cons.mpr ⟨⟨show (20 : Nat) < 100 from by decide, nf3⟩, List.forall_mem_cons.mpr ⟨⟨show (20 : Nat) < 100 from by decide, nf4⟩, (fun _ h => (by cases h))⟩⟩⟩⟩⟩
set_option maxHeartbeats 4000000 in
theorem vc_Re_readEdges_44_0 (x4 : Int) (x15 : Int) (x16 : Int) (x19 : Int) (x21 : Int) (x23 : Int) (link_0o1 : Int → Int) (next_0 : Int) (begin_0 : Int) (end_0 : Int) (tape_0 : Int → Int) (open_0 : Int → Int) (depth_0 : Int) (edges_0o1 : Int) (tail_0o1 : Int → Int) (head_0o1 : Int → Int) (kind_0 : Int) (number_0 : Int) (nodes_0o1 : Int) (nameLength_0o1 : Int → Int) (name_0o1 : Int → Int) (groups_0o1 : Int) (k4 : 0 ≤ x4 ∧ x4 ≤ 23) (k15 : 0 ≤ x15 ∧ x15 ≤ 2000) (k16 : 1 ≤ x16 ∧ x16 ≤ 1) (k19 : 0 ≤ x19 ∧ x19 ≤ 23) (k21 : 0 ≤ x21 ∧ x21 ≤ 47) (k23 : 2 ≤ x23 ∧ x23 ≤ 2) (f1 : x21 = link_0o1 (((x4 * 24) + x19))) (f11 : cU4 (end_0) (depth_0) (tape_0) (open_0) (x4) (x15)) (f14 : LKG (edges_0o1) (tail_0o1) (head_0o1) (link_0o1)) (f21 : TKC (end_0) (next_0) (kind_0) (begin_0) (number_0) (tape_0) (x15)) (f24 : CNM (kind_0) (next_0) (begin_0) (tape_0) (x16)) (f29 : CGM (end_0) (next_0) (begin_0) (nodes_0o1) (edges_0o1) (groups_0o1) (tape_0) (nameLength_0o1) (name_0o1) (tail_0o1) (head_0o1) (x19)) (f33 : x16 ≠ 0) (kz_0_5 : 0 ≤ end_0 ∧ end_0 ≤ 2000) (kz_0_6 : 0 ≤ next_0 ∧ next_0 ≤ 2000) (kz_0_7 : (-128) ≤ kind_0 ∧ kind_0 ≤ 127) (kz_0_8 : 0 ≤ begin_0 ∧ begin_0 ≤ 2000) (kz_0_9 : (-176) ≤ number_0 ∧ number_0 ≤ 1000000) (kz_0_11 : 0 ≤ depth_0 ∧ depth_0 ≤ 4) (kz_1_0 : 0 ≤ nodes_0o1 ∧ nodes_0o1 ≤ 24) (kz_1_1 : 0 ≤ edges_0o1 ∧ edges_0o1 ≤ 48) (kz_1_2 : 0 ≤ groups_0o1 ∧ groups_0o1 ≤ 8) : FSY (end_0) (begin_0) (tape_0) (x23) := by
  first
    | exact fsy_of (m4_2 ‹TKC _ _ _ _ _ _ _› ‹cU4 _ _ _ _ _ _› (cnm_t ‹CNM _ _ _ _ _› (by omega)) ‹CGM _ _ _ _ _ _ _ _ _ _ _ _› (by omega) ‹LKG _ _ _ _› (Or.inl (by omega))) (by omega)
    | exact fsy_of (m4_2 ‹TKC _ _ _ _ _ _ _› ‹cU4 _ _ _ _ _ _› (cnm_t ‹CNM _ _ _ _ _› (by omega)) ‹CGM _ _ _ _ _ _ _ _ _ _ _ _› (by omega) ‹LKG _ _ _ _› (Or.inr (by omega))) (by omega)
def o_Re_readEdges_44 : or_T := (145, 24, [(0, (2, 0, 0, [8])), (1, (2, 0, 0, [164])), (4, (0, 0, 23, [])), (15, (0, 0, 2000, [])), (16, (0, 1, 1, [])), (19, (0, 0, 23, [])), (21, (0, 0, 47, [])), (23, (0, 2, 2, []))], [(20, [21, 7, 4, 19], [50, 0, 1, 1015, 1, 2, 1, 0, 3, 1, 15, 4, 6, 6, 2, 1, 2, 0, 24, 1, 3]), (20, [3, 4, 15], [60, 2, 2, 1070, 5, 11, 0, 10]), (24, [1, 7], []), (20, [7], [60, 1, 3, 1085, 1, 7, 8, 15]), (24, [0, 3], []), (20, [3, 15], [60, 5, 1, 1072, 5, 6, 7, 8, 9, 0]), (20, [3, 16], [60, 3, 1, 1079, 7, 6, 8, 0]), (20, [3, 7, 19], [60, 6, 5, 1066, 5, 6, 8, 1000, 1001, 1002, 0, 1004, 1003, 1007, 1008]), (102, [18], [2944411990052395234623243954974308466357606285312, 164000]), (8, [16], [1])], [], [], [(20, [3, 23], [60, 2, 1, 1078, 5, 8, 0])], [], [])
theorem oo_Re_readEdges_44 {kA : Nat → ClassId} : or_ok PRD kA GG o_Re_readEdges_44 := by
  refine or_mk fun A ta ws vs hD hth hl => ?_
  intro t0 r0 t1 r1 t4 k4 t15 k15 t16 k16 t19 k19 t21 k21 t23 k23 f1 f11 f12 f14 f16 f21 f24 f29 ta1 w1 le1 s1 f33
  replace f1 := shm_376 f1
  replace f11 := shm_2142 f11
  replace f12 := shm_5 f12
  replace f14 := shm_827 f14
  replace f16 := shm_5 f16
  replace f21 := shm_1532 f21
  replace f24 := shm_1837 f24
  replace f29 := shm_1406 f29
  replace f33 := shm_142 f33
  have q7 : n_v vs 7 = n_v vs 1 := f12.symm
  have q3 : n_v vs 3 = n_v vs 0 := f16.symm
  simp only [q7, q3] at f1 f11 f14 f21 f24 f29
  have kz_0_5 := fdq_207 hD hth r0
  have kz_0_6 := fdq_208 hD hth r0
  have kz_0_7 := fdq_297 hD hth r0
  have kz_0_8 := fdq_99 hD hth r0
  have kz_0_9 := fdq_296 hD hth r0
  have kz_0_11 := fdq_320 hD hth r0
  have kz_1_0 := fdq_73 hD hth r1
  have kz_1_1 := fdq_74 hD hth r1
  have kz_1_2 := fdq_206 hD hth r1
  have nf0 : fc_1 PRD (20, [3, 23], [60, 2, 1, 1078, 5, 8, 0]) ws (vs) := by
    refine ⟨nf_in hl rfl, sgq_1988 ?_⟩
    · show FSY (w_fi ws (n_v vs 3) 5) (w_fi ws (n_v vs 3) 8) (w_ei ws (w_ar ws (n_v vs 3) 0)) (v_iv (n_v vs 23))
      rw [q3]
      exact vc_Re_readEdges_44_0 (v_iv (n_v vs 4)) (v_iv (n_v vs 15)) (v_iv (n_v vs 16)) (v_iv (n_v vs 19)) (v_iv (n_v vs 21)) (v_iv (n_v vs 23)) (w_ei ws (w_ar ws (n_v vs 1) 15)) (w_fi ws (n_v vs 0) 6) (w_fi ws (n_v vs 0) 8) (w_fi ws (n_v vs 0) 5) (w_ei ws (w_ar ws (n_v vs 0) 0)) (w_ei ws (w_ar ws (n_v vs 0) 10)) (w_fi ws (n_v vs 0) 11) (w_fi ws (n_v vs 1) 1) (w_ei ws (w_ar ws (n_v vs 1) 7)) (w_ei ws (w_ar ws (n_v vs 1) 8)) (w_fi ws (n_v vs 0) 7) (w_fi ws (n_v vs 0) 9) (w_fi ws (n_v vs 1) 0) (w_ei ws (w_ar ws (n_v vs 1) 4)) (w_ei ws (w_ar ws (n_v vs 1) 3)) (w_fi ws (n_v vs 1) 2) k4 k15 k16 k19 k21 k23 f1 f11 f14 f21 f24 f29 f33 kz_0_5 kz_0_6 kz_0_7 kz_0_8 kz_0_9 kz_0_11 kz_1_0 kz_1_1 kz_1_2
  refine ⟨(fun _ h => (by cases h)), [], trivial, ?_, (fun _ h => (by cases h))⟩
  rw [List.append_nil]
  exact List.forall_mem_cons.mpr ⟨⟨show (20 : Nat) < 100 from by decide, nf0⟩, (fun _ h => (by cases h))⟩
set_option maxHeartbeats 4000000 in
theorem vc_Re_readEdges_45_0 (edges_0o1 : Int) (tail_0o1 : Int → Int) (head_0o1 : Int → Int) (near_0o1 : Int → Int) (nodes_0o1 : Int) (f22 : GNB (nodes_0o1) (edges_0o1) (near_0o1) (tail_0o1) (head_0o1)) (kz_1_0 : 0 ≤ nodes_0o1 ∧ nodes_0o1 ≤ 24) (kz_1_1 : 0 ≤ edges_0o1 ∧ edges_0o1 ≤ 48) : GNB (nodes_0o1) (edges_0o1) (near_0o1) (tail_0o1) (head_0o1) := by
  first
    | assumption
  
set_option maxHeartbeats 4000000 in
theorem vc_Re_readEdges_45_1 (edges_0o1 : Int) (tail_0o1 : Int → Int) (head_0o1 : Int → Int) (nodes_0o1 : Int) (f23 : GKE (nodes_0o1) (edges_0o1) (tail_0o1) (head_0o1)) (kz_1_0 : 0 ≤ nodes_0o1 ∧ nodes_0o1 ≤ 24) (kz_1_1 : 0 ≤ edges_0o1 ∧ edges_0o1 ≤ 48) : GKE (nodes_0o1) (edges_0o1) (tail_0o1) (head_0o1) := by
  first
    | assumption
  
set_option maxHeartbeats 4000000 in
theorem vc_Re_readEdges_45_2 (x23 : Int) (x24 : Int) (tape_0 : Int → Int) (end_0 : Int) (begin_0 : Int) (next_0 : Int) (open_0 : Int → Int) (depth_0 : Int) (edges_0o1 : Int) (tail_0o1 : Int → Int) (head_0o1 : Int → Int) (nodes_0o1 : Int) (nameLength_0o1 : Int → Int) (name_0o1 : Int → Int) (groups_0o1 : Int) (fault_0 : Int) (faultPlace_0 : Int) (k23 : 2 ≤ x23 ∧ x23 ≤ 2) (k24 : 0 ≤ x24 ∧ x24 ≤ 0) (f0 : FSY (end_0) (begin_0) (tape_0) (x23)) (f27 : (x24 = 0) ∧ ((fault_0 = x23) ∧ (faultPlace_0 = begin_0))) (kz_0_2 : (-1) ≤ fault_0 ∧ fault_0 ≤ 5) (kz_0_3 : (-1) ≤ faultPlace_0 ∧ faultPlace_0 ≤ 2000) (kz_0_5 : 0 ≤ end_0 ∧ end_0 ≤ 2000) (kz_0_6 : 0 ≤ next_0 ∧ next_0 ≤ 2000) (kz_0_8 : 0 ≤ begin_0 ∧ begin_0 ≤ 2000) (kz_0_11 : 0 ≤ depth_0 ∧ depth_0 ≤ 4) (kz_1_0 : 0 ≤ nodes_0o1 ∧ nodes_0o1 ≤ 24) (kz_1_1 : 0 ≤ edges_0o1 ∧ edges_0o1 ≤ 48) (kz_1_2 : 0 ≤ groups_0o1 ∧ groups_0o1 ≤ 8) : cO0 (end_0) (next_0) (depth_0) (fault_0) (faultPlace_0) (nodes_0o1) (edges_0o1) (groups_0o1) (tape_0) (open_0) (nameLength_0o1) (name_0o1) (tail_0o1) (head_0o1) (x24) := by
  first
    | exact cO0_f ‹FSY _ _ _ _› (by omega) (by omega) (by omega)
    | exact cO_13 ‹cO13 _ _ _ _ _ _ _ _ _ _ _ _ _ _ _› (by omega) (by omega)
    | exact cO0_t (s_go (le_s ‹cLE _ _ _ _ _ _ _ _ _ _ _ _ _ _ _ _› (by omega)) (by omega) rfl) (by omega) (by omega)
    | exact cO0_t (s_go (n13_s ‹TKC _ _ _ _ _ _ _› ‹cG13 _ _ _ _ _ _ _ _ _ _ _ _›) (by omega) rfl) (by omega) (by omega)
set_option maxHeartbeats 4000000 in
theorem vc_Re_readEdges_45_3 (x2 : Int) (x15 : Int) (next_0 : Int) (k2 : 0 ≤ x2 ∧ x2 ≤ 2000) (k15 : 0 ≤ x15 ∧ x15 ≤ 2000) (f8 : 1 * x2 + ((-1) * x15 + 0) ≤ 0) (f19 : 1 * x15 + ((-1) * next_0 + 0) ≤ 0) (kz_0_6 : 0 ≤ next_0 ∧ next_0 ≤ 2000) : 1 * x2 + ((-1) * next_0 + 0) ≤ 0 := by
  first
    | omega
  
set_option maxHeartbeats 4000000 in
theorem vc_Re_readEdges_45_4 (link_0o1 : Int → Int) (edges_0o1 : Int) (tail_0o1 : Int → Int) (head_0o1 : Int → Int) (f12 : LKG (edges_0o1) (tail_0o1) (head_0o1) (link_0o1)) (kz_1_1 : 0 ≤ edges_0o1 ∧ edges_0o1 ≤ 48) : LKG (edges_0o1) (tail_0o1) (head_0o1) (link_0o1) := by
  assumption
def o_Re_readEdges_45 : or_T := (148, 25, [(0, (2, 0, 0, [8])), (1, (2, 0, 0, [164])), (2, (0, 0, 2000, [])), (15, (0, 0, 2000, [])), (23, (0, 2, 2, [])), (24, (0, 0, 0, []))], [(20, [3, 23], [60, 2, 1, 1078, 5, 8, 0]), (20, [2, 15], [30, 0, 1, 0, 0, -1, 0, 0]), (24, [1, 7], []), (20, [7], [60, 1, 3, 1085, 1, 7, 8, 15]), (24, [0, 3], []), (20, [15, 3], [30, 0, 1, 0, 0, -1, 1, 6]), (20, [7], [60, 2, 3, 670, 0, 1, 14, 7, 8]), (20, [7], [60, 2, 2, 596, 0, 1, 7, 8]), (20, [24, 3, 23], [50, 3, 0, 1002, 1003, 1008, 2, 6, 1, 2, 1, 0, 0, 0, 2, 7, 1, 3, 2, 1, 2, 1, 2, 1, 3, 2, 1, 3, 2, 1, 8])], [], [], [(20, [1], [60, 2, 3, 670, 0, 1, 14, 7, 8]), (20, [1], [60, 2, 2, 596, 0, 1, 7, 8]), (20, [0, 1, 24], [60, 8, 6, 1063, 5, 6, 11, 2, 3, 1000, 1001, 1002, 0, 10, 1004, 1003, 1007, 1008]), (20, [2, 0], [30, 0, 1, 0, 0, -1, 1, 6]), (20, [1], [60, 1, 3, 1085, 1, 7, 8, 15])], [], [])
theorem oo_Re_readEdges_45 {kA : Nat → ClassId} : or_ok PRD kA GG o_Re_readEdges_45 := by
  refine or_mk fun A ta ws vs hD hth hl => ?_
  intro t0 r0 t1 r1 t2 k2 t15 k15 t23 k23 t24 k24 f0 f8 f10 f12 f13 f19 f22 f23 f27
  replace f0 := shm_1988 f0
  replace f10 := shm_5 f10
  replace f12 := shm_827 f12
  replace f13 := shm_5 f13
  replace f19 := shm_1527 f19
  replace f22 := shm_825 f22
  replace f23 := shm_386 f23
  replace f27 := shm_451 f27
  have q7 : n_v vs 7 = n_v vs 1 := f10.symm
  have q3 : n_v vs 3 = n_v vs 0 := f13.symm
  simp only [q3, q7] at f0 f12 f19 f22 f23 f27
  have kz_0_2 := fdq_97 hD hth r0
  have kz_0_3 := fdq_98 hD hth r0
  have kz_0_5 := fdq_207 hD hth r0
  have kz_0_6 := fdq_208 hD hth r0
  have kz_0_8 := fdq_99 hD hth r0
  have kz_0_11 := fdq_320 hD hth r0
  have kz_1_0 := fdq_73 hD hth r1
  have kz_1_1 := fdq_74 hD hth r1
  have kz_1_2 := fdq_206 hD hth r1
  have nf0 : fc_1 PRD (20, [1], [60, 2, 3, 670, 0, 1, 14, 7, 8]) ws (vs) := ⟨nf_in hl rfl, sgq_825 (vc_Re_readEdges_45_0 (w_fi ws (n_v vs 1) 1) (w_ei ws (w_ar ws (n_v vs 1) 7)) (w_ei ws (w_ar ws (n_v vs 1) 8)) (w_ei ws (w_ar ws (n_v vs 1) 14)) (w_fi ws (n_v vs 1) 0) f22 kz_1_0 kz_1_1)⟩
  have nf1 : fc_1 PRD (20, [1], [60, 2, 2, 596, 0, 1, 7, 8]) ws (vs) := ⟨nf_in hl rfl, sgq_386 (vc_Re_readEdges_45_1 (w_fi ws (n_v vs 1) 1) (w_ei ws (w_ar ws (n_v vs 1) 7)) (w_ei ws (w_ar ws (n_v vs 1) 8)) (w_fi ws (n_v vs 1) 0) f23 kz_1_0 kz_1_1)⟩
  have nf2 : fc_1 PRD (20, [0, 1, 24], [60, 8, 6, 1063, 5, 6, 11, 2, 3, 1000, 1001, 1002, 0, 10, 1004, 1003, 1007, 1008]) ws (vs) := ⟨nf_in hl rfl, sgq_2023 (vc_Re_readEdges_45_2 (v_iv (n_v vs 23)) (v_iv (n_v vs 24)) (w_ei ws (w_ar ws (n_v vs 0) 0)) (w_fi ws (n_v vs 0) 5) (w_fi ws (n_v vs 0) 8) (w_fi ws (n_v vs 0) 6) (w_ei ws (w_ar ws (n_v vs 0) 10)) (w_fi ws (n_v vs 0) 11) (w_fi ws (n_v vs 1) 1) (w_ei ws (w_ar ws (n_v vs 1) 7)) (w_ei ws (w_ar ws (n_v vs 1) 8)) (w_fi ws (n_v vs 1) 0) (w_ei ws (w_ar ws (n_v vs 1) 4)) (w_ei ws (w_ar ws (n_v vs 1) 3)) (w_fi ws (n_v vs 1) 2) (w_fi ws (n_v vs 0) 2) (w_fi ws (n_v vs 0) 3) k23 k24 f0 f27 kz_0_2 kz_0_3 kz_0_5 kz_0_6 kz_0_8 kz_0_11 kz_1_0 kz_1_1 kz_1_2)⟩
  have nf3 : fc_1 PRD (20, [2, 0], [30, 0, 1, 0, 0, -1, 1, 6]) ws (vs) := ⟨nf_in hl rfl, sgq_1527 (vc_Re_readEdges_45_3 (v_iv (n_v vs 2)) (v_iv (n_v vs 15)) (w_fi ws (n_v vs 0) 6) k2 k15 (shm_201 f8) f19 kz_0_6)⟩
  have nf4 : fc_1 PRD (20, [1], [60, 1, 3, 1085, 1, 7, 8, 15]) ws (vs) := ⟨nf_in hl rfl, sgq_827 (vc_Re_readEdges_45_4 (w_ei ws (w_ar ws (n_v vs 1) 15)) (w_fi ws (n_v vs 1) 1) (w_ei ws (w_ar ws (n_v vs 1) 7)) (w_ei ws (w_ar ws (n_v vs 1) 8)) f12 kz_1_1)⟩
  refine ⟨(fun _ h => (by cases h)), [], trivial, ?_, (fun _ h => (by cases h))⟩
  rw [List.append_nil]
  exact List.forall_mem_cons.mpr ⟨⟨show (20 : Nat) < 100 from by decide, nf0⟩, List.forall_mem_cons.mpr ⟨⟨show (20 : Nat) < 100 from by decide, nf1⟩, List.forall_mem_cons.mpr ⟨⟨show (20 : Nat) < 100 from by decide, nf2⟩, List.forall_mem_cons.mpr ⟨⟨show (20 : Nat) < 100 from by decide, nf3⟩, List.forall_mem_cons.mpr ⟨⟨show (20 : Nat) < 100 from by decide, nf4⟩, (fun _ h => (by cases h))⟩⟩⟩⟩⟩
set_option maxHeartbeats 4000000 in
theorem vc_Re_readEdges_46_0 (x4 : Int) (x15 : Int) (x16 : Int) (x19 : Int) (x22 : Int) (next_0 : Int) (begin_0 : Int) (end_0 : Int) (tape_0 : Int → Int) (open_0 : Int → Int) (depth_0 : Int) (edges_0o1 : Int) (tail_0o1 : Int → Int) (head_0o1 : Int → Int) (link_0o1 : Int → Int) (kind_0 : Int) (number_0 : Int) (nodes_0o1 : Int) (nameLength_0o1 : Int → Int) (name_0o1 : Int → Int) (groups_0o1 : Int) (k4 : 0 ≤ x4 ∧ x4 ≤ 23) (k15 : 0 ≤ x15 ∧ x15 ≤ 2000) (k16 : 1 ≤ x16 ∧ x16 ≤ 1) (k19 : (-1) ≤ x19 ∧ x19 ≤ (-1)) (k22 : 3 ≤ x22 ∧ x22 ≤ 3) (f9 : cU4 (end_0) (depth_0) (tape_0) (open_0) (x4) (x15)) (f19 : TKC (end_0) (next_0) (kind_0) (begin_0) (number_0) (tape_0) (x15)) (f22 : CNM (kind_0) (next_0) (begin_0) (tape_0) (x16)) (f27 : CGM (end_0) (next_0) (begin_0) (nodes_0o1) (edges_0o1) (groups_0o1) (tape_0) (nameLength_0o1) (name_0o1) (tail_0o1) (head_0o1) (x19)) (f31 : x16 ≠ 0) (kz_0_5 : 0 ≤ end_0 ∧ end_0 ≤ 2000) (kz_0_6 : 0 ≤ next_0 ∧ next_0 ≤ 2000) (kz_0_7 : (-128) ≤ kind_0 ∧ kind_0 ≤ 127) (kz_0_8 : 0 ≤ begin_0 ∧ begin_0 ≤ 2000) (kz_0_9 : (-176) ≤ number_0 ∧ number_0 ≤ 1000000) (kz_0_11 : 0 ≤ depth_0 ∧ depth_0 ≤ 4) (kz_1_0 : 0 ≤ nodes_0o1 ∧ nodes_0o1 ≤ 24) (kz_1_1 : 0 ≤ edges_0o1 ∧ edges_0o1 ≤ 48) (kz_1_2 : 0 ≤ groups_0o1 ∧ groups_0o1 ≤ 8) : FSY (end_0) (begin_0) (tape_0) (x22) := by
  first
    | exact fsy_of (m4_3 (lk := link_0o1) ‹TKC _ _ _ _ _ _ _› ‹cU4 _ _ _ _ _ _› (cnm_t ‹CNM _ _ _ _ _› (by omega)) ‹CGM _ _ _ _ _ _ _ _ _ _ _ _› (Or.inl (by omega))) (by omega)
    | exact fsy_of (m4_3 ‹TKC _ _ _ _ _ _ _› ‹cU4 _ _ _ _ _ _› (cnm_t ‹CNM _ _ _ _ _› (by omega)) ‹CGM _ _ _ _ _ _ _ _ _ _ _ _› (Or.inr ⟨‹LKG _ _ _ _›, by omega, by omega, by omega⟩)) (by omega)
def o_Re_readEdges_46 : or_T := (169, 23, [(0, (2, 0, 0, [8])), (1, (2, 0, 0, [164])), (4, (0, 0, 23, [])), (15, (0, 0, 2000, [])), (16, (0, 1, 1, [])), (19, (0, -1, -1, [])), (22, (0, 3, 3, []))], [(20, [3, 4, 15], [60, 2, 2, 1070, 5, 11, 0, 10]), (24, [1, 7], []), (24, [0, 3], []), (20, [3, 15], [60, 5, 1, 1072, 5, 6, 7, 8, 9, 0]), (20, [3, 16], [60, 3, 1, 1079, 7, 6, 8, 0]), (20, [3, 7, 19], [60, 6, 5, 1066, 5, 6, 8, 1000, 1001, 1002, 0, 1004, 1003, 1007, 1008]), (102, [18], [2944411990052395234623243954974308466357606285312, 164000]), (8, [16], [1])], [], [], [(20, [3, 22], [60, 2, 1, 1078, 5, 8, 0])], [], [])
theorem oo_Re_readEdges_46 {kA : Nat → ClassId} : or_ok PRD kA GG o_Re_readEdges_46 := by
  refine or_mk fun A ta ws vs hD hth hl => ?_
  intro t0 r0 t1 r1 t4 k4 t15 k15 t16 k16 t19 k19 t22 k22 f9 f10 f14 f19 f22 f27 ta1 w1 le1 s1 f31
  replace f9 := shm_2142 f9
  replace f10 := shm_5 f10
  replace f14 := shm_5 f14
  replace f19 := shm_1532 f19
  replace f22 := shm_1837 f22
  replace f27 := shm_1406 f27
  replace f31 := shm_142 f31
  have q7 : n_v vs 7 = n_v vs 1 := f10.symm
  have q3 : n_v vs 3 = n_v vs 0 := f14.symm
  simp only [q3, q7] at f9 f19 f22 f27
  have kz_0_5 := fdq_207 hD hth r0
  have kz_0_6 := fdq_208 hD hth r0
  have kz_0_7 := fdq_297 hD hth r0
  have kz_0_8 := fdq_99 hD hth r0
  have kz_0_9 := fdq_296 hD hth r0
  have kz_0_11 := fdq_320 hD hth r0
  have kz_1_0 := fdq_73 hD hth r1
  have kz_1_1 := fdq_74 hD hth r1
  have kz_1_2 := fdq_206 hD hth r1
  have nf0 : fc_1 PRD (20, [3, 22], [60, 2, 1, 1078, 5, 8, 0]) ws (vs) := by
    refine ⟨nf_in hl rfl, sgq_1988 ?_⟩
    · show FSY (w_fi ws (n_v vs 3) 5) (w_fi ws (n_v vs 3) 8) (w_ei ws (w_ar ws (n_v vs 3) 0)) (v_iv (n_v vs 22))
      rw [q3]
      exact vc_Re_readEdges_46_0 (v_iv (n_v vs 4)) (v_iv (n_v vs 15)) (v_iv (n_v vs 16)) (v_iv (n_v vs 19)) (v_iv (n_v vs 22)) (w_fi ws (n_v vs 0) 6) (w_fi ws (n_v vs 0) 8) (w_fi ws (n_v vs 0) 5) (w_ei ws (w_ar ws (n_v vs 0) 0)) (w_ei ws (w_ar ws (n_v vs 0) 10)) (w_fi ws (n_v vs 0) 11) (w_fi ws (n_v vs 1) 1) (w_ei ws (w_ar ws (n_v vs 1) 7)) (w_ei ws (w_ar ws (n_v vs 1) 8)) (w_ei ws (w_ar ws (n_v vs 1) 15)) (w_fi ws (n_v vs 0) 7) (w_fi ws (n_v vs 0) 9) (w_fi ws (n_v vs 1) 0) (w_ei ws (w_ar ws (n_v vs 1) 4)) (w_ei ws (w_ar ws (n_v vs 1) 3)) (w_fi ws (n_v vs 1) 2) k4 k15 k16 k19 k22 f9 f19 f22 f27 f31 kz_0_5 kz_0_6 kz_0_7 kz_0_8 kz_0_9 kz_0_11 kz_1_0 kz_1_1 kz_1_2
  refine ⟨(fun _ h => (by cases h)), [], trivial, ?_, (fun _ h => (by cases h))⟩
  rw [List.append_nil]
  exact List.forall_mem_cons.mpr ⟨⟨show (20 : Nat) < 100 from by decide, nf0⟩, (fun _ h => (by cases h))⟩
set_option maxHeartbeats 4000000 in
theorem vc_Re_readEdges_47_0 (edges_0o1 : Int) (tail_0o1 : Int → Int) (head_0o1 : Int → Int) (near_0o1 : Int → Int) (nodes_0o1 : Int) (f21 : GNB (nodes_0o1) (edges_0o1) (near_0o1) (tail_0o1) (head_0o1)) (kz_1_0 : 0 ≤ nodes_0o1 ∧ nodes_0o1 ≤ 24) (kz_1_1 : 0 ≤ edges_0o1 ∧ edges_0o1 ≤ 48) : GNB (nodes_0o1) (edges_0o1) (near_0o1) (tail_0o1) (head_0o1) := by
  first
    | assumption
  
set_option maxHeartbeats 4000000 in
theorem vc_Re_readEdges_47_1 (edges_0o1 : Int) (tail_0o1 : Int → Int) (head_0o1 : Int → Int) (nodes_0o1 : Int) (f22 : GKE (nodes_0o1) (edges_0o1) (tail_0o1) (head_0o1)) (kz_1_0 : 0 ≤ nodes_0o1 ∧ nodes_0o1 ≤ 24) (kz_1_1 : 0 ≤ edges_0o1 ∧ edges_0o1 ≤ 48) : GKE (nodes_0o1) (edges_0o1) (tail_0o1) (head_0o1) := by
  first
    | assumption
  
set_option maxHeartbeats 4000000 in
theorem vc_Re_readEdges_47_2 (x22 : Int) (x23 : Int) (tape_0 : Int → Int) (end_0 : Int) (begin_0 : Int) (next_0 : Int) (open_0 : Int → Int) (depth_0 : Int) (edges_0o1 : Int) (tail_0o1 : Int → Int) (head_0o1 : Int → Int) (nodes_0o1 : Int) (nameLength_0o1 : Int → Int) (name_0o1 : Int → Int) (groups_0o1 : Int) (fault_0 : Int) (faultPlace_0 : Int) (k22 : 3 ≤ x22 ∧ x22 ≤ 3) (k23 : 0 ≤ x23 ∧ x23 ≤ 0) (f0 : FSY (end_0) (begin_0) (tape_0) (x22)) (f26 : (x23 = 0) ∧ ((fault_0 = x22) ∧ (faultPlace_0 = begin_0))) (kz_0_2 : (-1) ≤ fault_0 ∧ fault_0 ≤ 5) (kz_0_3 : (-1) ≤ faultPlace_0 ∧ faultPlace_0 ≤ 2000) (kz_0_5 : 0 ≤ end_0 ∧ end_0 ≤ 2000) (kz_0_6 : 0 ≤ next_0 ∧ next_0 ≤ 2000) (kz_0_8 : 0 ≤ begin_0 ∧ begin_0 ≤ 2000) (kz_0_11 : 0 ≤ depth_0 ∧ depth_0 ≤ 4) (kz_1_0 : 0 ≤ nodes_0o1 ∧ nodes_0o1 ≤ 24) (kz_1_1 : 0 ≤ edges_0o1 ∧ edges_0o1 ≤ 48) (kz_1_2 : 0 ≤ groups_0o1 ∧ groups_0o1 ≤ 8) : cO0 (end_0) (next_0) (depth_0) (fault_0) (faultPlace_0) (nodes_0o1) (edges_0o1) (groups_0o1) (tape_0) (open_0) (nameLength_0o1) (name_0o1) (tail_0o1) (head_0o1) (x23) := by
  first
    | exact cO0_f ‹FSY _ _ _ _› (by omega) (by omega) (by omega)
    | exact cO_13 ‹cO13 _ _ _ _ _ _ _ _ _ _ _ _ _ _ _› (by omega) (by omega)
    | exact cO0_t (s_go (le_s ‹cLE _ _ _ _ _ _ _ _ _ _ _ _ _ _ _ _› (by omega)) (by omega) rfl) (by omega) (by omega)
    | exact cO0_t (s_go (n13_s ‹TKC _ _ _ _ _ _ _› ‹cG13 _ _ _ _ _ _ _ _ _ _ _ _›) (by omega) rfl) (by omega) (by omega)
set_option maxHeartbeats 4000000 in
theorem vc_Re_readEdges_47_3 (x2 : Int) (x15 : Int) (next_0 : Int) (k2 : 0 ≤ x2 ∧ x2 ≤ 2000) (k15 : 0 ≤ x15 ∧ x15 ≤ 2000) (f7 : 1 * x2 + ((-1) * x15 + 0) ≤ 0) (f18 : 1 * x15 + ((-1) * next_0 + 0) ≤ 0) (kz_0_6 : 0 ≤ next_0 ∧ next_0 ≤ 2000) : 1 * x2 + ((-1) * next_0 + 0) ≤ 0 := by
  first
    | omega
  
set_option maxHeartbeats 4000000 in
theorem vc_Re_readEdges_47_4 (edges_0o1 : Int) (tail_0o1 : Int → Int) (head_0o1 : Int → Int) (link_0o1 : Int → Int) (f11 : LKG (edges_0o1) (tail_0o1) (head_0o1) (link_0o1)) (kz_1_1 : 0 ≤ edges_0o1 ∧ edges_0o1 ≤ 48) : LKG (edges_0o1) (tail_0o1) (head_0o1) (link_0o1) := by
  assumption
def o_Re_readEdges_47 : or_T := (172, 24, [(0, (2, 0, 0, [8])), (1, (2, 0, 0, [164])), (2, (0, 0, 2000, [])), (15, (0, 0, 2000, [])), (22, (0, 3, 3, [])), (23, (0, 0, 0, []))], [(20, [3, 22], [60, 2, 1, 1078, 5, 8, 0]), (20, [2, 15], [30, 0, 1, 0, 0, -1, 0, 0]), (24, [1, 7], []), (20, [7], [60, 1, 3, 1085, 1, 7, 8, 15]), (24, [0, 3], []), (20, [15, 3], [30, 0, 1, 0, 0, -1, 1, 6]), (20, [7], [60, 2, 3, 670, 0, 1, 14, 7, 8]), (20, [7], [60, 2, 2, 596, 0, 1, 7, 8]), (20, [23, 3, 22], [50, 3, 0, 1002, 1003, 1008, 2, 6, 1, 2, 1, 0, 0, 0, 2, 7, 1, 3, 2, 1, 2, 1, 2, 1, 3, 2, 1, 3, 2, 1, 8])], [], [], [(20, [1], [60, 2, 3, 670, 0, 1, 14, 7, 8]), (20, [1], [60, 2, 2, 596, 0, 1, 7, 8]), (20, [0, 1, 23], [60, 8, 6, 1063, 5, 6, 11, 2, 3, 1000, 1001, 1002, 0, 10, 1004, 1003, 1007, 1008]), (20, [2, 0], [30, 0, 1, 0, 0, -1, 1, 6]), (20, [1], [60, 1, 3, 1085, 1, 7, 8, 15])], [], [])
theorem oo_Re_readEdges_47 {kA : Nat → ClassId} : or_ok PRD kA GG o_Re_readEdges_47 := by
  refine or_mk fun A ta ws vs hD hth hl => ?_
  intro t0 r0 t1 r1 t2 k2 t15 k15 t22 k22 t23 k23 f0 f7 f9 f11 f12 f18 f21 f22 f26
  replace f0 := shm_1988 f0
  replace f9 := shm_5 f9
  replace f11 := shm_827 f11
  replace f12 := shm_5 f12
  replace f18 := shm_1527 f18
  replace f21 := shm_825 f21
  replace f22 := shm_386 f22
  replace f26 := shm_451 f26
  have q7 : n_v vs 7 = n_v vs 1 := f9.symm
  have q3 : n_v vs 3 = n_v vs 0 := f12.symm
  simp only [q3, q7] at f0 f11 f18 f21 f22 f26
  have kz_0_2 := fdq_97 hD hth r0
  have kz_0_3 := fdq_98 hD hth r0
  have kz_0_5 := fdq_207 hD hth r0
  have kz_0_6 := fdq_208 hD hth r0
  have kz_0_8 := fdq_99 hD hth r0
  have kz_0_11 := fdq_320 hD hth r0
  have kz_1_0 := fdq_73 hD hth r1
  have kz_1_1 := fdq_74 hD hth r1
  have kz_1_2 := fdq_206 hD hth r1
  have nf0 : fc_1 PRD (20, [1], [60, 2, 3, 670, 0, 1, 14, 7, 8]) ws (vs) := ⟨nf_in hl rfl, sgq_825 (vc_Re_readEdges_47_0 (w_fi ws (n_v vs 1) 1) (w_ei ws (w_ar ws (n_v vs 1) 7)) (w_ei ws (w_ar ws (n_v vs 1) 8)) (w_ei ws (w_ar ws (n_v vs 1) 14)) (w_fi ws (n_v vs 1) 0) f21 kz_1_0 kz_1_1)⟩
  have nf1 : fc_1 PRD (20, [1], [60, 2, 2, 596, 0, 1, 7, 8]) ws (vs) := ⟨nf_in hl rfl, sgq_386 (vc_Re_readEdges_47_1 (w_fi ws (n_v vs 1) 1) (w_ei ws (w_ar ws (n_v vs 1) 7)) (w_ei ws (w_ar ws (n_v vs 1) 8)) (w_fi ws (n_v vs 1) 0) f22 kz_1_0 kz_1_1)⟩
  have nf2 : fc_1 PRD (20, [0, 1, 23], [60, 8, 6, 1063, 5, 6, 11, 2, 3, 1000, 1001, 1002, 0, 10, 1004, 1003, 1007, 1008]) ws (vs) := ⟨nf_in hl rfl, sgq_2023 (vc_Re_readEdges_47_2 (v_iv (n_v vs 22)) (v_iv (n_v vs 23)) (w_ei ws (w_ar ws (n_v vs 0) 0)) (w_fi ws (n_v vs 0) 5) (w_fi ws (n_v vs 0) 8) (w_fi ws (n_v vs 0) 6) (w_ei ws (w_ar ws (n_v vs 0) 10)) (w_fi ws (n_v vs 0) 11) (w_fi ws (n_v vs 1) 1) (w_ei ws (w_ar ws (n_v vs 1) 7)) (w_ei ws (w_ar ws (n_v vs 1) 8)) (w_fi ws (n_v vs 1) 0) (w_ei ws (w_ar ws (n_v vs 1) 4)) (w_ei ws (w_ar ws (n_v vs 1) 3)) (w_fi ws (n_v vs 1) 2) (w_fi ws (n_v vs 0) 2) (w_fi ws (n_v vs 0) 3) k22 k23 f0 f26 kz_0_2 kz_0_3 kz_0_5 kz_0_6 kz_0_8 kz_0_11 kz_1_0 kz_1_1 kz_1_2)⟩
  have nf3 : fc_1 PRD (20, [2, 0], [30, 0, 1, 0, 0, -1, 1, 6]) ws (vs) := ⟨nf_in hl rfl, sgq_1527 (vc_Re_readEdges_47_3 (v_iv (n_v vs 2)) (v_iv (n_v vs 15)) (w_fi ws (n_v vs 0) 6) k2 k15 (shm_201 f7) f18 kz_0_6)⟩
  have nf4 : fc_1 PRD (20, [1], [60, 1, 3, 1085, 1, 7, 8, 15]) ws (vs) := ⟨nf_in hl rfl, sgq_827 (vc_Re_readEdges_47_4 (w_fi ws (n_v vs 1) 1) (w_ei ws (w_ar ws (n_v vs 1) 7)) (w_ei ws (w_ar ws (n_v vs 1) 8)) (w_ei ws (w_ar ws (n_v vs 1) 15)) f11 kz_1_1)⟩
  refine ⟨(fun _ h => (by cases h)), [], trivial, ?_, (fun _ h => (by cases h))⟩
  rw [List.append_nil]
  exact List.forall_mem_cons.mpr ⟨⟨show (20 : Nat) < 100 from by decide, nf0⟩, List.forall_mem_cons.mpr ⟨⟨show (20 : Nat) < 100 from by decide, nf1⟩, List.forall_mem_cons.mpr ⟨⟨show (20 : Nat) < 100 from by decide, nf2⟩, List.forall_mem_cons.mpr ⟨⟨show (20 : Nat) < 100 from by decide, nf3⟩, List.forall_mem_cons.mpr ⟨⟨show (20 : Nat) < 100 from by decide, nf4⟩, (fun _ h => (by cases h))⟩⟩⟩⟩⟩
set_option maxHeartbeats 4000000 in
theorem vc_Re_readEdges_48_0 (x4 : Int) (x15 : Int) (x16 : Int) (x17 : Int) (tape_0 : Int → Int) (open_0 : Int → Int) (nameLength_0o1 : Int → Int) (name_0o1 : Int → Int) (tail_0o1 : Int → Int) (head_0o1 : Int → Int) (end_0 : Int) (depth_0 : Int) (nodes_0o1 : Int) (edges_0o1 : Int) (groups_0o1 : Int) (kind_0 : Int) (number_0 : Int) (next_0 : Int) (begin_0 : Int) (k4 : 0 ≤ x4 ∧ x4 ≤ 23) (k15 : 0 ≤ x15 ∧ x15 ≤ 2000) (k16 : 0 ≤ x16 ∧ x16 ≤ 0) (k17 : 1 ≤ x17 ∧ x17 ≤ 1) (f0 : x16 = 0) (f1 : cG4 (end_0) (depth_0) (nodes_0o1) (edges_0o1) (groups_0o1) (tape_0) (open_0) (nameLength_0o1) (name_0o1) (tail_0o1) (head_0o1) (x4) (x15)) (f16 : TKC (end_0) (next_0) (kind_0) (begin_0) (number_0) (tape_0) (x15)) (f19 : CNM (kind_0) (next_0) (begin_0) (tape_0) (x16)) (kz_0_5 : 0 ≤ end_0 ∧ end_0 ≤ 2000) (kz_0_6 : 0 ≤ next_0 ∧ next_0 ≤ 2000) (kz_0_7 : (-128) ≤ kind_0 ∧ kind_0 ≤ 127) (kz_0_8 : 0 ≤ begin_0 ∧ begin_0 ≤ 2000) (kz_0_9 : (-176) ≤ number_0 ∧ number_0 ≤ 1000000) (kz_0_11 : 0 ≤ depth_0 ∧ depth_0 ≤ 4) (kz_1_0 : 0 ≤ nodes_0o1 ∧ nodes_0o1 ≤ 24) (kz_1_1 : 0 ≤ edges_0o1 ∧ edges_0o1 ≤ 48) (kz_1_2 : 0 ≤ groups_0o1 ∧ groups_0o1 ≤ 8) : FSY (end_0) (begin_0) (tape_0) (x17) := by
  exact fsy_of (n4_f ‹TKC _ _ _ _ _ _ _› ‹cG4 _ _ _ _ _ _ _ _ _ _ _ _ _› (cnm_f ‹CNM _ _ _ _ _› (by omega))) (by omega)
def o_Re_readEdges_48 : or_T := (107, 18, [(0, (2, 0, 0, [8])), (1, (2, 0, 0, [164])), (4, (0, 0, 23, [])), (15, (0, 0, 2000, [])), (16, (0, 0, 0, [])), (17, (0, 1, 1, []))], [(8, [16], [0]), (20, [3, 7, 4, 15], [60, 5, 6, 1043, 5, 11, 1000, 1001, 1002, 0, 10, 1004, 1003, 1007, 1008]), (24, [1, 7], []), (24, [0, 3], []), (20, [3, 15], [60, 5, 1, 1072, 5, 6, 7, 8, 9, 0]), (20, [3, 16], [60, 3, 1, 1079, 7, 6, 8, 0])], [], [], [(20, [3, 17], [60, 2, 1, 1078, 5, 8, 0])], [], [])
theorem oo_Re_readEdges_48 {kA : Nat → ClassId} : or_ok PRD kA GG o_Re_readEdges_48 := by
  refine or_mk fun A ta ws vs hD hth hl => ?_
  intro t0 r0 t1 r1 t4 k4 t15 k15 t16 k16 t17 k17 f0 f1 f6 f11 f16 f19
  replace f0 := shm_192 f0
  replace f1 := shm_2141 f1
  replace f6 := shm_5 f6
  replace f11 := shm_5 f11
  replace f16 := shm_1532 f16
  replace f19 := shm_1837 f19
  have q7 : n_v vs 7 = n_v vs 1 := f6.symm
  have q3 : n_v vs 3 = n_v vs 0 := f11.symm
  simp only [q7, q3] at f1 f16 f19
  have kz_0_5 := fdq_207 hD hth r0
  have kz_0_6 := fdq_208 hD hth r0
  have kz_0_7 := fdq_297 hD hth r0
  have kz_0_8 := fdq_99 hD hth r0
  have kz_0_9 := fdq_296 hD hth r0
  have kz_0_11 := fdq_320 hD hth r0
  have kz_1_0 := fdq_73 hD hth r1
  have kz_1_1 := fdq_74 hD hth r1
  have kz_1_2 := fdq_206 hD hth r1
  have nf0 : fc_1 PRD (20, [3, 17], [60, 2, 1, 1078, 5, 8, 0]) ws (vs) := by
    refine ⟨nf_in hl rfl, sgq_1988 ?_⟩
    · show FSY (w_fi ws (n_v vs 3) 5) (w_fi ws (n_v vs 3) 8) (w_ei ws (w_ar ws (n_v vs 3) 0)) (v_iv (n_v vs 17))
      rw [q3]
      exact vc_Re_readEdges_48_0 (v_iv (n_v vs 4)) (v_iv (n_v vs 15)) (v_iv (n_v vs 16)) (v_iv (n_v vs 17)) (w_ei ws (w_ar ws (n_v vs 0) 0)) (w_ei ws (w_ar ws (n_v vs 0) 10)) (w_ei ws (w_ar ws (n_v vs 1) 4)) (w_ei ws (w_ar ws (n_v vs 1) 3)) (w_ei ws (w_ar ws (n_v vs 1) 7)) (w_ei ws (w_ar ws (n_v vs 1) 8)) (w_fi ws (n_v vs 0) 5) (w_fi ws (n_v vs 0) 11) (w_fi ws (n_v vs 1) 0) (w_fi ws (n_v vs 1) 1) (w_fi ws (n_v vs 1) 2) (w_fi ws (n_v vs 0) 7) (w_fi ws (n_v vs 0) 9) (w_fi ws (n_v vs 0) 6) (w_fi ws (n_v vs 0) 8) k4 k15 k16 k17 f0 f1 f16 f19 kz_0_5 kz_0_6 kz_0_7 kz_0_8 kz_0_9 kz_0_11 kz_1_0 kz_1_1 kz_1_2
  refine ⟨(fun _ h => (by cases h)), [], trivial, ?_, (fun _ h => (by cases h))⟩
  rw [List.append_nil]
  exact List.forall_mem_cons.mpr ⟨⟨show (20 : Nat) < 100 from by decide, nf0⟩, (fun _ h => (by cases h))⟩
set_option maxHeartbeats 4000000 in
theorem vc_Re_readEdges_49_0 (tail_0o1 : Int → Int) (head_0o1 : Int → Int) (nodes_0o1 : Int) (edges_0o1 : Int) (near_0o1 : Int → Int) (f4 : GNB (nodes_0o1) (edges_0o1) (near_0o1) (tail_0o1) (head_0o1)) (kz_1_0 : 0 ≤ nodes_0o1 ∧ nodes_0o1 ≤ 24) (kz_1_1 : 0 ≤ edges_0o1 ∧ edges_0o1 ≤ 48) : GNB (nodes_0o1) (edges_0o1) (near_0o1) (tail_0o1) (head_0o1) := by
  first
    | assumption
  
set_option maxHeartbeats 4000000 in
theorem vc_Re_readEdges_49_1 (tail_0o1 : Int → Int) (head_0o1 : Int → Int) (nodes_0o1 : Int) (edges_0o1 : Int) (f5 : GKE (nodes_0o1) (edges_0o1) (tail_0o1) (head_0o1)) (kz_1_0 : 0 ≤ nodes_0o1 ∧ nodes_0o1 ≤ 24) (kz_1_1 : 0 ≤ edges_0o1 ∧ edges_0o1 ≤ 48) : GKE (nodes_0o1) (edges_0o1) (tail_0o1) (head_0o1) := by
  first
    | assumption
  
set_option maxHeartbeats 4000000 in
theorem vc_Re_readEdges_49_2 (x17 : Int) (x18 : Int) (tape_0 : Int → Int) (end_0 : Int) (begin_0 : Int) (open_0 : Int → Int) (nameLength_0o1 : Int → Int) (name_0o1 : Int → Int) (tail_0o1 : Int → Int) (head_0o1 : Int → Int) (depth_0 : Int) (nodes_0o1 : Int) (edges_0o1 : Int) (groups_0o1 : Int) (next_0 : Int) (fault_0 : Int) (faultPlace_0 : Int) (k17 : 1 ≤ x17 ∧ x17 ≤ 1) (k18 : 0 ≤ x18 ∧ x18 ≤ 0) (f0 : FSY (end_0) (begin_0) (tape_0) (x17)) (f19 : (x18 = 0) ∧ ((fault_0 = x17) ∧ (faultPlace_0 = begin_0))) (kz_0_2 : (-1) ≤ fault_0 ∧ fault_0 ≤ 5) (kz_0_3 : (-1) ≤ faultPlace_0 ∧ faultPlace_0 ≤ 2000) (kz_0_5 : 0 ≤ end_0 ∧ end_0 ≤ 2000) (kz_0_6 : 0 ≤ next_0 ∧ next_0 ≤ 2000) (kz_0_8 : 0 ≤ begin_0 ∧ begin_0 ≤ 2000) (kz_0_11 : 0 ≤ depth_0 ∧ depth_0 ≤ 4) (kz_1_0 : 0 ≤ nodes_0o1 ∧ nodes_0o1 ≤ 24) (kz_1_1 : 0 ≤ edges_0o1 ∧ edges_0o1 ≤ 48) (kz_1_2 : 0 ≤ groups_0o1 ∧ groups_0o1 ≤ 8) : cO0 (end_0) (next_0) (depth_0) (fault_0) (faultPlace_0) (nodes_0o1) (edges_0o1) (groups_0o1) (tape_0) (open_0) (nameLength_0o1) (name_0o1) (tail_0o1) (head_0o1) (x18) := by
  first
    | exact cO0_f ‹FSY _ _ _ _› (by omega) (by omega) (by omega)
    | exact cO_13 ‹cO13 _ _ _ _ _ _ _ _ _ _ _ _ _ _ _› (by omega) (by omega)
    | exact cO0_t (s_go (le_s ‹cLE _ _ _ _ _ _ _ _ _ _ _ _ _ _ _ _› (by omega)) (by omega) rfl) (by omega) (by omega)
    | exact cO0_t (s_go (n13_s ‹TKC _ _ _ _ _ _ _› ‹cG13 _ _ _ _ _ _ _ _ _ _ _ _›) (by omega) rfl) (by omega) (by omega)
set_option maxHeartbeats 4000000 in
theorem vc_Re_readEdges_49_3 (x2 : Int) (x15 : Int) (next_0 : Int) (k2 : 0 ≤ x2 ∧ x2 ≤ 2000) (k15 : 0 ≤ x15 ∧ x15 ≤ 2000) (f2 : 1 * x2 + ((-1) * x15 + 0) ≤ 0) (f16 : 1 * x15 + ((-1) * next_0 + 0) ≤ 0) (kz_0_6 : 0 ≤ next_0 ∧ next_0 ≤ 2000) : 1 * x2 + ((-1) * next_0 + 0) ≤ 0 := by
  first
    | omega
  
set_option maxHeartbeats 4000000 in
theorem vc_Re_readEdges_49_4 (tail_0o1 : Int → Int) (head_0o1 : Int → Int) (edges_0o1 : Int) (link_0o1 : Int → Int) (f9 : LKG (edges_0o1) (tail_0o1) (head_0o1) (link_0o1)) (kz_1_1 : 0 ≤ edges_0o1 ∧ edges_0o1 ≤ 48) : LKG (edges_0o1) (tail_0o1) (head_0o1) (link_0o1) := by
  assumption
def o_Re_readEdges_49 : or_T := (110, 19, [(0, (2, 0, 0, [8])), (1, (2, 0, 0, [164])), (2, (0, 0, 2000, [])), (15, (0, 0, 2000, [])), (17, (0, 1, 1, [])), (18, (0, 0, 0, []))], [(20, [3, 17], [60, 2, 1, 1078, 5, 8, 0]), (20, [2, 15], [30, 0, 1, 0, 0, -1, 0, 0]), (20, [7], [60, 2, 3, 670, 0, 1, 14, 7, 8]), (20, [7], [60, 2, 2, 596, 0, 1, 7, 8]), (24, [1, 7], []), (20, [7], [60, 1, 3, 1085, 1, 7, 8, 15]), (24, [0, 3], []), (20, [15, 3], [30, 0, 1, 0, 0, -1, 1, 6]), (20, [18, 3, 17], [50, 3, 0, 1002, 1003, 1008, 2, 6, 1, 2, 1, 0, 0, 0, 2, 7, 1, 3, 2, 1, 2, 1, 2, 1, 3, 2, 1, 3, 2, 1, 8])], [], [], [(20, [1], [60, 2, 3, 670, 0, 1, 14, 7, 8]), (20, [1], [60, 2, 2, 596, 0, 1, 7, 8]), (20, [0, 1, 18], [60, 8, 6, 1063, 5, 6, 11, 2, 3, 1000, 1001, 1002, 0, 10, 1004, 1003, 1007, 1008]), (20, [2, 0], [30, 0, 1, 0, 0, -1, 1, 6]), (20, [1], [60, 1, 3, 1085, 1, 7, 8, 15])], [], [])
theorem oo_Re_readEdges_49 {kA : Nat → ClassId} : or_ok PRD kA GG o_Re_readEdges_49 := by
  refine or_mk fun A ta ws vs hD hth hl => ?_
  intro t0 r0 t1 r1 t2 k2 t15 k15 t17 k17 t18 k18 f0 f2 f4 f5 f6 f9 f10 f16 f19
  replace f0 := shm_1988 f0
  replace f4 := shm_825 f4
  replace f5 := shm_386 f5
  replace f6 := shm_5 f6
  replace f9 := shm_827 f9
  replace f10 := shm_5 f10
  replace f16 := shm_1527 f16
  replace f19 := shm_451 f19
  have q7 : n_v vs 7 = n_v vs 1 := f6.symm
  have q3 : n_v vs 3 = n_v vs 0 := f10.symm
  simp only [q3, q7] at f0 f4 f5 f9 f16 f19
  have kz_0_2 := fdq_97 hD hth r0
  have kz_0_3 := fdq_98 hD hth r0
  have kz_0_5 := fdq_207 hD hth r0
  have kz_0_6 := fdq_208 hD hth r0
  have kz_0_8 := fdq_99 hD hth r0
  have kz_0_11 := fdq_320 hD hth r0
  have kz_1_0 := fdq_73 hD hth r1
  have kz_1_1 := fdq_74 hD hth r1
  have kz_1_2 := fdq_206 hD hth r1
  have nf0 : fc_1 PRD (20, [1], [60, 2, 3, 670, 0, 1, 14, 7, 8]) ws (vs) := ⟨nf_in hl rfl, sgq_825 (vc_Re_readEdges_49_0 (w_ei ws (w_ar ws (n_v vs 1) 7)) (w_ei ws (w_ar ws (n_v vs 1) 8)) (w_fi ws (n_v vs 1) 0) (w_fi ws (n_v vs 1) 1) (w_ei ws (w_ar ws (n_v vs 1) 14)) f4 kz_1_0 kz_1_1)⟩
  have nf1 : fc_1 PRD (20, [1], [60, 2, 2, 596, 0, 1, 7, 8]) ws (vs) := ⟨nf_in hl rfl, sgq_386 (vc_Re_readEdges_49_1 (w_ei ws (w_ar ws (n_v vs 1) 7)) (w_ei ws (w_ar ws (n_v vs 1) 8)) (w_fi ws (n_v vs 1) 0) (w_fi ws (n_v vs 1) 1) f5 kz_1_0 kz_1_1)⟩
  have nf2 : fc_1 PRD (20, [0, 1, 18], [60, 8, 6, 1063, 5, 6, 11, 2, 3, 1000, 1001, 1002, 0, 10, 1004, 1003, 1007, 1008]) ws (vs) := ⟨nf_in hl rfl, sgq_2023 (vc_Re_readEdges_49_2 (v_iv (n_v vs 17)) (v_iv (n_v vs 18)) (w_ei ws (w_ar ws (n_v vs 0) 0)) (w_fi ws (n_v vs 0) 5) (w_fi ws (n_v vs 0) 8) (w_ei ws (w_ar ws (n_v vs 0) 10)) (w_ei ws (w_ar ws (n_v vs 1) 4)) (w_ei ws (w_ar ws (n_v vs 1) 3)) (w_ei ws (w_ar ws (n_v vs 1) 7)) (w_ei ws (w_ar ws (n_v vs 1) 8)) (w_fi ws (n_v vs 0) 11) (w_fi ws (n_v vs 1) 0) (w_fi ws (n_v vs 1) 1) (w_fi ws (n_v vs 1) 2) (w_fi ws (n_v vs 0) 6) (w_fi ws (n_v vs 0) 2) (w_fi ws (n_v vs 0) 3) k17 k18 f0 f19 kz_0_2 kz_0_3 kz_0_5 kz_0_6 kz_0_8 kz_0_11 kz_1_0 kz_1_1 kz_1_2)⟩
  have nf3 : fc_1 PRD (20, [2, 0], [30, 0, 1, 0, 0, -1, 1, 6]) ws (vs) := ⟨nf_in hl rfl, sgq_1527 (vc_Re_readEdges_49_3 (v_iv (n_v vs 2)) (v_iv (n_v vs 15)) (w_fi ws (n_v vs 0) 6) k2 k15 (shm_201 f2) f16 kz_0_6)⟩
  have nf4 : fc_1 PRD (20, [1], [60, 1, 3, 1085, 1, 7, 8, 15]) ws (vs) := ⟨nf_in hl rfl, sgq_827 (vc_Re_readEdges_49_4 (w_ei ws (w_ar ws (n_v vs 1) 7)) (w_ei ws (w_ar ws (n_v vs 1) 8)) (w_fi ws (n_v vs 1) 1) (w_ei ws (w_ar ws (n_v vs 1) 15)) f9 kz_1_1)⟩
  refine ⟨(fun _ h => (by cases h)), [], trivial, ?_, (fun _ h => (by cases h))⟩
  rw [List.append_nil]
  exact List.forall_mem_cons.mpr ⟨⟨show (20 : Nat) < 100 from by decide, nf0⟩, List.forall_mem_cons.mpr ⟨⟨show (20 : Nat) < 100 from by decide, nf1⟩, List.forall_mem_cons.mpr ⟨⟨show (20 : Nat) < 100 from by decide, nf2⟩, List.forall_mem_cons.mpr ⟨⟨show (20 : Nat) < 100 from by decide, nf3⟩, List.forall_mem_cons.mpr ⟨⟨show (20 : Nat) < 100 from by decide, nf4⟩, (fun _ h => (by cases h))⟩⟩⟩⟩⟩
set_option maxHeartbeats 4000000 in
theorem vc_Re_readEdges_50_0 (number_0 : Int) (gx : Int) (kz_0_9 : (-176) ≤ number_0 ∧ number_0 ≤ 1000000) (ex2 : gx = number_0) : 1 * number_0 + ((-1) * gx + 0) ≤ 0 := by
  first
    | omega
  
set_option maxHeartbeats 4000000 in
theorem vc_Re_readEdges_50_1 (number_0 : Int) (gx : Int) (kz_0_9 : (-176) ≤ number_0 ∧ number_0 ≤ 1000000) (ex2 : gx = number_0) : (-1) * number_0 + (1 * gx + 0) ≤ 0 := by
  first
    | omega
  
set_option maxHeartbeats 4000000 in
theorem vc_Re_readEdges_50_2 (next_0 : Int) (gy : Int) (kz_0_6 : 0 ≤ next_0 ∧ next_0 ≤ 2000) (ey2 : gy = next_0) : 1 * next_0 + ((-1) * gy + 0) ≤ 0 := by
  first
    | omega
  
set_option maxHeartbeats 4000000 in
theorem vc_Re_readEdges_50_3 (next_0 : Int) (gy : Int) (kz_0_6 : 0 ≤ next_0 ∧ next_0 ≤ 2000) (ey2 : gy = next_0) : (-1) * next_0 + (1 * gy + 0) ≤ 0 := by
  first
    | omega
  
set_option maxHeartbeats 4000000 in
theorem vc_Re_readEdges_50_4 (edges_0o1 : Int) (tail_0o1 : Int → Int) (head_0o1 : Int → Int) (nodes_0o1 : Int) (tape_0 : Int → Int) (open_0 : Int → Int) (nameLength_0o1 : Int → Int) (name_0o1 : Int → Int) (end_0 : Int) (next_0 : Int) (depth_0 : Int) (groups_0o1 : Int) (f7 : cG13n (end_0) (next_0) (depth_0) (nodes_0o1) (edges_0o1) (groups_0o1) (tape_0) (open_0) (nameLength_0o1) (name_0o1) (tail_0o1) (head_0o1)) (kz_0_5 : 0 ≤ end_0 ∧ end_0 ≤ 2000) (kz_0_6 : 0 ≤ next_0 ∧ next_0 ≤ 2000) (kz_0_11 : 0 ≤ depth_0 ∧ depth_0 ≤ 4) (kz_1_0 : 0 ≤ nodes_0o1 ∧ nodes_0o1 ≤ 24) (kz_1_1 : 0 ≤ edges_0o1 ∧ edges_0o1 ≤ 48) (kz_1_2 : 0 ≤ groups_0o1 ∧ groups_0o1 ≤ 8) : CLM (end_0) (next_0) := by
  exact clm_13 ‹cG13n _ _ _ _ _ _ _ _ _ _ _ _› rfl (by omega)
set_option maxHeartbeats 4000000 in
theorem vc_Re_readEdges_50_5 (edges_0o1 : Int) (tail_0o1 : Int → Int) (head_0o1 : Int → Int) (nodes_0o1 : Int) (tape_0 : Int → Int) (open_0 : Int → Int) (nameLength_0o1 : Int → Int) (name_0o1 : Int → Int) (end_0 : Int) (next_0 : Int) (depth_0 : Int) (groups_0o1 : Int) (gy : Int) (f7 : cG13n (end_0) (next_0) (depth_0) (nodes_0o1) (edges_0o1) (groups_0o1) (tape_0) (open_0) (nameLength_0o1) (name_0o1) (tail_0o1) (head_0o1)) (kz_0_5 : 0 ≤ end_0 ∧ end_0 ≤ 2000) (kz_0_6 : 0 ≤ next_0 ∧ next_0 ≤ 2000) (kz_0_11 : 0 ≤ depth_0 ∧ depth_0 ≤ 4) (kz_1_0 : 0 ≤ nodes_0o1 ∧ nodes_0o1 ≤ 24) (kz_1_1 : 0 ≤ edges_0o1 ∧ edges_0o1 ≤ 48) (kz_1_2 : 0 ≤ groups_0o1 ∧ groups_0o1 ≤ 8) (ey2 : gy = next_0) : cG13 (end_0) (depth_0) (nodes_0o1) (edges_0o1) (groups_0o1) (tape_0) (open_0) (nameLength_0o1) (name_0o1) (tail_0o1) (head_0o1) (gy) := by
  exact cg_13 ‹cG13n _ _ _ _ _ _ _ _ _ _ _ _› (by omega)
set_option maxHeartbeats 4000000 in
theorem vc_Re_readEdges_50_6 (x2 : Int) (next_0 : Int) (gy : Int) (k2 : 0 ≤ x2 ∧ x2 ≤ 2000) (f8 : 1 * x2 + ((-1) * next_0 + 0) ≤ 0) (kz_0_6 : 0 ≤ next_0 ∧ next_0 ≤ 2000) (ey2 : gy = next_0) : 1 * x2 + ((-1) * gy + 0) ≤ 0 := by
  first
    | omega
  
def o_Re_readEdges_50 : or_T := (254, 9, [(0, (2, 0, 0, [8])), (1, (2, 0, 0, [164])), (2, (0, 0, 2000, []))], [(24, [1, 7], []), (20, [3, 7], [60, 6, 6, 1057, 5, 6, 11, 1000, 1001, 1002, 0, 10, 1004, 1003, 1007, 1008]), (20, [2, 3], [30, 0, 1, 0, 0, -1, 1, 6]), (24, [0, 3], [])], [], [(0, -2147483648, 1000000, []), (0, 0, 2000, [])], [(20, [3, 9], [30, 0, 1, 1, 9, -1, 0, 0]), (20, [3, 9], [30, 0, -1, 1, 9, 1, 0, 0]), (20, [3, 10], [30, 0, 1, 1, 6, -1, 0, 0]), (20, [3, 10], [30, 0, -1, 1, 6, 1, 0, 0]), (20, [3], [60, 2, 0, 1073, 5, 6]), (20, [3, 7, 10], [60, 5, 6, 1047, 5, 11, 1000, 1001, 1002, 0, 10, 1004, 1003, 1007, 1008]), (20, [2, 10], [30, 0, 1, 0, 0, -1, 0, 0])], [], [])
theorem oo_Re_readEdges_50 {kA : Nat → ClassId} : or_ok PRD kA GG o_Re_readEdges_50 := by
  refine or_mk fun A ta ws vs hD hth hl => ?_
  intro t0 r0 t1 r1 t2 k2 f6 f7 f8 f11
  replace f6 := shm_5 f6
  replace f7 := shm_2140 f7
  replace f8 := shm_1527 f8
  replace f11 := shm_5 f11
  have q7 : n_v vs 7 = n_v vs 1 := f6.symm
  have q3 : n_v vs 3 = n_v vs 0 := f11.symm
  simp only [q7, q3] at f7 f8
  have kz_0_5 := fdq_207 hD hth r0
  have kz_0_6 := fdq_208 hD hth r0
  have kz_0_9 := fdq_296 hD hth r0
  have kz_0_11 := fdq_320 hD hth r0
  have kz_1_0 := fdq_73 hD hth r1
  have kz_1_1 := fdq_74 hD hth r1
  have kz_1_2 := fdq_206 hD hth r1
  obtain ⟨x, ex, hx⟩ := iv_ex (ta := ta) (lo := (-2147483648)) (hi := 1000000) (z := w_fi ws (n_v vs 0) 9) (by omega) (by omega) (by omega) (by omega)
  have ex2 : v_iv (Value.int x) = w_fi ws (n_v vs 0) 9 := ex
  have ex3 : (-2147483648) ≤ v_iv (Value.int x) ∧ v_iv (Value.int x) ≤ 1000000 := tv_rng hx
  obtain ⟨y, ey, hy⟩ := iv_ex (ta := ta) (lo := 0) (hi := 2000) (z := w_fi ws (n_v vs 0) 6) (by omega) (by omega) (by omega) (by omega)
  have ey2 : v_iv (Value.int y) = w_fi ws (n_v vs 0) 6 := ey
  have ey3 : 0 ≤ v_iv (Value.int y) ∧ v_iv (Value.int y) ≤ 2000 := tv_rng hy
  have e_2 : n_v (vs ++ [Value.int x, Value.int y]) 2 = n_v vs 2 := n_v_old (by rw [hl]; decide)
  have e_3 : n_v (vs ++ [Value.int x, Value.int y]) 3 = n_v vs 3 := n_v_old (by rw [hl]; decide)
  have e_7 : n_v (vs ++ [Value.int x, Value.int y]) 7 = n_v vs 7 := n_v_old (by rw [hl]; decide)
  have e_9 : n_v (vs ++ [Value.int x, Value.int y]) 9 = Value.int x := n_v_new0 hl
  have e_10 : n_v (vs ++ [Value.int x, Value.int y]) 10 = Value.int y := n_v_new1 hl
  have nf0 : fc_1 PRD (20, [3, 9], [30, 0, 1, 1, 9, -1, 0, 0]) ws (vs ++ [Value.int x, Value.int y]) := by
    refine ⟨nf_inA hl rfl, sgq_1521 ?_⟩
    · show 1 * w_fi ws (n_v (vs ++ [Value.int x, Value.int y]) 3) 9 + ((-1) * v_iv (n_v (vs ++ [Value.int x, Value.int y]) 9) + 0) ≤ 0
      simp only [e_3, e_9, q3]
      exact vc_Re_readEdges_50_0 (w_fi ws (n_v vs 0) 9) (v_iv (Value.int x)) kz_0_9 ex2
  have nf1 : fc_1 PRD (20, [3, 9], [30, 0, -1, 1, 9, 1, 0, 0]) ws (vs ++ [Value.int x, Value.int y]) := by
    refine ⟨nf_inA hl rfl, sgq_1522 ?_⟩
    · show (-1) * w_fi ws (n_v (vs ++ [Value.int x, Value.int y]) 3) 9 + (1 * v_iv (n_v (vs ++ [Value.int x, Value.int y]) 9) + 0) ≤ 0
      simp only [e_3, e_9, q3]
      exact vc_Re_readEdges_50_1 (w_fi ws (n_v vs 0) 9) (v_iv (Value.int x)) kz_0_9 ex2
  have nf2 : fc_1 PRD (20, [3, 10], [30, 0, 1, 1, 6, -1, 0, 0]) ws (vs ++ [Value.int x, Value.int y]) := by
    refine ⟨nf_inA hl rfl, sgq_1523 ?_⟩
    · show 1 * w_fi ws (n_v (vs ++ [Value.int x, Value.int y]) 3) 6 + ((-1) * v_iv (n_v (vs ++ [Value.int x, Value.int y]) 10) + 0) ≤ 0
      simp only [e_3, e_10, q3]
      exact vc_Re_readEdges_50_2 (w_fi ws (n_v vs 0) 6) (v_iv (Value.int y)) kz_0_6 ey2
  have nf3 : fc_1 PRD (20, [3, 10], [30, 0, -1, 1, 6, 1, 0, 0]) ws (vs ++ [Value.int x, Value.int y]) := by
    refine ⟨nf_inA hl rfl, sgq_1524 ?_⟩
    · show (-1) * w_fi ws (n_v (vs ++ [Value.int x, Value.int y]) 3) 6 + (1 * v_iv (n_v (vs ++ [Value.int x, Value.int y]) 10) + 0) ≤ 0
      simp only [e_3, e_10, q3]
      exact vc_Re_readEdges_50_3 (w_fi ws (n_v vs 0) 6) (v_iv (Value.int y)) kz_0_6 ey2
  have nf4 : fc_1 PRD (20, [3], [60, 2, 0, 1073, 5, 6]) ws (vs ++ [Value.int x, Value.int y]) := by
    refine ⟨nf_inA hl rfl, sgq_1525 ?_⟩
    · show CLM (w_fi ws (n_v (vs ++ [Value.int x, Value.int y]) 3) 5) (w_fi ws (n_v (vs ++ [Value.int x, Value.int y]) 3) 6)
      simp only [e_3, q3]
      exact vc_Re_readEdges_50_4 (w_fi ws (n_v vs 1) 1) (w_ei ws (w_ar ws (n_v vs 1) 7)) (w_ei ws (w_ar ws (n_v vs 1) 8)) (w_fi ws (n_v vs 1) 0) (w_ei ws (w_ar ws (n_v vs 0) 0)) (w_ei ws (w_ar ws (n_v vs 0) 10)) (w_ei ws (w_ar ws (n_v vs 1) 4)) (w_ei ws (w_ar ws (n_v vs 1) 3)) (w_fi ws (n_v vs 0) 5) (w_fi ws (n_v vs 0) 6) (w_fi ws (n_v vs 0) 11) (w_fi ws (n_v vs 1) 2) f7 kz_0_5 kz_0_6 kz_0_11 kz_1_0 kz_1_1 kz_1_2
  have nf5 : fc_1 PRD (20, [3, 7, 10], [60, 5, 6, 1047, 5, 11, 1000, 1001, 1002, 0, 10, 1004, 1003, 1007, 1008]) ws (vs ++ [Value.int x, Value.int y]) := by
    refine ⟨nf_inA hl rfl, sgq_2110 ?_⟩
    · show cG13 (w_fi ws (n_v (vs ++ [Value.int x, Value.int y]) 3) 5) (w_fi ws (n_v (vs ++ [Value.int x, Value.int y]) 3) 11) (w_fi ws (n_v (vs ++ [Value.int x, Value.int y]) 7) 0) (w_fi ws (n_v (vs ++ [Value.int x, Value.int y]) 7) 1) (w_fi ws (n_v (vs ++ [Value.int x, Value.int y]) 7) 2) (w_ei ws (w_ar ws (n_v (vs ++ [Value.int x, Value.int y]) 3) 0)) (w_ei ws (w_ar ws (n_v (vs ++ [Value.int x, Value.int y]) 3) 10)) (w_ei ws (w_ar ws (n_v (vs ++ [Value.int x, Value.int y]) 7) 4)) (w_ei ws (w_ar ws (n_v (vs ++ [Value.int x, Value.int y]) 7) 3)) (w_ei ws (w_ar ws (n_v (vs ++ [Value.int x, Value.int y]) 7) 7)) (w_ei ws (w_ar ws (n_v (vs ++ [Value.int x, Value.int y]) 7) 8)) (v_iv (n_v (vs ++ [Value.int x, Value.int y]) 10))
      simp only [e_3, e_7, e_10, q7, q3]
      exact vc_Re_readEdges_50_5 (w_fi ws (n_v vs 1) 1) (w_ei ws (w_ar ws (n_v vs 1) 7)) (w_ei ws (w_ar ws (n_v vs 1) 8)) (w_fi ws (n_v vs 1) 0) (w_ei ws (w_ar ws (n_v vs 0) 0)) (w_ei ws (w_ar ws (n_v vs 0) 10)) (w_ei ws (w_ar ws (n_v vs 1) 4)) (w_ei ws (w_ar ws (n_v vs 1) 3)) (w_fi ws (n_v vs 0) 5) (w_fi ws (n_v vs 0) 6) (w_fi ws (n_v vs 0) 11) (w_fi ws (n_v vs 1) 2) (v_iv (Value.int y)) f7 kz_0_5 kz_0_6 kz_0_11 kz_1_0 kz_1_1 kz_1_2 ey2
  have nf6 : fc_1 PRD (20, [2, 10], [30, 0, 1, 0, 0, -1, 0, 0]) ws (vs ++ [Value.int x, Value.int y]) := by
    refine ⟨nf_inA hl rfl, sgq_201 ?_⟩
    · show 1 * v_iv (n_v (vs ++ [Value.int x, Value.int y]) 2) + ((-1) * v_iv (n_v (vs ++ [Value.int x, Value.int y]) 10) + 0) ≤ 0
      simp only [e_2, e_10]
      exact vc_Re_readEdges_50_6 (v_iv (n_v vs 2)) (w_fi ws (n_v vs 0) 6) (v_iv (Value.int y)) k2 f8 kz_0_6 ey2
  exact ⟨(fun _ h => (by cases h)), [Value.int x, Value.int y], ag_two hx hy, List.forall_mem_cons.mpr ⟨⟨show (20 : Nat) < 100 from by decide, nf0⟩, List.forall_mem_cons.mpr ⟨⟨show (20 : Nat) < 100 from by decide, nf1⟩, List.forall_mem_cons.mpr ⟨⟨show (20 : Nat) < 100 from by decide, nf2⟩, List.forall_mem_cons.mpr ⟨⟨show (20 : Nat) < 100 from by decide, nf3⟩, List.forall_mem_cons.mpr ⟨⟨show (20 : Nat) < 100 from by decide, nf4⟩, List.forall_mem_cons.mpr ⟨⟨show (20 : Nat) < 100 from by decide, nf5⟩, List.forall_mem_cons.mpr ⟨⟨show (20 : Nat) < 100 from by decide, nf6⟩, (fun _ h => (by cases h))⟩⟩⟩⟩⟩⟩⟩, (fun _ h => (by cases h))⟩
set_option maxHeartbeats 4000000 in
theorem vc_Re_readEdges_51_0 (edges_0o1 : Int) (tail_0o1 : Int → Int) (head_0o1 : Int → Int) (nodes_0o1 : Int) (near_0o1 : Int → Int) (f5 : GNB (nodes_0o1) (edges_0o1) (near_0o1) (tail_0o1) (head_0o1)) (kz_1_0 : 0 ≤ nodes_0o1 ∧ nodes_0o1 ≤ 24) (kz_1_1 : 0 ≤ edges_0o1 ∧ edges_0o1 ≤ 48) : GNB (nodes_0o1) (edges_0o1) (near_0o1) (tail_0o1) (head_0o1) := by
  first
    | assumption
  
set_option maxHeartbeats 4000000 in
theorem vc_Re_readEdges_51_1 (edges_0o1 : Int) (tail_0o1 : Int → Int) (head_0o1 : Int → Int) (nodes_0o1 : Int) (f6 : GKE (nodes_0o1) (edges_0o1) (tail_0o1) (head_0o1)) (kz_1_0 : 0 ≤ nodes_0o1 ∧ nodes_0o1 ≤ 24) (kz_1_1 : 0 ≤ edges_0o1 ∧ edges_0o1 ≤ 48) : GKE (nodes_0o1) (edges_0o1) (tail_0o1) (head_0o1) := by
  first
    | assumption
  
set_option maxHeartbeats 4000000 in
theorem vc_Re_readEdges_51_2 (x8 : Int) (x10 : Int) (x11 : Int) (x13 : Int) (edges_0o1 : Int) (kind_0 : Int) (tape_0 : Int → Int) (open_0 : Int → Int) (nameLength_0o1 : Int → Int) (name_0o1 : Int → Int) (tail_0o1 : Int → Int) (head_0o1 : Int → Int) (end_0 : Int) (depth_0 : Int) (nodes_0o1 : Int) (groups_0o1 : Int) (fault_0 : Int) (number_0 : Int) (next_0 : Int) (begin_0 : Int) (faultPlace_0 : Int) (k8 : 0 ≤ x8 ∧ x8 ≤ 48) (k10 : 0 ≤ x10 ∧ x10 ≤ 2000) (k11 : 59 ≤ x11 ∧ x11 ≤ 59) (k13 : 1 ≤ x13 ∧ x13 ≤ 1) (g0 : x8 = edges_0o1) (g2 : x11 = kind_0) (f3 : cG13 (end_0) (depth_0) (nodes_0o1) (edges_0o1) (groups_0o1) (tape_0) (open_0) (nameLength_0o1) (name_0o1) (tail_0o1) (head_0o1) (x10)) (f9 : fault_0 = 0) (f15 : TKC (end_0) (next_0) (kind_0) (begin_0) (number_0) (tape_0) (x10)) (kz_0_2 : (-1) ≤ fault_0 ∧ fault_0 ≤ 5) (kz_0_3 : (-1) ≤ faultPlace_0 ∧ faultPlace_0 ≤ 2000) (kz_0_5 : 0 ≤ end_0 ∧ end_0 ≤ 2000) (kz_0_6 : 0 ≤ next_0 ∧ next_0 ≤ 2000) (kz_0_7 : (-128) ≤ kind_0 ∧ kind_0 ≤ 127) (kz_0_8 : 0 ≤ begin_0 ∧ begin_0 ≤ 2000) (kz_0_9 : (-176) ≤ number_0 ∧ number_0 ≤ 1000000) (kz_0_11 : 0 ≤ depth_0 ∧ depth_0 ≤ 4) (kz_1_0 : 0 ≤ nodes_0o1 ∧ nodes_0o1 ≤ 24) (kz_1_1 : 0 ≤ edges_0o1 ∧ edges_0o1 ≤ 48) (kz_1_2 : 0 ≤ groups_0o1 ∧ groups_0o1 ≤ 8) : cO0 (end_0) (next_0) (depth_0) (fault_0) (faultPlace_0) (nodes_0o1) (edges_0o1) (groups_0o1) (tape_0) (open_0) (nameLength_0o1) (name_0o1) (tail_0o1) (head_0o1) (x13) := by
  first | subst g0 | skip
  first | subst g2 | skip
  first
    | exact cO0_f ‹FSY _ _ _ _› (by omega) (by omega) (by omega)
    | exact cO_13 ‹cO13 _ _ _ _ _ _ _ _ _ _ _ _ _ _ _› (by omega) (by omega)
    | exact cO0_t (s_go (le_s ‹cLE _ _ _ _ _ _ _ _ _ _ _ _ _ _ _ _› (by omega)) (by omega) rfl) (by omega) (by omega)
    | exact cO0_t (s_go (n13_s ‹TKC _ _ _ _ _ _ _› ‹cG13 _ _ _ _ _ _ _ _ _ _ _ _›) (by omega) rfl) (by omega) (by omega)
set_option maxHeartbeats 4000000 in
theorem vc_Re_readEdges_51_3 (x2 : Int) (x10 : Int) (next_0 : Int) (k2 : 0 ≤ x2 ∧ x2 ≤ 2000) (k10 : 0 ≤ x10 ∧ x10 ≤ 2000) (f4 : 1 * x2 + ((-1) * x10 + 0) ≤ 0) (f16 : 1 * x10 + ((-1) * next_0 + 0) ≤ 0) (kz_0_6 : 0 ≤ next_0 ∧ next_0 ≤ 2000) : 1 * x2 + ((-1) * next_0 + 0) ≤ 0 := by
  first
    | omega
  
set_option maxHeartbeats 4000000 in
theorem vc_Re_readEdges_51_4 (edges_0o1 : Int) (tail_0o1 : Int → Int) (head_0o1 : Int → Int) (link_0o1 : Int → Int) (f8 : LKG (edges_0o1) (tail_0o1) (head_0o1) (link_0o1)) (kz_1_1 : 0 ≤ edges_0o1 ∧ edges_0o1 ≤ 48) : LKG (edges_0o1) (tail_0o1) (head_0o1) (link_0o1) := by
  assumption
def o_Re_readEdges_51 : or_T := (279, 14, [(0, (2, 0, 0, [8])), (1, (2, 0, 0, [164])), (2, (0, 0, 2000, [])), (8, (0, 0, 48, [])), (10, (0, 0, 2000, [])), (11, (0, 59, 59, [])), (13, (0, 1, 1, []))], [(9, [8, 7], [1]), (9, [11, 3], [7]), (20, [3, 7, 10], [60, 5, 6, 1047, 5, 11, 1000, 1001, 1002, 0, 10, 1004, 1003, 1007, 1008]), (20, [2, 10], [30, 0, 1, 0, 0, -1, 0, 0]), (20, [7], [60, 2, 3, 670, 0, 1, 14, 7, 8]), (20, [7], [60, 2, 2, 596, 0, 1, 7, 8]), (24, [1, 7], []), (20, [7], [60, 1, 3, 1085, 1, 7, 8, 15]), (20, [3], [50, 1, 0, 2, 1, 3, 2, 0, 2, 0, 0]), (24, [0, 3], []), (20, [3, 10], [60, 5, 1, 1072, 5, 6, 7, 8, 9, 0]), (20, [10, 3], [30, 0, 1, 0, 0, -1, 1, 6])], [], [], [(20, [1], [60, 2, 3, 670, 0, 1, 14, 7, 8]), (20, [1], [60, 2, 2, 596, 0, 1, 7, 8]), (20, [0, 1, 13], [60, 8, 6, 1063, 5, 6, 11, 2, 3, 1000, 1001, 1002, 0, 10, 1004, 1003, 1007, 1008]), (20, [2, 0], [30, 0, 1, 0, 0, -1, 1, 6]), (20, [1], [60, 1, 3, 1085, 1, 7, 8, 15])], [], [])
theorem oo_Re_readEdges_51 {kA : Nat → ClassId} : or_ok PRD kA GG o_Re_readEdges_51 := by
  refine or_mk fun A ta ws vs hD hth hl => ?_
  intro t0 r0 t1 r1 t2 k2 t8 k8 t10 k10 t11 k11 t13 k13 f0 f2 f3 f4 f5 f6 f7 f8 f9 f10 f15 f16
  replace f0 := shm_215 f0
  replace f2 := shm_198 f2
  replace f3 := shm_2110 f3
  replace f5 := shm_825 f5
  replace f6 := shm_386 f6
  replace f7 := shm_5 f7
  replace f8 := shm_827 f8
  replace f9 := shm_1985 f9
  replace f10 := shm_5 f10
  replace f15 := shm_1532 f15
  replace f16 := shm_1527 f16
  have q7 : n_v vs 7 = n_v vs 1 := f7.symm
  have q3 : n_v vs 3 = n_v vs 0 := f10.symm
  simp only [q7, q3] at f0 f2 f3 f5 f6 f8 f9 f15 f16
  have g0 : v_iv (n_v vs 8) = w_fi ws (n_v vs 1) 1 := congrArg v_iv f0
  have g2 : v_iv (n_v vs 11) = w_fi ws (n_v vs 0) 7 := congrArg v_iv f2
  have kz_0_2 := fdq_97 hD hth r0
  have kz_0_3 := fdq_98 hD hth r0
  have kz_0_5 := fdq_207 hD hth r0
  have kz_0_6 := fdq_208 hD hth r0
  have kz_0_7 := fdq_297 hD hth r0
  have kz_0_8 := fdq_99 hD hth r0
  have kz_0_9 := fdq_296 hD hth r0
  have kz_0_11 := fdq_320 hD hth r0
  have kz_1_0 := fdq_73 hD hth r1
  have kz_1_1 := fdq_74 hD hth r1
  have kz_1_2 := fdq_206 hD hth r1
  have nf0 : fc_1 PRD (20, [1], [60, 2, 3, 670, 0, 1, 14, 7, 8]) ws (vs) := ⟨nf_in hl rfl, sgq_825 (vc_Re_readEdges_51_0 (w_fi ws (n_v vs 1) 1) (w_ei ws (w_ar ws (n_v vs 1) 7)) (w_ei ws (w_ar ws (n_v vs 1) 8)) (w_fi ws (n_v vs 1) 0) (w_ei ws (w_ar ws (n_v vs 1) 14)) f5 kz_1_0 kz_1_1)⟩
  have nf1 : fc_1 PRD (20, [1], [60, 2, 2, 596, 0, 1, 7, 8]) ws (vs) := ⟨nf_in hl rfl, sgq_386 (vc_Re_readEdges_51_1 (w_fi ws (n_v vs 1) 1) (w_ei ws (w_ar ws (n_v vs 1) 7)) (w_ei ws (w_ar ws (n_v vs 1) 8)) (w_fi ws (n_v vs 1) 0) f6 kz_1_0 kz_1_1)⟩
  have nf2 : fc_1 PRD (20, [0, 1, 13], [60, 8, 6, 1063, 5, 6, 11, 2, 3, 1000, 1001, 1002, 0, 10, 1004, 1003, 1007, 1008]) ws (vs) := ⟨nf_in hl rfl, sgq_2023 (vc_Re_readEdges_51_2 (v_iv (n_v vs 8)) (v_iv (n_v vs 10)) (v_iv (n_v vs 11)) (v_iv (n_v vs 13)) (w_fi ws (n_v vs 1) 1) (w_fi ws (n_v vs 0) 7) (w_ei ws (w_ar ws (n_v vs 0) 0)) (w_ei ws (w_ar ws (n_v vs 0) 10)) (w_ei ws (w_ar ws (n_v vs 1) 4)) (w_ei ws (w_ar ws (n_v vs 1) 3)) (w_ei ws (w_ar ws (n_v vs 1) 7)) (w_ei ws (w_ar ws (n_v vs 1) 8)) (w_fi ws (n_v vs 0) 5) (w_fi ws (n_v vs 0) 11) (w_fi ws (n_v vs 1) 0) (w_fi ws (n_v vs 1) 2) (w_fi ws (n_v vs 0) 2) (w_fi ws (n_v vs 0) 9) (w_fi ws (n_v vs 0) 6) (w_fi ws (n_v vs 0) 8) (w_fi ws (n_v vs 0) 3) k8 k10 k11 k13 g0 g2 f3 f9 f15 kz_0_2 kz_0_3 kz_0_5 kz_0_6 kz_0_7 kz_0_8 kz_0_9 kz_0_11 kz_1_0 kz_1_1 kz_1_2)⟩
  have nf3 : fc_1 PRD (20, [2, 0], [30, 0, 1, 0, 0, -1, 1, 6]) ws (vs) := ⟨nf_in hl rfl, sgq_1527 (vc_Re_readEdges_51_3 (v_iv (n_v vs 2)) (v_iv (n_v vs 10)) (w_fi ws (n_v vs 0) 6) k2 k10 (shm_201 f4) f16 kz_0_6)⟩
  have nf4 : fc_1 PRD (20, [1], [60, 1, 3, 1085, 1, 7, 8, 15]) ws (vs) := ⟨nf_in hl rfl, sgq_827 (vc_Re_readEdges_51_4 (w_fi ws (n_v vs 1) 1) (w_ei ws (w_ar ws (n_v vs 1) 7)) (w_ei ws (w_ar ws (n_v vs 1) 8)) (w_ei ws (w_ar ws (n_v vs 1) 15)) f8 kz_1_1)⟩
  refine ⟨(fun _ h => (by cases h)), [], trivial, ?_, (fun _ h => (by cases h))⟩
  rw [List.append_nil]
  exact List.forall_mem_cons.mpr ⟨⟨show (20 : Nat) < 100 from by decide, nf0⟩, List.forall_mem_cons.mpr ⟨⟨show (20 : Nat) < 100 from by decide, nf1⟩, List.forall_mem_cons.mpr ⟨⟨show (20 : Nat) < 100 from by decide, nf2⟩, List.forall_mem_cons.mpr ⟨⟨show (20 : Nat) < 100 from by decide, nf3⟩, List.forall_mem_cons.mpr ⟨⟨show (20 : Nat) < 100 from by decide, nf4⟩, (fun _ h => (by cases h))⟩⟩⟩⟩⟩
set_option maxHeartbeats 4000000 in
theorem vc_Re_readEdges_52_0 (x9 : Int) (x10 : Int) (x11 : Int) (x12 : Int) (x13 : Int) (edges_0o1 : Int) (kind_0 : Int) (tape_0 : Int → Int) (open_0 : Int → Int) (nameLength_0o1 : Int → Int) (name_0o1 : Int → Int) (tail_0o1 : Int → Int) (head_0o1 : Int → Int) (end_0 : Int) (depth_0 : Int) (nodes_0o1 : Int) (groups_0o1 : Int) (number_0 : Int) (next_0 : Int) (begin_0 : Int) (k9 : (-2147483648) ≤ x9 ∧ x9 ≤ 1000000) (k10 : 0 ≤ x10 ∧ x10 ≤ 2000) (k11 : (-128) ≤ x11 ∧ x11 ≤ 127) (k12 : 59 ≤ x12 ∧ x12 ≤ 59) (k13 : 1 ≤ x13 ∧ x13 ≤ 1) (f1 : x11 ≠ x12) (g2 : x11 = kind_0) (f3 : cG13 (end_0) (depth_0) (nodes_0o1) (edges_0o1) (groups_0o1) (tape_0) (open_0) (nameLength_0o1) (name_0o1) (tail_0o1) (head_0o1) (x10)) (f11 : (1 * kind_0 + 0 ≤ 3) ∨ (1 * number_0 + ((-1) * x9 + 0) ≤ 0)) (f12 : (1 * kind_0 + 0 ≤ 3) ∨ ((-1) * number_0 + (1 * x9 + 0) ≤ 0)) (f13 : ((-1) * kind_0 + 0 ≤ (-3)) ∨ (1 * next_0 + ((-1) * begin_0 + (2000 * kind_0 + 0)) ≤ 4008)) (f14 : 1 * begin_0 + ((-1) * next_0 + 0) ≤ 0) (f15 : TKC (end_0) (next_0) (kind_0) (begin_0) (number_0) (tape_0) (x10)) (kz_0_5 : 0 ≤ end_0 ∧ end_0 ≤ 2000) (kz_0_6 : 0 ≤ next_0 ∧ next_0 ≤ 2000) (kz_0_7 : (-128) ≤ kind_0 ∧ kind_0 ≤ 127) (kz_0_8 : 0 ≤ begin_0 ∧ begin_0 ≤ 2000) (kz_0_9 : (-176) ≤ number_0 ∧ number_0 ≤ 1000000) (kz_0_11 : 0 ≤ depth_0 ∧ depth_0 ≤ 4) (kz_1_0 : 0 ≤ nodes_0o1 ∧ nodes_0o1 ≤ 24) (kz_1_1 : 0 ≤ edges_0o1 ∧ edges_0o1 ≤ 48) (kz_1_2 : 0 ≤ groups_0o1 ∧ groups_0o1 ≤ 8) : FSY (end_0) (begin_0) (tape_0) (x13) := by
  first
    | exact fsy_of (s_f (le_s ‹cLE _ _ _ _ _ _ _ _ _ _ _ _ _ _ _ _› (by omega)) (by omega)) (by omega)
    | exact fsy_of (s_f (n13_s ‹TKC _ _ _ _ _ _ _› ‹cG13 _ _ _ _ _ _ _ _ _ _ _ _›) (by omega)) (by omega)
def o_Re_readEdges_52 : or_T := (268, 14, [(0, (2, 0, 0, [8])), (1, (2, 0, 0, [164])), (9, (0, -2147483648, 1000000, [])), (10, (0, 0, 2000, [])), (11, (0, -128, 127, [])), (12, (0, 59, 59, [])), (13, (0, 1, 1, []))], [(7, [11, 12], [1]), (9, [11, 3], [7]), (20, [3, 7, 10], [60, 5, 6, 1047, 5, 11, 1000, 1001, 1002, 0, 10, 1004, 1003, 1007, 1008]), (24, [1, 7], []), (24, [0, 3], []), (20, [3, 3, 9], [31, 1, 3, 1, 1, 7, 0, 1, 1, 9, -1, 0, 0]), (20, [3, 3, 9], [31, 1, 3, 1, 1, 7, 0, -1, 1, 9, 1, 0, 0]), (20, [3, 3, 3, 3], [31, 1, -3, -1, 1, 7, 4008, 1, 1, 6, -1, 1, 8, 2000, 1, 7]), (20, [3, 3], [30, 0, 1, 1, 8, -1, 1, 6]), (20, [3, 10], [60, 5, 1, 1072, 5, 6, 7, 8, 9, 0])], [], [], [(20, [3, 13], [60, 2, 1, 1078, 5, 8, 0])], [], [])
theorem oo_Re_readEdges_52 {kA : Nat → ClassId} : or_ok PRD kA GG o_Re_readEdges_52 := by
  refine or_mk fun A ta ws vs hD hth hl => ?_
  intro t0 r0 t1 r1 t9 k9 t10 k10 t11 k11 t12 k12 t13 k13 f1 f2 f3 f7 f10 f11 f12 f13 f14 f15
  replace f1 := shm_40 f1
  replace f2 := shm_198 f2
  replace f3 := shm_2110 f3
  replace f7 := shm_5 f7
  replace f10 := shm_5 f10
  replace f11 := shm_1528 f11
  replace f12 := shm_1529 f12
  replace f13 := shm_1530 f13
  replace f14 := shm_1531 f14
  replace f15 := shm_1532 f15
  have q7 : n_v vs 7 = n_v vs 1 := f7.symm
  have q3 : n_v vs 3 = n_v vs 0 := f10.symm
  simp only [q7, q3] at f2 f3 f11 f12 f13 f14 f15
  have g2 : v_iv (n_v vs 11) = w_fi ws (n_v vs 0) 7 := congrArg v_iv f2
  have kz_0_5 := fdq_207 hD hth r0
  have kz_0_6 := fdq_208 hD hth r0
  have kz_0_7 := fdq_297 hD hth r0
  have kz_0_8 := fdq_99 hD hth r0
  have kz_0_9 := fdq_296 hD hth r0
  have kz_0_11 := fdq_320 hD hth r0
  have kz_1_0 := fdq_73 hD hth r1
  have kz_1_1 := fdq_74 hD hth r1
  have kz_1_2 := fdq_206 hD hth r1
  have nf0 : fc_1 PRD (20, [3, 13], [60, 2, 1, 1078, 5, 8, 0]) ws (vs) := by
    refine ⟨nf_in hl rfl, sgq_1988 ?_⟩
    · show FSY (w_fi ws (n_v vs 3) 5) (w_fi ws (n_v vs 3) 8) (w_ei ws (w_ar ws (n_v vs 3) 0)) (v_iv (n_v vs 13))
      rw [q3]
      exact vc_Re_readEdges_52_0 (v_iv (n_v vs 9)) (v_iv (n_v vs 10)) (v_iv (n_v vs 11)) (v_iv (n_v vs 12)) (v_iv (n_v vs 13)) (w_fi ws (n_v vs 1) 1) (w_fi ws (n_v vs 0) 7) (w_ei ws (w_ar ws (n_v vs 0) 0)) (w_ei ws (w_ar ws (n_v vs 0) 10)) (w_ei ws (w_ar ws (n_v vs 1) 4)) (w_ei ws (w_ar ws (n_v vs 1) 3)) (w_ei ws (w_ar ws (n_v vs 1) 7)) (w_ei ws (w_ar ws (n_v vs 1) 8)) (w_fi ws (n_v vs 0) 5) (w_fi ws (n_v vs 0) 11) (w_fi ws (n_v vs 1) 0) (w_fi ws (n_v vs 1) 2) (w_fi ws (n_v vs 0) 9) (w_fi ws (n_v vs 0) 6) (w_fi ws (n_v vs 0) 8) k9 k10 k11 k12 k13 f1 g2 f3 f11 f12 f13 f14 f15 kz_0_5 kz_0_6 kz_0_7 kz_0_8 kz_0_9 kz_0_11 kz_1_0 kz_1_1 kz_1_2
  refine ⟨(fun _ h => (by cases h)), [], trivial, ?_, (fun _ h => (by cases h))⟩
  rw [List.append_nil]
  exact List.forall_mem_cons.mpr ⟨⟨show (20 : Nat) < 100 from by decide, nf0⟩, (fun _ h => (by cases h))⟩
set_option maxHeartbeats 4000000 in
theorem vc_Re_readEdges_53_0 (edges_0o1 : Int) (tail_0o1 : Int → Int) (head_0o1 : Int → Int) (nodes_0o1 : Int) (near_0o1 : Int → Int) (f6 : GNB (nodes_0o1) (edges_0o1) (near_0o1) (tail_0o1) (head_0o1)) (kz_1_0 : 0 ≤ nodes_0o1 ∧ nodes_0o1 ≤ 24) (kz_1_1 : 0 ≤ edges_0o1 ∧ edges_0o1 ≤ 48) : GNB (nodes_0o1) (edges_0o1) (near_0o1) (tail_0o1) (head_0o1) := by
  first
    | assumption
  
set_option maxHeartbeats 4000000 in
theorem vc_Re_readEdges_53_1 (edges_0o1 : Int) (tail_0o1 : Int → Int) (head_0o1 : Int → Int) (nodes_0o1 : Int) (f7 : GKE (nodes_0o1) (edges_0o1) (tail_0o1) (head_0o1)) (kz_1_0 : 0 ≤ nodes_0o1 ∧ nodes_0o1 ≤ 24) (kz_1_1 : 0 ≤ edges_0o1 ∧ edges_0o1 ≤ 48) : GKE (nodes_0o1) (edges_0o1) (tail_0o1) (head_0o1) := by
  first
    | assumption
  
set_option maxHeartbeats 4000000 in
theorem vc_Re_readEdges_53_2 (x8 : Int) (x11 : Int) (x13 : Int) (x14 : Int) (x15 : Int) (kind_0 : Int) (edges_0o1 : Int) (tape_0 : Int → Int) (end_0 : Int) (begin_0 : Int) (open_0 : Int → Int) (nameLength_0o1 : Int → Int) (name_0o1 : Int → Int) (tail_0o1 : Int → Int) (head_0o1 : Int → Int) (depth_0 : Int) (nodes_0o1 : Int) (groups_0o1 : Int) (next_0 : Int) (fault_0 : Int) (faultPlace_0 : Int) (k8 : 0 ≤ x8 ∧ x8 ≤ 48) (k11 : (-128) ≤ x11 ∧ x11 ≤ 127) (k13 : 1 ≤ x13 ∧ x13 ≤ 1) (k14 : 0 ≤ x14 ∧ x14 ≤ 0) (k15 : 0 ≤ x15 ∧ x15 ≤ 0) (g0 : x11 = kind_0) (g1 : x8 = edges_0o1) (f3 : FSY (end_0) (begin_0) (tape_0) (x13)) (f17 : (x14 = 0) ∧ ((fault_0 = x13) ∧ (faultPlace_0 = begin_0))) (kz_0_2 : (-1) ≤ fault_0 ∧ fault_0 ≤ 5) (kz_0_3 : (-1) ≤ faultPlace_0 ∧ faultPlace_0 ≤ 2000) (kz_0_5 : 0 ≤ end_0 ∧ end_0 ≤ 2000) (kz_0_6 : 0 ≤ next_0 ∧ next_0 ≤ 2000) (kz_0_7 : (-128) ≤ kind_0 ∧ kind_0 ≤ 127) (kz_0_8 : 0 ≤ begin_0 ∧ begin_0 ≤ 2000) (kz_0_11 : 0 ≤ depth_0 ∧ depth_0 ≤ 4) (kz_1_0 : 0 ≤ nodes_0o1 ∧ nodes_0o1 ≤ 24) (kz_1_1 : 0 ≤ edges_0o1 ∧ edges_0o1 ≤ 48) (kz_1_2 : 0 ≤ groups_0o1 ∧ groups_0o1 ≤ 8) : cO0 (end_0) (next_0) (depth_0) (fault_0) (faultPlace_0) (nodes_0o1) (edges_0o1) (groups_0o1) (tape_0) (open_0) (nameLength_0o1) (name_0o1) (tail_0o1) (head_0o1) (x15) := by
  first | subst g0 | skip
  first | subst g1 | skip
  first
    | exact cO0_f ‹FSY _ _ _ _› (by omega) (by omega) (by omega)
    | exact cO_13 ‹cO13 _ _ _ _ _ _ _ _ _ _ _ _ _ _ _› (by omega) (by omega)
    | exact cO0_t (s_go (le_s ‹cLE _ _ _ _ _ _ _ _ _ _ _ _ _ _ _ _› (by omega)) (by omega) rfl) (by omega) (by omega)
    | exact cO0_t (s_go (n13_s ‹TKC _ _ _ _ _ _ _› ‹cG13 _ _ _ _ _ _ _ _ _ _ _ _›) (by omega) rfl) (by omega) (by omega)
set_option maxHeartbeats 4000000 in
theorem vc_Re_readEdges_53_3 (x2 : Int) (x10 : Int) (next_0 : Int) (k2 : 0 ≤ x2 ∧ x2 ≤ 2000) (k10 : 0 ≤ x10 ∧ x10 ≤ 2000) (f5 : 1 * x2 + ((-1) * x10 + 0) ≤ 0) (f16 : 1 * x10 + ((-1) * next_0 + 0) ≤ 0) (kz_0_6 : 0 ≤ next_0 ∧ next_0 ≤ 2000) : 1 * x2 + ((-1) * next_0 + 0) ≤ 0 := by
  first
    | omega
  
set_option maxHeartbeats 4000000 in
theorem vc_Re_readEdges_53_4 (edges_0o1 : Int) (tail_0o1 : Int → Int) (head_0o1 : Int → Int) (link_0o1 : Int → Int) (f9 : LKG (edges_0o1) (tail_0o1) (head_0o1) (link_0o1)) (kz_1_1 : 0 ≤ edges_0o1 ∧ edges_0o1 ≤ 48) : LKG (edges_0o1) (tail_0o1) (head_0o1) (link_0o1) := by
  assumption
def o_Re_readEdges_53 : or_T := (279, 16, [(0, (2, 0, 0, [8])), (1, (2, 0, 0, [164])), (2, (0, 0, 2000, [])), (8, (0, 0, 48, [])), (10, (0, 0, 2000, [])), (11, (0, -128, 127, [])), (13, (0, 1, 1, [])), (14, (0, 0, 0, [])), (15, (0, 0, 0, []))], [(9, [11, 3], [7]), (9, [8, 7], [1]), (20, [3, 13], [60, 2, 1, 1078, 5, 8, 0]), (20, [2, 10], [30, 0, 1, 0, 0, -1, 0, 0]), (20, [7], [60, 2, 3, 670, 0, 1, 14, 7, 8]), (20, [7], [60, 2, 2, 596, 0, 1, 7, 8]), (24, [1, 7], []), (20, [7], [60, 1, 3, 1085, 1, 7, 8, 15]), (24, [0, 3], []), (20, [10, 3], [30, 0, 1, 0, 0, -1, 1, 6]), (20, [14, 3, 13], [50, 3, 0, 1002, 1003, 1008, 2, 6, 1, 2, 1, 0, 0, 0, 2, 7, 1, 3, 2, 1, 2, 1, 2, 1, 3, 2, 1, 3, 2, 1, 8])], [], [], [(20, [1], [60, 2, 3, 670, 0, 1, 14, 7, 8]), (20, [1], [60, 2, 2, 596, 0, 1, 7, 8]), (20, [0, 1, 15], [60, 8, 6, 1063, 5, 6, 11, 2, 3, 1000, 1001, 1002, 0, 10, 1004, 1003, 1007, 1008]), (20, [2, 0], [30, 0, 1, 0, 0, -1, 1, 6]), (20, [1], [60, 1, 3, 1085, 1, 7, 8, 15])], [], [])
theorem oo_Re_readEdges_53 {kA : Nat → ClassId} : or_ok PRD kA GG o_Re_readEdges_53 := by
  refine or_mk fun A ta ws vs hD hth hl => ?_
  intro t0 r0 t1 r1 t2 k2 t8 k8 t10 k10 t11 k11 t13 k13 t14 k14 t15 k15 f0 f1 f3 f5 f6 f7 f8 f9 f10 f16 f17
  replace f0 := shm_198 f0
  replace f1 := shm_215 f1
  replace f3 := shm_1988 f3
  replace f6 := shm_825 f6
  replace f7 := shm_386 f7
  replace f8 := shm_5 f8
  replace f9 := shm_827 f9
  replace f10 := shm_5 f10
  replace f16 := shm_1527 f16
  replace f17 := shm_451 f17
  have q7 : n_v vs 7 = n_v vs 1 := f8.symm
  have q3 : n_v vs 3 = n_v vs 0 := f10.symm
  simp only [q3, q7] at f0 f1 f3 f6 f7 f9 f16 f17
  have g0 : v_iv (n_v vs 11) = w_fi ws (n_v vs 0) 7 := congrArg v_iv f0
  have g1 : v_iv (n_v vs 8) = w_fi ws (n_v vs 1) 1 := congrArg v_iv f1
  have kz_0_2 := fdq_97 hD hth r0
  have kz_0_3 := fdq_98 hD hth r0
  have kz_0_5 := fdq_207 hD hth r0
  have kz_0_6 := fdq_208 hD hth r0
  have kz_0_7 := fdq_297 hD hth r0
  have kz_0_8 := fdq_99 hD hth r0
  have kz_0_11 := fdq_320 hD hth r0
  have kz_1_0 := fdq_73 hD hth r1
  have kz_1_1 := fdq_74 hD hth r1
  have kz_1_2 := fdq_206 hD hth r1
  have nf0 : fc_1 PRD (20, [1], [60, 2, 3, 670, 0, 1, 14, 7, 8]) ws (vs) := ⟨nf_in hl rfl, sgq_825 (vc_Re_readEdges_53_0 (w_fi ws (n_v vs 1) 1) (w_ei ws (w_ar ws (n_v vs 1) 7)) (w_ei ws (w_ar ws (n_v vs 1) 8)) (w_fi ws (n_v vs 1) 0) (w_ei ws (w_ar ws (n_v vs 1) 14)) f6 kz_1_0 kz_1_1)⟩
  have nf1 : fc_1 PRD (20, [1], [60, 2, 2, 596, 0, 1, 7, 8]) ws (vs) := ⟨nf_in hl rfl, sgq_386 (vc_Re_readEdges_53_1 (w_fi ws (n_v vs 1) 1) (w_ei ws (w_ar ws (n_v vs 1) 7)) (w_ei ws (w_ar ws (n_v vs 1) 8)) (w_fi ws (n_v vs 1) 0) f7 kz_1_0 kz_1_1)⟩
  have nf2 : fc_1 PRD (20, [0, 1, 15], [60, 8, 6, 1063, 5, 6, 11, 2, 3, 1000, 1001, 1002, 0, 10, 1004, 1003, 1007, 1008]) ws (vs) := ⟨nf_in hl rfl, sgq_2023 (vc_Re_readEdges_53_2 (v_iv (n_v vs 8)) (v_iv (n_v vs 11)) (v_iv (n_v vs 13)) (v_iv (n_v vs 14)) (v_iv (n_v vs 15)) (w_fi ws (n_v vs 0) 7) (w_fi ws (n_v vs 1) 1) (w_ei ws (w_ar ws (n_v vs 0) 0)) (w_fi ws (n_v vs 0) 5) (w_fi ws (n_v vs 0) 8) (w_ei ws (w_ar ws (n_v vs 0) 10)) (w_ei ws (w_ar ws (n_v vs 1) 4)) (w_ei ws (w_ar ws (n_v vs 1) 3)) (w_ei ws (w_ar ws (n_v vs 1) 7)) (w_ei ws (w_ar ws (n_v vs 1) 8)) (w_fi ws (n_v vs 0) 11) (w_fi ws (n_v vs 1) 0) (w_fi ws (n_v vs 1) 2) (w_fi ws (n_v vs 0) 6) (w_fi ws (n_v vs 0) 2) (w_fi ws (n_v vs 0) 3) k8 k11 k13 k14 k15 g0 g1 f3 f17 kz_0_2 kz_0_3 kz_0_5 kz_0_6 kz_0_7 kz_0_8 kz_0_11 kz_1_0 kz_1_1 kz_1_2)⟩
  have nf3 : fc_1 PRD (20, [2, 0], [30, 0, 1, 0, 0, -1, 1, 6]) ws (vs) := ⟨nf_in hl rfl, sgq_1527 (vc_Re_readEdges_53_3 (v_iv (n_v vs 2)) (v_iv (n_v vs 10)) (w_fi ws (n_v vs 0) 6) k2 k10 (shm_201 f5) f16 kz_0_6)⟩
  have nf4 : fc_1 PRD (20, [1], [60, 1, 3, 1085, 1, 7, 8, 15]) ws (vs) := ⟨nf_in hl rfl, sgq_827 (vc_Re_readEdges_53_4 (w_fi ws (n_v vs 1) 1) (w_ei ws (w_ar ws (n_v vs 1) 7)) (w_ei ws (w_ar ws (n_v vs 1) 8)) (w_ei ws (w_ar ws (n_v vs 1) 15)) f9 kz_1_1)⟩
  refine ⟨(fun _ h => (by cases h)), [], trivial, ?_, (fun _ h => (by cases h))⟩
  rw [List.append_nil]
  exact List.forall_mem_cons.mpr ⟨⟨show (20 : Nat) < 100 from by decide, nf0⟩, List.forall_mem_cons.mpr ⟨⟨show (20 : Nat) < 100 from by decide, nf1⟩, List.forall_mem_cons.mpr ⟨⟨show (20 : Nat) < 100 from by decide, nf2⟩, List.forall_mem_cons.mpr ⟨⟨show (20 : Nat) < 100 from by decide, nf3⟩, List.forall_mem_cons.mpr ⟨⟨show (20 : Nat) < 100 from by decide, nf4⟩, (fun _ h => (by cases h))⟩⟩⟩⟩⟩
set_option maxHeartbeats 4000000 in
theorem vc_Re_readEdges_54_r0 (x10 : Int) (number_0 : Int) (k10 : (-176) ≤ x10 ∧ x10 ≤ 1000000) (g0 : x10 = number_0) (f3 : 1 * number_0 + 0 ≤ 9) (f4 : (-1) * number_0 + 0 ≤ (-1)) (kz_0_9 : (-176) ≤ number_0 ∧ number_0 ≤ 1000000) : 0 ≤ x10 ∧ x10 ≤ 9 := by
  first
    | omega
  
def o_Re_readEdges_54 : or_T := (246, 11, [(0, (2, 0, 0, [8])), (1, (2, 0, 0, [164])), (2, (0, 0, 2000, [])), (3, (2, 0, 0, [8])), (6, (0, 0, 47, [])), (7, (2, 0, 0, [164])), (8, (0, 1, 48, [])), (10, (0, -176, 1000000, []))], [(9, [10, 3], [9]), (7, [6, 8], [2]), (9, [8, 7], [1]), (20, [3], [30, 9, 1, 1, 9]), (20, [3], [30, -1, -1, 1, 9]), (20, [7], [60, 2, 3, 670, 0, 1, 14, 7, 8]), (20, [7], [60, 2, 2, 596, 0, 1, 7, 8]), (24, [1, 7], []), (20, [3, 7], [60, 6, 6, 1057, 5, 6, 11, 1000, 1001, 1002, 0, 10, 1004, 1003, 1007, 1008]), (20, [2, 3], [30, 0, 1, 0, 0, -1, 1, 6]), (20, [7], [60, 1, 3, 1085, 1, 7, 8, 15]), (20, [3], [50, 1, 0, 2, 1, 3, 2, 0, 2, 0, 0]), (24, [0, 3], [])], [(10, (0, 0, 9, []))], [], [], [], [(6, 8, -4294967296, -1)])
theorem oo_Re_readEdges_54 {kA : Nat → ClassId} : or_ok PRD kA GG o_Re_readEdges_54 := by
  refine or_mk fun A ta ws vs hD hth hl => ?_
  intro t0 r0 t1 r1 t2 k2 t3 r3 t6 k6 t7 r7 t8 k8 t10 k10 d0 f0 f1 f2 f3 f4 f5 f6 f7 f8 f9 f10 f11 f12
  replace f0 := shm_119 f0
  replace f3 := shm_2138 f3
  replace f4 := shm_2139 f4
  replace f12 := shm_5 f12
  have q3 : n_v vs 3 = n_v vs 0 := f12.symm
  simp only [q3] at f0 f3 f4
  have g0 : v_iv (n_v vs 10) = w_fi ws (n_v vs 0) 9 := congrArg v_iv f0
  have kz_0_9 := fdq_296 hD hth r0
  have hrf0 : 0 ≤ v_iv (n_v vs 10) ∧ v_iv (n_v vs 10) ≤ 9 := vc_Re_readEdges_54_r0 (v_iv (n_v vs 10)) (w_fi ws (n_v vs 0) 9) k10 g0 f3 f4 kz_0_9
  have rf10 : tv_ok ta (0, 0, 9, []) (n_v vs 10) := tv_in t10 (by first | omega | grind) (by first | omega | grind)
  refine ⟨List.forall_mem_cons.mpr ⟨rf10, (fun _ h => (by cases h))⟩, [], trivial, ?_, (fun _ h => (by cases h))⟩
  rw [List.append_nil]
  exact (fun _ h => (by cases h))
def n_Re_readEdges_an : List an_T := [(54, [(0, (2, 0, 0, [8])), (1, (0, 0, 23, [])), (2, (0, 0, 48, [])), (3, (0, 0, 49, []))], [], (0, 0), [(0, 0, 99946), (1, 6, 49), (0, 0, 100000)], [], [((0, 4), (2, 0, 0, [164]))], [(2, 0, 0, [8]), (2, 0, 0, [164]), (0, 0, 2000, [])], 0, [], [(20, [7], [60, 2, 3, 670, 0, 1, 14, 7, 8]), (20, [7], [60, 2, 2, 596, 0, 1, 7, 8]), (24, [1, 7], []), (20, [4, 7], [50, 1, 0, 1000, 2, 6, 0, 2, 0, 0, 1, 0, 0, 6, 4, 2, 1, 0, 0, 1, 2, 1, 0]), (20, [3, 7, 4], [60, 9, 6, 1061, 5, 6, 7, 8, 9, 11, 1000, 1001, 1002, 0, 10, 1004, 1003, 1007, 1008]), (20, [2, 3], [30, 0, 1, 0, 0, (Int.negSucc 0), 1, 6]), (20, [6, 7], [50, 1, 0, 1001, 0, 2, 1, 0, 2, 1, 1]), (20, [7], [60, 1, 3, 1085, 1, 7, 8, 15]), (20, [3], [50, 1, 0, 2, 1, 3, 2, 0, 2, 0, 0]), (24, [0, 3], [])]), (223, [(0, (2, 0, 0, [8])), (1, (0, 0, 23, [])), (2, (0, 0, 48, [])), (3, (0, 0, 48, []))], [], (0, 0), [(0, 0, 99777), (1, 6, 48), (0, 0, 100000)], [(5, 6, (Int.negSucc 999999999999), 0)], [((0, 4), (2, 0, 0, [164]))], [(2, 0, 0, [8]), (2, 0, 0, [164]), (0, 0, 2000, [])], 0, [], [(20, [3], [30, 9, 1, 1, 9]), (20, [3], [30, (Int.negSucc 0), (Int.negSucc 0), 1, 9]), (20, [7], [60, 2, 3, 670, 0, 1, 14, 7, 8]), (20, [7], [60, 2, 2, 596, 0, 1, 7, 8]), (24, [1, 7], []), (20, [3, 7], [60, 6, 6, 1057, 5, 6, 11, 1000, 1001, 1002, 0, 10, 1004, 1003, 1007, 1008]), (20, [2, 3], [30, 0, 1, 0, 0, (Int.negSucc 0), 1, 6]), (20, [7], [60, 1, 3, 1085, 1, 7, 8, 15]), (20, [3], [50, 1, 0, 2, 1, 3, 2, 0, 2, 0, 0]), (24, [0, 3], [])])]
def t_Re_readEdges_ct : ct_L := [(1, 57, e_Re_advance), (1, 107, e_Re_isName), (1, 113, e_Re_fail), (7, 127, e_Re_meetNode_at_gx), (340, 127, e_Re_meetNode_at_ga), (412, 159, e_Gr_edgeBetween_at_Gq), (550, 162, e_Gr_addEdge_at_Gq), (643, 132, e_Re_readValue_at_s5003), (1000000, 166, en_ro [] (2, 0, 0, [5003]))]
set_option maxRecDepth 100000 in
theorem c_Re_readEdges {l : Launch} {D : va_G} {kA : Nat → ClassId} (h_Gr_addEdge_at_Gq : ct_ok PRD l D kA GG y_Gr_addEdge_at_Gq z_Gr_addEdge_at_Gq e_Gr_addEdge_at_Gq) (h_Gr_edgeBetween_at_Gq : ct_ok PRD l D kA GG y_Gr_edgeBetween_at_Gq z_Gr_edgeBetween_at_Gq e_Gr_edgeBetween_at_Gq) (h_Re_advance : ct_ok PRD l D kA GG y_Re_advance z_Re_advance e_Re_advance) (h_Re_fail : ct_ok PRD l D kA GG y_Re_fail z_Re_fail e_Re_fail) (h_Re_isName : ct_ok PRD l D kA GG y_Re_isName z_Re_isName e_Re_isName) (h_Re_meetNode_at_ga : ct_ok PRD l D kA GG y_Re_meetNode_at_ga z_Re_meetNode_at_ga e_Re_meetNode_at_ga) (h_Re_meetNode_at_gx : ct_ok PRD l D kA GG y_Re_meetNode_at_gx z_Re_meetNode_at_gx e_Re_meetNode_at_gx) (h_Re_readValue_at_s5003 : ct_ok PRD l D kA GG y_Re_readValue_at_s5003 z_Re_readValue_at_s5003 e_Re_readValue_at_s5003) : ct_ok PRD l D kA GG y_Re_readEdges z_Re_readEdges e_Re_readEdges := chk_all_ok (FT := [(28, 8, 4), (38, 8, 7), (44, 8, 9), (156, 3, 1), (168, 3, 9)]) (PT := []) (CT := t_Re_readEdges_ct) (KT := []) (NT := []) (AN := n_Re_readEdges_an) (OT := [o_Re_readEdges_0, o_Re_readEdges_1, o_Re_readEdges_2, o_Re_readEdges_3, o_Re_readEdges_4, o_Re_readEdges_5, o_Re_readEdges_6, o_Re_readEdges_7, o_Re_readEdges_8, o_Re_readEdges_9, o_Re_readEdges_10, o_Re_readEdges_11, o_Re_readEdges_12, o_Re_readEdges_13, o_Re_readEdges_14, o_Re_readEdges_15, o_Re_readEdges_16, o_Re_readEdges_17, o_Re_readEdges_18, o_Re_readEdges_19, o_Re_readEdges_20, o_Re_readEdges_21, o_Re_readEdges_22, o_Re_readEdges_23, o_Re_readEdges_24, o_Re_readEdges_25, o_Re_readEdges_26, o_Re_readEdges_27, o_Re_readEdges_28, o_Re_readEdges_29, o_Re_readEdges_30, o_Re_readEdges_31, o_Re_readEdges_32, o_Re_readEdges_33, o_Re_readEdges_34, o_Re_readEdges_35, o_Re_readEdges_36, o_Re_readEdges_37, o_Re_readEdges_38, o_Re_readEdges_39, o_Re_readEdges_40, o_Re_readEdges_41, o_Re_readEdges_42, o_Re_readEdges_43, o_Re_readEdges_44, o_Re_readEdges_45, o_Re_readEdges_46, o_Re_readEdges_47, o_Re_readEdges_48, o_Re_readEdges_49, o_Re_readEdges_50, o_Re_readEdges_51, o_Re_readEdges_52, o_Re_readEdges_53, o_Re_readEdges_54]) 3 1124 (List.forall_mem_cons.mpr ⟨oo_Re_readEdges_0, List.forall_mem_cons.mpr ⟨oo_Re_readEdges_1, List.forall_mem_cons.mpr ⟨oo_Re_readEdges_2, List.forall_mem_cons.mpr ⟨oo_Re_readEdges_3, List.forall_mem_cons.mpr ⟨oo_Re_readEdges_4, List.forall_mem_cons.mpr ⟨oo_Re_readEdges_5, List.forall_mem_cons.mpr ⟨oo_Re_readEdges_6, List.forall_mem_cons.mpr ⟨oo_Re_readEdges_7, List.forall_mem_cons.mpr ⟨oo_Re_readEdges_8, List.forall_mem_cons.mpr ⟨oo_Re_readEdges_9, List.forall_mem_cons.mpr ⟨oo_Re_readEdges_10, List.forall_mem_cons.mpr ⟨oo_Re_readEdges_11, List.forall_mem_cons.mpr ⟨oo_Re_readEdges_12, List.forall_mem_cons.mpr ⟨oo_Re_readEdges_13, List.forall_mem_cons.mpr ⟨oo_Re_readEdges_14, List.forall_mem_cons.mpr ⟨oo_Re_readEdges_15, List.forall_mem_cons.mpr ⟨oo_Re_readEdges_16, List.forall_mem_cons.mpr ⟨oo_Re_readEdges_17, List.forall_mem_cons.mpr ⟨oo_Re_readEdges_18, List.forall_mem_cons.mpr ⟨oo_Re_readEdges_19, List.forall_mem_cons.mpr ⟨oo_Re_readEdges_20, List.forall_mem_cons.mpr ⟨oo_Re_readEdges_21, List.forall_mem_cons.mpr ⟨oo_Re_readEdges_22, List.forall_mem_cons.mpr ⟨oo_Re_readEdges_23, List.forall_mem_cons.mpr ⟨oo_Re_readEdges_24, List.forall_mem_cons.mpr ⟨oo_Re_readEdges_25, List.forall_mem_cons.mpr ⟨oo_Re_readEdges_26, List.forall_mem_cons.mpr ⟨oo_Re_readEdges_27, List.forall_mem_cons.mpr ⟨oo_Re_readEdges_28, List.forall_mem_cons.mpr ⟨oo_Re_readEdges_29, List.forall_mem_cons.mpr ⟨oo_Re_readEdges_30, List.forall_mem_cons.mpr ⟨oo_Re_readEdges_31, List.forall_mem_cons.mpr ⟨oo_Re_readEdges_32, List.forall_mem_cons.mpr ⟨oo_Re_readEdges_33, List.forall_mem_cons.mpr ⟨oo_Re_readEdges_34, List.forall_mem_cons.mpr ⟨oo_Re_readEdges_35, List.forall_mem_cons.mpr ⟨oo_Re_readEdges_36, List.forall_mem_cons.mpr ⟨oo_Re_readEdges_37, List.forall_mem_cons.mpr ⟨oo_Re_readEdges_38, List.forall_mem_cons.mpr ⟨oo_Re_readEdges_39, List.forall_mem_cons.mpr ⟨oo_Re_readEdges_40, List.forall_mem_cons.mpr ⟨oo_Re_readEdges_41, List.forall_mem_cons.mpr ⟨oo_Re_readEdges_42, List.forall_mem_cons.mpr ⟨oo_Re_readEdges_43, List.forall_mem_cons.mpr ⟨oo_Re_readEdges_44, List.forall_mem_cons.mpr ⟨oo_Re_readEdges_45, List.forall_mem_cons.mpr ⟨oo_Re_readEdges_46, List.forall_mem_cons.mpr ⟨oo_Re_readEdges_47, List.forall_mem_cons.mpr ⟨oo_Re_readEdges_48, List.forall_mem_cons.mpr ⟨oo_Re_readEdges_49, List.forall_mem_cons.mpr ⟨oo_Re_readEdges_50, List.forall_mem_cons.mpr ⟨oo_Re_readEdges_51, List.forall_mem_cons.mpr ⟨oo_Re_readEdges_52, List.forall_mem_cons.mpr ⟨oo_Re_readEdges_53, List.forall_mem_cons.mpr ⟨oo_Re_readEdges_54, List.forall_mem_nil _⟩⟩⟩⟩⟩⟩⟩⟩⟩⟩⟩⟩⟩⟩⟩⟩⟩⟩⟩⟩⟩⟩⟩⟩⟩⟩⟩⟩⟩⟩⟩⟩⟩⟩⟩⟩⟩⟩⟩⟩⟩⟩⟩⟩⟩⟩⟩⟩⟩⟩⟩⟩⟩⟩⟩) (by decide +kernel) ⟨List.forall_mem_cons.mpr ⟨gf_Re_28, List.forall_mem_cons.mpr ⟨gf_Re_38, List.forall_mem_cons.mpr ⟨gf_Re_44, List.forall_mem_cons.mpr ⟨gf_Re_156, List.forall_mem_cons.mpr ⟨gf_Re_168, List.forall_mem_nil _⟩⟩⟩⟩⟩, List.forall_mem_nil _, List.forall_mem_cons.mpr ⟨cl_virtual (y := y_Re_advance) (ci := 8) rfl rfl ⟨_, _, rfl⟩ (by decide +kernel) h_Re_advance wm_645 wm_2 wm_642 wm_644 wv_1_0 ⟨by decide, by decide, by decide +kernel⟩ (by decide), List.forall_mem_cons.mpr ⟨cl_virtual (y := y_Re_isName) (ci := 8) rfl rfl ⟨_, _, rfl⟩ (by decide +kernel) h_Re_isName wm_726 wm_2 wm_723 wm_725 wv_1_4 ⟨by decide, by decide, by decide +kernel⟩ (by decide), List.forall_mem_cons.mpr ⟨cl_virtual (y := y_Re_fail) (ci := 8) rfl rfl ⟨_, _, rfl⟩ (by decide +kernel) h_Re_fail wm_731 wm_2 wm_728 wm_730 wv_1_5 ⟨by decide, by decide, by decide +kernel⟩ (by decide), List.forall_mem_cons.mpr ⟨cl_virtual (y := y_Re_meetNode_at_gx) (ci := 8) rfl rfl ⟨_, _, rfl⟩ (by decide +kernel) h_Re_meetNode_at_gx wm_735 wm_2 wm_732 wm_734 wv_1_6 ⟨by decide, by decide, by decide +kernel⟩ (by decide), List.forall_mem_cons.mpr ⟨cl_virtual (y := y_Re_meetNode_at_ga) (ci := 8) rfl rfl ⟨_, _, rfl⟩ (by decide +kernel) h_Re_meetNode_at_ga wm_735 wm_2 wm_732 wm_734 wv_1_6 ⟨by decide, by decide, by decide +kernel⟩ (by decide), List.forall_mem_cons.mpr ⟨cl_virtual (y := y_Gr_edgeBetween_at_Gq) (ci := 3) rfl rfl ⟨_, _, rfl⟩ (by decide +kernel) h_Gr_edgeBetween_at_Gq wm_768 wm_3 wm_765 wm_766 wm_767 ⟨by decide, by decide, by decide +kernel⟩ (by decide), List.forall_mem_cons.mpr ⟨cl_virtual (y := y_Gr_addEdge_at_Gq) (ci := 3) rfl rfl ⟨_, _, rfl⟩ (by decide +kernel) h_Gr_addEdge_at_Gq wm_772 wm_3 wm_769 wm_770 wm_771 ⟨by decide, by decide, by decide +kernel⟩ (by decide), List.forall_mem_cons.mpr ⟨cl_virtual (y := y_Re_readValue_at_s5003) (ci := 8) rfl rfl ⟨_, _, rfl⟩ (by decide +kernel) h_Re_readValue_at_s5003 wm_755 wm_2 wm_752 wm_754 wv_1_8 ⟨by decide, by decide, by decide +kernel⟩ (by decide), List.forall_mem_cons.mpr ⟨cl_ldc (own := "DrawingHouse$Reader") (idx := 166) (i := 3) (tx := "weight") (by decide +kernel) (by decide +kernel) (by decide +kernel), List.forall_mem_nil _⟩⟩⟩⟩⟩⟩⟩⟩⟩, List.forall_mem_nil _, List.forall_mem_nil _, GG_pl⟩ (by decide +kernel)
def o_Sy_compileProduct_at_k0_0 : or_T := (12, 5, [], [], [], [], [(24, [0, 0], [])], [], [])
theorem oo_Sy_compileProduct_at_k0_0 {kA : Nat → ClassId} : or_ok PRD kA GG o_Sy_compileProduct_at_k0_0 := by
  refine or_mk fun A ta ws vs hD hth hl => ?_
  have nf0 : fc_1 PRD (24, [0, 0], []) ws (vs) := by
    refine ⟨nf_in hl rfl, sgq_1 ?_⟩
    · show n_v vs 0 = n_v vs 0
      first | rfl | simp only [true_and]
  refine ⟨(fun _ h => (by cases h)), [], trivial, ?_, (fun _ h => (by cases h))⟩
  rw [List.append_nil]
  exact List.forall_mem_cons.mpr ⟨⟨show (24 : Nat) < 100 from by decide, nf0⟩, (fun _ h => (by cases h))⟩
set_option maxHeartbeats 4000000 in
theorem vc_Sy_compileProduct_at_k0_1_0 (kind_0 : Int) (number_0 : Int) (f0 : (kind_0 ≠ 3) ∨ (number_0 ≤ 9999)) (kz_0_6 : 0 ≤ kind_0 ∧ kind_0 ≤ 127) (kz_0_8 : 0 ≤ number_0 ∧ number_0 ≤ 1000000) : (kind_0 ≠ 3) ∨ (number_0 ≤ 9999) := by
  first
    | omega
  
def o_Sy_compileProduct_at_k0_1 : or_T := (79, 9, [(0, (2, 0, 0, [11]))], [(20, [3], [50, 2, 0, 6, 8, 3, 7, 7, 3, 2, 0, 6, 0, 3, 0, 3, 2, 0, 8, 0, 9999]), (24, [0, 3], [])], [], [], [(20, [0], [50, 2, 0, 6, 8, 3, 7, 7, 3, 2, 0, 6, 0, 3, 0, 3, 2, 0, 8, 0, 9999])], [], [])
theorem oo_Sy_compileProduct_at_k0_1 {kA : Nat → ClassId} : or_ok PRD kA GG o_Sy_compileProduct_at_k0_1 := by
  refine or_mk fun A ta ws vs hD hth hl => ?_
  intro t0 r0 f0 f1
  replace f0 := shm_1840 f0
  replace f1 := shm_5 f1
  have q3 : n_v vs 3 = n_v vs 0 := f1.symm
  simp only [q3] at f0
  have kz_0_6 := fdq_313 hD hth r0
  have kz_0_8 := fdq_314 hD hth r0
  have nf0 : fc_1 PRD (20, [0], [50, 2, 0, 6, 8, 3, 7, 7, 3, 2, 0, 6, 0, 3, 0, 3, 2, 0, 8, 0, 9999]) ws (vs) := ⟨nf_in hl rfl, sgq_1840 (vc_Sy_compileProduct_at_k0_1_0 (w_fi ws (n_v vs 0) 6) (w_fi ws (n_v vs 0) 8) f0 kz_0_6 kz_0_8)⟩
  refine ⟨(fun _ h => (by cases h)), [], trivial, ?_, (fun _ h => (by cases h))⟩
  rw [List.append_nil]
  exact List.forall_mem_cons.mpr ⟨⟨show (20 : Nat) < 100 from by decide, nf0⟩, (fun _ h => (by cases h))⟩
set_option maxHeartbeats 4000000 in
theorem vc_Sy_compileProduct_at_k0_2_0 (x11 : Int) (x13 : Int) (k11 : 4 ≤ x11 ∧ x11 ≤ 4) (k13 : 0 ≤ x13 ∧ x13 ≤ 0) : (0 ≤ x11) ∧ ((0 ≤ x13) ∧ (((x11 * 65536) + x13) ≤ 851970)) := by
  first
    | omega
  
def o_Sy_compileProduct_at_k0_2 : or_T := (69, 14, [(11, (0, 4, 4, [])), (13, (0, 0, 0, []))], [], [], [], [(20, [11, 13], [50, 0, 0, 2, 6, 0, 2, 0, 0, 1, 0, 2, 6, 0, 2, 0, 0, 1, 1, 0, 10, 4, 6, 6, 2, 1, 0, 0, 65536, 1, 1, 0, 851970])], [], [])
theorem oo_Sy_compileProduct_at_k0_2 {kA : Nat → ClassId} : or_ok PRD kA GG o_Sy_compileProduct_at_k0_2 := by
  refine or_mk fun A ta ws vs hD hth hl => ?_
  intro t11 k11 t13 k13
  have nf0 : fc_1 PRD (20, [11, 13], [50, 0, 0, 2, 6, 0, 2, 0, 0, 1, 0, 2, 6, 0, 2, 0, 0, 1, 1, 0, 10, 4, 6, 6, 2, 1, 0, 0, 65536, 1, 1, 0, 851970]) ws (vs) := ⟨nf_in hl rfl, sgq_493 (vc_Sy_compileProduct_at_k0_2_0 (v_iv (n_v vs 11)) (v_iv (n_v vs 13)) k11 k13)⟩
  refine ⟨(fun _ h => (by cases h)), [], trivial, ?_, (fun _ h => (by cases h))⟩
  rw [List.append_nil]
  exact List.forall_mem_cons.mpr ⟨⟨show (20 : Nat) < 100 from by decide, nf0⟩, (fun _ h => (by cases h))⟩
set_option maxHeartbeats 4000000 in
theorem vc_Sy_compileProduct_at_k0_3_0 (kind_0 : Int) (number_0 : Int) (f1 : (kind_0 ≠ 3) ∨ (number_0 ≤ 9999)) (kz_0_6 : 0 ≤ kind_0 ∧ kind_0 ≤ 127) (kz_0_8 : 0 ≤ number_0 ∧ number_0 ≤ 1000000) : (kind_0 ≠ 3) ∨ (number_0 ≤ 9999) := by
  first
    | omega
  
def o_Sy_compileProduct_at_k0_3 : or_T := (65, 14, [(0, (2, 0, 0, [11]))], [(24, [0, 3], []), (20, [3], [50, 2, 0, 6, 8, 3, 7, 7, 3, 2, 0, 6, 0, 3, 0, 3, 2, 0, 8, 0, 9999])], [], [], [(20, [0], [50, 2, 0, 6, 8, 3, 7, 7, 3, 2, 0, 6, 0, 3, 0, 3, 2, 0, 8, 0, 9999])], [], [])
theorem oo_Sy_compileProduct_at_k0_3 {kA : Nat → ClassId} : or_ok PRD kA GG o_Sy_compileProduct_at_k0_3 := by
  refine or_mk fun A ta ws vs hD hth hl => ?_
  intro t0 r0 f0 f1
  replace f0 := shm_5 f0
  replace f1 := shm_1840 f1
  have q3 : n_v vs 3 = n_v vs 0 := f0.symm
  simp only [q3] at f1
  have kz_0_6 := fdq_313 hD hth r0
  have kz_0_8 := fdq_314 hD hth r0
  have nf0 : fc_1 PRD (20, [0], [50, 2, 0, 6, 8, 3, 7, 7, 3, 2, 0, 6, 0, 3, 0, 3, 2, 0, 8, 0, 9999]) ws (vs) := ⟨nf_in hl rfl, sgq_1840 (vc_Sy_compileProduct_at_k0_3_0 (w_fi ws (n_v vs 0) 6) (w_fi ws (n_v vs 0) 8) f1 kz_0_6 kz_0_8)⟩
  refine ⟨(fun _ h => (by cases h)), [], trivial, ?_, (fun _ h => (by cases h))⟩
  rw [List.append_nil]
  exact List.forall_mem_cons.mpr ⟨⟨show (20 : Nat) < 100 from by decide, nf0⟩, (fun _ h => (by cases h))⟩
set_option maxHeartbeats 4000000 in
theorem vc_Sy_compileProduct_at_k0_4_0 (kind_0 : Int) (number_0 : Int) (f3 : (kind_0 ≠ 3) ∨ (number_0 ≤ 9999)) (kz_0_6 : 0 ≤ kind_0 ∧ kind_0 ≤ 127) (kz_0_8 : 0 ≤ number_0 ∧ number_0 ≤ 1000000) : (kind_0 ≠ 3) ∨ (number_0 ≤ 9999) := by
  first
    | omega
  
def o_Sy_compileProduct_at_k0_4 : or_T := (79, 12, [(0, (2, 0, 0, [11]))], [(20, [3], [50, 2, 0, 6, 8, 3, 7, 7, 3, 2, 0, 6, 0, 3, 0, 3, 2, 0, 8, 0, 9999]), (24, [0, 3], [])], [], [], [(20, [0], [50, 2, 0, 6, 8, 3, 7, 7, 3, 2, 0, 6, 0, 3, 0, 3, 2, 0, 8, 0, 9999])], [], [])
theorem oo_Sy_compileProduct_at_k0_4 {kA : Nat → ClassId} : or_ok PRD kA GG o_Sy_compileProduct_at_k0_4 := by
  refine or_mk fun A ta ws vs hD hth hl => ?_
  intro t0 r0 f3 f4
  replace f3 := shm_1840 f3
  replace f4 := shm_5 f4
  have q3 : n_v vs 3 = n_v vs 0 := f4.symm
  simp only [q3] at f3
  have kz_0_6 := fdq_313 hD hth r0
  have kz_0_8 := fdq_314 hD hth r0
  have nf0 : fc_1 PRD (20, [0], [50, 2, 0, 6, 8, 3, 7, 7, 3, 2, 0, 6, 0, 3, 0, 3, 2, 0, 8, 0, 9999]) ws (vs) := ⟨nf_in hl rfl, sgq_1840 (vc_Sy_compileProduct_at_k0_4_0 (w_fi ws (n_v vs 0) 6) (w_fi ws (n_v vs 0) 8) f3 kz_0_6 kz_0_8)⟩
  refine ⟨(fun _ h => (by cases h)), [], trivial, ?_, (fun _ h => (by cases h))⟩
  rw [List.append_nil]
  exact List.forall_mem_cons.mpr ⟨⟨show (20 : Nat) < 100 from by decide, nf0⟩, (fun _ h => (by cases h))⟩
set_option maxHeartbeats 4000000 in
theorem vc_Sy_compileProduct_at_k0_5_0 (x12 : Int) (x14 : Int) (k12 : 5 ≤ x12 ∧ x12 ≤ 5) (k14 : 0 ≤ x14 ∧ x14 ≤ 0) : (0 ≤ x12) ∧ ((0 ≤ x14) ∧ (((x12 * 65536) + x14) ≤ 851970)) := by
  first
    | omega
  
def o_Sy_compileProduct_at_k0_5 : or_T := (69, 15, [(12, (0, 5, 5, [])), (14, (0, 0, 0, []))], [], [], [], [(20, [12, 14], [50, 0, 0, 2, 6, 0, 2, 0, 0, 1, 0, 2, 6, 0, 2, 0, 0, 1, 1, 0, 10, 4, 6, 6, 2, 1, 0, 0, 65536, 1, 1, 0, 851970])], [], [])
theorem oo_Sy_compileProduct_at_k0_5 {kA : Nat → ClassId} : or_ok PRD kA GG o_Sy_compileProduct_at_k0_5 := by
  refine or_mk fun A ta ws vs hD hth hl => ?_
  intro t12 k12 t14 k14
  have nf0 : fc_1 PRD (20, [12, 14], [50, 0, 0, 2, 6, 0, 2, 0, 0, 1, 0, 2, 6, 0, 2, 0, 0, 1, 1, 0, 10, 4, 6, 6, 2, 1, 0, 0, 65536, 1, 1, 0, 851970]) ws (vs) := ⟨nf_in hl rfl, sgq_493 (vc_Sy_compileProduct_at_k0_5_0 (v_iv (n_v vs 12)) (v_iv (n_v vs 14)) k12 k14)⟩
  refine ⟨(fun _ h => (by cases h)), [], trivial, ?_, (fun _ h => (by cases h))⟩
  rw [List.append_nil]
  exact List.forall_mem_cons.mpr ⟨⟨show (20 : Nat) < 100 from by decide, nf0⟩, (fun _ h => (by cases h))⟩
set_option maxHeartbeats 4000000 in
theorem vc_Sy_compileProduct_at_k0_6_0 (kind_0 : Int) (number_0 : Int) (f1 : (kind_0 ≠ 3) ∨ (number_0 ≤ 9999)) (kz_0_6 : 0 ≤ kind_0 ∧ kind_0 ≤ 127) (kz_0_8 : 0 ≤ number_0 ∧ number_0 ≤ 1000000) : (kind_0 ≠ 3) ∨ (number_0 ≤ 9999) := by
  first
    | omega
  
def o_Sy_compileProduct_at_k0_6 : or_T := (65, 15, [(0, (2, 0, 0, [11]))], [(24, [0, 3], []), (20, [3], [50, 2, 0, 6, 8, 3, 7, 7, 3, 2, 0, 6, 0, 3, 0, 3, 2, 0, 8, 0, 9999])], [], [], [(20, [0], [50, 2, 0, 6, 8, 3, 7, 7, 3, 2, 0, 6, 0, 3, 0, 3, 2, 0, 8, 0, 9999])], [], [])
theorem oo_Sy_compileProduct_at_k0_6 {kA : Nat → ClassId} : or_ok PRD kA GG o_Sy_compileProduct_at_k0_6 := by
  refine or_mk fun A ta ws vs hD hth hl => ?_
  intro t0 r0 f0 f1
  replace f0 := shm_5 f0
  replace f1 := shm_1840 f1
  have q3 : n_v vs 3 = n_v vs 0 := f0.symm
  simp only [q3] at f1
  have kz_0_6 := fdq_313 hD hth r0
  have kz_0_8 := fdq_314 hD hth r0
  have nf0 : fc_1 PRD (20, [0], [50, 2, 0, 6, 8, 3, 7, 7, 3, 2, 0, 6, 0, 3, 0, 3, 2, 0, 8, 0, 9999]) ws (vs) := ⟨nf_in hl rfl, sgq_1840 (vc_Sy_compileProduct_at_k0_6_0 (w_fi ws (n_v vs 0) 6) (w_fi ws (n_v vs 0) 8) f1 kz_0_6 kz_0_8)⟩
  refine ⟨(fun _ h => (by cases h)), [], trivial, ?_, (fun _ h => (by cases h))⟩
  rw [List.append_nil]
  exact List.forall_mem_cons.mpr ⟨⟨show (20 : Nat) < 100 from by decide, nf0⟩, (fun _ h => (by cases h))⟩
def n_Sy_compileProduct_at_k0_an : List an_T := [(12, [(0, (2, 0, 0, [11])), (1, (0, 0, 0, [])), (2, (0, 0, 2000, []))], [], (0, 0), [(0, 0, 99988), (1, 5, 2000), (0, 0, 100000)], [], [((0, 3), (2, 0, 0, [109]))], [(2, 0, 0, [11]), (0, 0, 0, []), (2, 0, 0, [109])], 0, [], [(20, [3], [50, 2, 0, 6, 8, 3, 7, 7, 3, 2, 0, 6, 0, 3, 0, 3, 2, 0, 8, 0, 9999]), (24, [0, 3], [])])]
def t_Sy_compileProduct_at_k0_ct : ct_L := [(1, 69, e_Sy_advance), (1, 128, e_Sy_emit), (10, 158, e_Sy_compileValue_at_k0), (178, 158, e_Sy_compileValue_at_k0)]
set_option maxRecDepth 100000 in
theorem c_Sy_compileProduct_at_k0 {l : Launch} {D : va_G} {kA : Nat → ClassId} (h_Sy_advance : ct_ok PRD l D kA GG y_Sy_advance z_Sy_advance e_Sy_advance) (h_Sy_compileValue_at_k0 : ct_ok PRD l D kA GG y_Sy_compileValue_at_k0 z_Sy_compileValue_at_k0 e_Sy_compileValue_at_k0) (h_Sy_emit : ct_ok PRD l D kA GG y_Sy_emit z_Sy_emit e_Sy_emit) : ct_ok PRD l D kA GG y_Sy_compileProduct_at_k0 z_Sy_compileProduct_at_k0 e_Sy_compileProduct_at_k0 := chk_all_ok (FT := [(31, 11, 6)]) (PT := []) (CT := t_Sy_compileProduct_at_k0_ct) (KT := []) (NT := []) (AN := n_Sy_compileProduct_at_k0_an) (OT := [o_Sy_compileProduct_at_k0_0, o_Sy_compileProduct_at_k0_1, o_Sy_compileProduct_at_k0_2, o_Sy_compileProduct_at_k0_3, o_Sy_compileProduct_at_k0_4, o_Sy_compileProduct_at_k0_5, o_Sy_compileProduct_at_k0_6]) 3 268 (List.forall_mem_cons.mpr ⟨oo_Sy_compileProduct_at_k0_0, List.forall_mem_cons.mpr ⟨oo_Sy_compileProduct_at_k0_1, List.forall_mem_cons.mpr ⟨oo_Sy_compileProduct_at_k0_2, List.forall_mem_cons.mpr ⟨oo_Sy_compileProduct_at_k0_3, List.forall_mem_cons.mpr ⟨oo_Sy_compileProduct_at_k0_4, List.forall_mem_cons.mpr ⟨oo_Sy_compileProduct_at_k0_5, List.forall_mem_cons.mpr ⟨oo_Sy_compileProduct_at_k0_6, List.forall_mem_nil _⟩⟩⟩⟩⟩⟩⟩) (by decide +kernel) ⟨List.forall_mem_cons.mpr ⟨gf_Sy_31, List.forall_mem_nil _⟩, List.forall_mem_nil _, List.forall_mem_cons.mpr ⟨cl_virtual (y := y_Sy_advance) (ci := 11) rfl rfl ⟨_, _, rfl⟩ (by decide +kernel) h_Sy_advance wm_2158 wm_23 wm_2155 wm_2157 wv_10_10 ⟨by decide, by decide, by decide +kernel⟩ (by decide), List.forall_mem_cons.mpr ⟨cl_virtual (y := y_Sy_emit) (ci := 11) rfl rfl ⟨_, _, rfl⟩ (by decide +kernel) h_Sy_emit wm_2258 wm_23 wm_2255 wm_2257 wv_11_2 ⟨by decide, by decide, by decide +kernel⟩ (by decide), List.forall_mem_cons.mpr ⟨cl_virtual (y := y_Sy_compileValue_at_k0) (ci := 11) rfl rfl ⟨_, _, rfl⟩ (by decide +kernel) h_Sy_compileValue_at_k0 wm_2274 wm_23 wm_2271 wm_2273 wv_11_6 ⟨by decide, by decide, by decide +kernel⟩ (by decide), List.forall_mem_cons.mpr ⟨cl_virtual (y := y_Sy_compileValue_at_k0) (ci := 11) rfl rfl ⟨_, _, rfl⟩ (by decide +kernel) h_Sy_compileValue_at_k0 wm_2274 wm_23 wm_2271 wm_2273 wv_11_6 ⟨by decide, by decide, by decide +kernel⟩ (by decide), List.forall_mem_nil _⟩⟩⟩⟩, List.forall_mem_nil _, List.forall_mem_nil _, GG_pl⟩ (by decide +kernel)
def o_Sy_compileProduct_at_k1_0 : or_T := (12, 5, [], [], [], [], [(24, [0, 0], [])], [], [])
theorem oo_Sy_compileProduct_at_k1_0 {kA : Nat → ClassId} : or_ok PRD kA GG o_Sy_compileProduct_at_k1_0 := by
  refine or_mk fun A ta ws vs hD hth hl => ?_
  have nf0 : fc_1 PRD (24, [0, 0], []) ws (vs) := by
    refine ⟨nf_in hl rfl, sgq_1 ?_⟩
    · show n_v vs 0 = n_v vs 0
      first | rfl | simp only [true_and]
  refine ⟨(fun _ h => (by cases h)), [], trivial, ?_, (fun _ h => (by cases h))⟩
  rw [List.append_nil]
  exact List.forall_mem_cons.mpr ⟨⟨show (24 : Nat) < 100 from by decide, nf0⟩, (fun _ h => (by cases h))⟩
set_option maxHeartbeats 4000000 in
theorem vc_Sy_compileProduct_at_k1_1_0 (kind_0 : Int) (number_0 : Int) (f0 : (kind_0 ≠ 3) ∨ (number_0 ≤ 9999)) (kz_0_6 : 0 ≤ kind_0 ∧ kind_0 ≤ 127) (kz_0_8 : 0 ≤ number_0 ∧ number_0 ≤ 1000000) : (kind_0 ≠ 3) ∨ (number_0 ≤ 9999) := by
  first
    | omega
  
def o_Sy_compileProduct_at_k1_1 : or_T := (79, 9, [(0, (2, 0, 0, [11]))], [(20, [3], [50, 2, 0, 6, 8, 3, 7, 7, 3, 2, 0, 6, 0, 3, 0, 3, 2, 0, 8, 0, 9999]), (24, [0, 3], [])], [], [], [(20, [0], [50, 2, 0, 6, 8, 3, 7, 7, 3, 2, 0, 6, 0, 3, 0, 3, 2, 0, 8, 0, 9999])], [], [])
theorem oo_Sy_compileProduct_at_k1_1 {kA : Nat → ClassId} : or_ok PRD kA GG o_Sy_compileProduct_at_k1_1 := by
  refine or_mk fun A ta ws vs hD hth hl => ?_
  intro t0 r0 f0 f1
  replace f0 := shm_1840 f0
  replace f1 := shm_5 f1
  have q3 : n_v vs 3 = n_v vs 0 := f1.symm
  simp only [q3] at f0
  have kz_0_6 := fdq_313 hD hth r0
  have kz_0_8 := fdq_314 hD hth r0
  have nf0 : fc_1 PRD (20, [0], [50, 2, 0, 6, 8, 3, 7, 7, 3, 2, 0, 6, 0, 3, 0, 3, 2, 0, 8, 0, 9999]) ws (vs) := ⟨nf_in hl rfl, sgq_1840 (vc_Sy_compileProduct_at_k1_1_0 (w_fi ws (n_v vs 0) 6) (w_fi ws (n_v vs 0) 8) f0 kz_0_6 kz_0_8)⟩
  refine ⟨(fun _ h => (by cases h)), [], trivial, ?_, (fun _ h => (by cases h))⟩
  rw [List.append_nil]
  exact List.forall_mem_cons.mpr ⟨⟨show (20 : Nat) < 100 from by decide, nf0⟩, (fun _ h => (by cases h))⟩
set_option maxHeartbeats 4000000 in
theorem vc_Sy_compileProduct_at_k1_2_0 (x11 : Int) (x13 : Int) (k11 : 4 ≤ x11 ∧ x11 ≤ 4) (k13 : 0 ≤ x13 ∧ x13 ≤ 0) : (0 ≤ x11) ∧ ((0 ≤ x13) ∧ (((x11 * 65536) + x13) ≤ 851970)) := by
  first
    | omega
  
def o_Sy_compileProduct_at_k1_2 : or_T := (69, 14, [(11, (0, 4, 4, [])), (13, (0, 0, 0, []))], [], [], [], [(20, [11, 13], [50, 0, 0, 2, 6, 0, 2, 0, 0, 1, 0, 2, 6, 0, 2, 0, 0, 1, 1, 0, 10, 4, 6, 6, 2, 1, 0, 0, 65536, 1, 1, 0, 851970])], [], [])
theorem oo_Sy_compileProduct_at_k1_2 {kA : Nat → ClassId} : or_ok PRD kA GG o_Sy_compileProduct_at_k1_2 := by
  refine or_mk fun A ta ws vs hD hth hl => ?_
  intro t11 k11 t13 k13
  have nf0 : fc_1 PRD (20, [11, 13], [50, 0, 0, 2, 6, 0, 2, 0, 0, 1, 0, 2, 6, 0, 2, 0, 0, 1, 1, 0, 10, 4, 6, 6, 2, 1, 0, 0, 65536, 1, 1, 0, 851970]) ws (vs) := ⟨nf_in hl rfl, sgq_493 (vc_Sy_compileProduct_at_k1_2_0 (v_iv (n_v vs 11)) (v_iv (n_v vs 13)) k11 k13)⟩
  refine ⟨(fun _ h => (by cases h)), [], trivial, ?_, (fun _ h => (by cases h))⟩
  rw [List.append_nil]
  exact List.forall_mem_cons.mpr ⟨⟨show (20 : Nat) < 100 from by decide, nf0⟩, (fun _ h => (by cases h))⟩
set_option maxHeartbeats 4000000 in
theorem vc_Sy_compileProduct_at_k1_3_0 (kind_0 : Int) (number_0 : Int) (f1 : (kind_0 ≠ 3) ∨ (number_0 ≤ 9999)) (kz_0_6 : 0 ≤ kind_0 ∧ kind_0 ≤ 127) (kz_0_8 : 0 ≤ number_0 ∧ number_0 ≤ 1000000) : (kind_0 ≠ 3) ∨ (number_0 ≤ 9999) := by
  first
    | omega
  
def o_Sy_compileProduct_at_k1_3 : or_T := (65, 14, [(0, (2, 0, 0, [11]))], [(24, [0, 3], []), (20, [3], [50, 2, 0, 6, 8, 3, 7, 7, 3, 2, 0, 6, 0, 3, 0, 3, 2, 0, 8, 0, 9999])], [], [], [(20, [0], [50, 2, 0, 6, 8, 3, 7, 7, 3, 2, 0, 6, 0, 3, 0, 3, 2, 0, 8, 0, 9999])], [], [])
theorem oo_Sy_compileProduct_at_k1_3 {kA : Nat → ClassId} : or_ok PRD kA GG o_Sy_compileProduct_at_k1_3 := by
  refine or_mk fun A ta ws vs hD hth hl => ?_
  intro t0 r0 f0 f1
  replace f0 := shm_5 f0
  replace f1 := shm_1840 f1
  have q3 : n_v vs 3 = n_v vs 0 := f0.symm
  simp only [q3] at f1
  have kz_0_6 := fdq_313 hD hth r0
  have kz_0_8 := fdq_314 hD hth r0
  have nf0 : fc_1 PRD (20, [0], [50, 2, 0, 6, 8, 3, 7, 7, 3, 2, 0, 6, 0, 3, 0, 3, 2, 0, 8, 0, 9999]) ws (vs) := ⟨nf_in hl rfl, sgq_1840 (vc_Sy_compileProduct_at_k1_3_0 (w_fi ws (n_v vs 0) 6) (w_fi ws (n_v vs 0) 8) f1 kz_0_6 kz_0_8)⟩
  refine ⟨(fun _ h => (by cases h)), [], trivial, ?_, (fun _ h => (by cases h))⟩
  rw [List.append_nil]
  exact List.forall_mem_cons.mpr ⟨⟨show (20 : Nat) < 100 from by decide, nf0⟩, (fun _ h => (by cases h))⟩
set_option maxHeartbeats 4000000 in
theorem vc_Sy_compileProduct_at_k1_4_0 (kind_0 : Int) (number_0 : Int) (f3 : (kind_0 ≠ 3) ∨ (number_0 ≤ 9999)) (kz_0_6 : 0 ≤ kind_0 ∧ kind_0 ≤ 127) (kz_0_8 : 0 ≤ number_0 ∧ number_0 ≤ 1000000) : (kind_0 ≠ 3) ∨ (number_0 ≤ 9999) := by
  first
    | omega
  
def o_Sy_compileProduct_at_k1_4 : or_T := (79, 12, [(0, (2, 0, 0, [11]))], [(20, [3], [50, 2, 0, 6, 8, 3, 7, 7, 3, 2, 0, 6, 0, 3, 0, 3, 2, 0, 8, 0, 9999]), (24, [0, 3], [])], [], [], [(20, [0], [50, 2, 0, 6, 8, 3, 7, 7, 3, 2, 0, 6, 0, 3, 0, 3, 2, 0, 8, 0, 9999])], [], [])
theorem oo_Sy_compileProduct_at_k1_4 {kA : Nat → ClassId} : or_ok PRD kA GG o_Sy_compileProduct_at_k1_4 := by
  refine or_mk fun A ta ws vs hD hth hl => ?_
  intro t0 r0 f3 f4
  replace f3 := shm_1840 f3
  replace f4 := shm_5 f4
  have q3 : n_v vs 3 = n_v vs 0 := f4.symm
  simp only [q3] at f3
  have kz_0_6 := fdq_313 hD hth r0
  have kz_0_8 := fdq_314 hD hth r0
  have nf0 : fc_1 PRD (20, [0], [50, 2, 0, 6, 8, 3, 7, 7, 3, 2, 0, 6, 0, 3, 0, 3, 2, 0, 8, 0, 9999]) ws (vs) := ⟨nf_in hl rfl, sgq_1840 (vc_Sy_compileProduct_at_k1_4_0 (w_fi ws (n_v vs 0) 6) (w_fi ws (n_v vs 0) 8) f3 kz_0_6 kz_0_8)⟩
  refine ⟨(fun _ h => (by cases h)), [], trivial, ?_, (fun _ h => (by cases h))⟩
  rw [List.append_nil]
  exact List.forall_mem_cons.mpr ⟨⟨show (20 : Nat) < 100 from by decide, nf0⟩, (fun _ h => (by cases h))⟩
set_option maxHeartbeats 4000000 in
theorem vc_Sy_compileProduct_at_k1_5_0 (x12 : Int) (x14 : Int) (k12 : 5 ≤ x12 ∧ x12 ≤ 5) (k14 : 0 ≤ x14 ∧ x14 ≤ 0) : (0 ≤ x12) ∧ ((0 ≤ x14) ∧ (((x12 * 65536) + x14) ≤ 851970)) := by
  first
    | omega
  
def o_Sy_compileProduct_at_k1_5 : or_T := (69, 15, [(12, (0, 5, 5, [])), (14, (0, 0, 0, []))], [], [], [], [(20, [12, 14], [50, 0, 0, 2, 6, 0, 2, 0, 0, 1, 0, 2, 6, 0, 2, 0, 0, 1, 1, 0, 10, 4, 6, 6, 2, 1, 0, 0, 65536, 1, 1, 0, 851970])], [], [])
theorem oo_Sy_compileProduct_at_k1_5 {kA : Nat → ClassId} : or_ok PRD kA GG o_Sy_compileProduct_at_k1_5 := by
  refine or_mk fun A ta ws vs hD hth hl => ?_
  intro t12 k12 t14 k14
  have nf0 : fc_1 PRD (20, [12, 14], [50, 0, 0, 2, 6, 0, 2, 0, 0, 1, 0, 2, 6, 0, 2, 0, 0, 1, 1, 0, 10, 4, 6, 6, 2, 1, 0, 0, 65536, 1, 1, 0, 851970]) ws (vs) := ⟨nf_in hl rfl, sgq_493 (vc_Sy_compileProduct_at_k1_5_0 (v_iv (n_v vs 12)) (v_iv (n_v vs 14)) k12 k14)⟩
  refine ⟨(fun _ h => (by cases h)), [], trivial, ?_, (fun _ h => (by cases h))⟩
  rw [List.append_nil]
  exact List.forall_mem_cons.mpr ⟨⟨show (20 : Nat) < 100 from by decide, nf0⟩, (fun _ h => (by cases h))⟩
set_option maxHeartbeats 4000000 in
theorem vc_Sy_compileProduct_at_k1_6_0 (kind_0 : Int) (number_0 : Int) (f1 : (kind_0 ≠ 3) ∨ (number_0 ≤ 9999)) (kz_0_6 : 0 ≤ kind_0 ∧ kind_0 ≤ 127) (kz_0_8 : 0 ≤ number_0 ∧ number_0 ≤ 1000000) : (kind_0 ≠ 3) ∨ (number_0 ≤ 9999) := by
  first
    | omega
  
def o_Sy_compileProduct_at_k1_6 : or_T := (65, 15, [(0, (2, 0, 0, [11]))], [(24, [0, 3], []), (20, [3], [50, 2, 0, 6, 8, 3, 7, 7, 3, 2, 0, 6, 0, 3, 0, 3, 2, 0, 8, 0, 9999])], [], [], [(20, [0], [50, 2, 0, 6, 8, 3, 7, 7, 3, 2, 0, 6, 0, 3, 0, 3, 2, 0, 8, 0, 9999])], [], [])
theorem oo_Sy_compileProduct_at_k1_6 {kA : Nat → ClassId} : or_ok PRD kA GG o_Sy_compileProduct_at_k1_6 := by
  refine or_mk fun A ta ws vs hD hth hl => ?_
  intro t0 r0 f0 f1
  replace f0 := shm_5 f0
  replace f1 := shm_1840 f1
  have q3 : n_v vs 3 = n_v vs 0 := f0.symm
  simp only [q3] at f1
  have kz_0_6 := fdq_313 hD hth r0
  have kz_0_8 := fdq_314 hD hth r0
  have nf0 : fc_1 PRD (20, [0], [50, 2, 0, 6, 8, 3, 7, 7, 3, 2, 0, 6, 0, 3, 0, 3, 2, 0, 8, 0, 9999]) ws (vs) := ⟨nf_in hl rfl, sgq_1840 (vc_Sy_compileProduct_at_k1_6_0 (w_fi ws (n_v vs 0) 6) (w_fi ws (n_v vs 0) 8) f1 kz_0_6 kz_0_8)⟩
  refine ⟨(fun _ h => (by cases h)), [], trivial, ?_, (fun _ h => (by cases h))⟩
  rw [List.append_nil]
  exact List.forall_mem_cons.mpr ⟨⟨show (20 : Nat) < 100 from by decide, nf0⟩, (fun _ h => (by cases h))⟩
def n_Sy_compileProduct_at_k1_an : List an_T := [(12, [(0, (2, 0, 0, [11])), (1, (0, 1, 1, [])), (2, (0, 0, 2000, []))], [], (0, 0), [(0, 0, 99988), (1, 5, 2000), (0, 0, 100000)], [], [((0, 3), (2, 0, 0, [109]))], [(2, 0, 0, [11]), (0, 1, 1, []), (2, 0, 0, [109])], 0, [], [(20, [3], [50, 2, 0, 6, 8, 3, 7, 7, 3, 2, 0, 6, 0, 3, 0, 3, 2, 0, 8, 0, 9999]), (24, [0, 3], [])])]
def t_Sy_compileProduct_at_k1_ct : ct_L := [(1, 69, e_Sy_advance), (1, 128, e_Sy_emit), (10, 158, e_Sy_compileValue_at_k1), (178, 158, e_Sy_compileValue_at_k1)]
set_option maxRecDepth 100000 in
theorem c_Sy_compileProduct_at_k1 {l : Launch} {D : va_G} {kA : Nat → ClassId} (h_Sy_advance : ct_ok PRD l D kA GG y_Sy_advance z_Sy_advance e_Sy_advance) (h_Sy_compileValue_at_k1 : ct_ok PRD l D kA GG y_Sy_compileValue_at_k1 z_Sy_compileValue_at_k1 e_Sy_compileValue_at_k1) (h_Sy_emit : ct_ok PRD l D kA GG y_Sy_emit z_Sy_emit e_Sy_emit) : ct_ok PRD l D kA GG y_Sy_compileProduct_at_k1 z_Sy_compileProduct_at_k1 e_Sy_compileProduct_at_k1 := chk_all_ok (FT := [(31, 11, 6)]) (PT := []) (CT := t_Sy_compileProduct_at_k1_ct) (KT := []) (NT := []) (AN := n_Sy_compileProduct_at_k1_an) (OT := [o_Sy_compileProduct_at_k1_0, o_Sy_compileProduct_at_k1_1, o_Sy_compileProduct_at_k1_2, o_Sy_compileProduct_at_k1_3, o_Sy_compileProduct_at_k1_4, o_Sy_compileProduct_at_k1_5, o_Sy_compileProduct_at_k1_6]) 3 268 (List.forall_mem_cons.mpr ⟨oo_Sy_compileProduct_at_k1_0, List.forall_mem_cons.mpr ⟨oo_Sy_compileProduct_at_k1_1, List.forall_mem_cons.mpr ⟨oo_Sy_compileProduct_at_k1_2, List.forall_mem_cons.mpr ⟨oo_Sy_compileProduct_at_k1_3, List.forall_mem_cons.mpr ⟨oo_Sy_compileProduct_at_k1_4, List.forall_mem_cons.mpr ⟨oo_Sy_compileProduct_at_k1_5, List.forall_mem_cons.mpr ⟨oo_Sy_compileProduct_at_k1_6, List.forall_mem_nil _⟩⟩⟩⟩⟩⟩⟩) (by decide +kernel) ⟨List.forall_mem_cons.mpr ⟨gf_Sy_31, List.forall_mem_nil _⟩, List.forall_mem_nil _, List.forall_mem_cons.mpr ⟨cl_virtual (y := y_Sy_advance) (ci := 11) rfl rfl ⟨_, _, rfl⟩ (by decide +kernel) h_Sy_advance wm_2158 wm_23 wm_2155 wm_2157 wv_10_10 ⟨by decide, by decide, by decide +kernel⟩ (by decide), List.forall_mem_cons.mpr ⟨cl_virtual (y := y_Sy_emit) (ci := 11) rfl rfl ⟨_, _, rfl⟩ (by decide +kernel) h_Sy_emit wm_2258 wm_23 wm_2255 wm_2257 wv_11_2 ⟨by decide, by decide, by decide +kernel⟩ (by decide), List.forall_mem_cons.mpr ⟨cl_virtual (y := y_Sy_compileValue_at_k1) (ci := 11) rfl rfl ⟨_, _, rfl⟩ (by decide +kernel) h_Sy_compileValue_at_k1 wm_2274 wm_23 wm_2271 wm_2273 wv_11_6 ⟨by decide, by decide, by decide +kernel⟩ (by decide), List.forall_mem_cons.mpr ⟨cl_virtual (y := y_Sy_compileValue_at_k1) (ci := 11) rfl rfl ⟨_, _, rfl⟩ (by decide +kernel) h_Sy_compileValue_at_k1 wm_2274 wm_23 wm_2271 wm_2273 wv_11_6 ⟨by decide, by decide, by decide +kernel⟩ (by decide), List.forall_mem_nil _⟩⟩⟩⟩, List.forall_mem_nil _, List.forall_mem_nil _, GG_pl⟩ (by decide +kernel)

def o_Sy_compileProduct_at_k10_0 : or_T := (12, 5, [], [], [], [], [(24, [0, 0], [])], [], [])
theorem oo_Sy_compileProduct_at_k10_0 {kA : Nat → ClassId} : or_ok PRD kA GG o_Sy_compileProduct_at_k10_0 := by
  refine or_mk fun A ta ws vs hD hth hl => ?_
  have nf0 : fc_1 PRD (24, [0, 0], []) ws (vs) := by
    refine ⟨nf_in hl rfl, sgq_1 ?_⟩
    · show n_v vs 0 = n_v vs 0
      first | rfl | simp only [true_and]
  refine ⟨(fun _ h => (by cases h)), [], trivial, ?_, (fun _ h => (by cases h))⟩
  rw [List.append_nil]
  exact List.forall_mem_cons.mpr ⟨⟨show (24 : Nat) < 100 from by decide, nf0⟩, (fun _ h => (by cases h))⟩
set_option maxHeartbeats 4000000 in
theorem vc_Sy_compileProduct_at_k10_1_0 (kind_0 : Int) (number_0 : Int) (f0 : (kind_0 ≠ 3) ∨ (number_0 ≤ 9999)) (kz_0_6 : 0 ≤ kind_0 ∧ kind_0 ≤ 127) (kz_0_8 : 0 ≤ number_0 ∧ number_0 ≤ 1000000) : (kind_0 ≠ 3) ∨ (number_0 ≤ 9999) := by
  first
    | omega
  
def o_Sy_compileProduct_at_k10_1 : or_T := (79, 9, [(0, (2, 0, 0, [11]))], [(20, [3], [50, 2, 0, 6, 8, 3, 7, 7, 3, 2, 0, 6, 0, 3, 0, 3, 2, 0, 8, 0, 9999]), (24, [0, 3], [])], [], [], [(20, [0], [50, 2, 0, 6, 8, 3, 7, 7, 3, 2, 0, 6, 0, 3, 0, 3, 2, 0, 8, 0, 9999])], [], [])
theorem oo_Sy_compileProduct_at_k10_1 {kA : Nat → ClassId} : or_ok PRD kA GG o_Sy_compileProduct_at_k10_1 := by
  refine or_mk fun A ta ws vs hD hth hl => ?_
  intro t0 r0 f0 f1
  replace f0 := shm_1840 f0
  replace f1 := shm_5 f1
  have q3 : n_v vs 3 = n_v vs 0 := f1.symm
  simp only [q3] at f0
  have kz_0_6 := fdq_313 hD hth r0
  have kz_0_8 := fdq_314 hD hth r0
  have nf0 : fc_1 PRD (20, [0], [50, 2, 0, 6, 8, 3, 7, 7, 3, 2, 0, 6, 0, 3, 0, 3, 2, 0, 8, 0, 9999]) ws (vs) := ⟨nf_in hl rfl, sgq_1840 (vc_Sy_compileProduct_at_k10_1_0 (w_fi ws (n_v vs 0) 6) (w_fi ws (n_v vs 0) 8) f0 kz_0_6 kz_0_8)⟩
  refine ⟨(fun _ h => (by cases h)), [], trivial, ?_, (fun _ h => (by cases h))⟩
  rw [List.append_nil]
  exact List.forall_mem_cons.mpr ⟨⟨show (20 : Nat) < 100 from by decide, nf0⟩, (fun _ h => (by cases h))⟩
set_option maxHeartbeats 4000000 in
theorem vc_Sy_compileProduct_at_k10_2_0 (x11 : Int) (x13 : Int) (k11 : 4 ≤ x11 ∧ x11 ≤ 4) (k13 : 0 ≤ x13 ∧ x13 ≤ 0) : (0 ≤ x11) ∧ ((0 ≤ x13) ∧ (((x11 * 65536) + x13) ≤ 851970)) := by
  first
    | omega
  
def o_Sy_compileProduct_at_k10_2 : or_T := (69, 14, [(11, (0, 4, 4, [])), (13, (0, 0, 0, []))], [], [], [], [(20, [11, 13], [50, 0, 0, 2, 6, 0, 2, 0, 0, 1, 0, 2, 6, 0, 2, 0, 0, 1, 1, 0, 10, 4, 6, 6, 2, 1, 0, 0, 65536, 1, 1, 0, 851970])], [], [])
theorem oo_Sy_compileProduct_at_k10_2 {kA : Nat → ClassId} : or_ok PRD kA GG o_Sy_compileProduct_at_k10_2 := by
  refine or_mk fun A ta ws vs hD hth hl => ?_
  intro t11 k11 t13 k13
  have nf0 : fc_1 PRD (20, [11, 13], [50, 0, 0, 2, 6, 0, 2, 0, 0, 1, 0, 2, 6, 0, 2, 0, 0, 1, 1, 0, 10, 4, 6, 6, 2, 1, 0, 0, 65536, 1, 1, 0, 851970]) ws (vs) := ⟨nf_in hl rfl, sgq_493 (vc_Sy_compileProduct_at_k10_2_0 (v_iv (n_v vs 11)) (v_iv (n_v vs 13)) k11 k13)⟩
  refine ⟨(fun _ h => (by cases h)), [], trivial, ?_, (fun _ h => (by cases h))⟩
  rw [List.append_nil]
  exact List.forall_mem_cons.mpr ⟨⟨show (20 : Nat) < 100 from by decide, nf0⟩, (fun _ h => (by cases h))⟩
set_option maxHeartbeats 4000000 in
theorem vc_Sy_compileProduct_at_k10_3_0 (kind_0 : Int) (number_0 : Int) (f1 : (kind_0 ≠ 3) ∨ (number_0 ≤ 9999)) (kz_0_6 : 0 ≤ kind_0 ∧ kind_0 ≤ 127) (kz_0_8 : 0 ≤ number_0 ∧ number_0 ≤ 1000000) : (kind_0 ≠ 3) ∨ (number_0 ≤ 9999) := by
  first
    | omega
  
def o_Sy_compileProduct_at_k10_3 : or_T := (65, 14, [(0, (2, 0, 0, [11]))], [(24, [0, 3], []), (20, [3], [50, 2, 0, 6, 8, 3, 7, 7, 3, 2, 0, 6, 0, 3, 0, 3, 2, 0, 8, 0, 9999])], [], [], [(20, [0], [50, 2, 0, 6, 8, 3, 7, 7, 3, 2, 0, 6, 0, 3, 0, 3, 2, 0, 8, 0, 9999])], [], [])
theorem oo_Sy_compileProduct_at_k10_3 {kA : Nat → ClassId} : or_ok PRD kA GG o_Sy_compileProduct_at_k10_3 := by
  refine or_mk fun A ta ws vs hD hth hl => ?_
  intro t0 r0 f0 f1
  replace f0 := shm_5 f0
  replace f1 := shm_1840 f1
  have q3 : n_v vs 3 = n_v vs 0 := f0.symm
  simp only [q3] at f1
  have kz_0_6 := fdq_313 hD hth r0
  have kz_0_8 := fdq_314 hD hth r0
  have nf0 : fc_1 PRD (20, [0], [50, 2, 0, 6, 8, 3, 7, 7, 3, 2, 0, 6, 0, 3, 0, 3, 2, 0, 8, 0, 9999]) ws (vs) := ⟨nf_in hl rfl, sgq_1840 (vc_Sy_compileProduct_at_k10_3_0 (w_fi ws (n_v vs 0) 6) (w_fi ws (n_v vs 0) 8) f1 kz_0_6 kz_0_8)⟩
  refine ⟨(fun _ h => (by cases h)), [], trivial, ?_, (fun _ h => (by cases h))⟩
  rw [List.append_nil]
  exact List.forall_mem_cons.mpr ⟨⟨show (20 : Nat) < 100 from by decide, nf0⟩, (fun _ h => (by cases h))⟩
set_option maxHeartbeats 4000000 in
theorem vc_Sy_compileProduct_at_k10_4_0 (kind_0 : Int) (number_0 : Int) (f3 : (kind_0 ≠ 3) ∨ (number_0 ≤ 9999)) (kz_0_6 : 0 ≤ kind_0 ∧ kind_0 ≤ 127) (kz_0_8 : 0 ≤ number_0 ∧ number_0 ≤ 1000000) : (kind_0 ≠ 3) ∨ (number_0 ≤ 9999) := by
  first
    | omega
  
def o_Sy_compileProduct_at_k10_4 : or_T := (79, 12, [(0, (2, 0, 0, [11]))], [(20, [3], [50, 2, 0, 6, 8, 3, 7, 7, 3, 2, 0, 6, 0, 3, 0, 3, 2, 0, 8, 0, 9999]), (24, [0, 3], [])], [], [], [(20, [0], [50, 2, 0, 6, 8, 3, 7, 7, 3, 2, 0, 6, 0, 3, 0, 3, 2, 0, 8, 0, 9999])], [], [])
theorem oo_Sy_compileProduct_at_k10_4 {kA : Nat → ClassId} : or_ok PRD kA GG o_Sy_compileProduct_at_k10_4 := by
  refine or_mk fun A ta ws vs hD hth hl => ?_
  intro t0 r0 f3 f4
  replace f3 := shm_1840 f3
  replace f4 := shm_5 f4
  have q3 : n_v vs 3 = n_v vs 0 := f4.symm
  simp only [q3] at f3
  have kz_0_6 := fdq_313 hD hth r0
  have kz_0_8 := fdq_314 hD hth r0
  have nf0 : fc_1 PRD (20, [0], [50, 2, 0, 6, 8, 3, 7, 7, 3, 2, 0, 6, 0, 3, 0, 3, 2, 0, 8, 0, 9999]) ws (vs) := ⟨nf_in hl rfl, sgq_1840 (vc_Sy_compileProduct_at_k10_4_0 (w_fi ws (n_v vs 0) 6) (w_fi ws (n_v vs 0) 8) f3 kz_0_6 kz_0_8)⟩
  refine ⟨(fun _ h => (by cases h)), [], trivial, ?_, (fun _ h => (by cases h))⟩
  rw [List.append_nil]
  exact List.forall_mem_cons.mpr ⟨⟨show (20 : Nat) < 100 from by decide, nf0⟩, (fun _ h => (by cases h))⟩
set_option maxHeartbeats 4000000 in
theorem vc_Sy_compileProduct_at_k10_5_0 (x12 : Int) (x14 : Int) (k12 : 5 ≤ x12 ∧ x12 ≤ 5) (k14 : 0 ≤ x14 ∧ x14 ≤ 0) : (0 ≤ x12) ∧ ((0 ≤ x14) ∧ (((x12 * 65536) + x14) ≤ 851970)) := by
  first
    | omega
  
def o_Sy_compileProduct_at_k10_5 : or_T := (69, 15, [(12, (0, 5, 5, [])), (14, (0, 0, 0, []))], [], [], [], [(20, [12, 14], [50, 0, 0, 2, 6, 0, 2, 0, 0, 1, 0, 2, 6, 0, 2, 0, 0, 1, 1, 0, 10, 4, 6, 6, 2, 1, 0, 0, 65536, 1, 1, 0, 851970])], [], [])
theorem oo_Sy_compileProduct_at_k10_5 {kA : Nat → ClassId} : or_ok PRD kA GG o_Sy_compileProduct_at_k10_5 := by
  refine or_mk fun A ta ws vs hD hth hl => ?_
  intro t12 k12 t14 k14
  have nf0 : fc_1 PRD (20, [12, 14], [50, 0, 0, 2, 6, 0, 2, 0, 0, 1, 0, 2, 6, 0, 2, 0, 0, 1, 1, 0, 10, 4, 6, 6, 2, 1, 0, 0, 65536, 1, 1, 0, 851970]) ws (vs) := ⟨nf_in hl rfl, sgq_493 (vc_Sy_compileProduct_at_k10_5_0 (v_iv (n_v vs 12)) (v_iv (n_v vs 14)) k12 k14)⟩
  refine ⟨(fun _ h => (by cases h)), [], trivial, ?_, (fun _ h => (by cases h))⟩
  rw [List.append_nil]
  exact List.forall_mem_cons.mpr ⟨⟨show (20 : Nat) < 100 from by decide, nf0⟩, (fun _ h => (by cases h))⟩
set_option maxHeartbeats 4000000 in
theorem vc_Sy_compileProduct_at_k10_6_0 (kind_0 : Int) (number_0 : Int) (f1 : (kind_0 ≠ 3) ∨ (number_0 ≤ 9999)) (kz_0_6 : 0 ≤ kind_0 ∧ kind_0 ≤ 127) (kz_0_8 : 0 ≤ number_0 ∧ number_0 ≤ 1000000) : (kind_0 ≠ 3) ∨ (number_0 ≤ 9999) := by
  first
    | omega
  
def o_Sy_compileProduct_at_k10_6 : or_T := (65, 15, [(0, (2, 0, 0, [11]))], [(24, [0, 3], []), (20, [3], [50, 2, 0, 6, 8, 3, 7, 7, 3, 2, 0, 6, 0, 3, 0, 3, 2, 0, 8, 0, 9999])], [], [], [(20, [0], [50, 2, 0, 6, 8, 3, 7, 7, 3, 2, 0, 6, 0, 3, 0, 3, 2, 0, 8, 0, 9999])], [], [])
theorem oo_Sy_compileProduct_at_k10_6 {kA : Nat → ClassId} : or_ok PRD kA GG o_Sy_compileProduct_at_k10_6 := by
  refine or_mk fun A ta ws vs hD hth hl => ?_
  intro t0 r0 f0 f1
  replace f0 := shm_5 f0
  replace f1 := shm_1840 f1
  have q3 : n_v vs 3 = n_v vs 0 := f0.symm
  simp only [q3] at f1
  have kz_0_6 := fdq_313 hD hth r0
  have kz_0_8 := fdq_314 hD hth r0
  have nf0 : fc_1 PRD (20, [0], [50, 2, 0, 6, 8, 3, 7, 7, 3, 2, 0, 6, 0, 3, 0, 3, 2, 0, 8, 0, 9999]) ws (vs) := ⟨nf_in hl rfl, sgq_1840 (vc_Sy_compileProduct_at_k10_6_0 (w_fi ws (n_v vs 0) 6) (w_fi ws (n_v vs 0) 8) f1 kz_0_6 kz_0_8)⟩
  refine ⟨(fun _ h => (by cases h)), [], trivial, ?_, (fun _ h => (by cases h))⟩
  rw [List.append_nil]
  exact List.forall_mem_cons.mpr ⟨⟨show (20 : Nat) < 100 from by decide, nf0⟩, (fun _ h => (by cases h))⟩
def n_Sy_compileProduct_at_k10_an : List an_T := [(12, [(0, (2, 0, 0, [11])), (1, (0, 10, 10, [])), (2, (0, 0, 2000, []))], [], (0, 0), [(0, 0, 99988), (1, 5, 2000), (0, 0, 100000)], [], [((0, 3), (2, 0, 0, [109]))], [(2, 0, 0, [11]), (0, 10, 10, []), (2, 0, 0, [109])], 0, [], [(20, [3], [50, 2, 0, 6, 8, 3, 7, 7, 3, 2, 0, 6, 0, 3, 0, 3, 2, 0, 8, 0, 9999]), (24, [0, 3], [])])]
def t_Sy_compileProduct_at_k10_ct : ct_L := [(1, 69, e_Sy_advance), (1, 128, e_Sy_emit), (10, 158, e_Sy_compileValue_at_k10), (178, 158, e_Sy_compileValue_at_k10)]
set_option maxRecDepth 100000 in
theorem c_Sy_compileProduct_at_k10 {l : Launch} {D : va_G} {kA : Nat → ClassId} (h_Sy_advance : ct_ok PRD l D kA GG y_Sy_advance z_Sy_advance e_Sy_advance) (h_Sy_compileValue_at_k10 : ct_ok PRD l D kA GG y_Sy_compileValue_at_k10 z_Sy_compileValue_at_k10 e_Sy_compileValue_at_k10) (h_Sy_emit : ct_ok PRD l D kA GG y_Sy_emit z_Sy_emit e_Sy_emit) : ct_ok PRD l D kA GG y_Sy_compileProduct_at_k10 z_Sy_compileProduct_at_k10 e_Sy_compileProduct_at_k10 := chk_all_ok (FT := [(31, 11, 6)]) (PT := []) (CT := t_Sy_compileProduct_at_k10_ct) (KT := []) (NT := []) (AN := n_Sy_compileProduct_at_k10_an) (OT := [o_Sy_compileProduct_at_k10_0, o_Sy_compileProduct_at_k10_1, o_Sy_compileProduct_at_k10_2, o_Sy_compileProduct_at_k10_3, o_Sy_compileProduct_at_k10_4, o_Sy_compileProduct_at_k10_5, o_Sy_compileProduct_at_k10_6]) 3 268 (List.forall_mem_cons.mpr ⟨oo_Sy_compileProduct_at_k10_0, List.forall_mem_cons.mpr ⟨oo_Sy_compileProduct_at_k10_1, List.forall_mem_cons.mpr ⟨oo_Sy_compileProduct_at_k10_2, List.forall_mem_cons.mpr ⟨oo_Sy_compileProduct_at_k10_3, List.forall_mem_cons.mpr ⟨oo_Sy_compileProduct_at_k10_4, List.forall_mem_cons.mpr ⟨oo_Sy_compileProduct_at_k10_5, List.forall_mem_cons.mpr ⟨oo_Sy_compileProduct_at_k10_6, List.forall_mem_nil _⟩⟩⟩⟩⟩⟩⟩) (by decide +kernel) ⟨List.forall_mem_cons.mpr ⟨gf_Sy_31, List.forall_mem_nil _⟩, List.forall_mem_nil _, List.forall_mem_cons.mpr ⟨cl_virtual (y := y_Sy_advance) (ci := 11) rfl rfl ⟨_, _, rfl⟩ (by decide +kernel) h_Sy_advance wm_2158 wm_23 wm_2155 wm_2157 wv_10_10 ⟨by decide, by decide, by decide +kernel⟩ (by decide), List.forall_mem_cons.mpr ⟨cl_virtual (y := y_Sy_emit) (ci := 11) rfl rfl ⟨_, _, rfl⟩ (by decide +kernel) h_Sy_emit wm_2258 wm_23 wm_2255 wm_2257 wv_11_2 ⟨by decide, by decide, by decide +kernel⟩ (by decide), List.forall_mem_cons.mpr ⟨cl_virtual (y := y_Sy_compileValue_at_k10) (ci := 11) rfl rfl ⟨_, _, rfl⟩ (by decide +kernel) h_Sy_compileValue_at_k10 wm_2274 wm_23 wm_2271 wm_2273 wv_11_6 ⟨by decide, by decide, by decide +kernel⟩ (by decide), List.forall_mem_cons.mpr ⟨cl_virtual (y := y_Sy_compileValue_at_k10) (ci := 11) rfl rfl ⟨_, _, rfl⟩ (by decide +kernel) h_Sy_compileValue_at_k10 wm_2274 wm_23 wm_2271 wm_2273 wv_11_6 ⟨by decide, by decide, by decide +kernel⟩ (by decide), List.forall_mem_nil _⟩⟩⟩⟩, List.forall_mem_nil _, List.forall_mem_nil _, GG_pl⟩ (by decide +kernel)
def o_Sy_compileProduct_at_k11_0 : or_T := (12, 5, [], [], [], [], [(24, [0, 0], [])], [], [])
theorem oo_Sy_compileProduct_at_k11_0 {kA : Nat → ClassId} : or_ok PRD kA GG o_Sy_compileProduct_at_k11_0 := by
  refine or_mk fun A ta ws vs hD hth hl => ?_
  have nf0 : fc_1 PRD (24, [0, 0], []) ws (vs) := by
    refine ⟨nf_in hl rfl, sgq_1 ?_⟩
    · show n_v vs 0 = n_v vs 0
      first | rfl | simp only [true_and]
  refine ⟨(fun _ h => (by cases h)), [], trivial, ?_, (fun _ h => (by cases h))⟩
  rw [List.append_nil]
  exact List.forall_mem_cons.mpr ⟨⟨show (24 : Nat) < 100 from by decide, nf0⟩, (fun _ h => (by cases h))⟩
set_option maxHeartbeats 4000000 in
theorem vc_Sy_compileProduct_at_k11_1_0 (kind_0 : Int) (number_0 : Int) (f0 : (kind_0 ≠ 3) ∨ (number_0 ≤ 9999)) (kz_0_6 : 0 ≤ kind_0 ∧ kind_0 ≤ 127) (kz_0_8 : 0 ≤ number_0 ∧ number_0 ≤ 1000000) : (kind_0 ≠ 3) ∨ (number_0 ≤ 9999) := by
  first
    | omega
  
def o_Sy_compileProduct_at_k11_1 : or_T := (79, 9, [(0, (2, 0, 0, [11]))], [(20, [3], [50, 2, 0, 6, 8, 3, 7, 7, 3, 2, 0, 6, 0, 3, 0, 3, 2, 0, 8, 0, 9999]), (24, [0, 3], [])], [], [], [(20, [0], [50, 2, 0, 6, 8, 3, 7, 7, 3, 2, 0, 6, 0, 3, 0, 3, 2, 0, 8, 0, 9999])], [], [])
theorem oo_Sy_compileProduct_at_k11_1 {kA : Nat → ClassId} : or_ok PRD kA GG o_Sy_compileProduct_at_k11_1 := by
  refine or_mk fun A ta ws vs hD hth hl => ?_
  intro t0 r0 f0 f1
  replace f0 := shm_1840 f0
  replace f1 := shm_5 f1
  have q3 : n_v vs 3 = n_v vs 0 := f1.symm
  simp only [q3] at f0
  have kz_0_6 := fdq_313 hD hth r0
  have kz_0_8 := fdq_314 hD hth r0
  have nf0 : fc_1 PRD (20, [0], [50, 2, 0, 6, 8, 3, 7, 7, 3, 2, 0, 6, 0, 3, 0, 3, 2, 0, 8, 0, 9999]) ws (vs) := ⟨nf_in hl rfl, sgq_1840 (vc_Sy_compileProduct_at_k11_1_0 (w_fi ws (n_v vs 0) 6) (w_fi ws (n_v vs 0) 8) f0 kz_0_6 kz_0_8)⟩
  refine ⟨(fun _ h => (by cases h)), [], trivial, ?_, (fun _ h => (by cases h))⟩
  rw [List.append_nil]
  exact List.forall_mem_cons.mpr ⟨⟨show (20 : Nat) < 100 from by decide, nf0⟩, (fun _ h => (by cases h))⟩
set_option maxHeartbeats 4000000 in
theorem vc_Sy_compileProduct_at_k11_2_0 (x11 : Int) (x13 : Int) (k11 : 4 ≤ x11 ∧ x11 ≤ 4) (k13 : 0 ≤ x13 ∧ x13 ≤ 0) : (0 ≤ x11) ∧ ((0 ≤ x13) ∧ (((x11 * 65536) + x13) ≤ 851970)) := by
  first
    | omega
  
def o_Sy_compileProduct_at_k11_2 : or_T := (69, 14, [(11, (0, 4, 4, [])), (13, (0, 0, 0, []))], [], [], [], [(20, [11, 13], [50, 0, 0, 2, 6, 0, 2, 0, 0, 1, 0, 2, 6, 0, 2, 0, 0, 1, 1, 0, 10, 4, 6, 6, 2, 1, 0, 0, 65536, 1, 1, 0, 851970])], [], [])
theorem oo_Sy_compileProduct_at_k11_2 {kA : Nat → ClassId} : or_ok PRD kA GG o_Sy_compileProduct_at_k11_2 := by
  refine or_mk fun A ta ws vs hD hth hl => ?_
  intro t11 k11 t13 k13
  have nf0 : fc_1 PRD (20, [11, 13], [50, 0, 0, 2, 6, 0, 2, 0, 0, 1, 0, 2, 6, 0, 2, 0, 0, 1, 1, 0, 10, 4, 6, 6, 2, 1, 0, 0, 65536, 1, 1, 0, 851970]) ws (vs) := ⟨nf_in hl rfl, sgq_493 (vc_Sy_compileProduct_at_k11_2_0 (v_iv (n_v vs 11)) (v_iv (n_v vs 13)) k11 k13)⟩
  refine ⟨(fun _ h => (by cases h)), [], trivial, ?_, (fun _ h => (by cases h))⟩
  rw [List.append_nil]
  exact List.forall_mem_cons.mpr ⟨⟨show (20 : Nat) < 100 from by decide, nf0⟩, (fun _ h => (by cases h))⟩
set_option maxHeartbeats 4000000 in
theorem vc_Sy_compileProduct_at_k11_3_0 (kind_0 : Int) (number_0 : Int) (f1 : (kind_0 ≠ 3) ∨ (number_0 ≤ 9999)) (kz_0_6 : 0 ≤ kind_0 ∧ kind_0 ≤ 127) (kz_0_8 : 0 ≤ number_0 ∧ number_0 ≤ 1000000) : (kind_0 ≠ 3) ∨ (number_0 ≤ 9999) := by
  first
    | omega
  
def o_Sy_compileProduct_at_k11_3 : or_T := (65, 14, [(0, (2, 0, 0, [11]))], [(24, [0, 3], []), (20, [3], [50, 2, 0, 6, 8, 3, 7, 7, 3, 2, 0, 6, 0, 3, 0, 3, 2, 0, 8, 0, 9999])], [], [], [(20, [0], [50, 2, 0, 6, 8, 3, 7, 7, 3, 2, 0, 6, 0, 3, 0, 3, 2, 0, 8, 0, 9999])], [], [])
theorem oo_Sy_compileProduct_at_k11_3 {kA : Nat → ClassId} : or_ok PRD kA GG o_Sy_compileProduct_at_k11_3 := by
  refine or_mk fun A ta ws vs hD hth hl => ?_
  intro t0 r0 f0 f1
  replace f0 := shm_5 f0
  replace f1 := shm_1840 f1
  have q3 : n_v vs 3 = n_v vs 0 := f0.symm
  simp only [q3] at f1
  have kz_0_6 := fdq_313 hD hth r0
  have kz_0_8 := fdq_314 hD hth r0
  have nf0 : fc_1 PRD (20, [0], [50, 2, 0, 6, 8, 3, 7, 7, 3, 2, 0, 6, 0, 3, 0, 3, 2, 0, 8, 0, 9999]) ws (vs) := ⟨nf_in hl rfl, sgq_1840 (vc_Sy_compileProduct_at_k11_3_0 (w_fi ws (n_v vs 0) 6) (w_fi ws (n_v vs 0) 8) f1 kz_0_6 kz_0_8)⟩
  refine ⟨(fun _ h => (by cases h)), [], trivial, ?_, (fun _ h => (by cases h))⟩
  rw [List.append_nil]
  exact List.forall_mem_cons.mpr ⟨⟨show (20 : Nat) < 100 from by decide, nf0⟩, (fun _ h => (by cases h))⟩
set_option maxHeartbeats 4000000 in
theorem vc_Sy_compileProduct_at_k11_4_0 (kind_0 : Int) (number_0 : Int) (f3 : (kind_0 ≠ 3) ∨ (number_0 ≤ 9999)) (kz_0_6 : 0 ≤ kind_0 ∧ kind_0 ≤ 127) (kz_0_8 : 0 ≤ number_0 ∧ number_0 ≤ 1000000) : (kind_0 ≠ 3) ∨ (number_0 ≤ 9999) := by
  first
    | omega
  
def o_Sy_compileProduct_at_k11_4 : or_T := (79, 12, [(0, (2, 0, 0, [11]))], [(20, [3], [50, 2, 0, 6, 8, 3, 7, 7, 3, 2, 0, 6, 0, 3, 0, 3, 2, 0, 8, 0, 9999]), (24, [0, 3], [])], [], [], [(20, [0], [50, 2, 0, 6, 8, 3, 7, 7, 3, 2, 0, 6, 0, 3, 0, 3, 2, 0, 8, 0, 9999])], [], [])
theorem oo_Sy_compileProduct_at_k11_4 {kA : Nat → ClassId} : or_ok PRD kA GG o_Sy_compileProduct_at_k11_4 := by
  refine or_mk fun A ta ws vs hD hth hl => ?_
  intro t0 r0 f3 f4
  replace f3 := shm_1840 f3
  replace f4 := shm_5 f4
  have q3 : n_v vs 3 = n_v vs 0 := f4.symm
  simp only [q3] at f3
  have kz_0_6 := fdq_313 hD hth r0
  have kz_0_8 := fdq_314 hD hth r0
  have nf0 : fc_1 PRD (20, [0], [50, 2, 0, 6, 8, 3, 7, 7, 3, 2, 0, 6, 0, 3, 0, 3, 2, 0, 8, 0, 9999]) ws (vs) := ⟨nf_in hl rfl, sgq_1840 (vc_Sy_compileProduct_at_k11_4_0 (w_fi ws (n_v vs 0) 6) (w_fi ws (n_v vs 0) 8) f3 kz_0_6 kz_0_8)⟩
  refine ⟨(fun _ h => (by cases h)), [], trivial, ?_, (fun _ h => (by cases h))⟩
  rw [List.append_nil]
  exact List.forall_mem_cons.mpr ⟨⟨show (20 : Nat) < 100 from by decide, nf0⟩, (fun _ h => (by cases h))⟩
set_option maxHeartbeats 4000000 in
theorem vc_Sy_compileProduct_at_k11_5_0 (x12 : Int) (x14 : Int) (k12 : 5 ≤ x12 ∧ x12 ≤ 5) (k14 : 0 ≤ x14 ∧ x14 ≤ 0) : (0 ≤ x12) ∧ ((0 ≤ x14) ∧ (((x12 * 65536) + x14) ≤ 851970)) := by
  first
    | omega
  
def o_Sy_compileProduct_at_k11_5 : or_T := (69, 15, [(12, (0, 5, 5, [])), (14, (0, 0, 0, []))], [], [], [], [(20, [12, 14], [50, 0, 0, 2, 6, 0, 2, 0, 0, 1, 0, 2, 6, 0, 2, 0, 0, 1, 1, 0, 10, 4, 6, 6, 2, 1, 0, 0, 65536, 1, 1, 0, 851970])], [], [])
theorem oo_Sy_compileProduct_at_k11_5 {kA : Nat → ClassId} : or_ok PRD kA GG o_Sy_compileProduct_at_k11_5 := by
  refine or_mk fun A ta ws vs hD hth hl => ?_
  intro t12 k12 t14 k14
  have nf0 : fc_1 PRD (20, [12, 14], [50, 0, 0, 2, 6, 0, 2, 0, 0, 1, 0, 2, 6, 0, 2, 0, 0, 1, 1, 0, 10, 4, 6, 6, 2, 1, 0, 0, 65536, 1, 1, 0, 851970]) ws (vs) := ⟨nf_in hl rfl, sgq_493 (vc_Sy_compileProduct_at_k11_5_0 (v_iv (n_v vs 12)) (v_iv (n_v vs 14)) k12 k14)⟩
  refine ⟨(fun _ h => (by cases h)), [], trivial, ?_, (fun _ h => (by cases h))⟩
  rw [List.append_nil]
  exact List.forall_mem_cons.mpr ⟨⟨show (20 : Nat) < 100 from by decide, nf0⟩, (fun _ h => (by cases h))⟩
set_option maxHeartbeats 4000000 in
theorem vc_Sy_compileProduct_at_k11_6_0 (kind_0 : Int) (number_0 : Int) (f1 : (kind_0 ≠ 3) ∨ (number_0 ≤ 9999)) (kz_0_6 : 0 ≤ kind_0 ∧ kind_0 ≤ 127) (kz_0_8 : 0 ≤ number_0 ∧ number_0 ≤ 1000000) : (kind_0 ≠ 3) ∨ (number_0 ≤ 9999) := by
  first
    | omega
  
def o_Sy_compileProduct_at_k11_6 : or_T := (65, 15, [(0, (2, 0, 0, [11]))], [(24, [0, 3], []), (20, [3], [50, 2, 0, 6, 8, 3, 7, 7, 3, 2, 0, 6, 0, 3, 0, 3, 2, 0, 8, 0, 9999])], [], [], [(20, [0], [50, 2, 0, 6, 8, 3, 7, 7, 3, 2, 0, 6, 0, 3, 0, 3, 2, 0, 8, 0, 9999])], [], [])
theorem oo_Sy_compileProduct_at_k11_6 {kA : Nat → ClassId} : or_ok PRD kA GG o_Sy_compileProduct_at_k11_6 := by
  refine or_mk fun A ta ws vs hD hth hl => ?_
  intro t0 r0 f0 f1
  replace f0 := shm_5 f0
  replace f1 := shm_1840 f1
  have q3 : n_v vs 3 = n_v vs 0 := f0.symm
  simp only [q3] at f1
  have kz_0_6 := fdq_313 hD hth r0
  have kz_0_8 := fdq_314 hD hth r0
  have nf0 : fc_1 PRD (20, [0], [50, 2, 0, 6, 8, 3, 7, 7, 3, 2, 0, 6, 0, 3, 0, 3, 2, 0, 8, 0, 9999]) ws (vs) := ⟨nf_in hl rfl, sgq_1840 (vc_Sy_compileProduct_at_k11_6_0 (w_fi ws (n_v vs 0) 6) (w_fi ws (n_v vs 0) 8) f1 kz_0_6 kz_0_8)⟩
  refine ⟨(fun _ h => (by cases h)), [], trivial, ?_, (fun _ h => (by cases h))⟩
  rw [List.append_nil]
  exact List.forall_mem_cons.mpr ⟨⟨show (20 : Nat) < 100 from by decide, nf0⟩, (fun _ h => (by cases h))⟩
def n_Sy_compileProduct_at_k11_an : List an_T := [(12, [(0, (2, 0, 0, [11])), (1, (0, 11, 11, [])), (2, (0, 0, 2000, []))], [], (0, 0), [(0, 0, 99988), (1, 5, 2000), (0, 0, 100000)], [], [((0, 3), (2, 0, 0, [109]))], [(2, 0, 0, [11]), (0, 11, 11, []), (2, 0, 0, [109])], 0, [], [(20, [3], [50, 2, 0, 6, 8, 3, 7, 7, 3, 2, 0, 6, 0, 3, 0, 3, 2, 0, 8, 0, 9999]), (24, [0, 3], [])])]
def t_Sy_compileProduct_at_k11_ct : ct_L := [(1, 69, e_Sy_advance), (1, 128, e_Sy_emit), (10, 158, e_Sy_compileValue_at_k11), (178, 158, e_Sy_compileValue_at_k11)]
set_option maxRecDepth 100000 in
theorem c_Sy_compileProduct_at_k11 {l : Launch} {D : va_G} {kA : Nat → ClassId} (h_Sy_advance : ct_ok PRD l D kA GG y_Sy_advance z_Sy_advance e_Sy_advance) (h_Sy_compileValue_at_k11 : ct_ok PRD l D kA GG y_Sy_compileValue_at_k11 z_Sy_compileValue_at_k11 e_Sy_compileValue_at_k11) (h_Sy_emit : ct_ok PRD l D kA GG y_Sy_emit z_Sy_emit e_Sy_emit) : ct_ok PRD l D kA GG y_Sy_compileProduct_at_k11 z_Sy_compileProduct_at_k11 e_Sy_compileProduct_at_k11 := chk_all_ok (FT := [(31, 11, 6)]) (PT := []) (CT := t_Sy_compileProduct_at_k11_ct) (KT := []) (NT := []) (AN := n_Sy_compileProduct_at_k11_an) (OT := [o_Sy_compileProduct_at_k11_0, o_Sy_compileProduct_at_k11_1, o_Sy_compileProduct_at_k11_2, o_Sy_compileProduct_at_k11_3, o_Sy_compileProduct_at_k11_4, o_Sy_compileProduct_at_k11_5, o_Sy_compileProduct_at_k11_6]) 3 268 (List.forall_mem_cons.mpr ⟨oo_Sy_compileProduct_at_k11_0, List.forall_mem_cons.mpr ⟨oo_Sy_compileProduct_at_k11_1, List.forall_mem_cons.mpr ⟨oo_Sy_compileProduct_at_k11_2, List.forall_mem_cons.mpr ⟨oo_Sy_compileProduct_at_k11_3, List.forall_mem_cons.mpr ⟨oo_Sy_compileProduct_at_k11_4, List.forall_mem_cons.mpr ⟨oo_Sy_compileProduct_at_k11_5, List.forall_mem_cons.mpr ⟨oo_Sy_compileProduct_at_k11_6, List.forall_mem_nil _⟩⟩⟩⟩⟩⟩⟩) (by decide +kernel) ⟨List.forall_mem_cons.mpr ⟨gf_Sy_31, List.forall_mem_nil _⟩, List.forall_mem_nil _, List.forall_mem_cons.mpr ⟨cl_virtual (y := y_Sy_advance) (ci := 11) rfl rfl ⟨_, _, rfl⟩ (by decide +kernel) h_Sy_advance wm_2158 wm_23 wm_2155 wm_2157 wv_10_10 ⟨by decide, by decide, by decide +kernel⟩ (by decide), List.forall_mem_cons.mpr ⟨cl_virtual (y := y_Sy_emit) (ci := 11) rfl rfl ⟨_, _, rfl⟩ (by decide +kernel) h_Sy_emit wm_2258 wm_23 wm_2255 wm_2257 wv_11_2 ⟨by decide, by decide, by decide +kernel⟩ (by decide), List.forall_mem_cons.mpr ⟨cl_virtual (y := y_Sy_compileValue_at_k11) (ci := 11) rfl rfl ⟨_, _, rfl⟩ (by decide +kernel) h_Sy_compileValue_at_k11 wm_2274 wm_23 wm_2271 wm_2273 wv_11_6 ⟨by decide, by decide, by decide +kernel⟩ (by decide), List.forall_mem_cons.mpr ⟨cl_virtual (y := y_Sy_compileValue_at_k11) (ci := 11) rfl rfl ⟨_, _, rfl⟩ (by decide +kernel) h_Sy_compileValue_at_k11 wm_2274 wm_23 wm_2271 wm_2273 wv_11_6 ⟨by decide, by decide, by decide +kernel⟩ (by decide), List.forall_mem_nil _⟩⟩⟩⟩, List.forall_mem_nil _, List.forall_mem_nil _, GG_pl⟩ (by decide +kernel)
def o_Sy_compileProduct_at_k12_0 : or_T := (12, 5, [], [], [], [], [(24, [0, 0], [])], [], [])
theorem oo_Sy_compileProduct_at_k12_0 {kA : Nat → ClassId} : or_ok PRD kA GG o_Sy_compileProduct_at_k12_0 := by
  refine or_mk fun A ta ws vs hD hth hl => ?_
  have nf0 : fc_1 PRD (24, [0, 0], []) ws (vs) := by
    refine ⟨nf_in hl rfl, sgq_1 ?_⟩
    · show n_v vs 0 = n_v vs 0
      first | rfl | simp only [true_and]
  refine ⟨(fun _ h => (by cases h)), [], trivial, ?_, (fun _ h => (by cases h))⟩
  rw [List.append_nil]
  exact List.forall_mem_cons.mpr ⟨⟨show (24 : Nat) < 100 from by decide, nf0⟩, (fun _ h => (by cases h))⟩
set_option maxHeartbeats 4000000 in
theorem vc_Sy_compileProduct_at_k12_1_0 (kind_0 : Int) (number_0 : Int) (f0 : (kind_0 ≠ 3) ∨ (number_0 ≤ 9999)) (kz_0_6 : 0 ≤ kind_0 ∧ kind_0 ≤ 127) (kz_0_8 : 0 ≤ number_0 ∧ number_0 ≤ 1000000) : (kind_0 ≠ 3) ∨ (number_0 ≤ 9999) := by
  first
    | omega
  
def o_Sy_compileProduct_at_k12_1 : or_T := (79, 9, [(0, (2, 0, 0, [11]))], [(20, [3], [50, 2, 0, 6, 8, 3, 7, 7, 3, 2, 0, 6, 0, 3, 0, 3, 2, 0, 8, 0, 9999]), (24, [0, 3], [])], [], [], [(20, [0], [50, 2, 0, 6, 8, 3, 7, 7, 3, 2, 0, 6, 0, 3, 0, 3, 2, 0, 8, 0, 9999])], [], [])
theorem oo_Sy_compileProduct_at_k12_1 {kA : Nat → ClassId} : or_ok PRD kA GG o_Sy_compileProduct_at_k12_1 := by
  refine or_mk fun A ta ws vs hD hth hl => ?_
  intro t0 r0 f0 f1
  replace f0 := shm_1840 f0
  replace f1 := shm_5 f1
  have q3 : n_v vs 3 = n_v vs 0 := f1.symm
  simp only [q3] at f0
  have kz_0_6 := fdq_313 hD hth r0
  have kz_0_8 := fdq_314 hD hth r0
  have nf0 : fc_1 PRD (20, [0], [50, 2, 0, 6, 8, 3, 7, 7, 3, 2, 0, 6, 0, 3, 0, 3, 2, 0, 8, 0, 9999]) ws (vs) := ⟨nf_in hl rfl, sgq_1840 (vc_Sy_compileProduct_at_k12_1_0 (w_fi ws (n_v vs 0) 6) (w_fi ws (n_v vs 0) 8) f0 kz_0_6 kz_0_8)⟩
  refine ⟨(fun _ h => (by cases h)), [], trivial, ?_, (fun _ h => (by cases h))⟩
  rw [List.append_nil]
  exact List.forall_mem_cons.mpr ⟨⟨show (20 : Nat) < 100 from by decide, nf0⟩, (fun _ h => (by cases h))⟩
set_option maxHeartbeats 4000000 in
theorem vc_Sy_compileProduct_at_k12_2_0 (x11 : Int) (x13 : Int) (k11 : 4 ≤ x11 ∧ x11 ≤ 4) (k13 : 0 ≤ x13 ∧ x13 ≤ 0) : (0 ≤ x11) ∧ ((0 ≤ x13) ∧ (((x11 * 65536) + x13) ≤ 851970)) := by
  first
    | omega
  
def o_Sy_compileProduct_at_k12_2 : or_T := (69, 14, [(11, (0, 4, 4, [])), (13, (0, 0, 0, []))], [], [], [], [(20, [11, 13], [50, 0, 0, 2, 6, 0, 2, 0, 0, 1, 0, 2, 6, 0, 2, 0, 0, 1, 1, 0, 10, 4, 6, 6, 2, 1, 0, 0, 65536, 1, 1, 0, 851970])], [], [])
theorem oo_Sy_compileProduct_at_k12_2 {kA : Nat → ClassId} : or_ok PRD kA GG o_Sy_compileProduct_at_k12_2 := by
  refine or_mk fun A ta ws vs hD hth hl => ?_
  intro t11 k11 t13 k13
  have nf0 : fc_1 PRD (20, [11, 13], [50, 0, 0, 2, 6, 0, 2, 0, 0, 1, 0, 2, 6, 0, 2, 0, 0, 1, 1, 0, 10, 4, 6, 6, 2, 1, 0, 0, 65536, 1, 1, 0, 851970]) ws (vs) := ⟨nf_in hl rfl, sgq_493 (vc_Sy_compileProduct_at_k12_2_0 (v_iv (n_v vs 11)) (v_iv (n_v vs 13)) k11 k13)⟩
  refine ⟨(fun _ h => (by cases h)), [], trivial, ?_, (fun _ h => (by cases h))⟩
  rw [List.append_nil]
  exact List.forall_mem_cons.mpr ⟨⟨show (20 : Nat) < 100 from by decide, nf0⟩, (fun _ h => (by cases h))⟩
set_option maxHeartbeats 4000000 in
theorem vc_Sy_compileProduct_at_k12_3_0 (kind_0 : Int) (number_0 : Int) (f1 : (kind_0 ≠ 3) ∨ (number_0 ≤ 9999)) (kz_0_6 : 0 ≤ kind_0 ∧ kind_0 ≤ 127) (kz_0_8 : 0 ≤ number_0 ∧ number_0 ≤ 1000000) : (kind_0 ≠ 3) ∨ (number_0 ≤ 9999) := by
  first
    | omega
  
def o_Sy_compileProduct_at_k12_3 : or_T := (65, 14, [(0, (2, 0, 0, [11]))], [(24, [0, 3], []), (20, [3], [50, 2, 0, 6, 8, 3, 7, 7, 3, 2, 0, 6, 0, 3, 0, 3, 2, 0, 8, 0, 9999])], [], [], [(20, [0], [50, 2, 0, 6, 8, 3, 7, 7, 3, 2, 0, 6, 0, 3, 0, 3, 2, 0, 8, 0, 9999])], [], [])
theorem oo_Sy_compileProduct_at_k12_3 {kA : Nat → ClassId} : or_ok PRD kA GG o_Sy_compileProduct_at_k12_3 := by
  refine or_mk fun A ta ws vs hD hth hl => ?_
  intro t0 r0 f0 f1
  replace f0 := shm_5 f0
  replace f1 := shm_1840 f1
  have q3 : n_v vs 3 = n_v vs 0 := f0.symm
  simp only [q3] at f1
  have kz_0_6 := fdq_313 hD hth r0
  have kz_0_8 := fdq_314 hD hth r0
  have nf0 : fc_1 PRD (20, [0], [50, 2, 0, 6, 8, 3, 7, 7, 3, 2, 0, 6, 0, 3, 0, 3, 2, 0, 8, 0, 9999]) ws (vs) := ⟨nf_in hl rfl, sgq_1840 (vc_Sy_compileProduct_at_k12_3_0 (w_fi ws (n_v vs 0) 6) (w_fi ws (n_v vs 0) 8) f1 kz_0_6 kz_0_8)⟩
  refine ⟨(fun _ h => (by cases h)), [], trivial, ?_, (fun _ h => (by cases h))⟩
  rw [List.append_nil]
  exact List.forall_mem_cons.mpr ⟨⟨show (20 : Nat) < 100 from by decide, nf0⟩, (fun _ h => (by cases h))⟩
set_option maxHeartbeats 4000000 in
theorem vc_Sy_compileProduct_at_k12_4_0 (kind_0 : Int) (number_0 : Int) (f3 : (kind_0 ≠ 3) ∨ (number_0 ≤ 9999)) (kz_0_6 : 0 ≤ kind_0 ∧ kind_0 ≤ 127) (kz_0_8 : 0 ≤ number_0 ∧ number_0 ≤ 1000000) : (kind_0 ≠ 3) ∨ (number_0 ≤ 9999) := by
  first
    | omega
  
def o_Sy_compileProduct_at_k12_4 : or_T := (79, 12, [(0, (2, 0, 0, [11]))], [(20, [3], [50, 2, 0, 6, 8, 3, 7, 7, 3, 2, 0, 6, 0, 3, 0, 3, 2, 0, 8, 0, 9999]), (24, [0, 3], [])], [], [], [(20, [0], [50, 2, 0, 6, 8, 3, 7, 7, 3, 2, 0, 6, 0, 3, 0, 3, 2, 0, 8, 0, 9999])], [], [])
theorem oo_Sy_compileProduct_at_k12_4 {kA : Nat → ClassId} : or_ok PRD kA GG o_Sy_compileProduct_at_k12_4 := by
  refine or_mk fun A ta ws vs hD hth hl => ?_
  intro t0 r0 f3 f4
  replace f3 := shm_1840 f3
  replace f4 := shm_5 f4
  have q3 : n_v vs 3 = n_v vs 0 := f4.symm
  simp only [q3] at f3
  have kz_0_6 := fdq_313 hD hth r0
  have kz_0_8 := fdq_314 hD hth r0
  have nf0 : fc_1 PRD (20, [0], [50, 2, 0, 6, 8, 3, 7, 7, 3, 2, 0, 6, 0, 3, 0, 3, 2, 0, 8, 0, 9999]) ws (vs) := ⟨nf_in hl rfl, sgq_1840 (vc_Sy_compileProduct_at_k12_4_0 (w_fi ws (n_v vs 0) 6) (w_fi ws (n_v vs 0) 8) f3 kz_0_6 kz_0_8)⟩
  refine ⟨(fun _ h => (by cases h)), [], trivial, ?_, (fun _ h => (by cases h))⟩
  rw [List.append_nil]
  exact List.forall_mem_cons.mpr ⟨⟨show (20 : Nat) < 100 from by decide, nf0⟩, (fun _ h => (by cases h))⟩
set_option maxHeartbeats 4000000 in
theorem vc_Sy_compileProduct_at_k12_5_0 (x12 : Int) (x14 : Int) (k12 : 5 ≤ x12 ∧ x12 ≤ 5) (k14 : 0 ≤ x14 ∧ x14 ≤ 0) : (0 ≤ x12) ∧ ((0 ≤ x14) ∧ (((x12 * 65536) + x14) ≤ 851970)) := by
  first
    | omega
  
def o_Sy_compileProduct_at_k12_5 : or_T := (69, 15, [(12, (0, 5, 5, [])), (14, (0, 0, 0, []))], [], [], [], [(20, [12, 14], [50, 0, 0, 2, 6, 0, 2, 0, 0, 1, 0, 2, 6, 0, 2, 0, 0, 1, 1, 0, 10, 4, 6, 6, 2, 1, 0, 0, 65536, 1, 1, 0, 851970])], [], [])
theorem oo_Sy_compileProduct_at_k12_5 {kA : Nat → ClassId} : or_ok PRD kA GG o_Sy_compileProduct_at_k12_5 := by
  refine or_mk fun A ta ws vs hD hth hl => ?_
  intro t12 k12 t14 k14
  have nf0 : fc_1 PRD (20, [12, 14], [50, 0, 0, 2, 6, 0, 2, 0, 0, 1, 0, 2, 6, 0, 2, 0, 0, 1, 1, 0, 10, 4, 6, 6, 2, 1, 0, 0, 65536, 1, 1, 0, 851970]) ws (vs) := ⟨nf_in hl rfl, sgq_493 (vc_Sy_compileProduct_at_k12_5_0 (v_iv (n_v vs 12)) (v_iv (n_v vs 14)) k12 k14)⟩
  refine ⟨(fun _ h => (by cases h)), [], trivial, ?_, (fun _ h => (by cases h))⟩
  rw [List.append_nil]
  exact List.forall_mem_cons.mpr ⟨⟨show (20 : Nat) < 100 from by decide, nf0⟩, (fun _ h => (by cases h))⟩
set_option maxHeartbeats 4000000 in
theorem vc_Sy_compileProduct_at_k12_6_0 (kind_0 : Int) (number_0 : Int) (f1 : (kind_0 ≠ 3) ∨ (number_0 ≤ 9999)) (kz_0_6 : 0 ≤ kind_0 ∧ kind_0 ≤ 127) (kz_0_8 : 0 ≤ number_0 ∧ number_0 ≤ 1000000) : (kind_0 ≠ 3) ∨ (number_0 ≤ 9999) := by
  first
    | omega
  
def o_Sy_compileProduct_at_k12_6 : or_T := (65, 15, [(0, (2, 0, 0, [11]))], [(24, [0, 3], []), (20, [3], [50, 2, 0, 6, 8, 3, 7, 7, 3, 2, 0, 6, 0, 3, 0, 3, 2, 0, 8, 0, 9999])], [], [], [(20, [0], [50, 2, 0, 6, 8, 3, 7, 7, 3, 2, 0, 6, 0, 3, 0, 3, 2, 0, 8, 0, 9999])], [], [])
theorem oo_Sy_compileProduct_at_k12_6 {kA : Nat → ClassId} : or_ok PRD kA GG o_Sy_compileProduct_at_k12_6 := by
  refine or_mk fun A ta ws vs hD hth hl => ?_
  intro t0 r0 f0 f1
  replace f0 := shm_5 f0
  replace f1 := shm_1840 f1
  have q3 : n_v vs 3 = n_v vs 0 := f0.symm
  simp only [q3] at f1
  have kz_0_6 := fdq_313 hD hth r0
  have kz_0_8 := fdq_314 hD hth r0
  have nf0 : fc_1 PRD (20, [0], [50, 2, 0, 6, 8, 3, 7, 7, 3, 2, 0, 6, 0, 3, 0, 3, 2, 0, 8, 0, 9999]) ws (vs) := ⟨nf_in hl rfl, sgq_1840 (vc_Sy_compileProduct_at_k12_6_0 (w_fi ws (n_v vs 0) 6) (w_fi ws (n_v vs 0) 8) f1 kz_0_6 kz_0_8)⟩
  refine ⟨(fun _ h => (by cases h)), [], trivial, ?_, (fun _ h => (by cases h))⟩
  rw [List.append_nil]
  exact List.forall_mem_cons.mpr ⟨⟨show (20 : Nat) < 100 from by decide, nf0⟩, (fun _ h => (by cases h))⟩
def n_Sy_compileProduct_at_k12_an : List an_T := [(12, [(0, (2, 0, 0, [11])), (1, (0, 12, 12, [])), (2, (0, 0, 2000, []))], [], (0, 0), [(0, 0, 99988), (1, 5, 2000), (0, 0, 100000)], [], [((0, 3), (2, 0, 0, [109]))], [(2, 0, 0, [11]), (0, 12, 12, []), (2, 0, 0, [109])], 0, [], [(20, [3], [50, 2, 0, 6, 8, 3, 7, 7, 3, 2, 0, 6, 0, 3, 0, 3, 2, 0, 8, 0, 9999]), (24, [0, 3], [])])]
def t_Sy_compileProduct_at_k12_ct : ct_L := [(1, 69, e_Sy_advance), (1, 128, e_Sy_emit), (10, 158, e_Sy_compileValue_at_k12), (178, 158, e_Sy_compileValue_at_k12)]
set_option maxRecDepth 100000 in
theorem c_Sy_compileProduct_at_k12 {l : Launch} {D : va_G} {kA : Nat → ClassId} (h_Sy_advance : ct_ok PRD l D kA GG y_Sy_advance z_Sy_advance e_Sy_advance) (h_Sy_compileValue_at_k12 : ct_ok PRD l D kA GG y_Sy_compileValue_at_k12 z_Sy_compileValue_at_k12 e_Sy_compileValue_at_k12) (h_Sy_emit : ct_ok PRD l D kA GG y_Sy_emit z_Sy_emit e_Sy_emit) : ct_ok PRD l D kA GG y_Sy_compileProduct_at_k12 z_Sy_compileProduct_at_k12 e_Sy_compileProduct_at_k12 := chk_all_ok (FT := [(31, 11, 6)]) (PT := []) (CT := t_Sy_compileProduct_at_k12_ct) (KT := []) (NT := []) (AN := n_Sy_compileProduct_at_k12_an) (OT := [o_Sy_compileProduct_at_k12_0, o_Sy_compileProduct_at_k12_1, o_Sy_compileProduct_at_k12_2, o_Sy_compileProduct_at_k12_3, o_Sy_compileProduct_at_k12_4, o_Sy_compileProduct_at_k12_5, o_Sy_compileProduct_at_k12_6]) 3 268 (List.forall_mem_cons.mpr ⟨oo_Sy_compileProduct_at_k12_0, List.forall_mem_cons.mpr ⟨oo_Sy_compileProduct_at_k12_1, List.forall_mem_cons.mpr ⟨oo_Sy_compileProduct_at_k12_2, List.forall_mem_cons.mpr ⟨oo_Sy_compileProduct_at_k12_3, List.forall_mem_cons.mpr ⟨oo_Sy_compileProduct_at_k12_4, List.forall_mem_cons.mpr ⟨oo_Sy_compileProduct_at_k12_5, List.forall_mem_cons.mpr ⟨oo_Sy_compileProduct_at_k12_6, List.forall_mem_nil _⟩⟩⟩⟩⟩⟩⟩) (by decide +kernel) ⟨List.forall_mem_cons.mpr ⟨gf_Sy_31, List.forall_mem_nil _⟩, List.forall_mem_nil _, List.forall_mem_cons.mpr ⟨cl_virtual (y := y_Sy_advance) (ci := 11) rfl rfl ⟨_, _, rfl⟩ (by decide +kernel) h_Sy_advance wm_2158 wm_23 wm_2155 wm_2157 wv_10_10 ⟨by decide, by decide, by decide +kernel⟩ (by decide), List.forall_mem_cons.mpr ⟨cl_virtual (y := y_Sy_emit) (ci := 11) rfl rfl ⟨_, _, rfl⟩ (by decide +kernel) h_Sy_emit wm_2258 wm_23 wm_2255 wm_2257 wv_11_2 ⟨by decide, by decide, by decide +kernel⟩ (by decide), List.forall_mem_cons.mpr ⟨cl_virtual (y := y_Sy_compileValue_at_k12) (ci := 11) rfl rfl ⟨_, _, rfl⟩ (by decide +kernel) h_Sy_compileValue_at_k12 wm_2274 wm_23 wm_2271 wm_2273 wv_11_6 ⟨by decide, by decide, by decide +kernel⟩ (by decide), List.forall_mem_cons.mpr ⟨cl_virtual (y := y_Sy_compileValue_at_k12) (ci := 11) rfl rfl ⟨_, _, rfl⟩ (by decide +kernel) h_Sy_compileValue_at_k12 wm_2274 wm_23 wm_2271 wm_2273 wv_11_6 ⟨by decide, by decide, by decide +kernel⟩ (by decide), List.forall_mem_nil _⟩⟩⟩⟩, List.forall_mem_nil _, List.forall_mem_nil _, GG_pl⟩ (by decide +kernel)
def o_Sy_compileProduct_at_k2_0 : or_T := (12, 5, [], [], [], [], [(24, [0, 0], [])], [], [])
theorem oo_Sy_compileProduct_at_k2_0 {kA : Nat → ClassId} : or_ok PRD kA GG o_Sy_compileProduct_at_k2_0 := by
  refine or_mk fun A ta ws vs hD hth hl => ?_
  have nf0 : fc_1 PRD (24, [0, 0], []) ws (vs) := by
    refine ⟨nf_in hl rfl, sgq_1 ?_⟩
    · show n_v vs 0 = n_v vs 0
      first | rfl | simp only [true_and]
  refine ⟨(fun _ h => (by cases h)), [], trivial, ?_, (fun _ h => (by cases h))⟩
  rw [List.append_nil]
  exact List.forall_mem_cons.mpr ⟨⟨show (24 : Nat) < 100 from by decide, nf0⟩, (fun _ h => (by cases h))⟩
set_option maxHeartbeats 4000000 in
theorem vc_Sy_compileProduct_at_k2_1_0 (kind_0 : Int) (number_0 : Int) (f0 : (kind_0 ≠ 3) ∨ (number_0 ≤ 9999)) (kz_0_6 : 0 ≤ kind_0 ∧ kind_0 ≤ 127) (kz_0_8 : 0 ≤ number_0 ∧ number_0 ≤ 1000000) : (kind_0 ≠ 3) ∨ (number_0 ≤ 9999) := by
  first
    | omega
  
def o_Sy_compileProduct_at_k2_1 : or_T := (79, 9, [(0, (2, 0, 0, [11]))], [(20, [3], [50, 2, 0, 6, 8, 3, 7, 7, 3, 2, 0, 6, 0, 3, 0, 3, 2, 0, 8, 0, 9999]), (24, [0, 3], [])], [], [], [(20, [0], [50, 2, 0, 6, 8, 3, 7, 7, 3, 2, 0, 6, 0, 3, 0, 3, 2, 0, 8, 0, 9999])], [], [])
theorem oo_Sy_compileProduct_at_k2_1 {kA : Nat → ClassId} : or_ok PRD kA GG o_Sy_compileProduct_at_k2_1 := by
  refine or_mk fun A ta ws vs hD hth hl => ?_
  intro t0 r0 f0 f1
  replace f0 := shm_1840 f0
  replace f1 := shm_5 f1
  have q3 : n_v vs 3 = n_v vs 0 := f1.symm
  simp only [q3] at f0
  have kz_0_6 := fdq_313 hD hth r0
  have kz_0_8 := fdq_314 hD hth r0
  have nf0 : fc_1 PRD (20, [0], [50, 2, 0, 6, 8, 3, 7, 7, 3, 2, 0, 6, 0, 3, 0, 3, 2, 0, 8, 0, 9999]) ws (vs) := ⟨nf_in hl rfl, sgq_1840 (vc_Sy_compileProduct_at_k2_1_0 (w_fi ws (n_v vs 0) 6) (w_fi ws (n_v vs 0) 8) f0 kz_0_6 kz_0_8)⟩
  refine ⟨(fun _ h => (by cases h)), [], trivial, ?_, (fun _ h => (by cases h))⟩
  rw [List.append_nil]
  exact List.forall_mem_cons.mpr ⟨⟨show (20 : Nat) < 100 from by decide, nf0⟩, (fun _ h => (by cases h))⟩
set_option maxHeartbeats 4000000 in
theorem vc_Sy_compileProduct_at_k2_2_0 (x11 : Int) (x13 : Int) (k11 : 4 ≤ x11 ∧ x11 ≤ 4) (k13 : 0 ≤ x13 ∧ x13 ≤ 0) : (0 ≤ x11) ∧ ((0 ≤ x13) ∧ (((x11 * 65536) + x13) ≤ 851970)) := by
  first
    | omega
  
def o_Sy_compileProduct_at_k2_2 : or_T := (69, 14, [(11, (0, 4, 4, [])), (13, (0, 0, 0, []))], [], [], [], [(20, [11, 13], [50, 0, 0, 2, 6, 0, 2, 0, 0, 1, 0, 2, 6, 0, 2, 0, 0, 1, 1, 0, 10, 4, 6, 6, 2, 1, 0, 0, 65536, 1, 1, 0, 851970])], [], [])
theorem oo_Sy_compileProduct_at_k2_2 {kA : Nat → ClassId} : or_ok PRD kA GG o_Sy_compileProduct_at_k2_2 := by
  refine or_mk fun A ta ws vs hD hth hl => ?_
  intro t11 k11 t13 k13
  have nf0 : fc_1 PRD (20, [11, 13], [50, 0, 0, 2, 6, 0, 2, 0, 0, 1, 0, 2, 6, 0, 2, 0, 0, 1, 1, 0, 10, 4, 6, 6, 2, 1, 0, 0, 65536, 1, 1, 0, 851970]) ws (vs) := ⟨nf_in hl rfl, sgq_493 (vc_Sy_compileProduct_at_k2_2_0 (v_iv (n_v vs 11)) (v_iv (n_v vs 13)) k11 k13)⟩
  refine ⟨(fun _ h => (by cases h)), [], trivial, ?_, (fun _ h => (by cases h))⟩
  rw [List.append_nil]
  exact List.forall_mem_cons.mpr ⟨⟨show (20 : Nat) < 100 from by decide, nf0⟩, (fun _ h => (by cases h))⟩
set_option maxHeartbeats 4000000 in
theorem vc_Sy_compileProduct_at_k2_3_0 (kind_0 : Int) (number_0 : Int) (f1 : (kind_0 ≠ 3) ∨ (number_0 ≤ 9999)) (kz_0_6 : 0 ≤ kind_0 ∧ kind_0 ≤ 127) (kz_0_8 : 0 ≤ number_0 ∧ number_0 ≤ 1000000) : (kind_0 ≠ 3) ∨ (number_0 ≤ 9999) := by
  first
    | omega
  
def o_Sy_compileProduct_at_k2_3 : or_T := (65, 14, [(0, (2, 0, 0, [11]))], [(24, [0, 3], []), (20, [3], [50, 2, 0, 6, 8, 3, 7, 7, 3, 2, 0, 6, 0, 3, 0, 3, 2, 0, 8, 0, 9999])], [], [], [(20, [0], [50, 2, 0, 6, 8, 3, 7, 7, 3, 2, 0, 6, 0, 3, 0, 3, 2, 0, 8, 0, 9999])], [], [])
theorem oo_Sy_compileProduct_at_k2_3 {kA : Nat → ClassId} : or_ok PRD kA GG o_Sy_compileProduct_at_k2_3 := by
  refine or_mk fun A ta ws vs hD hth hl => ?_
  intro t0 r0 f0 f1
  replace f0 := shm_5 f0
  replace f1 := shm_1840 f1
  have q3 : n_v vs 3 = n_v vs 0 := f0.symm
  simp only [q3] at f1
  have kz_0_6 := fdq_313 hD hth r0
  have kz_0_8 := fdq_314 hD hth r0
  have nf0 : fc_1 PRD (20, [0], [50, 2, 0, 6, 8, 3, 7, 7, 3, 2, 0, 6, 0, 3, 0, 3, 2, 0, 8, 0, 9999]) ws (vs) := ⟨nf_in hl rfl, sgq_1840 (vc_Sy_compileProduct_at_k2_3_0 (w_fi ws (n_v vs 0) 6) (w_fi ws (n_v vs 0) 8) f1 kz_0_6 kz_0_8)⟩
  refine ⟨(fun _ h => (by cases h)), [], trivial, ?_, (fun _ h => (by cases h))⟩
  rw [List.append_nil]
  exact List.forall_mem_cons.mpr ⟨⟨show (20 : Nat) < 100 from by decide, nf0⟩, (fun _ h => (by cases h))⟩
set_option maxHeartbeats 4000000 in
theorem vc_Sy_compileProduct_at_k2_4_0 (kind_0 : Int) (number_0 : Int) (f3 : (kind_0 ≠ 3) ∨ (number_0 ≤ 9999)) (kz_0_6 : 0 ≤ kind_0 ∧ kind_0 ≤ 127) (kz_0_8 : 0 ≤ number_0 ∧ number_0 ≤ 1000000) : (kind_0 ≠ 3) ∨ (number_0 ≤ 9999) := by
  first
    | omega
  
def o_Sy_compileProduct_at_k2_4 : or_T := (79, 12, [(0, (2, 0, 0, [11]))], [(20, [3], [50, 2, 0, 6, 8, 3, 7, 7, 3, 2, 0, 6, 0, 3, 0, 3, 2, 0, 8, 0, 9999]), (24, [0, 3], [])], [], [], [(20, [0], [50, 2, 0, 6, 8, 3, 7, 7, 3, 2, 0, 6, 0, 3, 0, 3, 2, 0, 8, 0, 9999])], [], [])
theorem oo_Sy_compileProduct_at_k2_4 {kA : Nat → ClassId} : or_ok PRD kA GG o_Sy_compileProduct_at_k2_4 := by
  refine or_mk fun A ta ws vs hD hth hl => ?_
  intro t0 r0 f3 f4
  replace f3 := shm_1840 f3
  replace f4 := shm_5 f4
  have q3 : n_v vs 3 = n_v vs 0 := f4.symm
  simp only [q3] at f3
  have kz_0_6 := fdq_313 hD hth r0
  have kz_0_8 := fdq_314 hD hth r0
  have nf0 : fc_1 PRD (20, [0], [50, 2, 0, 6, 8, 3, 7, 7, 3, 2, 0, 6, 0, 3, 0, 3, 2, 0, 8, 0, 9999]) ws (vs) := ⟨nf_in hl rfl, sgq_1840 (vc_Sy_compileProduct_at_k2_4_0 (w_fi ws (n_v vs 0) 6) (w_fi ws (n_v vs 0) 8) f3 kz_0_6 kz_0_8)⟩
  refine ⟨(fun _ h => (by cases h)), [], trivial, ?_, (fun _ h => (by cases h))⟩
  rw [List.append_nil]
  exact List.forall_mem_cons.mpr ⟨⟨show (20 : Nat) < 100 from by decide, nf0⟩, (fun _ h => (by cases h))⟩
set_option maxHeartbeats 4000000 in
theorem vc_Sy_compileProduct_at_k2_5_0 (x12 : Int) (x14 : Int) (k12 : 5 ≤ x12 ∧ x12 ≤ 5) (k14 : 0 ≤ x14 ∧ x14 ≤ 0) : (0 ≤ x12) ∧ ((0 ≤ x14) ∧ (((x12 * 65536) + x14) ≤ 851970)) := by
  first
    | omega
  
def o_Sy_compileProduct_at_k2_5 : or_T := (69, 15, [(12, (0, 5, 5, [])), (14, (0, 0, 0, []))], [], [], [], [(20, [12, 14], [50, 0, 0, 2, 6, 0, 2, 0, 0, 1, 0, 2, 6, 0, 2, 0, 0, 1, 1, 0, 10, 4, 6, 6, 2, 1, 0, 0, 65536, 1, 1, 0, 851970])], [], [])
theorem oo_Sy_compileProduct_at_k2_5 {kA : Nat → ClassId} : or_ok PRD kA GG o_Sy_compileProduct_at_k2_5 := by
  refine or_mk fun A ta ws vs hD hth hl => ?_
  intro t12 k12 t14 k14
  have nf0 : fc_1 PRD (20, [12, 14], [50, 0, 0, 2, 6, 0, 2, 0, 0, 1, 0, 2, 6, 0, 2, 0, 0, 1, 1, 0, 10, 4, 6, 6, 2, 1, 0, 0, 65536, 1, 1, 0, 851970]) ws (vs) := ⟨nf_in hl rfl, sgq_493 (vc_Sy_compileProduct_at_k2_5_0 (v_iv (n_v vs 12)) (v_iv (n_v vs 14)) k12 k14)⟩
  refine ⟨(fun _ h => (by cases h)), [], trivial, ?_, (fun _ h => (by cases h))⟩
  rw [List.append_nil]
  exact List.forall_mem_cons.mpr ⟨⟨show (20 : Nat) < 100 from by decide, nf0⟩, (fun _ h => (by cases h))⟩
set_option maxHeartbeats 4000000 in
theorem vc_Sy_compileProduct_at_k2_6_0 (kind_0 : Int) (number_0 : Int) (f1 : (kind_0 ≠ 3) ∨ (number_0 ≤ 9999)) (kz_0_6 : 0 ≤ kind_0 ∧ kind_0 ≤ 127) (kz_0_8 : 0 ≤ number_0 ∧ number_0 ≤ 1000000) : (kind_0 ≠ 3) ∨ (number_0 ≤ 9999) := by
  first
    | omega
  
def o_Sy_compileProduct_at_k2_6 : or_T := (65, 15, [(0, (2, 0, 0, [11]))], [(24, [0, 3], []), (20, [3], [50, 2, 0, 6, 8, 3, 7, 7, 3, 2, 0, 6, 0, 3, 0, 3, 2, 0, 8, 0, 9999])], [], [], [(20, [0], [50, 2, 0, 6, 8, 3, 7, 7, 3, 2, 0, 6, 0, 3, 0, 3, 2, 0, 8, 0, 9999])], [], [])
theorem oo_Sy_compileProduct_at_k2_6 {kA : Nat → ClassId} : or_ok PRD kA GG o_Sy_compileProduct_at_k2_6 := by
  refine or_mk fun A ta ws vs hD hth hl => ?_
  intro t0 r0 f0 f1
  replace f0 := shm_5 f0
  replace f1 := shm_1840 f1
  have q3 : n_v vs 3 = n_v vs 0 := f0.symm
  simp only [q3] at f1
  have kz_0_6 := fdq_313 hD hth r0
  have kz_0_8 := fdq_314 hD hth r0
  have nf0 : fc_1 PRD (20, [0], [50, 2, 0, 6, 8, 3, 7, 7, 3, 2, 0, 6, 0, 3, 0, 3, 2, 0, 8, 0, 9999]) ws (vs) := ⟨nf_in hl rfl, sgq_1840 (vc_Sy_compileProduct_at_k2_6_0 (w_fi ws (n_v vs 0) 6) (w_fi ws (n_v vs 0) 8) f1 kz_0_6 kz_0_8)⟩
  refine ⟨(fun _ h => (by cases h)), [], trivial, ?_, (fun _ h => (by cases h))⟩
  rw [List.append_nil]
  exact List.forall_mem_cons.mpr ⟨⟨show (20 : Nat) < 100 from by decide, nf0⟩, (fun _ h => (by cases h))⟩
def n_Sy_compileProduct_at_k2_an : List an_T := [(12, [(0, (2, 0, 0, [11])), (1, (0, 2, 2, [])), (2, (0, 0, 2000, []))], [], (0, 0), [(0, 0, 99988), (1, 5, 2000), (0, 0, 100000)], [], [((0, 3), (2, 0, 0, [109]))], [(2, 0, 0, [11]), (0, 2, 2, []), (2, 0, 0, [109])], 0, [], [(20, [3], [50, 2, 0, 6, 8, 3, 7, 7, 3, 2, 0, 6, 0, 3, 0, 3, 2, 0, 8, 0, 9999]), (24, [0, 3], [])])]
def t_Sy_compileProduct_at_k2_ct : ct_L := [(1, 69, e_Sy_advance), (1, 128, e_Sy_emit), (10, 158, e_Sy_compileValue_at_k2), (178, 158, e_Sy_compileValue_at_k2)]
set_option maxRecDepth 100000 in
theorem c_Sy_compileProduct_at_k2 {l : Launch} {D : va_G} {kA : Nat → ClassId} (h_Sy_advance : ct_ok PRD l D kA GG y_Sy_advance z_Sy_advance e_Sy_advance) (h_Sy_compileValue_at_k2 : ct_ok PRD l D kA GG y_Sy_compileValue_at_k2 z_Sy_compileValue_at_k2 e_Sy_compileValue_at_k2) (h_Sy_emit : ct_ok PRD l D kA GG y_Sy_emit z_Sy_emit e_Sy_emit) : ct_ok PRD l D kA GG y_Sy_compileProduct_at_k2 z_Sy_compileProduct_at_k2 e_Sy_compileProduct_at_k2 := chk_all_ok (FT := [(31, 11, 6)]) (PT := []) (CT := t_Sy_compileProduct_at_k2_ct) (KT := []) (NT := []) (AN := n_Sy_compileProduct_at_k2_an) (OT := [o_Sy_compileProduct_at_k2_0, o_Sy_compileProduct_at_k2_1, o_Sy_compileProduct_at_k2_2, o_Sy_compileProduct_at_k2_3, o_Sy_compileProduct_at_k2_4, o_Sy_compileProduct_at_k2_5, o_Sy_compileProduct_at_k2_6]) 3 268 (List.forall_mem_cons.mpr ⟨oo_Sy_compileProduct_at_k2_0, List.forall_mem_cons.mpr ⟨oo_Sy_compileProduct_at_k2_1, List.forall_mem_cons.mpr ⟨oo_Sy_compileProduct_at_k2_2, List.forall_mem_cons.mpr ⟨oo_Sy_compileProduct_at_k2_3, List.forall_mem_cons.mpr ⟨oo_Sy_compileProduct_at_k2_4, List.forall_mem_cons.mpr ⟨oo_Sy_compileProduct_at_k2_5, List.forall_mem_cons.mpr ⟨oo_Sy_compileProduct_at_k2_6, List.forall_mem_nil _⟩⟩⟩⟩⟩⟩⟩) (by decide +kernel) ⟨List.forall_mem_cons.mpr ⟨gf_Sy_31, List.forall_mem_nil _⟩, List.forall_mem_nil _, List.forall_mem_cons.mpr ⟨cl_virtual (y := y_Sy_advance) (ci := 11) rfl rfl ⟨_, _, rfl⟩ (by decide +kernel) h_Sy_advance wm_2158 wm_23 wm_2155 wm_2157 wv_10_10 ⟨by decide, by decide, by decide +kernel⟩ (by decide), List.forall_mem_cons.mpr ⟨cl_virtual (y := y_Sy_emit) (ci := 11) rfl rfl ⟨_, _, rfl⟩ (by decide +kernel) h_Sy_emit wm_2258 wm_23 wm_2255 wm_2257 wv_11_2 ⟨by decide, by decide, by decide +kernel⟩ (by decide), List.forall_mem_cons.mpr ⟨cl_virtual (y := y_Sy_compileValue_at_k2) (ci := 11) rfl rfl ⟨_, _, rfl⟩ (by decide +kernel) h_Sy_compileValue_at_k2 wm_2274 wm_23 wm_2271 wm_2273 wv_11_6 ⟨by decide, by decide, by decide +kernel⟩ (by decide), List.forall_mem_cons.mpr ⟨cl_virtual (y := y_Sy_compileValue_at_k2) (ci := 11) rfl rfl ⟨_, _, rfl⟩ (by decide +kernel) h_Sy_compileValue_at_k2 wm_2274 wm_23 wm_2271 wm_2273 wv_11_6 ⟨by decide, by decide, by decide +kernel⟩ (by decide), List.forall_mem_nil _⟩⟩⟩⟩, List.forall_mem_nil _, List.forall_mem_nil _, GG_pl⟩ (by decide +kernel)
def o_Sy_compileProduct_at_k3_0 : or_T := (12, 5, [], [], [], [], [(24, [0, 0], [])], [], [])
theorem oo_Sy_compileProduct_at_k3_0 {kA : Nat → ClassId} : or_ok PRD kA GG o_Sy_compileProduct_at_k3_0 := by
  refine or_mk fun A ta ws vs hD hth hl => ?_
  have nf0 : fc_1 PRD (24, [0, 0], []) ws (vs) := by
    refine ⟨nf_in hl rfl, sgq_1 ?_⟩
    · show n_v vs 0 = n_v vs 0
      first | rfl | simp only [true_and]
  refine ⟨(fun _ h => (by cases h)), [], trivial, ?_, (fun _ h => (by cases h))⟩
  rw [List.append_nil]
  exact List.forall_mem_cons.mpr ⟨⟨show (24 : Nat) < 100 from by decide, nf0⟩, (fun _ h => (by cases h))⟩
set_option maxHeartbeats 4000000 in
theorem vc_Sy_compileProduct_at_k3_1_0 (kind_0 : Int) (number_0 : Int) (f0 : (kind_0 ≠ 3) ∨ (number_0 ≤ 9999)) (kz_0_6 : 0 ≤ kind_0 ∧ kind_0 ≤ 127) (kz_0_8 : 0 ≤ number_0 ∧ number_0 ≤ 1000000) : (kind_0 ≠ 3) ∨ (number_0 ≤ 9999) := by
  first
    | omega
  
def o_Sy_compileProduct_at_k3_1 : or_T := (79, 9, [(0, (2, 0, 0, [11]))], [(20, [3], [50, 2, 0, 6, 8, 3, 7, 7, 3, 2, 0, 6, 0, 3, 0, 3, 2, 0, 8, 0, 9999]), (24, [0, 3], [])], [], [], [(20, [0], [50, 2, 0, 6, 8, 3, 7, 7, 3, 2, 0, 6, 0, 3, 0, 3, 2, 0, 8, 0, 9999])], [], [])
theorem oo_Sy_compileProduct_at_k3_1 {kA : Nat → ClassId} : or_ok PRD kA GG o_Sy_compileProduct_at_k3_1 := by
  refine or_mk fun A ta ws vs hD hth hl => ?_
  intro t0 r0 f0 f1
  replace f0 := shm_1840 f0
  replace f1 := shm_5 f1
  have q3 : n_v vs 3 = n_v vs 0 := f1.symm
  simp only [q3] at f0
  have kz_0_6 := fdq_313 hD hth r0
  have kz_0_8 := fdq_314 hD hth r0
  have nf0 : fc_1 PRD (20, [0], [50, 2, 0, 6, 8, 3, 7, 7, 3, 2, 0, 6, 0, 3, 0, 3, 2, 0, 8, 0, 9999]) ws (vs) := ⟨nf_in hl rfl, sgq_1840 (vc_Sy_compileProduct_at_k3_1_0 (w_fi ws (n_v vs 0) 6) (w_fi ws (n_v vs 0) 8) f0 kz_0_6 kz_0_8)⟩
  refine ⟨(fun _ h => (by cases h)), [], trivial, ?_, (fun _ h => (by cases h))⟩
  rw [List.append_nil]
  exact List.forall_mem_cons.mpr ⟨⟨show (20 : Nat) < 100 from by decide, nf0⟩, (fun _ h => (by cases h))⟩
set_option maxHeartbeats 4000000 in
theorem vc_Sy_compileProduct_at_k3_2_0 (x11 : Int) (x13 : Int) (k11 : 4 ≤ x11 ∧ x11 ≤ 4) (k13 : 0 ≤ x13 ∧ x13 ≤ 0) : (0 ≤ x11) ∧ ((0 ≤ x13) ∧ (((x11 * 65536) + x13) ≤ 851970)) := by
  first
    | omega
  
def o_Sy_compileProduct_at_k3_2 : or_T := (69, 14, [(11, (0, 4, 4, [])), (13, (0, 0, 0, []))], [], [], [], [(20, [11, 13], [50, 0, 0, 2, 6, 0, 2, 0, 0, 1, 0, 2, 6, 0, 2, 0, 0, 1, 1, 0, 10, 4, 6, 6, 2, 1, 0, 0, 65536, 1, 1, 0, 851970])], [], [])
theorem oo_Sy_compileProduct_at_k3_2 {kA : Nat → ClassId} : or_ok PRD kA GG o_Sy_compileProduct_at_k3_2 := by
  refine or_mk fun A ta ws vs hD hth hl => ?_
  intro t11 k11 t13 k13
  have nf0 : fc_1 PRD (20, [11, 13], [50, 0, 0, 2, 6, 0, 2, 0, 0, 1, 0, 2, 6, 0, 2, 0, 0, 1, 1, 0, 10, 4, 6, 6, 2, 1, 0, 0, 65536, 1, 1, 0, 851970]) ws (vs) := ⟨nf_in hl rfl, sgq_493 (vc_Sy_compileProduct_at_k3_2_0 (v_iv (n_v vs 11)) (v_iv (n_v vs 13)) k11 k13)⟩
  refine ⟨(fun _ h => (by cases h)), [], trivial, ?_, (fun _ h => (by cases h))⟩
  rw [List.append_nil]
  exact List.forall_mem_cons.mpr ⟨⟨show (20 : Nat) < 100 from by decide, nf0⟩, (fun _ h => (by cases h))⟩
set_option maxHeartbeats 4000000 in
theorem vc_Sy_compileProduct_at_k3_3_0 (kind_0 : Int) (number_0 : Int) (f1 : (kind_0 ≠ 3) ∨ (number_0 ≤ 9999)) (kz_0_6 : 0 ≤ kind_0 ∧ kind_0 ≤ 127) (kz_0_8 : 0 ≤ number_0 ∧ number_0 ≤ 1000000) : (kind_0 ≠ 3) ∨ (number_0 ≤ 9999) := by
  first
    | omega
  
def o_Sy_compileProduct_at_k3_3 : or_T := (65, 14, [(0, (2, 0, 0, [11]))], [(24, [0, 3], []), (20, [3], [50, 2, 0, 6, 8, 3, 7, 7, 3, 2, 0, 6, 0, 3, 0, 3, 2, 0, 8, 0, 9999])], [], [], [(20, [0], [50, 2, 0, 6, 8, 3, 7, 7, 3, 2, 0, 6, 0, 3, 0, 3, 2, 0, 8, 0, 9999])], [], [])
theorem oo_Sy_compileProduct_at_k3_3 {kA : Nat → ClassId} : or_ok PRD kA GG o_Sy_compileProduct_at_k3_3 := by
  refine or_mk fun A ta ws vs hD hth hl => ?_
  intro t0 r0 f0 f1
  replace f0 := shm_5 f0
  replace f1 := shm_1840 f1
  have q3 : n_v vs 3 = n_v vs 0 := f0.symm
  simp only [q3] at f1
  have kz_0_6 := fdq_313 hD hth r0
  have kz_0_8 := fdq_314 hD hth r0
  have nf0 : fc_1 PRD (20, [0], [50, 2, 0, 6, 8, 3, 7, 7, 3, 2, 0, 6, 0, 3, 0, 3, 2, 0, 8, 0, 9999]) ws (vs) := ⟨nf_in hl rfl, sgq_1840 (vc_Sy_compileProduct_at_k3_3_0 (w_fi ws (n_v vs 0) 6) (w_fi ws (n_v vs 0) 8) f1 kz_0_6 kz_0_8)⟩
  refine ⟨(fun _ h => (by cases h)), [], trivial, ?_, (fun _ h => (by cases h))⟩
  rw [List.append_nil]
  exact List.forall_mem_cons.mpr ⟨⟨show (20 : Nat) < 100 from by decide, nf0⟩, (fun _ h => (by cases h))⟩
set_option maxHeartbeats 4000000 in
theorem vc_Sy_compileProduct_at_k3_4_0 (kind_0 : Int) (number_0 : Int) (f3 : (kind_0 ≠ 3) ∨ (number_0 ≤ 9999)) (kz_0_6 : 0 ≤ kind_0 ∧ kind_0 ≤ 127) (kz_0_8 : 0 ≤ number_0 ∧ number_0 ≤ 1000000) : (kind_0 ≠ 3) ∨ (number_0 ≤ 9999) := by
  first
    | omega
  
def o_Sy_compileProduct_at_k3_4 : or_T := (79, 12, [(0, (2, 0, 0, [11]))], [(20, [3], [50, 2, 0, 6, 8, 3, 7, 7, 3, 2, 0, 6, 0, 3, 0, 3, 2, 0, 8, 0, 9999]), (24, [0, 3], [])], [], [], [(20, [0], [50, 2, 0, 6, 8, 3, 7, 7, 3, 2, 0, 6, 0, 3, 0, 3, 2, 0, 8, 0, 9999])], [], [])
theorem oo_Sy_compileProduct_at_k3_4 {kA : Nat → ClassId} : or_ok PRD kA GG o_Sy_compileProduct_at_k3_4 := by
  refine or_mk fun A ta ws vs hD hth hl => ?_
  intro t0 r0 f3 f4
  replace f3 := shm_1840 f3
  replace f4 := shm_5 f4
  have q3 : n_v vs 3 = n_v vs 0 := f4.symm
  simp only [q3] at f3
  have kz_0_6 := fdq_313 hD hth r0
  have kz_0_8 := fdq_314 hD hth r0
  have nf0 : fc_1 PRD (20, [0], [50, 2, 0, 6, 8, 3, 7, 7, 3, 2, 0, 6, 0, 3, 0, 3, 2, 0, 8, 0, 9999]) ws (vs) := ⟨nf_in hl rfl, sgq_1840 (vc_Sy_compileProduct_at_k3_4_0 (w_fi ws (n_v vs 0) 6) (w_fi ws (n_v vs 0) 8) f3 kz_0_6 kz_0_8)⟩
  refine ⟨(fun _ h => (by cases h)), [], trivial, ?_, (fun _ h => (by cases h))⟩
  rw [List.append_nil]
  exact List.forall_mem_cons.mpr ⟨⟨show (20 : Nat) < 100 from by decide, nf0⟩, (fun _ h => (by cases h))⟩
set_option maxHeartbeats 4000000 in
theorem vc_Sy_compileProduct_at_k3_5_0 (x12 : Int) (x14 : Int) (k12 : 5 ≤ x12 ∧ x12 ≤ 5) (k14 : 0 ≤ x14 ∧ x14 ≤ 0) : (0 ≤ x12) ∧ ((0 ≤ x14) ∧ (((x12 * 65536) + x14) ≤ 851970)) := by
  first
    | omega
  
def o_Sy_compileProduct_at_k3_5 : or_T := (69, 15, [(12, (0, 5, 5, [])), (14, (0, 0, 0, []))], [], [], [], [(20, [12, 14], [50, 0, 0, 2, 6, 0, 2, 0, 0, 1, 0, 2, 6, 0, 2, 0, 0, 1, 1, 0, 10, 4, 6, 6, 2, 1, 0, 0, 65536, 1, 1, 0, 851970])], [], [])
theorem oo_Sy_compileProduct_at_k3_5 {kA : Nat → ClassId} : or_ok PRD kA GG o_Sy_compileProduct_at_k3_5 := by
  refine or_mk fun A ta ws vs hD hth hl => ?_
  intro t12 k12 t14 k14
  have nf0 : fc_1 PRD (20, [12, 14], [50, 0, 0, 2, 6, 0, 2, 0, 0, 1, 0, 2, 6, 0, 2, 0, 0, 1, 1, 0, 10, 4, 6, 6, 2, 1, 0, 0, 65536, 1, 1, 0, 851970]) ws (vs) := ⟨nf_in hl rfl, sgq_493 (vc_Sy_compileProduct_at_k3_5_0 (v_iv (n_v vs 12)) (v_iv (n_v vs 14)) k12 k14)⟩
  refine ⟨(fun _ h => (by cases h)), [], trivial, ?_, (fun _ h => (by cases h))⟩
  rw [List.append_nil]
  exact List.forall_mem_cons.mpr ⟨⟨show (20 : Nat) < 100 from by decide, nf0⟩, (fun _ h => (by cases h))⟩
set_option maxHeartbeats 4000000 in
theorem vc_Sy_compileProduct_at_k3_6_0 (kind_0 : Int) (number_0 : Int) (f1 : (kind_0 ≠ 3) ∨ (number_0 ≤ 9999)) (kz_0_6 : 0 ≤ kind_0 ∧ kind_0 ≤ 127) (kz_0_8 : 0 ≤ number_0 ∧ number_0 ≤ 1000000) : (kind_0 ≠ 3) ∨ (number_0 ≤ 9999) := by
  first
    | omega
  
def o_Sy_compileProduct_at_k3_6 : or_T := (65, 15, [(0, (2, 0, 0, [11]))], [(24, [0, 3], []), (20, [3], [50, 2, 0, 6, 8, 3, 7, 7, 3, 2, 0, 6, 0, 3, 0, 3, 2, 0, 8, 0, 9999])], [], [], [(20, [0], [50, 2, 0, 6, 8, 3, 7, 7, 3, 2, 0, 6, 0, 3, 0, 3, 2, 0, 8, 0, 9999])], [], [])
theorem oo_Sy_compileProduct_at_k3_6 {kA : Nat → ClassId} : or_ok PRD kA GG o_Sy_compileProduct_at_k3_6 := by
  refine or_mk fun A ta ws vs hD hth hl => ?_
  intro t0 r0 f0 f1
  replace f0 := shm_5 f0
  replace f1 := shm_1840 f1
  have q3 : n_v vs 3 = n_v vs 0 := f0.symm
  simp only [q3] at f1
  have kz_0_6 := fdq_313 hD hth r0
  have kz_0_8 := fdq_314 hD hth r0
  have nf0 : fc_1 PRD (20, [0], [50, 2, 0, 6, 8, 3, 7, 7, 3, 2, 0, 6, 0, 3, 0, 3, 2, 0, 8, 0, 9999]) ws (vs) := ⟨nf_in hl rfl, sgq_1840 (vc_Sy_compileProduct_at_k3_6_0 (w_fi ws (n_v vs 0) 6) (w_fi ws (n_v vs 0) 8) f1 kz_0_6 kz_0_8)⟩
  refine ⟨(fun _ h => (by cases h)), [], trivial, ?_, (fun _ h => (by cases h))⟩
  rw [List.append_nil]
  exact List.forall_mem_cons.mpr ⟨⟨show (20 : Nat) < 100 from by decide, nf0⟩, (fun _ h => (by cases h))⟩
def n_Sy_compileProduct_at_k3_an : List an_T := [(12, [(0, (2, 0, 0, [11])), (1, (0, 3, 3, [])), (2, (0, 0, 2000, []))], [], (0, 0), [(0, 0, 99988), (1, 5, 2000), (0, 0, 100000)], [], [((0, 3), (2, 0, 0, [109]))], [(2, 0, 0, [11]), (0, 3, 3, []), (2, 0, 0, [109])], 0, [], [(20, [3], [50, 2, 0, 6, 8, 3, 7, 7, 3, 2, 0, 6, 0, 3, 0, 3, 2, 0, 8, 0, 9999]), (24, [0, 3], [])])]
def t_Sy_compileProduct_at_k3_ct : ct_L := [(1, 69, e_Sy_advance), (1, 128, e_Sy_emit), (10, 158, e_Sy_compileValue_at_k3), (178, 158, e_Sy_compileValue_at_k3)]
set_option maxRecDepth 100000 in
theorem c_Sy_compileProduct_at_k3 {l : Launch} {D : va_G} {kA : Nat → ClassId} (h_Sy_advance : ct_ok PRD l D kA GG y_Sy_advance z_Sy_advance e_Sy_advance) (h_Sy_compileValue_at_k3 : ct_ok PRD l D kA GG y_Sy_compileValue_at_k3 z_Sy_compileValue_at_k3 e_Sy_compileValue_at_k3) (h_Sy_emit : ct_ok PRD l D kA GG y_Sy_emit z_Sy_emit e_Sy_emit) : ct_ok PRD l D kA GG y_Sy_compileProduct_at_k3 z_Sy_compileProduct_at_k3 e_Sy_compileProduct_at_k3 := chk_all_ok (FT := [(31, 11, 6)]) (PT := []) (CT := t_Sy_compileProduct_at_k3_ct) (KT := []) (NT := []) (AN := n_Sy_compileProduct_at_k3_an) (OT := [o_Sy_compileProduct_at_k3_0, o_Sy_compileProduct_at_k3_1, o_Sy_compileProduct_at_k3_2, o_Sy_compileProduct_at_k3_3, o_Sy_compileProduct_at_k3_4, o_Sy_compileProduct_at_k3_5, o_Sy_compileProduct_at_k3_6]) 3 268 (List.forall_mem_cons.mpr ⟨oo_Sy_compileProduct_at_k3_0, List.forall_mem_cons.mpr ⟨oo_Sy_compileProduct_at_k3_1, List.forall_mem_cons.mpr ⟨oo_Sy_compileProduct_at_k3_2, List.forall_mem_cons.mpr ⟨oo_Sy_compileProduct_at_k3_3, List.forall_mem_cons.mpr ⟨oo_Sy_compileProduct_at_k3_4, List.forall_mem_cons.mpr ⟨oo_Sy_compileProduct_at_k3_5, List.forall_mem_cons.mpr ⟨oo_Sy_compileProduct_at_k3_6, List.forall_mem_nil _⟩⟩⟩⟩⟩⟩⟩) (by decide +kernel) ⟨List.forall_mem_cons.mpr ⟨gf_Sy_31, List.forall_mem_nil _⟩, List.forall_mem_nil _, List.forall_mem_cons.mpr ⟨cl_virtual (y := y_Sy_advance) (ci := 11) rfl rfl ⟨_, _, rfl⟩ (by decide +kernel) h_Sy_advance wm_2158 wm_23 wm_2155 wm_2157 wv_10_10 ⟨by decide, by decide, by decide +kernel⟩ (by decide), List.forall_mem_cons.mpr ⟨cl_virtual (y := y_Sy_emit) (ci := 11) rfl rfl ⟨_, _, rfl⟩ (by decide +kernel) h_Sy_emit wm_2258 wm_23 wm_2255 wm_2257 wv_11_2 ⟨by decide, by decide, by decide +kernel⟩ (by decide), List.forall_mem_cons.mpr ⟨cl_virtual (y := y_Sy_compileValue_at_k3) (ci := 11) rfl rfl ⟨_, _, rfl⟩ (by decide +kernel) h_Sy_compileValue_at_k3 wm_2274 wm_23 wm_2271 wm_2273 wv_11_6 ⟨by decide, by decide, by decide +kernel⟩ (by decide), List.forall_mem_cons.mpr ⟨cl_virtual (y := y_Sy_compileValue_at_k3) (ci := 11) rfl rfl ⟨_, _, rfl⟩ (by decide +kernel) h_Sy_compileValue_at_k3 wm_2274 wm_23 wm_2271 wm_2273 wv_11_6 ⟨by decide, by decide, by decide +kernel⟩ (by decide), List.forall_mem_nil _⟩⟩⟩⟩, List.forall_mem_nil _, List.forall_mem_nil _, GG_pl⟩ (by decide +kernel)
def o_Sy_compileProduct_at_k4_0 : or_T := (12, 5, [], [], [], [], [(24, [0, 0], [])], [], [])
theorem oo_Sy_compileProduct_at_k4_0 {kA : Nat → ClassId} : or_ok PRD kA GG o_Sy_compileProduct_at_k4_0 := by
  refine or_mk fun A ta ws vs hD hth hl => ?_
  have nf0 : fc_1 PRD (24, [0, 0], []) ws (vs) := by
    refine ⟨nf_in hl rfl, sgq_1 ?_⟩
    · show n_v vs 0 = n_v vs 0
      first | rfl | simp only [true_and]
  refine ⟨(fun _ h => (by cases h)), [], trivial, ?_, (fun _ h => (by cases h))⟩
  rw [List.append_nil]
  exact List.forall_mem_cons.mpr ⟨⟨show (24 : Nat) < 100 from by decide, nf0⟩, (fun _ h => (by cases h))⟩
set_option maxHeartbeats 4000000 in
theorem vc_Sy_compileProduct_at_k4_1_0 (kind_0 : Int) (number_0 : Int) (f0 : (kind_0 ≠ 3) ∨ (number_0 ≤ 9999)) (kz_0_6 : 0 ≤ kind_0 ∧ kind_0 ≤ 127) (kz_0_8 : 0 ≤ number_0 ∧ number_0 ≤ 1000000) : (kind_0 ≠ 3) ∨ (number_0 ≤ 9999) := by
  first
    | omega
  
def o_Sy_compileProduct_at_k4_1 : or_T := (79, 9, [(0, (2, 0, 0, [11]))], [(20, [3], [50, 2, 0, 6, 8, 3, 7, 7, 3, 2, 0, 6, 0, 3, 0, 3, 2, 0, 8, 0, 9999]), (24, [0, 3], [])], [], [], [(20, [0], [50, 2, 0, 6, 8, 3, 7, 7, 3, 2, 0, 6, 0, 3, 0, 3, 2, 0, 8, 0, 9999])], [], [])
theorem oo_Sy_compileProduct_at_k4_1 {kA : Nat → ClassId} : or_ok PRD kA GG o_Sy_compileProduct_at_k4_1 := by
  refine or_mk fun A ta ws vs hD hth hl => ?_
  intro t0 r0 f0 f1
  replace f0 := shm_1840 f0
  replace f1 := shm_5 f1
  have q3 : n_v vs 3 = n_v vs 0 := f1.symm
  simp only [q3] at f0
  have kz_0_6 := fdq_313 hD hth r0
  have kz_0_8 := fdq_314 hD hth r0
  have nf0 : fc_1 PRD (20, [0], [50, 2, 0, 6, 8, 3, 7, 7, 3, 2, 0, 6, 0, 3, 0, 3, 2, 0, 8, 0, 9999]) ws (vs) := ⟨nf_in hl rfl, sgq_1840 (vc_Sy_compileProduct_at_k4_1_0 (w_fi ws (n_v vs 0) 6) (w_fi ws (n_v vs 0) 8) f0 kz_0_6 kz_0_8)⟩
  refine ⟨(fun _ h => (by cases h)), [], trivial, ?_, (fun _ h => (by cases h))⟩
  rw [List.append_nil]
  exact List.forall_mem_cons.mpr ⟨⟨show (20 : Nat) < 100 from by decide, nf0⟩, (fun _ h => (by cases h))⟩
set_option maxHeartbeats 4000000 in
theorem vc_Sy_compileProduct_at_k4_2_0 (x11 : Int) (x13 : Int) (k11 : 4 ≤ x11 ∧ x11 ≤ 4) (k13 : 0 ≤ x13 ∧ x13 ≤ 0) : (0 ≤ x11) ∧ ((0 ≤ x13) ∧ (((x11 * 65536) + x13) ≤ 851970)) := by
  first
    | omega
  
def o_Sy_compileProduct_at_k4_2 : or_T := (69, 14, [(11, (0, 4, 4, [])), (13, (0, 0, 0, []))], [], [], [], [(20, [11, 13], [50, 0, 0, 2, 6, 0, 2, 0, 0, 1, 0, 2, 6, 0, 2, 0, 0, 1, 1, 0, 10, 4, 6, 6, 2, 1, 0, 0, 65536, 1, 1, 0, 851970])], [], [])
theorem oo_Sy_compileProduct_at_k4_2 {kA : Nat → ClassId} : or_ok PRD kA GG o_Sy_compileProduct_at_k4_2 := by
  refine or_mk fun A ta ws vs hD hth hl => ?_
  intro t11 k11 t13 k13
  have nf0 : fc_1 PRD (20, [11, 13], [50, 0, 0, 2, 6, 0, 2, 0, 0, 1, 0, 2, 6, 0, 2, 0, 0, 1, 1, 0, 10, 4, 6, 6, 2, 1, 0, 0, 65536, 1, 1, 0, 851970]) ws (vs) := ⟨nf_in hl rfl, sgq_493 (vc_Sy_compileProduct_at_k4_2_0 (v_iv (n_v vs 11)) (v_iv (n_v vs 13)) k11 k13)⟩
  refine ⟨(fun _ h => (by cases h)), [], trivial, ?_, (fun _ h => (by cases h))⟩
  rw [List.append_nil]
  exact List.forall_mem_cons.mpr ⟨⟨show (20 : Nat) < 100 from by decide, nf0⟩, (fun _ h => (by cases h))⟩
set_option maxHeartbeats 4000000 in
theorem vc_Sy_compileProduct_at_k4_3_0 (kind_0 : Int) (number_0 : Int) (f1 : (kind_0 ≠ 3) ∨ (number_0 ≤ 9999)) (kz_0_6 : 0 ≤ kind_0 ∧ kind_0 ≤ 127) (kz_0_8 : 0 ≤ number_0 ∧ number_0 ≤ 1000000) : (kind_0 ≠ 3) ∨ (number_0 ≤ 9999) := by
  first
    | omega
  
def o_Sy_compileProduct_at_k4_3 : or_T := (65, 14, [(0, (2, 0, 0, [11]))], [(24, [0, 3], []), (20, [3], [50, 2, 0, 6, 8, 3, 7, 7, 3, 2, 0, 6, 0, 3, 0, 3, 2, 0, 8, 0, 9999])], [], [], [(20, [0], [50, 2, 0, 6, 8, 3, 7, 7, 3, 2, 0, 6, 0, 3, 0, 3, 2, 0, 8, 0, 9999])], [], [])
theorem oo_Sy_compileProduct_at_k4_3 {kA : Nat → ClassId} : or_ok PRD kA GG o_Sy_compileProduct_at_k4_3 := by
  refine or_mk fun A ta ws vs hD hth hl => ?_
  intro t0 r0 f0 f1
  replace f0 := shm_5 f0
  replace f1 := shm_1840 f1
  have q3 : n_v vs 3 = n_v vs 0 := f0.symm
  simp only [q3] at f1
  have kz_0_6 := fdq_313 hD hth r0
  have kz_0_8 := fdq_314 hD hth r0
  have nf0 : fc_1 PRD (20, [0], [50, 2, 0, 6, 8, 3, 7, 7, 3, 2, 0, 6, 0, 3, 0, 3, 2, 0, 8, 0, 9999]) ws (vs) := ⟨nf_in hl rfl, sgq_1840 (vc_Sy_compileProduct_at_k4_3_0 (w_fi ws (n_v vs 0) 6) (w_fi ws (n_v vs 0) 8) f1 kz_0_6 kz_0_8)⟩
  refine ⟨(fun _ h => (by cases h)), [], trivial, ?_, (fun _ h => (by cases h))⟩
  rw [List.append_nil]
  exact List.forall_mem_cons.mpr ⟨⟨show (20 : Nat) < 100 from by decide, nf0⟩, (fun _ h => (by cases h))⟩
set_option maxHeartbeats 4000000 in
theorem vc_Sy_compileProduct_at_k4_4_0 (kind_0 : Int) (number_0 : Int) (f3 : (kind_0 ≠ 3) ∨ (number_0 ≤ 9999)) (kz_0_6 : 0 ≤ kind_0 ∧ kind_0 ≤ 127) (kz_0_8 : 0 ≤ number_0 ∧ number_0 ≤ 1000000) : (kind_0 ≠ 3) ∨ (number_0 ≤ 9999) := by
  first
    | omega
  
def o_Sy_compileProduct_at_k4_4 : or_T := (79, 12, [(0, (2, 0, 0, [11]))], [(20, [3], [50, 2, 0, 6, 8, 3, 7, 7, 3, 2, 0, 6, 0, 3, 0, 3, 2, 0, 8, 0, 9999]), (24, [0, 3], [])], [], [], [(20, [0], [50, 2, 0, 6, 8, 3, 7, 7, 3, 2, 0, 6, 0, 3, 0, 3, 2, 0, 8, 0, 9999])], [], [])
theorem oo_Sy_compileProduct_at_k4_4 {kA : Nat → ClassId} : or_ok PRD kA GG o_Sy_compileProduct_at_k4_4 := by
  refine or_mk fun A ta ws vs hD hth hl => ?_
  intro t0 r0 f3 f4
  replace f3 := shm_1840 f3
  replace f4 := shm_5 f4
  have q3 : n_v vs 3 = n_v vs 0 := f4.symm
  simp only [q3] at f3
  have kz_0_6 := fdq_313 hD hth r0
  have kz_0_8 := fdq_314 hD hth r0
  have nf0 : fc_1 PRD (20, [0], [50, 2, 0, 6, 8, 3, 7, 7, 3, 2, 0, 6, 0, 3, 0, 3, 2, 0, 8, 0, 9999]) ws (vs) := ⟨nf_in hl rfl, sgq_1840 (vc_Sy_compileProduct_at_k4_4_0 (w_fi ws (n_v vs 0) 6) (w_fi ws (n_v vs 0) 8) f3 kz_0_6 kz_0_8)⟩
  refine ⟨(fun _ h => (by cases h)), [], trivial, ?_, (fun _ h => (by cases h))⟩
  rw [List.append_nil]
  exact List.forall_mem_cons.mpr ⟨⟨show (20 : Nat) < 100 from by decide, nf0⟩, (fun _ h => (by cases h))⟩
set_option maxHeartbeats 4000000 in
theorem vc_Sy_compileProduct_at_k4_5_0 (x12 : Int) (x14 : Int) (k12 : 5 ≤ x12 ∧ x12 ≤ 5) (k14 : 0 ≤ x14 ∧ x14 ≤ 0) : (0 ≤ x12) ∧ ((0 ≤ x14) ∧ (((x12 * 65536) + x14) ≤ 851970)) := by
  first
    | omega
  
def o_Sy_compileProduct_at_k4_5 : or_T := (69, 15, [(12, (0, 5, 5, [])), (14, (0, 0, 0, []))], [], [], [], [(20, [12, 14], [50, 0, 0, 2, 6, 0, 2, 0, 0, 1, 0, 2, 6, 0, 2, 0, 0, 1, 1, 0, 10, 4, 6, 6, 2, 1, 0, 0, 65536, 1, 1, 0, 851970])], [], [])
theorem oo_Sy_compileProduct_at_k4_5 {kA : Nat → ClassId} : or_ok PRD kA GG o_Sy_compileProduct_at_k4_5 := by
  refine or_mk fun A ta ws vs hD hth hl => ?_
  intro t12 k12 t14 k14
  have nf0 : fc_1 PRD (20, [12, 14], [50, 0, 0, 2, 6, 0, 2, 0, 0, 1, 0, 2, 6, 0, 2, 0, 0, 1, 1, 0, 10, 4, 6, 6, 2, 1, 0, 0, 65536, 1, 1, 0, 851970]) ws (vs) := ⟨nf_in hl rfl, sgq_493 (vc_Sy_compileProduct_at_k4_5_0 (v_iv (n_v vs 12)) (v_iv (n_v vs 14)) k12 k14)⟩
  refine ⟨(fun _ h => (by cases h)), [], trivial, ?_, (fun _ h => (by cases h))⟩
  rw [List.append_nil]
  exact List.forall_mem_cons.mpr ⟨⟨show (20 : Nat) < 100 from by decide, nf0⟩, (fun _ h => (by cases h))⟩
set_option maxHeartbeats 4000000 in
theorem vc_Sy_compileProduct_at_k4_6_0 (kind_0 : Int) (number_0 : Int) (f1 : (kind_0 ≠ 3) ∨ (number_0 ≤ 9999)) (kz_0_6 : 0 ≤ kind_0 ∧ kind_0 ≤ 127) (kz_0_8 : 0 ≤ number_0 ∧ number_0 ≤ 1000000) : (kind_0 ≠ 3) ∨ (number_0 ≤ 9999) := by
  first
    | omega
  
def o_Sy_compileProduct_at_k4_6 : or_T := (65, 15, [(0, (2, 0, 0, [11]))], [(24, [0, 3], []), (20, [3], [50, 2, 0, 6, 8, 3, 7, 7, 3, 2, 0, 6, 0, 3, 0, 3, 2, 0, 8, 0, 9999])], [], [], [(20, [0], [50, 2, 0, 6, 8, 3, 7, 7, 3, 2, 0, 6, 0, 3, 0, 3, 2, 0, 8, 0, 9999])], [], [])
theorem oo_Sy_compileProduct_at_k4_6 {kA : Nat → ClassId} : or_ok PRD kA GG o_Sy_compileProduct_at_k4_6 := by
  refine or_mk fun A ta ws vs hD hth hl => ?_
  intro t0 r0 f0 f1
  replace f0 := shm_5 f0
  replace f1 := shm_1840 f1
  have q3 : n_v vs 3 = n_v vs 0 := f0.symm
  simp only [q3] at f1
  have kz_0_6 := fdq_313 hD hth r0
  have kz_0_8 := fdq_314 hD hth r0
  have nf0 : fc_1 PRD (20, [0], [50, 2, 0, 6, 8, 3, 7, 7, 3, 2, 0, 6, 0, 3, 0, 3, 2, 0, 8, 0, 9999]) ws (vs) := ⟨nf_in hl rfl, sgq_1840 (vc_Sy_compileProduct_at_k4_6_0 (w_fi ws (n_v vs 0) 6) (w_fi ws (n_v vs 0) 8) f1 kz_0_6 kz_0_8)⟩
  refine ⟨(fun _ h => (by cases h)), [], trivial, ?_, (fun _ h => (by cases h))⟩
  rw [List.append_nil]
  exact List.forall_mem_cons.mpr ⟨⟨show (20 : Nat) < 100 from by decide, nf0⟩, (fun _ h => (by cases h))⟩
def n_Sy_compileProduct_at_k4_an : List an_T := [(12, [(0, (2, 0, 0, [11])), (1, (0, 4, 4, [])), (2, (0, 0, 2000, []))], [], (0, 0), [(0, 0, 99988), (1, 5, 2000), (0, 0, 100000)], [], [((0, 3), (2, 0, 0, [109]))], [(2, 0, 0, [11]), (0, 4, 4, []), (2, 0, 0, [109])], 0, [], [(20, [3], [50, 2, 0, 6, 8, 3, 7, 7, 3, 2, 0, 6, 0, 3, 0, 3, 2, 0, 8, 0, 9999]), (24, [0, 3], [])])]
def t_Sy_compileProduct_at_k4_ct : ct_L := [(1, 69, e_Sy_advance), (1, 128, e_Sy_emit), (10, 158, e_Sy_compileValue_at_k4), (178, 158, e_Sy_compileValue_at_k4)]
set_option maxRecDepth 100000 in
theorem c_Sy_compileProduct_at_k4 {l : Launch} {D : va_G} {kA : Nat → ClassId} (h_Sy_advance : ct_ok PRD l D kA GG y_Sy_advance z_Sy_advance e_Sy_advance) (h_Sy_compileValue_at_k4 : ct_ok PRD l D kA GG y_Sy_compileValue_at_k4 z_Sy_compileValue_at_k4 e_Sy_compileValue_at_k4) (h_Sy_emit : ct_ok PRD l D kA GG y_Sy_emit z_Sy_emit e_Sy_emit) : ct_ok PRD l D kA GG y_Sy_compileProduct_at_k4 z_Sy_compileProduct_at_k4 e_Sy_compileProduct_at_k4 := chk_all_ok (FT := [(31, 11, 6)]) (PT := []) (CT := t_Sy_compileProduct_at_k4_ct) (KT := []) (NT := []) (AN := n_Sy_compileProduct_at_k4_an) (OT := [o_Sy_compileProduct_at_k4_0, o_Sy_compileProduct_at_k4_1, o_Sy_compileProduct_at_k4_2, o_Sy_compileProduct_at_k4_3, o_Sy_compileProduct_at_k4_4, o_Sy_compileProduct_at_k4_5, o_Sy_compileProduct_at_k4_6]) 3 268 (List.forall_mem_cons.mpr ⟨oo_Sy_compileProduct_at_k4_0, List.forall_mem_cons.mpr ⟨oo_Sy_compileProduct_at_k4_1, List.forall_mem_cons.mpr ⟨oo_Sy_compileProduct_at_k4_2, List.forall_mem_cons.mpr ⟨oo_Sy_compileProduct_at_k4_3, List.forall_mem_cons.mpr ⟨oo_Sy_compileProduct_at_k4_4, List.forall_mem_cons.mpr ⟨oo_Sy_compileProduct_at_k4_5, List.forall_mem_cons.mpr ⟨oo_Sy_compileProduct_at_k4_6, List.forall_mem_nil _⟩⟩⟩⟩⟩⟩⟩) (by decide +kernel) ⟨List.forall_mem_cons.mpr ⟨gf_Sy_31, List.forall_mem_nil _⟩, List.forall_mem_nil _, List.forall_mem_cons.mpr ⟨cl_virtual (y := y_Sy_advance) (ci := 11) rfl rfl ⟨_, _, rfl⟩ (by decide +kernel) h_Sy_advance wm_2158 wm_23 wm_2155 wm_2157 wv_10_10 ⟨by decide, by decide, by decide +kernel⟩ (by decide), List.forall_mem_cons.mpr ⟨cl_virtual (y := y_Sy_emit) (ci := 11) rfl rfl ⟨_, _, rfl⟩ (by decide +kernel) h_Sy_emit wm_2258 wm_23 wm_2255 wm_2257 wv_11_2 ⟨by decide, by decide, by decide +kernel⟩ (by decide), List.forall_mem_cons.mpr ⟨cl_virtual (y := y_Sy_compileValue_at_k4) (ci := 11) rfl rfl ⟨_, _, rfl⟩ (by decide +kernel) h_Sy_compileValue_at_k4 wm_2274 wm_23 wm_2271 wm_2273 wv_11_6 ⟨by decide, by decide, by decide +kernel⟩ (by decide), List.forall_mem_cons.mpr ⟨cl_virtual (y := y_Sy_compileValue_at_k4) (ci := 11) rfl rfl ⟨_, _, rfl⟩ (by decide +kernel) h_Sy_compileValue_at_k4 wm_2274 wm_23 wm_2271 wm_2273 wv_11_6 ⟨by decide, by decide, by decide +kernel⟩ (by decide), List.forall_mem_nil _⟩⟩⟩⟩, List.forall_mem_nil _, List.forall_mem_nil _, GG_pl⟩ (by decide +kernel)
def o_Sy_compileProduct_at_k5_0 : or_T := (12, 5, [], [], [], [], [(24, [0, 0], [])], [], [])
theorem oo_Sy_compileProduct_at_k5_0 {kA : Nat → ClassId} : or_ok PRD kA GG o_Sy_compileProduct_at_k5_0 := by
  refine or_mk fun A ta ws vs hD hth hl => ?_
  have nf0 : fc_1 PRD (24, [0, 0], []) ws (vs) := by
    refine ⟨nf_in hl rfl, sgq_1 ?_⟩
    · show n_v vs 0 = n_v vs 0
      first | rfl | simp only [true_and]
  refine ⟨(fun _ h => (by cases h)), [], trivial, ?_, (fun _ h => (by cases h))⟩
  rw [List.append_nil]
  exact List.forall_mem_cons.mpr ⟨⟨show (24 : Nat) < 100 from by decide, nf0⟩, (fun _ h => (by cases h))⟩
set_option maxHeartbeats 4000000 in
theorem vc_Sy_compileProduct_at_k5_1_0 (kind_0 : Int) (number_0 : Int) (f0 : (kind_0 ≠ 3) ∨ (number_0 ≤ 9999)) (kz_0_6 : 0 ≤ kind_0 ∧ kind_0 ≤ 127) (kz_0_8 : 0 ≤ number_0 ∧ number_0 ≤ 1000000) : (kind_0 ≠ 3) ∨ (number_0 ≤ 9999) := by
  first
    | omega
  
def o_Sy_compileProduct_at_k5_1 : or_T := (79, 9, [(0, (2, 0, 0, [11]))], [(20, [3], [50, 2, 0, 6, 8, 3, 7, 7, 3, 2, 0, 6, 0, 3, 0, 3, 2, 0, 8, 0, 9999]), (24, [0, 3], [])], [], [], [(20, [0], [50, 2, 0, 6, 8, 3, 7, 7, 3, 2, 0, 6, 0, 3, 0, 3, 2, 0, 8, 0, 9999])], [], [])
theorem oo_Sy_compileProduct_at_k5_1 {kA : Nat → ClassId} : or_ok PRD kA GG o_Sy_compileProduct_at_k5_1 := by
  refine or_mk fun A ta ws vs hD hth hl => ?_
  intro t0 r0 f0 f1
  replace f0 := shm_1840 f0
  replace f1 := shm_5 f1
  have q3 : n_v vs 3 = n_v vs 0 := f1.symm
  simp only [q3] at f0
  have kz_0_6 := fdq_313 hD hth r0
  have kz_0_8 := fdq_314 hD hth r0
  have nf0 : fc_1 PRD (20, [0], [50, 2, 0, 6, 8, 3, 7, 7, 3, 2, 0, 6, 0, 3, 0, 3, 2, 0, 8, 0, 9999]) ws (vs) := ⟨nf_in hl rfl, sgq_1840 (vc_Sy_compileProduct_at_k5_1_0 (w_fi ws (n_v vs 0) 6) (w_fi ws (n_v vs 0) 8) f0 kz_0_6 kz_0_8)⟩
  refine ⟨(fun _ h => (by cases h)), [], trivial, ?_, (fun _ h => (by cases h))⟩
  rw [List.append_nil]
  exact List.forall_mem_cons.mpr ⟨⟨show (20 : Nat) < 100 from by decide, nf0⟩, (fun _ h => (by cases h))⟩
set_option maxHeartbeats 4000000 in
theorem vc_Sy_compileProduct_at_k5_2_0 (x11 : Int) (x13 : Int) (k11 : 4 ≤ x11 ∧ x11 ≤ 4) (k13 : 0 ≤ x13 ∧ x13 ≤ 0) : (0 ≤ x11) ∧ ((0 ≤ x13) ∧ (((x11 * 65536) + x13) ≤ 851970)) := by
  first
    | omega
  
def o_Sy_compileProduct_at_k5_2 : or_T := (69, 14, [(11, (0, 4, 4, [])), (13, (0, 0, 0, []))], [], [], [], [(20, [11, 13], [50, 0, 0, 2, 6, 0, 2, 0, 0, 1, 0, 2, 6, 0, 2, 0, 0, 1, 1, 0, 10, 4, 6, 6, 2, 1, 0, 0, 65536, 1, 1, 0, 851970])], [], [])
theorem oo_Sy_compileProduct_at_k5_2 {kA : Nat → ClassId} : or_ok PRD kA GG o_Sy_compileProduct_at_k5_2 := by
  refine or_mk fun A ta ws vs hD hth hl => ?_
  intro t11 k11 t13 k13
  have nf0 : fc_1 PRD (20, [11, 13], [50, 0, 0, 2, 6, 0, 2, 0, 0, 1, 0, 2, 6, 0, 2, 0, 0, 1, 1, 0, 10, 4, 6, 6, 2, 1, 0, 0, 65536, 1, 1, 0, 851970]) ws (vs) := ⟨nf_in hl rfl, sgq_493 (vc_Sy_compileProduct_at_k5_2_0 (v_iv (n_v vs 11)) (v_iv (n_v vs 13)) k11 k13)⟩
  refine ⟨(fun _ h => (by cases h)), [], trivial, ?_, (fun _ h => (by cases h))⟩
  rw [List.append_nil]
  exact List.forall_mem_cons.mpr ⟨⟨show (20 : Nat) < 100 from by decide, nf0⟩, (fun _ h => (by cases h))⟩
set_option maxHeartbeats 4000000 in
theorem vc_Sy_compileProduct_at_k5_3_0 (kind_0 : Int) (number_0 : Int) (f1 : (kind_0 ≠ 3) ∨ (number_0 ≤ 9999)) (kz_0_6 : 0 ≤ kind_0 ∧ kind_0 ≤ 127) (kz_0_8 : 0 ≤ number_0 ∧ number_0 ≤ 1000000) : (kind_0 ≠ 3) ∨ (number_0 ≤ 9999) := by
  first
    | omega
  
def o_Sy_compileProduct_at_k5_3 : or_T := (65, 14, [(0, (2, 0, 0, [11]))], [(24, [0, 3], []), (20, [3], [50, 2, 0, 6, 8, 3, 7, 7, 3, 2, 0, 6, 0, 3, 0, 3, 2, 0, 8, 0, 9999])], [], [], [(20, [0], [50, 2, 0, 6, 8, 3, 7, 7, 3, 2, 0, 6, 0, 3, 0, 3, 2, 0, 8, 0, 9999])], [], [])
theorem oo_Sy_compileProduct_at_k5_3 {kA : Nat → ClassId} : or_ok PRD kA GG o_Sy_compileProduct_at_k5_3 := by
  refine or_mk fun A ta ws vs hD hth hl => ?_
  intro t0 r0 f0 f1
  replace f0 := shm_5 f0
  replace f1 := shm_1840 f1
  have q3 : n_v vs 3 = n_v vs 0 := f0.symm
  simp only [q3] at f1
  have kz_0_6 := fdq_313 hD hth r0
  have kz_0_8 := fdq_314 hD hth r0
  have nf0 : fc_1 PRD (20, [0], [50, 2, 0, 6, 8, 3, 7, 7, 3, 2, 0, 6, 0, 3, 0, 3, 2, 0, 8, 0, 9999]) ws (vs) := ⟨nf_in hl rfl, sgq_1840 (vc_Sy_compileProduct_at_k5_3_0 (w_fi ws (n_v vs 0) 6) (w_fi ws (n_v vs 0) 8) f1 kz_0_6 kz_0_8)⟩
  refine ⟨(fun _ h => (by cases h)), [], trivial, ?_, (fun _ h => (by cases h))⟩
  rw [List.append_nil]
  exact List.forall_mem_cons.mpr ⟨⟨show (20 : Nat) < 100 from by decide, nf0⟩, (fun _ h => (by cases h))⟩
set_option maxHeartbeats 4000000 in
theorem vc_Sy_compileProduct_at_k5_4_0 (kind_0 : Int) (number_0 : Int) (f3 : (kind_0 ≠ 3) ∨ (number_0 ≤ 9999)) (kz_0_6 : 0 ≤ kind_0 ∧ kind_0 ≤ 127) (kz_0_8 : 0 ≤ number_0 ∧ number_0 ≤ 1000000) : (kind_0 ≠ 3) ∨ (number_0 ≤ 9999) := by
  first
    | omega
  
def o_Sy_compileProduct_at_k5_4 : or_T := (79, 12, [(0, (2, 0, 0, [11]))], [(20, [3], [50, 2, 0, 6, 8, 3, 7, 7, 3, 2, 0, 6, 0, 3, 0, 3, 2, 0, 8, 0, 9999]), (24, [0, 3], [])], [], [], [(20, [0], [50, 2, 0, 6, 8, 3, 7, 7, 3, 2, 0, 6, 0, 3, 0, 3, 2, 0, 8, 0, 9999])], [], [])
theorem oo_Sy_compileProduct_at_k5_4 {kA : Nat → ClassId} : or_ok PRD kA GG o_Sy_compileProduct_at_k5_4 := by
  refine or_mk fun A ta ws vs hD hth hl => ?_
  intro t0 r0 f3 f4
  replace f3 := shm_1840 f3
  replace f4 := shm_5 f4
  have q3 : n_v vs 3 = n_v vs 0 := f4.symm
  simp only [q3] at f3
  have kz_0_6 := fdq_313 hD hth r0
  have kz_0_8 := fdq_314 hD hth r0
  have nf0 : fc_1 PRD (20, [0], [50, 2, 0, 6, 8, 3, 7, 7, 3, 2, 0, 6, 0, 3, 0, 3, 2, 0, 8, 0, 9999]) ws (vs) := ⟨nf_in hl rfl, sgq_1840 (vc_Sy_compileProduct_at_k5_4_0 (w_fi ws (n_v vs 0) 6) (w_fi ws (n_v vs 0) 8) f3 kz_0_6 kz_0_8)⟩
  refine ⟨(fun _ h => (by cases h)), [], trivial, ?_, (fun _ h => (by cases h))⟩
  rw [List.append_nil]
  exact List.forall_mem_cons.mpr ⟨⟨show (20 : Nat) < 100 from by decide, nf0⟩, (fun _ h => (by cases h))⟩
set_option maxHeartbeats 4000000 in
theorem vc_Sy_compileProduct_at_k5_5_0 (x12 : Int) (x14 : Int) (k12 : 5 ≤ x12 ∧ x12 ≤ 5) (k14 : 0 ≤ x14 ∧ x14 ≤ 0) : (0 ≤ x12) ∧ ((0 ≤ x14) ∧ (((x12 * 65536) + x14) ≤ 851970)) := by
  first
    | omega
  
def o_Sy_compileProduct_at_k5_5 : or_T := (69, 15, [(12, (0, 5, 5, [])), (14, (0, 0, 0, []))], [], [], [], [(20, [12, 14], [50, 0, 0, 2, 6, 0, 2, 0, 0, 1, 0, 2, 6, 0, 2, 0, 0, 1, 1, 0, 10, 4, 6, 6, 2, 1, 0, 0, 65536, 1, 1, 0, 851970])], [], [])
theorem oo_Sy_compileProduct_at_k5_5 {kA : Nat → ClassId} : or_ok PRD kA GG o_Sy_compileProduct_at_k5_5 := by
  refine or_mk fun A ta ws vs hD hth hl => ?_
  intro t12 k12 t14 k14
  have nf0 : fc_1 PRD (20, [12, 14], [50, 0, 0, 2, 6, 0, 2, 0, 0, 1, 0, 2, 6, 0, 2, 0, 0, 1, 1, 0, 10, 4, 6, 6, 2, 1, 0, 0, 65536, 1, 1, 0, 851970]) ws (vs) := ⟨nf_in hl rfl, sgq_493 (vc_Sy_compileProduct_at_k5_5_0 (v_iv (n_v vs 12)) (v_iv (n_v vs 14)) k12 k14)⟩
  refine ⟨(fun _ h => (by cases h)), [], trivial, ?_, (fun _ h => (by cases h))⟩
  rw [List.append_nil]
  exact List.forall_mem_cons.mpr ⟨⟨show (20 : Nat) < 100 from by decide, nf0⟩, (fun _ h => (by cases h))⟩
set_option maxHeartbeats 4000000 in
theorem vc_Sy_compileProduct_at_k5_6_0 (kind_0 : Int) (number_0 : Int) (f1 : (kind_0 ≠ 3) ∨ (number_0 ≤ 9999)) (kz_0_6 : 0 ≤ kind_0 ∧ kind_0 ≤ 127) (kz_0_8 : 0 ≤ number_0 ∧ number_0 ≤ 1000000) : (kind_0 ≠ 3) ∨ (number_0 ≤ 9999) := by
  first
    | omega
  
def o_Sy_compileProduct_at_k5_6 : or_T := (65, 15, [(0, (2, 0, 0, [11]))], [(24, [0, 3], []), (20, [3], [50, 2, 0, 6, 8, 3, 7, 7, 3, 2, 0, 6, 0, 3, 0, 3, 2, 0, 8, 0, 9999])], [], [], [(20, [0], [50, 2, 0, 6, 8, 3, 7, 7, 3, 2, 0, 6, 0, 3, 0, 3, 2, 0, 8, 0, 9999])], [], [])
theorem oo_Sy_compileProduct_at_k5_6 {kA : Nat → ClassId} : or_ok PRD kA GG o_Sy_compileProduct_at_k5_6 := by
  refine or_mk fun A ta ws vs hD hth hl => ?_
  intro t0 r0 f0 f1
  replace f0 := shm_5 f0
  replace f1 := shm_1840 f1
  have q3 : n_v vs 3 = n_v vs 0 := f0.symm
  simp only [q3] at f1
  have kz_0_6 := fdq_313 hD hth r0
  have kz_0_8 := fdq_314 hD hth r0
  have nf0 : fc_1 PRD (20, [0], [50, 2, 0, 6, 8, 3, 7, 7, 3, 2, 0, 6, 0, 3, 0, 3, 2, 0, 8, 0, 9999]) ws (vs) := ⟨nf_in hl rfl, sgq_1840 (vc_Sy_compileProduct_at_k5_6_0 (w_fi ws (n_v vs 0) 6) (w_fi ws (n_v vs 0) 8) f1 kz_0_6 kz_0_8)⟩
  refine ⟨(fun _ h => (by cases h)), [], trivial, ?_, (fun _ h => (by cases h))⟩
  rw [List.append_nil]
  exact List.forall_mem_cons.mpr ⟨⟨show (20 : Nat) < 100 from by decide, nf0⟩, (fun _ h => (by cases h))⟩
def n_Sy_compileProduct_at_k5_an : List an_T := [(12, [(0, (2, 0, 0, [11])), (1, (0, 5, 5, [])), (2, (0, 0, 2000, []))], [], (0, 0), [(0, 0, 99988), (1, 5, 2000), (0, 0, 100000)], [], [((0, 3), (2, 0, 0, [109]))], [(2, 0, 0, [11]), (0, 5, 5, []), (2, 0, 0, [109])], 0, [], [(20, [3], [50, 2, 0, 6, 8, 3, 7, 7, 3, 2, 0, 6, 0, 3, 0, 3, 2, 0, 8, 0, 9999]), (24, [0, 3], [])])]
def t_Sy_compileProduct_at_k5_ct : ct_L := [(1, 69, e_Sy_advance), (1, 128, e_Sy_emit), (10, 158, e_Sy_compileValue_at_k5), (178, 158, e_Sy_compileValue_at_k5)]
set_option maxRecDepth 100000 in
theorem c_Sy_compileProduct_at_k5 {l : Launch} {D : va_G} {kA : Nat → ClassId} (h_Sy_advance : ct_ok PRD l D kA GG y_Sy_advance z_Sy_advance e_Sy_advance) (h_Sy_compileValue_at_k5 : ct_ok PRD l D kA GG y_Sy_compileValue_at_k5 z_Sy_compileValue_at_k5 e_Sy_compileValue_at_k5) (h_Sy_emit : ct_ok PRD l D kA GG y_Sy_emit z_Sy_emit e_Sy_emit) : ct_ok PRD l D kA GG y_Sy_compileProduct_at_k5 z_Sy_compileProduct_at_k5 e_Sy_compileProduct_at_k5 := chk_all_ok (FT := [(31, 11, 6)]) (PT := []) (CT := t_Sy_compileProduct_at_k5_ct) (KT := []) (NT := []) (AN := n_Sy_compileProduct_at_k5_an) (OT := [o_Sy_compileProduct_at_k5_0, o_Sy_compileProduct_at_k5_1, o_Sy_compileProduct_at_k5_2, o_Sy_compileProduct_at_k5_3, o_Sy_compileProduct_at_k5_4, o_Sy_compileProduct_at_k5_5, o_Sy_compileProduct_at_k5_6]) 3 268 (List.forall_mem_cons.mpr ⟨oo_Sy_compileProduct_at_k5_0, List.forall_mem_cons.mpr ⟨oo_Sy_compileProduct_at_k5_1, List.forall_mem_cons.mpr ⟨oo_Sy_compileProduct_at_k5_2, List.forall_mem_cons.mpr ⟨oo_Sy_compileProduct_at_k5_3, List.forall_mem_cons.mpr ⟨oo_Sy_compileProduct_at_k5_4, List.forall_mem_cons.mpr ⟨oo_Sy_compileProduct_at_k5_5, List.forall_mem_cons.mpr ⟨oo_Sy_compileProduct_at_k5_6, List.forall_mem_nil _⟩⟩⟩⟩⟩⟩⟩) (by decide +kernel) ⟨List.forall_mem_cons.mpr ⟨gf_Sy_31, List.forall_mem_nil _⟩, List.forall_mem_nil _, List.forall_mem_cons.mpr ⟨cl_virtual (y := y_Sy_advance) (ci := 11) rfl rfl ⟨_, _, rfl⟩ (by decide +kernel) h_Sy_advance wm_2158 wm_23 wm_2155 wm_2157 wv_10_10 ⟨by decide, by decide, by decide +kernel⟩ (by decide), List.forall_mem_cons.mpr ⟨cl_virtual (y := y_Sy_emit) (ci := 11) rfl rfl ⟨_, _, rfl⟩ (by decide +kernel) h_Sy_emit wm_2258 wm_23 wm_2255 wm_2257 wv_11_2 ⟨by decide, by decide, by decide +kernel⟩ (by decide), List.forall_mem_cons.mpr ⟨cl_virtual (y := y_Sy_compileValue_at_k5) (ci := 11) rfl rfl ⟨_, _, rfl⟩ (by decide +kernel) h_Sy_compileValue_at_k5 wm_2274 wm_23 wm_2271 wm_2273 wv_11_6 ⟨by decide, by decide, by decide +kernel⟩ (by decide), List.forall_mem_cons.mpr ⟨cl_virtual (y := y_Sy_compileValue_at_k5) (ci := 11) rfl rfl ⟨_, _, rfl⟩ (by decide +kernel) h_Sy_compileValue_at_k5 wm_2274 wm_23 wm_2271 wm_2273 wv_11_6 ⟨by decide, by decide, by decide +kernel⟩ (by decide), List.forall_mem_nil _⟩⟩⟩⟩, List.forall_mem_nil _, List.forall_mem_nil _, GG_pl⟩ (by decide +kernel)
def o_Sy_compileProduct_at_k6_0 : or_T := (12, 5, [], [], [], [], [(24, [0, 0], [])], [], [])
theorem oo_Sy_compileProduct_at_k6_0 {kA : Nat → ClassId} : or_ok PRD kA GG o_Sy_compileProduct_at_k6_0 := by
  refine or_mk fun A ta ws vs hD hth hl => ?_
  have nf0 : fc_1 PRD (24, [0, 0], []) ws (vs) := by
    refine ⟨nf_in hl rfl, sgq_1 ?_⟩
    · show n_v vs 0 = n_v vs 0
      first | rfl | simp only [true_and]
  refine ⟨(fun _ h => (by cases h)), [], trivial, ?_, (fun _ h => (by cases h))⟩
  rw [List.append_nil]
  exact List.forall_mem_cons.mpr ⟨⟨show (24 : Nat) < 100 from by decide, nf0⟩, (fun _ h => (by cases h))⟩
set_option maxHeartbeats 4000000 in
theorem vc_Sy_compileProduct_at_k6_1_0 (kind_0 : Int) (number_0 : Int) (f0 : (kind_0 ≠ 3) ∨ (number_0 ≤ 9999)) (kz_0_6 : 0 ≤ kind_0 ∧ kind_0 ≤ 127) (kz_0_8 : 0 ≤ number_0 ∧ number_0 ≤ 1000000) : (kind_0 ≠ 3) ∨ (number_0 ≤ 9999) := by
  first
    | omega
  
def o_Sy_compileProduct_at_k6_1 : or_T := (79, 9, [(0, (2, 0, 0, [11]))], [(20, [3], [50, 2, 0, 6, 8, 3, 7, 7, 3, 2, 0, 6, 0, 3, 0, 3, 2, 0, 8, 0, 9999]), (24, [0, 3], [])], [], [], [(20, [0], [50, 2, 0, 6, 8, 3, 7, 7, 3, 2, 0, 6, 0, 3, 0, 3, 2, 0, 8, 0, 9999])], [], [])
theorem oo_Sy_compileProduct_at_k6_1 {kA : Nat → ClassId} : or_ok PRD kA GG o_Sy_compileProduct_at_k6_1 := by
  refine or_mk fun A ta ws vs hD hth hl => ?_
  intro t0 r0 f0 f1
  replace f0 := shm_1840 f0
  replace f1 := shm_5 f1
  have q3 : n_v vs 3 = n_v vs 0 := f1.symm
  simp only [q3] at f0
  have kz_0_6 := fdq_313 hD hth r0
  have kz_0_8 := fdq_314 hD hth r0
  have nf0 : fc_1 PRD (20, [0], [50, 2, 0, 6, 8, 3, 7, 7, 3, 2, 0, 6, 0, 3, 0, 3, 2, 0, 8, 0, 9999]) ws (vs) := ⟨nf_in hl rfl, sgq_1840 (vc_Sy_compileProduct_at_k6_1_0 (w_fi ws (n_v vs 0) 6) (w_fi ws (n_v vs 0) 8) f0 kz_0_6 kz_0_8)⟩
  refine ⟨(fun _ h => (by cases h)), [], trivial, ?_, (fun _ h => (by cases h))⟩
  rw [List.append_nil]
  exact List.forall_mem_cons.mpr ⟨⟨show (20 : Nat) < 100 from by decide, nf0⟩, (fun _ h => (by cases h))⟩
set_option maxHeartbeats 4000000 in
theorem vc_Sy_compileProduct_at_k6_2_0 (x11 : Int) (x13 : Int) (k11 : 4 ≤ x11 ∧ x11 ≤ 4) (k13 : 0 ≤ x13 ∧ x13 ≤ 0) : (0 ≤ x11) ∧ ((0 ≤ x13) ∧ (((x11 * 65536) + x13) ≤ 851970)) := by
  first
    | omega
  
def o_Sy_compileProduct_at_k6_2 : or_T := (69, 14, [(11, (0, 4, 4, [])), (13, (0, 0, 0, []))], [], [], [], [(20, [11, 13], [50, 0, 0, 2, 6, 0, 2, 0, 0, 1, 0, 2, 6, 0, 2, 0, 0, 1, 1, 0, 10, 4, 6, 6, 2, 1, 0, 0, 65536, 1, 1, 0, 851970])], [], [])
theorem oo_Sy_compileProduct_at_k6_2 {kA : Nat → ClassId} : or_ok PRD kA GG o_Sy_compileProduct_at_k6_2 := by
  refine or_mk fun A ta ws vs hD hth hl => ?_
  intro t11 k11 t13 k13
  have nf0 : fc_1 PRD (20, [11, 13], [50, 0, 0, 2, 6, 0, 2, 0, 0, 1, 0, 2, 6, 0, 2, 0, 0, 1, 1, 0, 10, 4, 6, 6, 2, 1, 0, 0, 65536, 1, 1, 0, 851970]) ws (vs) := ⟨nf_in hl rfl, sgq_493 (vc_Sy_compileProduct_at_k6_2_0 (v_iv (n_v vs 11)) (v_iv (n_v vs 13)) k11 k13)⟩
  refine ⟨(fun _ h => (by cases h)), [], trivial, ?_, (fun _ h => (by cases h))⟩
  rw [List.append_nil]
  exact List.forall_mem_cons.mpr ⟨⟨show (20 : Nat) < 100 from by decide, nf0⟩, (fun _ h => (by cases h))⟩
set_option maxHeartbeats 4000000 in
theorem vc_Sy_compileProduct_at_k6_3_0 (kind_0 : Int) (number_0 : Int) (f1 : (kind_0 ≠ 3) ∨ (number_0 ≤ 9999)) (kz_0_6 : 0 ≤ kind_0 ∧ kind_0 ≤ 127) (kz_0_8 : 0 ≤ number_0 ∧ number_0 ≤ 1000000) : (kind_0 ≠ 3) ∨ (number_0 ≤ 9999) := by
  first
    | omega
  
def o_Sy_compileProduct_at_k6_3 : or_T := (65, 14, [(0, (2, 0, 0, [11]))], [(24, [0, 3], []), (20, [3], [50, 2, 0, 6, 8, 3, 7, 7, 3, 2, 0, 6, 0, 3, 0, 3, 2, 0, 8, 0, 9999])], [], [], [(20, [0], [50, 2, 0, 6, 8, 3, 7, 7, 3, 2, 0, 6, 0, 3, 0, 3, 2, 0, 8, 0, 9999])], [], [])
theorem oo_Sy_compileProduct_at_k6_3 {kA : Nat → ClassId} : or_ok PRD kA GG o_Sy_compileProduct_at_k6_3 := by
  refine or_mk fun A ta ws vs hD hth hl => ?_
  intro t0 r0 f0 f1
  replace f0 := shm_5 f0
  replace f1 := shm_1840 f1
  have q3 : n_v vs 3 = n_v vs 0 := f0.symm
  simp only [q3] at f1
  have kz_0_6 := fdq_313 hD hth r0
  have kz_0_8 := fdq_314 hD hth r0
  have nf0 : fc_1 PRD (20, [0], [50, 2, 0, 6, 8, 3, 7, 7, 3, 2, 0, 6, 0, 3, 0, 3, 2, 0, 8, 0, 9999]) ws (vs) := ⟨nf_in hl rfl, sgq_1840 (vc_Sy_compileProduct_at_k6_3_0 (w_fi ws (n_v vs 0) 6) (w_fi ws (n_v vs 0) 8) f1 kz_0_6 kz_0_8)⟩
  refine ⟨(fun _ h => (by cases h)), [], trivial, ?_, (fun _ h => (by cases h))⟩
  rw [List.append_nil]
  exact List.forall_mem_cons.mpr ⟨⟨show (20 : Nat) < 100 from by decide, nf0⟩, (fun _ h => (by cases h))⟩
set_option maxHeartbeats 4000000 in
theorem vc_Sy_compileProduct_at_k6_4_0 (kind_0 : Int) (number_0 : Int) (f3 : (kind_0 ≠ 3) ∨ (number_0 ≤ 9999)) (kz_0_6 : 0 ≤ kind_0 ∧ kind_0 ≤ 127) (kz_0_8 : 0 ≤ number_0 ∧ number_0 ≤ 1000000) : (kind_0 ≠ 3) ∨ (number_0 ≤ 9999) := by
  first
    | omega
  
def o_Sy_compileProduct_at_k6_4 : or_T := (79, 12, [(0, (2, 0, 0, [11]))], [(20, [3], [50, 2, 0, 6, 8, 3, 7, 7, 3, 2, 0, 6, 0, 3, 0, 3, 2, 0, 8, 0, 9999]), (24, [0, 3], [])], [], [], [(20, [0], [50, 2, 0, 6, 8, 3, 7, 7, 3, 2, 0, 6, 0, 3, 0, 3, 2, 0, 8, 0, 9999])], [], [])
theorem oo_Sy_compileProduct_at_k6_4 {kA : Nat → ClassId} : or_ok PRD kA GG o_Sy_compileProduct_at_k6_4 := by
  refine or_mk fun A ta ws vs hD hth hl => ?_
  intro t0 r0 f3 f4
  replace f3 := shm_1840 f3
  replace f4 := shm_5 f4
  have q3 : n_v vs 3 = n_v vs 0 := f4.symm
  simp only [q3] at f3
  have kz_0_6 := fdq_313 hD hth r0
  have kz_0_8 := fdq_314 hD hth r0
  have nf0 : fc_1 PRD (20, [0], [50, 2, 0, 6, 8, 3, 7, 7, 3, 2, 0, 6, 0, 3, 0, 3, 2, 0, 8, 0, 9999]) ws (vs) := ⟨nf_in hl rfl, sgq_1840 (vc_Sy_compileProduct_at_k6_4_0 (w_fi ws (n_v vs 0) 6) (w_fi ws (n_v vs 0) 8) f3 kz_0_6 kz_0_8)⟩
  refine ⟨(fun _ h => (by cases h)), [], trivial, ?_, (fun _ h => (by cases h))⟩
  rw [List.append_nil]
  exact List.forall_mem_cons.mpr ⟨⟨show (20 : Nat) < 100 from by decide, nf0⟩, (fun _ h => (by cases h))⟩
set_option maxHeartbeats 4000000 in
theorem vc_Sy_compileProduct_at_k6_5_0 (x12 : Int) (x14 : Int) (k12 : 5 ≤ x12 ∧ x12 ≤ 5) (k14 : 0 ≤ x14 ∧ x14 ≤ 0) : (0 ≤ x12) ∧ ((0 ≤ x14) ∧ (((x12 * 65536) + x14) ≤ 851970)) := by
  first
    | omega
  
def o_Sy_compileProduct_at_k6_5 : or_T := (69, 15, [(12, (0, 5, 5, [])), (14, (0, 0, 0, []))], [], [], [], [(20, [12, 14], [50, 0, 0, 2, 6, 0, 2, 0, 0, 1, 0, 2, 6, 0, 2, 0, 0, 1, 1, 0, 10, 4, 6, 6, 2, 1, 0, 0, 65536, 1, 1, 0, 851970])], [], [])
theorem oo_Sy_compileProduct_at_k6_5 {kA : Nat → ClassId} : or_ok PRD kA GG o_Sy_compileProduct_at_k6_5 := by
  refine or_mk fun A ta ws vs hD hth hl => ?_
  intro t12 k12 t14 k14
  have nf0 : fc_1 PRD (20, [12, 14], [50, 0, 0, 2, 6, 0, 2, 0, 0, 1, 0, 2, 6, 0, 2, 0, 0, 1, 1, 0, 10, 4, 6, 6, 2, 1, 0, 0, 65536, 1, 1, 0, 851970]) ws (vs) := ⟨nf_in hl rfl, sgq_493 (vc_Sy_compileProduct_at_k6_5_0 (v_iv (n_v vs 12)) (v_iv (n_v vs 14)) k12 k14)⟩
  refine ⟨(fun _ h => (by cases h)), [], trivial, ?_, (fun _ h => (by cases h))⟩
  rw [List.append_nil]
  exact List.forall_mem_cons.mpr ⟨⟨show (20 : Nat) < 100 from by decide, nf0⟩, (fun _ h => (by cases h))⟩
set_option maxHeartbeats 4000000 in
theorem vc_Sy_compileProduct_at_k6_6_0 (kind_0 : Int) (number_0 : Int) (f1 : (kind_0 ≠ 3) ∨ (number_0 ≤ 9999)) (kz_0_6 : 0 ≤ kind_0 ∧ kind_0 ≤ 127) (kz_0_8 : 0 ≤ number_0 ∧ number_0 ≤ 1000000) : (kind_0 ≠ 3) ∨ (number_0 ≤ 9999) := by
  first
    | omega
  
def o_Sy_compileProduct_at_k6_6 : or_T := (65, 15, [(0, (2, 0, 0, [11]))], [(24, [0, 3], []), (20, [3], [50, 2, 0, 6, 8, 3, 7, 7, 3, 2, 0, 6, 0, 3, 0, 3, 2, 0, 8, 0, 9999])], [], [], [(20, [0], [50, 2, 0, 6, 8, 3, 7, 7, 3, 2, 0, 6, 0, 3, 0, 3, 2, 0, 8, 0, 9999])], [], [])
theorem oo_Sy_compileProduct_at_k6_6 {kA : Nat → ClassId} : or_ok PRD kA GG o_Sy_compileProduct_at_k6_6 := by
  refine or_mk fun A ta ws vs hD hth hl => ?_
  intro t0 r0 f0 f1
  replace f0 := shm_5 f0
  replace f1 := shm_1840 f1
  have q3 : n_v vs 3 = n_v vs 0 := f0.symm
  simp only [q3] at f1
  have kz_0_6 := fdq_313 hD hth r0
  have kz_0_8 := fdq_314 hD hth r0
  have nf0 : fc_1 PRD (20, [0], [50, 2, 0, 6, 8, 3, 7, 7, 3, 2, 0, 6, 0, 3, 0, 3, 2, 0, 8, 0, 9999]) ws (vs) := ⟨nf_in hl rfl, sgq_1840 (vc_Sy_compileProduct_at_k6_6_0 (w_fi ws (n_v vs 0) 6) (w_fi ws (n_v vs 0) 8) f1 kz_0_6 kz_0_8)⟩
  refine ⟨(fun _ h => (by cases h)), [], trivial, ?_, (fun _ h => (by cases h))⟩
  rw [List.append_nil]
  exact List.forall_mem_cons.mpr ⟨⟨show (20 : Nat) < 100 from by decide, nf0⟩, (fun _ h => (by cases h))⟩
def n_Sy_compileProduct_at_k6_an : List an_T := [(12, [(0, (2, 0, 0, [11])), (1, (0, 6, 6, [])), (2, (0, 0, 2000, []))], [], (0, 0), [(0, 0, 99988), (1, 5, 2000), (0, 0, 100000)], [], [((0, 3), (2, 0, 0, [109]))], [(2, 0, 0, [11]), (0, 6, 6, []), (2, 0, 0, [109])], 0, [], [(20, [3], [50, 2, 0, 6, 8, 3, 7, 7, 3, 2, 0, 6, 0, 3, 0, 3, 2, 0, 8, 0, 9999]), (24, [0, 3], [])])]
def t_Sy_compileProduct_at_k6_ct : ct_L := [(1, 69, e_Sy_advance), (1, 128, e_Sy_emit), (10, 158, e_Sy_compileValue_at_k6), (178, 158, e_Sy_compileValue_at_k6)]
set_option maxRecDepth 100000 in
theorem c_Sy_compileProduct_at_k6 {l : Launch} {D : va_G} {kA : Nat → ClassId} (h_Sy_advance : ct_ok PRD l D kA GG y_Sy_advance z_Sy_advance e_Sy_advance) (h_Sy_compileValue_at_k6 : ct_ok PRD l D kA GG y_Sy_compileValue_at_k6 z_Sy_compileValue_at_k6 e_Sy_compileValue_at_k6) (h_Sy_emit : ct_ok PRD l D kA GG y_Sy_emit z_Sy_emit e_Sy_emit) : ct_ok PRD l D kA GG y_Sy_compileProduct_at_k6 z_Sy_compileProduct_at_k6 e_Sy_compileProduct_at_k6 := chk_all_ok (FT := [(31, 11, 6)]) (PT := []) (CT := t_Sy_compileProduct_at_k6_ct) (KT := []) (NT := []) (AN := n_Sy_compileProduct_at_k6_an) (OT := [o_Sy_compileProduct_at_k6_0, o_Sy_compileProduct_at_k6_1, o_Sy_compileProduct_at_k6_2, o_Sy_compileProduct_at_k6_3, o_Sy_compileProduct_at_k6_4, o_Sy_compileProduct_at_k6_5, o_Sy_compileProduct_at_k6_6]) 3 268 (List.forall_mem_cons.mpr ⟨oo_Sy_compileProduct_at_k6_0, List.forall_mem_cons.mpr ⟨oo_Sy_compileProduct_at_k6_1, List.forall_mem_cons.mpr ⟨oo_Sy_compileProduct_at_k6_2, List.forall_mem_cons.mpr ⟨oo_Sy_compileProduct_at_k6_3, List.forall_mem_cons.mpr ⟨oo_Sy_compileProduct_at_k6_4, List.forall_mem_cons.mpr ⟨oo_Sy_compileProduct_at_k6_5, List.forall_mem_cons.mpr ⟨oo_Sy_compileProduct_at_k6_6, List.forall_mem_nil _⟩⟩⟩⟩⟩⟩⟩) (by decide +kernel) ⟨List.forall_mem_cons.mpr ⟨gf_Sy_31, List.forall_mem_nil _⟩, List.forall_mem_nil _, List.forall_mem_cons.mpr ⟨cl_virtual (y := y_Sy_advance) (ci := 11) rfl rfl ⟨_, _, rfl⟩ (by decide +kernel) h_Sy_advance wm_2158 wm_23 wm_2155 wm_2157 wv_10_10 ⟨by decide, by decide, by decide +kernel⟩ (by decide), List.forall_mem_cons.mpr ⟨cl_virtual (y := y_Sy_emit) (ci := 11) rfl rfl ⟨_, _, rfl⟩ (by decide +kernel) h_Sy_emit wm_2258 wm_23 wm_2255 wm_2257 wv_11_2 ⟨by decide, by decide, by decide +kernel⟩ (by decide), List.forall_mem_cons.mpr ⟨cl_virtual (y := y_Sy_compileValue_at_k6) (ci := 11) rfl rfl ⟨_, _, rfl⟩ (by decide +kernel) h_Sy_compileValue_at_k6 wm_2274 wm_23 wm_2271 wm_2273 wv_11_6 ⟨by decide, by decide, by decide +kernel⟩ (by decide), List.forall_mem_cons.mpr ⟨cl_virtual (y := y_Sy_compileValue_at_k6) (ci := 11) rfl rfl ⟨_, _, rfl⟩ (by decide +kernel) h_Sy_compileValue_at_k6 wm_2274 wm_23 wm_2271 wm_2273 wv_11_6 ⟨by decide, by decide, by decide +kernel⟩ (by decide), List.forall_mem_nil _⟩⟩⟩⟩, List.forall_mem_nil _, List.forall_mem_nil _, GG_pl⟩ (by decide +kernel)
def o_Sy_compileProduct_at_k7_0 : or_T := (12, 5, [], [], [], [], [(24, [0, 0], [])], [], [])
theorem oo_Sy_compileProduct_at_k7_0 {kA : Nat → ClassId} : or_ok PRD kA GG o_Sy_compileProduct_at_k7_0 := by
  refine or_mk fun A ta ws vs hD hth hl => ?_
  have nf0 : fc_1 PRD (24, [0, 0], []) ws (vs) := by
    refine ⟨nf_in hl rfl, sgq_1 ?_⟩
    · show n_v vs 0 = n_v vs 0
      first | rfl | simp only [true_and]
  refine ⟨(fun _ h => (by cases h)), [], trivial, ?_, (fun _ h => (by cases h))⟩
  rw [List.append_nil]
  exact List.forall_mem_cons.mpr ⟨⟨show (24 : Nat) < 100 from by decide, nf0⟩, (fun _ h => (by cases h))⟩
set_option maxHeartbeats 4000000 in
theorem vc_Sy_compileProduct_at_k7_1_0 (kind_0 : Int) (number_0 : Int) (f0 : (kind_0 ≠ 3) ∨ (number_0 ≤ 9999)) (kz_0_6 : 0 ≤ kind_0 ∧ kind_0 ≤ 127) (kz_0_8 : 0 ≤ number_0 ∧ number_0 ≤ 1000000) : (kind_0 ≠ 3) ∨ (number_0 ≤ 9999) := by
  first
    | omega
  
def o_Sy_compileProduct_at_k7_1 : or_T := (79, 9, [(0, (2, 0, 0, [11]))], [(20, [3], [50, 2, 0, 6, 8, 3, 7, 7, 3, 2, 0, 6, 0, 3, 0, 3, 2, 0, 8, 0, 9999]), (24, [0, 3], [])], [], [], [(20, [0], [50, 2, 0, 6, 8, 3, 7, 7, 3, 2, 0, 6, 0, 3, 0, 3, 2, 0, 8, 0, 9999])], [], [])
theorem oo_Sy_compileProduct_at_k7_1 {kA : Nat → ClassId} : or_ok PRD kA GG o_Sy_compileProduct_at_k7_1 := by
  refine or_mk fun A ta ws vs hD hth hl => ?_
  intro t0 r0 f0 f1
  replace f0 := shm_1840 f0
  replace f1 := shm_5 f1
  have q3 : n_v vs 3 = n_v vs 0 := f1.symm
  simp only [q3] at f0
  have kz_0_6 := fdq_313 hD hth r0
  have kz_0_8 := fdq_314 hD hth r0
  have nf0 : fc_1 PRD (20, [0], [50, 2, 0, 6, 8, 3, 7, 7, 3, 2, 0, 6, 0, 3, 0, 3, 2, 0, 8, 0, 9999]) ws (vs) := ⟨nf_in hl rfl, sgq_1840 (vc_Sy_compileProduct_at_k7_1_0 (w_fi ws (n_v vs 0) 6) (w_fi ws (n_v vs 0) 8) f0 kz_0_6 kz_0_8)⟩
  refine ⟨(fun _ h => (by cases h)), [], trivial, ?_, (fun _ h => (by cases h))⟩
  rw [List.append_nil]
  exact List.forall_mem_cons.mpr ⟨⟨show (20 : Nat) < 100 from by decide, nf0⟩, (fun _ h => (by cases h))⟩
set_option maxHeartbeats 4000000 in
theorem vc_Sy_compileProduct_at_k7_2_0 (x11 : Int) (x13 : Int) (k11 : 4 ≤ x11 ∧ x11 ≤ 4) (k13 : 0 ≤ x13 ∧ x13 ≤ 0) : (0 ≤ x11) ∧ ((0 ≤ x13) ∧ (((x11 * 65536) + x13) ≤ 851970)) := by
  first
    | omega
  
def o_Sy_compileProduct_at_k7_2 : or_T := (69, 14, [(11, (0, 4, 4, [])), (13, (0, 0, 0, []))], [], [], [], [(20, [11, 13], [50, 0, 0, 2, 6, 0, 2, 0, 0, 1, 0, 2, 6, 0, 2, 0, 0, 1, 1, 0, 10, 4, 6, 6, 2, 1, 0, 0, 65536, 1, 1, 0, 851970])], [], [])
theorem oo_Sy_compileProduct_at_k7_2 {kA : Nat → ClassId} : or_ok PRD kA GG o_Sy_compileProduct_at_k7_2 := by
  refine or_mk fun A ta ws vs hD hth hl => ?_
  intro t11 k11 t13 k13
  have nf0 : fc_1 PRD (20, [11, 13], [50, 0, 0, 2, 6, 0, 2, 0, 0, 1, 0, 2, 6, 0, 2, 0, 0, 1, 1, 0, 10, 4, 6, 6, 2, 1, 0, 0, 65536, 1, 1, 0, 851970]) ws (vs) := ⟨nf_in hl rfl, sgq_493 (vc_Sy_compileProduct_at_k7_2_0 (v_iv (n_v vs 11)) (v_iv (n_v vs 13)) k11 k13)⟩
  refine ⟨(fun _ h => (by cases h)), [], trivial, ?_, (fun _ h => (by cases h))⟩
  rw [List.append_nil]
  exact List.forall_mem_cons.mpr ⟨⟨show (20 : Nat) < 100 from by decide, nf0⟩, (fun _ h => (by cases h))⟩
set_option maxHeartbeats 4000000 in
theorem vc_Sy_compileProduct_at_k7_3_0 (kind_0 : Int) (number_0 : Int) (f1 : (kind_0 ≠ 3) ∨ (number_0 ≤ 9999)) (kz_0_6 : 0 ≤ kind_0 ∧ kind_0 ≤ 127) (kz_0_8 : 0 ≤ number_0 ∧ number_0 ≤ 1000000) : (kind_0 ≠ 3) ∨ (number_0 ≤ 9999) := by
  first
    | omega
  
def o_Sy_compileProduct_at_k7_3 : or_T := (65, 14, [(0, (2, 0, 0, [11]))], [(24, [0, 3], []), (20, [3], [50, 2, 0, 6, 8, 3, 7, 7, 3, 2, 0, 6, 0, 3, 0, 3, 2, 0, 8, 0, 9999])], [], [], [(20, [0], [50, 2, 0, 6, 8, 3, 7, 7, 3, 2, 0, 6, 0, 3, 0, 3, 2, 0, 8, 0, 9999])], [], [])
theorem oo_Sy_compileProduct_at_k7_3 {kA : Nat → ClassId} : or_ok PRD kA GG o_Sy_compileProduct_at_k7_3 := by
  refine or_mk fun A ta ws vs hD hth hl => ?_
  intro t0 r0 f0 f1
  replace f0 := shm_5 f0
  replace f1 := shm_1840 f1
  have q3 : n_v vs 3 = n_v vs 0 := f0.symm
  simp only [q3] at f1
  have kz_0_6 := fdq_313 hD hth r0
  have kz_0_8 := fdq_314 hD hth r0
  have nf0 : fc_1 PRD (20, [0], [50, 2, 0, 6, 8, 3, 7, 7, 3, 2, 0, 6, 0, 3, 0, 3, 2, 0, 8, 0, 9999]) ws (vs) := ⟨nf_in hl rfl, sgq_1840 (vc_Sy_compileProduct_at_k7_3_0 (w_fi ws (n_v vs 0) 6) (w_fi ws (n_v vs 0) 8) f1 kz_0_6 kz_0_8)⟩
  refine ⟨(fun _ h => (by cases h)), [], trivial, ?_, (fun _ h => (by cases h))⟩
  rw [List.append_nil]
  exact List.forall_mem_cons.mpr ⟨⟨show (20 : Nat) < 100 from by decide, nf0⟩, (fun _ h => (by cases h))⟩
set_option maxHeartbeats 4000000 in
theorem vc_Sy_compileProduct_at_k7_4_0 (kind_0 : Int) (number_0 : Int) (f3 : (kind_0 ≠ 3) ∨ (number_0 ≤ 9999)) (kz_0_6 : 0 ≤ kind_0 ∧ kind_0 ≤ 127) (kz_0_8 : 0 ≤ number_0 ∧ number_0 ≤ 1000000) : (kind_0 ≠ 3) ∨ (number_0 ≤ 9999) := by
  first
    | omega
  
def o_Sy_compileProduct_at_k7_4 : or_T := (79, 12, [(0, (2, 0, 0, [11]))], [(20, [3], [50, 2, 0, 6, 8, 3, 7, 7, 3, 2, 0, 6, 0, 3, 0, 3, 2, 0, 8, 0, 9999]), (24, [0, 3], [])], [], [], [(20, [0], [50, 2, 0, 6, 8, 3, 7, 7, 3, 2, 0, 6, 0, 3, 0, 3, 2, 0, 8, 0, 9999])], [], [])
theorem oo_Sy_compileProduct_at_k7_4 {kA : Nat → ClassId} : or_ok PRD kA GG o_Sy_compileProduct_at_k7_4 := by
  refine or_mk fun A ta ws vs hD hth hl => ?_
  intro t0 r0 f3 f4
  replace f3 := shm_1840 f3
  replace f4 := shm_5 f4
  have q3 : n_v vs 3 = n_v vs 0 := f4.symm
  simp only [q3] at f3
  have kz_0_6 := fdq_313 hD hth r0
  have kz_0_8 := fdq_314 hD hth r0
  have nf0 : fc_1 PRD (20, [0], [50, 2, 0, 6, 8, 3, 7, 7, 3, 2, 0, 6, 0, 3, 0, 3, 2, 0, 8, 0, 9999]) ws (vs) := ⟨nf_in hl rfl, sgq_1840 (vc_Sy_compileProduct_at_k7_4_0 (w_fi ws (n_v vs 0) 6) (w_fi ws (n_v vs 0) 8) f3 kz_0_6 kz_0_8)⟩
  refine ⟨(fun _ h => (by cases h)), [], trivial, ?_, (fun _ h => (by cases h))⟩
  rw [List.append_nil]
  exact List.forall_mem_cons.mpr ⟨⟨show (20 : Nat) < 100 from by decide, nf0⟩, (fun _ h => (by cases h))⟩
set_option maxHeartbeats 4000000 in
theorem vc_Sy_compileProduct_at_k7_5_0 (x12 : Int) (x14 : Int) (k12 : 5 ≤ x12 ∧ x12 ≤ 5) (k14 : 0 ≤ x14 ∧ x14 ≤ 0) : (0 ≤ x12) ∧ ((0 ≤ x14) ∧ (((x12 * 65536) + x14) ≤ 851970)) := by
  first
    | omega
  
def o_Sy_compileProduct_at_k7_5 : or_T := (69, 15, [(12, (0, 5, 5, [])), (14, (0, 0, 0, []))], [], [], [], [(20, [12, 14], [50, 0, 0, 2, 6, 0, 2, 0, 0, 1, 0, 2, 6, 0, 2, 0, 0, 1, 1, 0, 10, 4, 6, 6, 2, 1, 0, 0, 65536, 1, 1, 0, 851970])], [], [])
theorem oo_Sy_compileProduct_at_k7_5 {kA : Nat → ClassId} : or_ok PRD kA GG o_Sy_compileProduct_at_k7_5 := by
  refine or_mk fun A ta ws vs hD hth hl => ?_
  intro t12 k12 t14 k14
  have nf0 : fc_1 PRD (20, [12, 14], [50, 0, 0, 2, 6, 0, 2, 0, 0, 1, 0, 2, 6, 0, 2, 0, 0, 1, 1, 0, 10, 4, 6, 6, 2, 1, 0, 0, 65536, 1, 1, 0, 851970]) ws (vs) := ⟨nf_in hl rfl, sgq_493 (vc_Sy_compileProduct_at_k7_5_0 (v_iv (n_v vs 12)) (v_iv (n_v vs 14)) k12 k14)⟩
  refine ⟨(fun _ h => (by cases h)), [], trivial, ?_, (fun _ h => (by cases h))⟩
  rw [List.append_nil]
  exact List.forall_mem_cons.mpr ⟨⟨show (20 : Nat) < 100 from by decide, nf0⟩, (fun _ h => (by cases h))⟩
set_option maxHeartbeats 4000000 in
theorem vc_Sy_compileProduct_at_k7_6_0 (kind_0 : Int) (number_0 : Int) (f1 : (kind_0 ≠ 3) ∨ (number_0 ≤ 9999)) (kz_0_6 : 0 ≤ kind_0 ∧ kind_0 ≤ 127) (kz_0_8 : 0 ≤ number_0 ∧ number_0 ≤ 1000000) : (kind_0 ≠ 3) ∨ (number_0 ≤ 9999) := by
  first
    | omega
  
def o_Sy_compileProduct_at_k7_6 : or_T := (65, 15, [(0, (2, 0, 0, [11]))], [(24, [0, 3], []), (20, [3], [50, 2, 0, 6, 8, 3, 7, 7, 3, 2, 0, 6, 0, 3, 0, 3, 2, 0, 8, 0, 9999])], [], [], [(20, [0], [50, 2, 0, 6, 8, 3, 7, 7, 3, 2, 0, 6, 0, 3, 0, 3, 2, 0, 8, 0, 9999])], [], [])
theorem oo_Sy_compileProduct_at_k7_6 {kA : Nat → ClassId} : or_ok PRD kA GG o_Sy_compileProduct_at_k7_6 := by
  refine or_mk fun A ta ws vs hD hth hl => ?_
  intro t0 r0 f0 f1
  replace f0 := shm_5 f0
  replace f1 := shm_1840 f1
  have q3 : n_v vs 3 = n_v vs 0 := f0.symm
  simp only [q3] at f1
  have kz_0_6 := fdq_313 hD hth r0
  have kz_0_8 := fdq_314 hD hth r0
  have nf0 : fc_1 PRD (20, [0], [50, 2, 0, 6, 8, 3, 7, 7, 3, 2, 0, 6, 0, 3, 0, 3, 2, 0, 8, 0, 9999]) ws (vs) := ⟨nf_in hl rfl, sgq_1840 (vc_Sy_compileProduct_at_k7_6_0 (w_fi ws (n_v vs 0) 6) (w_fi ws (n_v vs 0) 8) f1 kz_0_6 kz_0_8)⟩
  refine ⟨(fun _ h => (by cases h)), [], trivial, ?_, (fun _ h => (by cases h))⟩
  rw [List.append_nil]
  exact List.forall_mem_cons.mpr ⟨⟨show (20 : Nat) < 100 from by decide, nf0⟩, (fun _ h => (by cases h))⟩
def n_Sy_compileProduct_at_k7_an : List an_T := [(12, [(0, (2, 0, 0, [11])), (1, (0, 7, 7, [])), (2, (0, 0, 2000, []))], [], (0, 0), [(0, 0, 99988), (1, 5, 2000), (0, 0, 100000)], [], [((0, 3), (2, 0, 0, [109]))], [(2, 0, 0, [11]), (0, 7, 7, []), (2, 0, 0, [109])], 0, [], [(20, [3], [50, 2, 0, 6, 8, 3, 7, 7, 3, 2, 0, 6, 0, 3, 0, 3, 2, 0, 8, 0, 9999]), (24, [0, 3], [])])]
def t_Sy_compileProduct_at_k7_ct : ct_L := [(1, 69, e_Sy_advance), (1, 128, e_Sy_emit), (10, 158, e_Sy_compileValue_at_k7), (178, 158, e_Sy_compileValue_at_k7)]
set_option maxRecDepth 100000 in
theorem c_Sy_compileProduct_at_k7 {l : Launch} {D : va_G} {kA : Nat → ClassId} (h_Sy_advance : ct_ok PRD l D kA GG y_Sy_advance z_Sy_advance e_Sy_advance) (h_Sy_compileValue_at_k7 : ct_ok PRD l D kA GG y_Sy_compileValue_at_k7 z_Sy_compileValue_at_k7 e_Sy_compileValue_at_k7) (h_Sy_emit : ct_ok PRD l D kA GG y_Sy_emit z_Sy_emit e_Sy_emit) : ct_ok PRD l D kA GG y_Sy_compileProduct_at_k7 z_Sy_compileProduct_at_k7 e_Sy_compileProduct_at_k7 := chk_all_ok (FT := [(31, 11, 6)]) (PT := []) (CT := t_Sy_compileProduct_at_k7_ct) (KT := []) (NT := []) (AN := n_Sy_compileProduct_at_k7_an) (OT := [o_Sy_compileProduct_at_k7_0, o_Sy_compileProduct_at_k7_1, o_Sy_compileProduct_at_k7_2, o_Sy_compileProduct_at_k7_3, o_Sy_compileProduct_at_k7_4, o_Sy_compileProduct_at_k7_5, o_Sy_compileProduct_at_k7_6]) 3 268 (List.forall_mem_cons.mpr ⟨oo_Sy_compileProduct_at_k7_0, List.forall_mem_cons.mpr ⟨oo_Sy_compileProduct_at_k7_1, List.forall_mem_cons.mpr ⟨oo_Sy_compileProduct_at_k7_2, List.forall_mem_cons.mpr ⟨oo_Sy_compileProduct_at_k7_3, List.forall_mem_cons.mpr ⟨oo_Sy_compileProduct_at_k7_4, List.forall_mem_cons.mpr ⟨oo_Sy_compileProduct_at_k7_5, List.forall_mem_cons.mpr ⟨oo_Sy_compileProduct_at_k7_6, List.forall_mem_nil _⟩⟩⟩⟩⟩⟩⟩) (by decide +kernel) ⟨List.forall_mem_cons.mpr ⟨gf_Sy_31, List.forall_mem_nil _⟩, List.forall_mem_nil _, List.forall_mem_cons.mpr ⟨cl_virtual (y := y_Sy_advance) (ci := 11) rfl rfl ⟨_, _, rfl⟩ (by decide +kernel) h_Sy_advance wm_2158 wm_23 wm_2155 wm_2157 wv_10_10 ⟨by decide, by decide, by decide +kernel⟩ (by decide), List.forall_mem_cons.mpr ⟨cl_virtual (y := y_Sy_emit) (ci := 11) rfl rfl ⟨_, _, rfl⟩ (by decide +kernel) h_Sy_emit wm_2258 wm_23 wm_2255 wm_2257 wv_11_2 ⟨by decide, by decide, by decide +kernel⟩ (by decide), List.forall_mem_cons.mpr ⟨cl_virtual (y := y_Sy_compileValue_at_k7) (ci := 11) rfl rfl ⟨_, _, rfl⟩ (by decide +kernel) h_Sy_compileValue_at_k7 wm_2274 wm_23 wm_2271 wm_2273 wv_11_6 ⟨by decide, by decide, by decide +kernel⟩ (by decide), List.forall_mem_cons.mpr ⟨cl_virtual (y := y_Sy_compileValue_at_k7) (ci := 11) rfl rfl ⟨_, _, rfl⟩ (by decide +kernel) h_Sy_compileValue_at_k7 wm_2274 wm_23 wm_2271 wm_2273 wv_11_6 ⟨by decide, by decide, by decide +kernel⟩ (by decide), List.forall_mem_nil _⟩⟩⟩⟩, List.forall_mem_nil _, List.forall_mem_nil _, GG_pl⟩ (by decide +kernel)
def o_Sy_compileProduct_at_k8_0 : or_T := (12, 5, [], [], [], [], [(24, [0, 0], [])], [], [])
theorem oo_Sy_compileProduct_at_k8_0 {kA : Nat → ClassId} : or_ok PRD kA GG o_Sy_compileProduct_at_k8_0 := by
  refine or_mk fun A ta ws vs hD hth hl => ?_
  have nf0 : fc_1 PRD (24, [0, 0], []) ws (vs) := by
    refine ⟨nf_in hl rfl, sgq_1 ?_⟩
    · show n_v vs 0 = n_v vs 0
      first | rfl | simp only [true_and]
  refine ⟨(fun _ h => (by cases h)), [], trivial, ?_, (fun _ h => (by cases h))⟩
  rw [List.append_nil]
  exact List.forall_mem_cons.mpr ⟨⟨show (24 : Nat) < 100 from by decide, nf0⟩, (fun _ h => (by cases h))⟩
set_option maxHeartbeats 4000000 in
theorem vc_Sy_compileProduct_at_k8_1_0 (kind_0 : Int) (number_0 : Int) (f0 : (kind_0 ≠ 3) ∨ (number_0 ≤ 9999)) (kz_0_6 : 0 ≤ kind_0 ∧ kind_0 ≤ 127) (kz_0_8 : 0 ≤ number_0 ∧ number_0 ≤ 1000000) : (kind_0 ≠ 3) ∨ (number_0 ≤ 9999) := by
  first
    | omega
  
def o_Sy_compileProduct_at_k8_1 : or_T := (79, 9, [(0, (2, 0, 0, [11]))], [(20, [3], [50, 2, 0, 6, 8, 3, 7, 7, 3, 2, 0, 6, 0, 3, 0, 3, 2, 0, 8, 0, 9999]), (24, [0, 3], [])], [], [], [(20, [0], [50, 2, 0, 6, 8, 3, 7, 7, 3, 2, 0, 6, 0, 3, 0, 3, 2, 0, 8, 0, 9999])], [], [])
theorem oo_Sy_compileProduct_at_k8_1 {kA : Nat → ClassId} : or_ok PRD kA GG o_Sy_compileProduct_at_k8_1 := by
  refine or_mk fun A ta ws vs hD hth hl => ?_
  intro t0 r0 f0 f1
  replace f0 := shm_1840 f0
  replace f1 := shm_5 f1
  have q3 : n_v vs 3 = n_v vs 0 := f1.symm
  simp only [q3] at f0
  have kz_0_6 := fdq_313 hD hth r0
  have kz_0_8 := fdq_314 hD hth r0
  have nf0 : fc_1 PRD (20, [0], [50, 2, 0, 6, 8, 3, 7, 7, 3, 2, 0, 6, 0, 3, 0, 3, 2, 0, 8, 0, 9999]) ws (vs) := ⟨nf_in hl rfl, sgq_1840 (vc_Sy_compileProduct_at_k8_1_0 (w_fi ws (n_v vs 0) 6) (w_fi ws (n_v vs 0) 8) f0 kz_0_6 kz_0_8)⟩
  refine ⟨(fun _ h => (by cases h)), [], trivial, ?_, (fun _ h => (by cases h))⟩
  rw [List.append_nil]
  exact List.forall_mem_cons.mpr ⟨⟨show (20 : Nat) < 100 from by decide, nf0⟩, (fun _ h => (by cases h))⟩
set_option maxHeartbeats 4000000 in
theorem vc_Sy_compileProduct_at_k8_2_0 (x11 : Int) (x13 : Int) (k11 : 4 ≤ x11 ∧ x11 ≤ 4) (k13 : 0 ≤ x13 ∧ x13 ≤ 0) : (0 ≤ x11) ∧ ((0 ≤ x13) ∧ (((x11 * 65536) + x13) ≤ 851970)) := by
  first
    | omega
  
def o_Sy_compileProduct_at_k8_2 : or_T := (69, 14, [(11, (0, 4, 4, [])), (13, (0, 0, 0, []))], [], [], [], [(20, [11, 13], [50, 0, 0, 2, 6, 0, 2, 0, 0, 1, 0, 2, 6, 0, 2, 0, 0, 1, 1, 0, 10, 4, 6, 6, 2, 1, 0, 0, 65536, 1, 1, 0, 851970])], [], [])
theorem oo_Sy_compileProduct_at_k8_2 {kA : Nat → ClassId} : or_ok PRD kA GG o_Sy_compileProduct_at_k8_2 := by
  refine or_mk fun A ta ws vs hD hth hl => ?_
  intro t11 k11 t13 k13
  have nf0 : fc_1 PRD (20, [11, 13], [50, 0, 0, 2, 6, 0, 2, 0, 0, 1, 0, 2, 6, 0, 2, 0, 0, 1, 1, 0, 10, 4, 6, 6, 2, 1, 0, 0, 65536, 1, 1, 0, 851970]) ws (vs) := ⟨nf_in hl rfl, sgq_493 (vc_Sy_compileProduct_at_k8_2_0 (v_iv (n_v vs 11)) (v_iv (n_v vs 13)) k11 k13)⟩
  refine ⟨(fun _ h => (by cases h)), [], trivial, ?_, (fun _ h => (by cases h))⟩
  rw [List.append_nil]
  exact List.forall_mem_cons.mpr ⟨⟨show (20 : Nat) < 100 from by decide, nf0⟩, (fun _ h => (by cases h))⟩
set_option maxHeartbeats 4000000 in
theorem vc_Sy_compileProduct_at_k8_3_0 (kind_0 : Int) (number_0 : Int) (f1 : (kind_0 ≠ 3) ∨ (number_0 ≤ 9999)) (kz_0_6 : 0 ≤ kind_0 ∧ kind_0 ≤ 127) (kz_0_8 : 0 ≤ number_0 ∧ number_0 ≤ 1000000) : (kind_0 ≠ 3) ∨ (number_0 ≤ 9999) := by
  first
    | omega
  
def o_Sy_compileProduct_at_k8_3 : or_T := (65, 14, [(0, (2, 0, 0, [11]))], [(24, [0, 3], []), (20, [3], [50, 2, 0, 6, 8, 3, 7, 7, 3, 2, 0, 6, 0, 3, 0, 3, 2, 0, 8, 0, 9999])], [], [], [(20, [0], [50, 2, 0, 6, 8, 3, 7, 7, 3, 2, 0, 6, 0, 3, 0, 3, 2, 0, 8, 0, 9999])], [], [])
theorem oo_Sy_compileProduct_at_k8_3 {kA : Nat → ClassId} : or_ok PRD kA GG o_Sy_compileProduct_at_k8_3 := by
  refine or_mk fun A ta ws vs hD hth hl => ?_
  intro t0 r0 f0 f1
  replace f0 := shm_5 f0
  replace f1 := shm_1840 f1
  have q3 : n_v vs 3 = n_v vs 0 := f0.symm
  simp only [q3] at f1
  have kz_0_6 := fdq_313 hD hth r0
  have kz_0_8 := fdq_314 hD hth r0
  have nf0 : fc_1 PRD (20, [0], [50, 2, 0, 6, 8, 3, 7, 7, 3, 2, 0, 6, 0, 3, 0, 3, 2, 0, 8, 0, 9999]) ws (vs) := ⟨nf_in hl rfl, sgq_1840 (vc_Sy_compileProduct_at_k8_3_0 (w_fi ws (n_v vs 0) 6) (w_fi ws (n_v vs 0) 8) f1 kz_0_6 kz_0_8)⟩
  refine ⟨(fun _ h => (by cases h)), [], trivial, ?_, (fun _ h => (by cases h))⟩
  rw [List.append_nil]
  exact List.forall_mem_cons.mpr ⟨⟨show (20 : Nat) < 100 from by decide, nf0⟩, (fun _ h => (by cases h))⟩
set_option maxHeartbeats 4000000 in
theorem vc_Sy_compileProduct_at_k8_4_0 (kind_0 : Int) (number_0 : Int) (f3 : (kind_0 ≠ 3) ∨ (number_0 ≤ 9999)) (kz_0_6 : 0 ≤ kind_0 ∧ kind_0 ≤ 127) (kz_0_8 : 0 ≤ number_0 ∧ number_0 ≤ 1000000) : (kind_0 ≠ 3) ∨ (number_0 ≤ 9999) := by
  first
    | omega
  
def o_Sy_compileProduct_at_k8_4 : or_T := (79, 12, [(0, (2, 0, 0, [11]))], [(20, [3], [50, 2, 0, 6, 8, 3, 7, 7, 3, 2, 0, 6, 0, 3, 0, 3, 2, 0, 8, 0, 9999]), (24, [0, 3], [])], [], [], [(20, [0], [50, 2, 0, 6, 8, 3, 7, 7, 3, 2, 0, 6, 0, 3, 0, 3, 2, 0, 8, 0, 9999])], [], [])
theorem oo_Sy_compileProduct_at_k8_4 {kA : Nat → ClassId} : or_ok PRD kA GG o_Sy_compileProduct_at_k8_4 := by
  refine or_mk fun A ta ws vs hD hth hl => ?_
  intro t0 r0 f3 f4
  replace f3 := shm_1840 f3
  replace f4 := shm_5 f4
  have q3 : n_v vs 3 = n_v vs 0 := f4.symm
  simp only [q3] at f3
  have kz_0_6 := fdq_313 hD hth r0
  have kz_0_8 := fdq_314 hD hth r0
  have nf0 : fc_1 PRD (20, [0], [50, 2, 0, 6, 8, 3, 7, 7, 3, 2, 0, 6, 0, 3, 0, 3, 2, 0, 8, 0, 9999]) ws (vs) := ⟨nf_in hl rfl, sgq_1840 (vc_Sy_compileProduct_at_k8_4_0 (w_fi ws (n_v vs 0) 6) (w_fi ws (n_v vs 0) 8) f3 kz_0_6 kz_0_8)⟩
  refine ⟨(fun _ h => (by cases h)), [], trivial, ?_, (fun _ h => (by cases h))⟩
  rw [List.append_nil]
  exact List.forall_mem_cons.mpr ⟨⟨show (20 : Nat) < 100 from by decide, nf0⟩, (fun _ h => (by cases h))⟩
set_option maxHeartbeats 4000000 in
theorem vc_Sy_compileProduct_at_k8_5_0 (x12 : Int) (x14 : Int) (k12 : 5 ≤ x12 ∧ x12 ≤ 5) (k14 : 0 ≤ x14 ∧ x14 ≤ 0) : (0 ≤ x12) ∧ ((0 ≤ x14) ∧ (((x12 * 65536) + x14) ≤ 851970)) := by
  first
    | omega
  
def o_Sy_compileProduct_at_k8_5 : or_T := (69, 15, [(12, (0, 5, 5, [])), (14, (0, 0, 0, []))], [], [], [], [(20, [12, 14], [50, 0, 0, 2, 6, 0, 2, 0, 0, 1, 0, 2, 6, 0, 2, 0, 0, 1, 1, 0, 10, 4, 6, 6, 2, 1, 0, 0, 65536, 1, 1, 0, 851970])], [], [])
theorem oo_Sy_compileProduct_at_k8_5 {kA : Nat → ClassId} : or_ok PRD kA GG o_Sy_compileProduct_at_k8_5 := by
  refine or_mk fun A ta ws vs hD hth hl => ?_
  intro t12 k12 t14 k14
  have nf0 : fc_1 PRD (20, [12, 14], [50, 0, 0, 2, 6, 0, 2, 0, 0, 1, 0, 2, 6, 0, 2, 0, 0, 1, 1, 0, 10, 4, 6, 6, 2, 1, 0, 0, 65536, 1, 1, 0, 851970]) ws (vs) := ⟨nf_in hl rfl, sgq_493 (vc_Sy_compileProduct_at_k8_5_0 (v_iv (n_v vs 12)) (v_iv (n_v vs 14)) k12 k14)⟩
  refine ⟨(fun _ h => (by cases h)), [], trivial, ?_, (fun _ h => (by cases h))⟩
  rw [List.append_nil]
  exact List.forall_mem_cons.mpr ⟨⟨show (20 : Nat) < 100 from by decide, nf0⟩, (fun _ h => (by cases h))⟩
set_option maxHeartbeats 4000000 in
theorem vc_Sy_compileProduct_at_k8_6_0 (kind_0 : Int) (number_0 : Int) (f1 : (kind_0 ≠ 3) ∨ (number_0 ≤ 9999)) (kz_0_6 : 0 ≤ kind_0 ∧ kind_0 ≤ 127) (kz_0_8 : 0 ≤ number_0 ∧ number_0 ≤ 1000000) : (kind_0 ≠ 3) ∨ (number_0 ≤ 9999) := by
  first
    | omega
  
def o_Sy_compileProduct_at_k8_6 : or_T := (65, 15, [(0, (2, 0, 0, [11]))], [(24, [0, 3], []), (20, [3], [50, 2, 0, 6, 8, 3, 7, 7, 3, 2, 0, 6, 0, 3, 0, 3, 2, 0, 8, 0, 9999])], [], [], [(20, [0], [50, 2, 0, 6, 8, 3, 7, 7, 3, 2, 0, 6, 0, 3, 0, 3, 2, 0, 8, 0, 9999])], [], [])
theorem oo_Sy_compileProduct_at_k8_6 {kA : Nat → ClassId} : or_ok PRD kA GG o_Sy_compileProduct_at_k8_6 := by
  refine or_mk fun A ta ws vs hD hth hl => ?_
  intro t0 r0 f0 f1
  replace f0 := shm_5 f0
  replace f1 := shm_1840 f1
  have q3 : n_v vs 3 = n_v vs 0 := f0.symm
  simp only [q3] at f1
  have kz_0_6 := fdq_313 hD hth r0
  have kz_0_8 := fdq_314 hD hth r0
  have nf0 : fc_1 PRD (20, [0], [50, 2, 0, 6, 8, 3, 7, 7, 3, 2, 0, 6, 0, 3, 0, 3, 2, 0, 8, 0, 9999]) ws (vs) := ⟨nf_in hl rfl, sgq_1840 (vc_Sy_compileProduct_at_k8_6_0 (w_fi ws (n_v vs 0) 6) (w_fi ws (n_v vs 0) 8) f1 kz_0_6 kz_0_8)⟩
  refine ⟨(fun _ h => (by cases h)), [], trivial, ?_, (fun _ h => (by cases h))⟩
  rw [List.append_nil]
  exact List.forall_mem_cons.mpr ⟨⟨show (20 : Nat) < 100 from by decide, nf0⟩, (fun _ h => (by cases h))⟩
def n_Sy_compileProduct_at_k8_an : List an_T := [(12, [(0, (2, 0, 0, [11])), (1, (0, 8, 8, [])), (2, (0, 0, 2000, []))], [], (0, 0), [(0, 0, 99988), (1, 5, 2000), (0, 0, 100000)], [], [((0, 3), (2, 0, 0, [109]))], [(2, 0, 0, [11]), (0, 8, 8, []), (2, 0, 0, [109])], 0, [], [(20, [3], [50, 2, 0, 6, 8, 3, 7, 7, 3, 2, 0, 6, 0, 3, 0, 3, 2, 0, 8, 0, 9999]), (24, [0, 3], [])])]
def t_Sy_compileProduct_at_k8_ct : ct_L := [(1, 69, e_Sy_advance), (1, 128, e_Sy_emit), (10, 158, e_Sy_compileValue_at_k8), (178, 158, e_Sy_compileValue_at_k8)]
set_option maxRecDepth 100000 in
theorem c_Sy_compileProduct_at_k8 {l : Launch} {D : va_G} {kA : Nat → ClassId} (h_Sy_advance : ct_ok PRD l D kA GG y_Sy_advance z_Sy_advance e_Sy_advance) (h_Sy_compileValue_at_k8 : ct_ok PRD l D kA GG y_Sy_compileValue_at_k8 z_Sy_compileValue_at_k8 e_Sy_compileValue_at_k8) (h_Sy_emit : ct_ok PRD l D kA GG y_Sy_emit z_Sy_emit e_Sy_emit) : ct_ok PRD l D kA GG y_Sy_compileProduct_at_k8 z_Sy_compileProduct_at_k8 e_Sy_compileProduct_at_k8 := chk_all_ok (FT := [(31, 11, 6)]) (PT := []) (CT := t_Sy_compileProduct_at_k8_ct) (KT := []) (NT := []) (AN := n_Sy_compileProduct_at_k8_an) (OT := [o_Sy_compileProduct_at_k8_0, o_Sy_compileProduct_at_k8_1, o_Sy_compileProduct_at_k8_2, o_Sy_compileProduct_at_k8_3, o_Sy_compileProduct_at_k8_4, o_Sy_compileProduct_at_k8_5, o_Sy_compileProduct_at_k8_6]) 3 268 (List.forall_mem_cons.mpr ⟨oo_Sy_compileProduct_at_k8_0, List.forall_mem_cons.mpr ⟨oo_Sy_compileProduct_at_k8_1, List.forall_mem_cons.mpr ⟨oo_Sy_compileProduct_at_k8_2, List.forall_mem_cons.mpr ⟨oo_Sy_compileProduct_at_k8_3, List.forall_mem_cons.mpr ⟨oo_Sy_compileProduct_at_k8_4, List.forall_mem_cons.mpr ⟨oo_Sy_compileProduct_at_k8_5, List.forall_mem_cons.mpr ⟨oo_Sy_compileProduct_at_k8_6, List.forall_mem_nil _⟩⟩⟩⟩⟩⟩⟩) (by decide +kernel) ⟨List.forall_mem_cons.mpr ⟨gf_Sy_31, List.forall_mem_nil _⟩, List.forall_mem_nil _, List.forall_mem_cons.mpr ⟨cl_virtual (y := y_Sy_advance) (ci := 11) rfl rfl ⟨_, _, rfl⟩ (by decide +kernel) h_Sy_advance wm_2158 wm_23 wm_2155 wm_2157 wv_10_10 ⟨by decide, by decide, by decide +kernel⟩ (by decide), List.forall_mem_cons.mpr ⟨cl_virtual (y := y_Sy_emit) (ci := 11) rfl rfl ⟨_, _, rfl⟩ (by decide +kernel) h_Sy_emit wm_2258 wm_23 wm_2255 wm_2257 wv_11_2 ⟨by decide, by decide, by decide +kernel⟩ (by decide), List.forall_mem_cons.mpr ⟨cl_virtual (y := y_Sy_compileValue_at_k8) (ci := 11) rfl rfl ⟨_, _, rfl⟩ (by decide +kernel) h_Sy_compileValue_at_k8 wm_2274 wm_23 wm_2271 wm_2273 wv_11_6 ⟨by decide, by decide, by decide +kernel⟩ (by decide), List.forall_mem_cons.mpr ⟨cl_virtual (y := y_Sy_compileValue_at_k8) (ci := 11) rfl rfl ⟨_, _, rfl⟩ (by decide +kernel) h_Sy_compileValue_at_k8 wm_2274 wm_23 wm_2271 wm_2273 wv_11_6 ⟨by decide, by decide, by decide +kernel⟩ (by decide), List.forall_mem_nil _⟩⟩⟩⟩, List.forall_mem_nil _, List.forall_mem_nil _, GG_pl⟩ (by decide +kernel)
def o_Sy_compileProduct_at_k9_0 : or_T := (12, 5, [], [], [], [], [(24, [0, 0], [])], [], [])
theorem oo_Sy_compileProduct_at_k9_0 {kA : Nat → ClassId} : or_ok PRD kA GG o_Sy_compileProduct_at_k9_0 := by
  refine or_mk fun A ta ws vs hD hth hl => ?_
  have nf0 : fc_1 PRD (24, [0, 0], []) ws (vs) := by
    refine ⟨nf_in hl rfl, sgq_1 ?_⟩
    · show n_v vs 0 = n_v vs 0
      first | rfl | simp only [true_and]
  refine ⟨(fun _ h => (by cases h)), [], trivial, ?_, (fun _ h => (by cases h))⟩
  rw [List.append_nil]
  exact List.forall_mem_cons.mpr ⟨⟨show (24 : Nat) < 100 from by decide, nf0⟩, (fun _ h => (by cases h))⟩
set_option maxHeartbeats 4000000 in
theorem vc_Sy_compileProduct_at_k9_1_0 (kind_0 : Int) (number_0 : Int) (f0 : (kind_0 ≠ 3) ∨ (number_0 ≤ 9999)) (kz_0_6 : 0 ≤ kind_0 ∧ kind_0 ≤ 127) (kz_0_8 : 0 ≤ number_0 ∧ number_0 ≤ 1000000) : (kind_0 ≠ 3) ∨ (number_0 ≤ 9999) := by
  first
    | omega
  
def o_Sy_compileProduct_at_k9_1 : or_T := (79, 9, [(0, (2, 0, 0, [11]))], [(20, [3], [50, 2, 0, 6, 8, 3, 7, 7, 3, 2, 0, 6, 0, 3, 0, 3, 2, 0, 8, 0, 9999]), (24, [0, 3], [])], [], [], [(20, [0], [50, 2, 0, 6, 8, 3, 7, 7, 3, 2, 0, 6, 0, 3, 0, 3, 2, 0, 8, 0, 9999])], [], [])
theorem oo_Sy_compileProduct_at_k9_1 {kA : Nat → ClassId} : or_ok PRD kA GG o_Sy_compileProduct_at_k9_1 := by
  refine or_mk fun A ta ws vs hD hth hl => ?_
  intro t0 r0 f0 f1
  replace f0 := shm_1840 f0
  replace f1 := shm_5 f1
  have q3 : n_v vs 3 = n_v vs 0 := f1.symm
  simp only [q3] at f0
  have kz_0_6 := fdq_313 hD hth r0
  have kz_0_8 := fdq_314 hD hth r0
  have nf0 : fc_1 PRD (20, [0], [50, 2, 0, 6, 8, 3, 7, 7, 3, 2, 0, 6, 0, 3, 0, 3, 2, 0, 8, 0, 9999]) ws (vs) := ⟨nf_in hl rfl, sgq_1840 (vc_Sy_compileProduct_at_k9_1_0 (w_fi ws (n_v vs 0) 6) (w_fi ws (n_v vs 0) 8) f0 kz_0_6 kz_0_8)⟩
  refine ⟨(fun _ h => (by cases h)), [], trivial, ?_, (fun _ h => (by cases h))⟩
  rw [List.append_nil]
  exact List.forall_mem_cons.mpr ⟨⟨show (20 : Nat) < 100 from by decide, nf0⟩, (fun _ h => (by cases h))⟩
set_option maxHeartbeats 4000000 in
theorem vc_Sy_compileProduct_at_k9_2_0 (x11 : Int) (x13 : Int) (k11 : 4 ≤ x11 ∧ x11 ≤ 4) (k13 : 0 ≤ x13 ∧ x13 ≤ 0) : (0 ≤ x11) ∧ ((0 ≤ x13) ∧ (((x11 * 65536) + x13) ≤ 851970)) := by
  first
    | omega
  
def o_Sy_compileProduct_at_k9_2 : or_T := (69, 14, [(11, (0, 4, 4, [])), (13, (0, 0, 0, []))], [], [], [], [(20, [11, 13], [50, 0, 0, 2, 6, 0, 2, 0, 0, 1, 0, 2, 6, 0, 2, 0, 0, 1, 1, 0, 10, 4, 6, 6, 2, 1, 0, 0, 65536, 1, 1, 0, 851970])], [], [])
theorem oo_Sy_compileProduct_at_k9_2 {kA : Nat → ClassId} : or_ok PRD kA GG o_Sy_compileProduct_at_k9_2 := by
  refine or_mk fun A ta ws vs hD hth hl => ?_
  intro t11 k11 t13 k13
  have nf0 : fc_1 PRD (20, [11, 13], [50, 0, 0, 2, 6, 0, 2, 0, 0, 1, 0, 2, 6, 0, 2, 0, 0, 1, 1, 0, 10, 4, 6, 6, 2, 1, 0, 0, 65536, 1, 1, 0, 851970]) ws (vs) := ⟨nf_in hl rfl, sgq_493 (vc_Sy_compileProduct_at_k9_2_0 (v_iv (n_v vs 11)) (v_iv (n_v vs 13)) k11 k13)⟩
  refine ⟨(fun _ h => (by cases h)), [], trivial, ?_, (fun _ h => (by cases h))⟩
  rw [List.append_nil]
  exact List.forall_mem_cons.mpr ⟨⟨show (20 : Nat) < 100 from by decide, nf0⟩, (fun _ h => (by cases h))⟩
set_option maxHeartbeats 4000000 in
theorem vc_Sy_compileProduct_at_k9_3_0 (kind_0 : Int) (number_0 : Int) (f1 : (kind_0 ≠ 3) ∨ (number_0 ≤ 9999)) (kz_0_6 : 0 ≤ kind_0 ∧ kind_0 ≤ 127) (kz_0_8 : 0 ≤ number_0 ∧ number_0 ≤ 1000000) : (kind_0 ≠ 3) ∨ (number_0 ≤ 9999) := by
  first
    | omega
  
def o_Sy_compileProduct_at_k9_3 : or_T := (65, 14, [(0, (2, 0, 0, [11]))], [(24, [0, 3], []), (20, [3], [50, 2, 0, 6, 8, 3, 7, 7, 3, 2, 0, 6, 0, 3, 0, 3, 2, 0, 8, 0, 9999])], [], [], [(20, [0], [50, 2, 0, 6, 8, 3, 7, 7, 3, 2, 0, 6, 0, 3, 0, 3, 2, 0, 8, 0, 9999])], [], [])
theorem oo_Sy_compileProduct_at_k9_3 {kA : Nat → ClassId} : or_ok PRD kA GG o_Sy_compileProduct_at_k9_3 := by
  refine or_mk fun A ta ws vs hD hth hl => ?_
  intro t0 r0 f0 f1
  replace f0 := shm_5 f0
  replace f1 := shm_1840 f1
  have q3 : n_v vs 3 = n_v vs 0 := f0.symm
  simp only [q3] at f1
  have kz_0_6 := fdq_313 hD hth r0
  have kz_0_8 := fdq_314 hD hth r0
  have nf0 : fc_1 PRD (20, [0], [50, 2, 0, 6, 8, 3, 7, 7, 3, 2, 0, 6, 0, 3, 0, 3, 2, 0, 8, 0, 9999]) ws (vs) := ⟨nf_in hl rfl, sgq_1840 (vc_Sy_compileProduct_at_k9_3_0 (w_fi ws (n_v vs 0) 6) (w_fi ws (n_v vs 0) 8) f1 kz_0_6 kz_0_8)⟩
  refine ⟨(fun _ h => (by cases h)), [], trivial, ?_, (fun _ h => (by cases h))⟩
  rw [List.append_nil]
  exact List.forall_mem_cons.mpr ⟨⟨show (20 : Nat) < 100 from by decide, nf0⟩, (fun _ h => (by cases h))⟩
set_option maxHeartbeats 4000000 in
theorem vc_Sy_compileProduct_at_k9_4_0 (kind_0 : Int) (number_0 : Int) (f3 : (kind_0 ≠ 3) ∨ (number_0 ≤ 9999)) (kz_0_6 : 0 ≤ kind_0 ∧ kind_0 ≤ 127) (kz_0_8 : 0 ≤ number_0 ∧ number_0 ≤ 1000000) : (kind_0 ≠ 3) ∨ (number_0 ≤ 9999) := by
  first
    | omega
  
def o_Sy_compileProduct_at_k9_4 : or_T := (79, 12, [(0, (2, 0, 0, [11]))], [(20, [3], [50, 2, 0, 6, 8, 3, 7, 7, 3, 2, 0, 6, 0, 3, 0, 3, 2, 0, 8, 0, 9999]), (24, [0, 3], [])], [], [], [(20, [0], [50, 2, 0, 6, 8, 3, 7, 7, 3, 2, 0, 6, 0, 3, 0, 3, 2, 0, 8, 0, 9999])], [], [])
theorem oo_Sy_compileProduct_at_k9_4 {kA : Nat → ClassId} : or_ok PRD kA GG o_Sy_compileProduct_at_k9_4 := by
  refine or_mk fun A ta ws vs hD hth hl => ?_
  intro t0 r0 f3 f4
  replace f3 := shm_1840 f3
  replace f4 := shm_5 f4
  have q3 : n_v vs 3 = n_v vs 0 := f4.symm
  simp only [q3] at f3
  have kz_0_6 := fdq_313 hD hth r0
  have kz_0_8 := fdq_314 hD hth r0
  have nf0 : fc_1 PRD (20, [0], [50, 2, 0, 6, 8, 3, 7, 7, 3, 2, 0, 6, 0, 3, 0, 3, 2, 0, 8, 0, 9999]) ws (vs) := ⟨nf_in hl rfl, sgq_1840 (vc_Sy_compileProduct_at_k9_4_0 (w_fi ws (n_v vs 0) 6) (w_fi ws (n_v vs 0) 8) f3 kz_0_6 kz_0_8)⟩
  refine ⟨(fun _ h => (by cases h)), [], trivial, ?_, (fun _ h => (by cases h))⟩
  rw [List.append_nil]
  exact List.forall_mem_cons.mpr ⟨⟨show (20 : Nat) < 100 from by decide, nf0⟩, (fun _ h => (by cases h))⟩
set_option maxHeartbeats 4000000 in
theorem vc_Sy_compileProduct_at_k9_5_0 (x12 : Int) (x14 : Int) (k12 : 5 ≤ x12 ∧ x12 ≤ 5) (k14 : 0 ≤ x14 ∧ x14 ≤ 0) : (0 ≤ x12) ∧ ((0 ≤ x14) ∧ (((x12 * 65536) + x14) ≤ 851970)) := by
  first
    | omega
  
def o_Sy_compileProduct_at_k9_5 : or_T := (69, 15, [(12, (0, 5, 5, [])), (14, (0, 0, 0, []))], [], [], [], [(20, [12, 14], [50, 0, 0, 2, 6, 0, 2, 0, 0, 1, 0, 2, 6, 0, 2, 0, 0, 1, 1, 0, 10, 4, 6, 6, 2, 1, 0, 0, 65536, 1, 1, 0, 851970])], [], [])
theorem oo_Sy_compileProduct_at_k9_5 {kA : Nat → ClassId} : or_ok PRD kA GG o_Sy_compileProduct_at_k9_5 := by
  refine or_mk fun A ta ws vs hD hth hl => ?_
  intro t12 k12 t14 k14
  have nf0 : fc_1 PRD (20, [12, 14], [50, 0, 0, 2, 6, 0, 2, 0, 0, 1, 0, 2, 6, 0, 2, 0, 0, 1, 1, 0, 10, 4, 6, 6, 2, 1, 0, 0, 65536, 1, 1, 0, 851970]) ws (vs) := ⟨nf_in hl rfl, sgq_493 (vc_Sy_compileProduct_at_k9_5_0 (v_iv (n_v vs 12)) (v_iv (n_v vs 14)) k12 k14)⟩
  refine ⟨(fun _ h => (by cases h)), [], trivial, ?_, (fun _ h => (by cases h))⟩
  rw [List.append_nil]
  exact List.forall_mem_cons.mpr ⟨⟨show (20 : Nat) < 100 from by decide, nf0⟩, (fun _ h => (by cases h))⟩
set_option maxHeartbeats 4000000 in
theorem vc_Sy_compileProduct_at_k9_6_0 (kind_0 : Int) (number_0 : Int) (f1 : (kind_0 ≠ 3) ∨ (number_0 ≤ 9999)) (kz_0_6 : 0 ≤ kind_0 ∧ kind_0 ≤ 127) (kz_0_8 : 0 ≤ number_0 ∧ number_0 ≤ 1000000) : (kind_0 ≠ 3) ∨ (number_0 ≤ 9999) := by
  first
    | omega
  
def o_Sy_compileProduct_at_k9_6 : or_T := (65, 15, [(0, (2, 0, 0, [11]))], [(24, [0, 3], []), (20, [3], [50, 2, 0, 6, 8, 3, 7, 7, 3, 2, 0, 6, 0, 3, 0, 3, 2, 0, 8, 0, 9999])], [], [], [(20, [0], [50, 2, 0, 6, 8, 3, 7, 7, 3, 2, 0, 6, 0, 3, 0, 3, 2, 0, 8, 0, 9999])], [], [])
theorem oo_Sy_compileProduct_at_k9_6 {kA : Nat → ClassId} : or_ok PRD kA GG o_Sy_compileProduct_at_k9_6 := by
  refine or_mk fun A ta ws vs hD hth hl => ?_
  intro t0 r0 f0 f1
  replace f0 := shm_5 f0
  replace f1 := shm_1840 f1
  have q3 : n_v vs 3 = n_v vs 0 := f0.symm
  simp only [q3] at f1
  have kz_0_6 := fdq_313 hD hth r0
  have kz_0_8 := fdq_314 hD hth r0
  have nf0 : fc_1 PRD (20, [0], [50, 2, 0, 6, 8, 3, 7, 7, 3, 2, 0, 6, 0, 3, 0, 3, 2, 0, 8, 0, 9999]) ws (vs) := ⟨nf_in hl rfl, sgq_1840 (vc_Sy_compileProduct_at_k9_6_0 (w_fi ws (n_v vs 0) 6) (w_fi ws (n_v vs 0) 8) f1 kz_0_6 kz_0_8)⟩
  refine ⟨(fun _ h => (by cases h)), [], trivial, ?_, (fun _ h => (by cases h))⟩
  rw [List.append_nil]
  exact List.forall_mem_cons.mpr ⟨⟨show (20 : Nat) < 100 from by decide, nf0⟩, (fun _ h => (by cases h))⟩
def n_Sy_compileProduct_at_k9_an : List an_T := [(12, [(0, (2, 0, 0, [11])), (1, (0, 9, 9, [])), (2, (0, 0, 2000, []))], [], (0, 0), [(0, 0, 99988), (1, 5, 2000), (0, 0, 100000)], [], [((0, 3), (2, 0, 0, [109]))], [(2, 0, 0, [11]), (0, 9, 9, []), (2, 0, 0, [109])], 0, [], [(20, [3], [50, 2, 0, 6, 8, 3, 7, 7, 3, 2, 0, 6, 0, 3, 0, 3, 2, 0, 8, 0, 9999]), (24, [0, 3], [])])]
def t_Sy_compileProduct_at_k9_ct : ct_L := [(1, 69, e_Sy_advance), (1, 128, e_Sy_emit), (10, 158, e_Sy_compileValue_at_k9), (178, 158, e_Sy_compileValue_at_k9)]
set_option maxRecDepth 100000 in
theorem c_Sy_compileProduct_at_k9 {l : Launch} {D : va_G} {kA : Nat → ClassId} (h_Sy_advance : ct_ok PRD l D kA GG y_Sy_advance z_Sy_advance e_Sy_advance) (h_Sy_compileValue_at_k9 : ct_ok PRD l D kA GG y_Sy_compileValue_at_k9 z_Sy_compileValue_at_k9 e_Sy_compileValue_at_k9) (h_Sy_emit : ct_ok PRD l D kA GG y_Sy_emit z_Sy_emit e_Sy_emit) : ct_ok PRD l D kA GG y_Sy_compileProduct_at_k9 z_Sy_compileProduct_at_k9 e_Sy_compileProduct_at_k9 := chk_all_ok (FT := [(31, 11, 6)]) (PT := []) (CT := t_Sy_compileProduct_at_k9_ct) (KT := []) (NT := []) (AN := n_Sy_compileProduct_at_k9_an) (OT := [o_Sy_compileProduct_at_k9_0, o_Sy_compileProduct_at_k9_1, o_Sy_compileProduct_at_k9_2, o_Sy_compileProduct_at_k9_3, o_Sy_compileProduct_at_k9_4, o_Sy_compileProduct_at_k9_5, o_Sy_compileProduct_at_k9_6]) 3 268 (List.forall_mem_cons.mpr ⟨oo_Sy_compileProduct_at_k9_0, List.forall_mem_cons.mpr ⟨oo_Sy_compileProduct_at_k9_1, List.forall_mem_cons.mpr ⟨oo_Sy_compileProduct_at_k9_2, List.forall_mem_cons.mpr ⟨oo_Sy_compileProduct_at_k9_3, List.forall_mem_cons.mpr ⟨oo_Sy_compileProduct_at_k9_4, List.forall_mem_cons.mpr ⟨oo_Sy_compileProduct_at_k9_5, List.forall_mem_cons.mpr ⟨oo_Sy_compileProduct_at_k9_6, List.forall_mem_nil _⟩⟩⟩⟩⟩⟩⟩) (by decide +kernel) ⟨List.forall_mem_cons.mpr ⟨gf_Sy_31, List.forall_mem_nil _⟩, List.forall_mem_nil _, List.forall_mem_cons.mpr ⟨cl_virtual (y := y_Sy_advance) (ci := 11) rfl rfl ⟨_, _, rfl⟩ (by decide +kernel) h_Sy_advance wm_2158 wm_23 wm_2155 wm_2157 wv_10_10 ⟨by decide, by decide, by decide +kernel⟩ (by decide), List.forall_mem_cons.mpr ⟨cl_virtual (y := y_Sy_emit) (ci := 11) rfl rfl ⟨_, _, rfl⟩ (by decide +kernel) h_Sy_emit wm_2258 wm_23 wm_2255 wm_2257 wv_11_2 ⟨by decide, by decide, by decide +kernel⟩ (by decide), List.forall_mem_cons.mpr ⟨cl_virtual (y := y_Sy_compileValue_at_k9) (ci := 11) rfl rfl ⟨_, _, rfl⟩ (by decide +kernel) h_Sy_compileValue_at_k9 wm_2274 wm_23 wm_2271 wm_2273 wv_11_6 ⟨by decide, by decide, by decide +kernel⟩ (by decide), List.forall_mem_cons.mpr ⟨cl_virtual (y := y_Sy_compileValue_at_k9) (ci := 11) rfl rfl ⟨_, _, rfl⟩ (by decide +kernel) h_Sy_compileValue_at_k9 wm_2274 wm_23 wm_2271 wm_2273 wv_11_6 ⟨by decide, by decide, by decide +kernel⟩ (by decide), List.forall_mem_nil _⟩⟩⟩⟩, List.forall_mem_nil _, List.forall_mem_nil _, GG_pl⟩ (by decide +kernel)
set_option maxHeartbeats 4000000 in
theorem vc_Sy_compileSetting_0_0 (x3 : Int) (x9 : Int) (k3 : 0 ≤ x3 ∧ x3 ≤ 2) (k9 : 13 ≤ x9 ∧ x9 ≤ 13) : (0 ≤ x9) ∧ ((0 ≤ x3) ∧ (((x9 * 65536) + x3) ≤ 851970)) := by
  first
    | omega
  
def o_Sy_compileSetting_0 : or_T := (59, 10, [(3, (0, 0, 2, [])), (9, (0, 13, 13, []))], [], [], [], [(20, [9, 3], [50, 0, 0, 2, 6, 0, 2, 0, 0, 1, 0, 2, 6, 0, 2, 0, 0, 1, 1, 0, 10, 4, 6, 6, 2, 1, 0, 0, 65536, 1, 1, 0, 851970])], [], [])
theorem oo_Sy_compileSetting_0 {kA : Nat → ClassId} : or_ok PRD kA GG o_Sy_compileSetting_0 := by
  refine or_mk fun A ta ws vs hD hth hl => ?_
  intro t3 k3 t9 k9
  have nf0 : fc_1 PRD (20, [9, 3], [50, 0, 0, 2, 6, 0, 2, 0, 0, 1, 0, 2, 6, 0, 2, 0, 0, 1, 1, 0, 10, 4, 6, 6, 2, 1, 0, 0, 65536, 1, 1, 0, 851970]) ws (vs) := ⟨nf_in hl rfl, sgq_493 (vc_Sy_compileSetting_0_0 (v_iv (n_v vs 3)) (v_iv (n_v vs 9)) k3 k9)⟩
  refine ⟨(fun _ h => (by cases h)), [], trivial, ?_, (fun _ h => (by cases h))⟩
  rw [List.append_nil]
  exact List.forall_mem_cons.mpr ⟨⟨show (20 : Nat) < 100 from by decide, nf0⟩, (fun _ h => (by cases h))⟩
def n_Sy_compileSetting_an : List an_T := []
def t_Sy_compileSetting_ct : ct_L := [(1, 69, e_Sy_advance), (1, 118, e_Sy_fail), (1, 128, e_Sy_emit), (25, 114, e_Sy_wordIn_at_s5012), (145, 137, e_Sy_compileSum_at_k0), (1000000, 135, en_ro [] (2, 0, 0, [5012]))]
set_option maxRecDepth 100000 in
theorem c_Sy_compileSetting {l : Launch} {D : va_G} {kA : Nat → ClassId} (h_Sy_advance : ct_ok PRD l D kA GG y_Sy_advance z_Sy_advance e_Sy_advance) (h_Sy_compileSum_at_k0 : ct_ok PRD l D kA GG y_Sy_compileSum_at_k0 z_Sy_compileSum_at_k0 e_Sy_compileSum_at_k0) (h_Sy_emit : ct_ok PRD l D kA GG y_Sy_emit z_Sy_emit e_Sy_emit) (h_Sy_fail : ct_ok PRD l D kA GG y_Sy_fail z_Sy_fail e_Sy_fail) (h_Sy_wordIn_at_s5012 : ct_ok PRD l D kA GG y_Sy_wordIn_at_s5012 z_Sy_wordIn_at_s5012 e_Sy_wordIn_at_s5012) : ct_ok PRD l D kA GG y_Sy_compileSetting z_Sy_compileSetting e_Sy_compileSetting := chk_all_ok (FT := [(31, 11, 6)]) (PT := []) (CT := t_Sy_compileSetting_ct) (KT := []) (NT := []) (AN := n_Sy_compileSetting_an) (OT := [o_Sy_compileSetting_0]) 0 200 (List.forall_mem_cons.mpr ⟨oo_Sy_compileSetting_0, List.forall_mem_nil _⟩) (by decide +kernel) ⟨List.forall_mem_cons.mpr ⟨gf_Sy_31, List.forall_mem_nil _⟩, List.forall_mem_nil _, List.forall_mem_cons.mpr ⟨cl_virtual (y := y_Sy_advance) (ci := 11) rfl rfl ⟨_, _, rfl⟩ (by decide +kernel) h_Sy_advance wm_2158 wm_23 wm_2155 wm_2157 wv_10_10 ⟨by decide, by decide, by decide +kernel⟩ (by decide), List.forall_mem_cons.mpr ⟨cl_virtual (y := y_Sy_fail) (ci := 11) rfl rfl ⟨_, _, rfl⟩ (by decide +kernel) h_Sy_fail wm_2239 wm_23 wm_2236 wm_2238 wv_10_14 ⟨by decide, by decide, by decide +kernel⟩ (by decide), List.forall_mem_cons.mpr ⟨cl_virtual (y := y_Sy_emit) (ci := 11) rfl rfl ⟨_, _, rfl⟩ (by decide +kernel) h_Sy_emit wm_2258 wm_23 wm_2255 wm_2257 wv_11_2 ⟨by decide, by decide, by decide +kernel⟩ (by decide), List.forall_mem_cons.mpr ⟨cl_virtual (y := y_Sy_wordIn_at_s5012) (ci := 11) rfl rfl ⟨_, _, rfl⟩ (by decide +kernel) h_Sy_wordIn_at_s5012 wm_2229 wm_23 wm_2226 wm_2228 wv_10_12 ⟨by decide, by decide, by decide +kernel⟩ (by decide), List.forall_mem_cons.mpr ⟨cl_virtual (y := y_Sy_compileSum_at_k0) (ci := 11) rfl rfl ⟨_, _, rfl⟩ (by decide +kernel) h_Sy_compileSum_at_k0 wm_2266 wm_23 wm_2263 wm_2265 wv_11_4 ⟨by decide, by decide, by decide +kernel⟩ (by decide), List.forall_mem_cons.mpr ⟨cl_ldc (own := "DrawingHouse$Styler") (idx := 135) (i := 12) (tx := "color width form ") (by decide +kernel) (by decide +kernel) (by decide +kernel), List.forall_mem_nil _⟩⟩⟩⟩⟩⟩, List.forall_mem_nil _, List.forall_mem_nil _, GG_pl⟩ (by decide +kernel)
def o_Sy_compileSum_at_k0_0 : or_T := (12, 5, [], [], [], [], [(24, [0, 0], [])], [], [])
theorem oo_Sy_compileSum_at_k0_0 {kA : Nat → ClassId} : or_ok PRD kA GG o_Sy_compileSum_at_k0_0 := by
  refine or_mk fun A ta ws vs hD hth hl => ?_
  have nf0 : fc_1 PRD (24, [0, 0], []) ws (vs) := by
    refine ⟨nf_in hl rfl, sgq_1 ?_⟩
    · show n_v vs 0 = n_v vs 0
      first | rfl | simp only [true_and]
  refine ⟨(fun _ h => (by cases h)), [], trivial, ?_, (fun _ h => (by cases h))⟩
  rw [List.append_nil]
  exact List.forall_mem_cons.mpr ⟨⟨show (24 : Nat) < 100 from by decide, nf0⟩, (fun _ h => (by cases h))⟩
set_option maxHeartbeats 4000000 in
theorem vc_Sy_compileSum_at_k0_1_0 (kind_0 : Int) (number_0 : Int) (f0 : (kind_0 ≠ 3) ∨ (number_0 ≤ 9999)) (kz_0_6 : 0 ≤ kind_0 ∧ kind_0 ≤ 127) (kz_0_8 : 0 ≤ number_0 ∧ number_0 ≤ 1000000) : (kind_0 ≠ 3) ∨ (number_0 ≤ 9999) := by
  first
    | omega
  
def o_Sy_compileSum_at_k0_1 : or_T := (79, 9, [(0, (2, 0, 0, [11]))], [(20, [3], [50, 2, 0, 6, 8, 3, 7, 7, 3, 2, 0, 6, 0, 3, 0, 3, 2, 0, 8, 0, 9999]), (24, [0, 3], [])], [], [], [(20, [0], [50, 2, 0, 6, 8, 3, 7, 7, 3, 2, 0, 6, 0, 3, 0, 3, 2, 0, 8, 0, 9999])], [], [])
theorem oo_Sy_compileSum_at_k0_1 {kA : Nat → ClassId} : or_ok PRD kA GG o_Sy_compileSum_at_k0_1 := by
  refine or_mk fun A ta ws vs hD hth hl => ?_
  intro t0 r0 f0 f1
  replace f0 := shm_1840 f0
  replace f1 := shm_5 f1
  have q3 : n_v vs 3 = n_v vs 0 := f1.symm
  simp only [q3] at f0
  have kz_0_6 := fdq_313 hD hth r0
  have kz_0_8 := fdq_314 hD hth r0
  have nf0 : fc_1 PRD (20, [0], [50, 2, 0, 6, 8, 3, 7, 7, 3, 2, 0, 6, 0, 3, 0, 3, 2, 0, 8, 0, 9999]) ws (vs) := ⟨nf_in hl rfl, sgq_1840 (vc_Sy_compileSum_at_k0_1_0 (w_fi ws (n_v vs 0) 6) (w_fi ws (n_v vs 0) 8) f0 kz_0_6 kz_0_8)⟩
  refine ⟨(fun _ h => (by cases h)), [], trivial, ?_, (fun _ h => (by cases h))⟩
  rw [List.append_nil]
  exact List.forall_mem_cons.mpr ⟨⟨show (20 : Nat) < 100 from by decide, nf0⟩, (fun _ h => (by cases h))⟩
set_option maxHeartbeats 4000000 in
theorem vc_Sy_compileSum_at_k0_2_0 (x11 : Int) (x13 : Int) (k11 : 2 ≤ x11 ∧ x11 ≤ 2) (k13 : 0 ≤ x13 ∧ x13 ≤ 0) : (0 ≤ x11) ∧ ((0 ≤ x13) ∧ (((x11 * 65536) + x13) ≤ 851970)) := by
  first
    | omega
  
def o_Sy_compileSum_at_k0_2 : or_T := (69, 14, [(11, (0, 2, 2, [])), (13, (0, 0, 0, []))], [], [], [], [(20, [11, 13], [50, 0, 0, 2, 6, 0, 2, 0, 0, 1, 0, 2, 6, 0, 2, 0, 0, 1, 1, 0, 10, 4, 6, 6, 2, 1, 0, 0, 65536, 1, 1, 0, 851970])], [], [])
theorem oo_Sy_compileSum_at_k0_2 {kA : Nat → ClassId} : or_ok PRD kA GG o_Sy_compileSum_at_k0_2 := by
  refine or_mk fun A ta ws vs hD hth hl => ?_
  intro t11 k11 t13 k13
  have nf0 : fc_1 PRD (20, [11, 13], [50, 0, 0, 2, 6, 0, 2, 0, 0, 1, 0, 2, 6, 0, 2, 0, 0, 1, 1, 0, 10, 4, 6, 6, 2, 1, 0, 0, 65536, 1, 1, 0, 851970]) ws (vs) := ⟨nf_in hl rfl, sgq_493 (vc_Sy_compileSum_at_k0_2_0 (v_iv (n_v vs 11)) (v_iv (n_v vs 13)) k11 k13)⟩
  refine ⟨(fun _ h => (by cases h)), [], trivial, ?_, (fun _ h => (by cases h))⟩
  rw [List.append_nil]
  exact List.forall_mem_cons.mpr ⟨⟨show (20 : Nat) < 100 from by decide, nf0⟩, (fun _ h => (by cases h))⟩
set_option maxHeartbeats 4000000 in
theorem vc_Sy_compileSum_at_k0_3_0 (kind_0 : Int) (number_0 : Int) (f1 : (kind_0 ≠ 3) ∨ (number_0 ≤ 9999)) (kz_0_6 : 0 ≤ kind_0 ∧ kind_0 ≤ 127) (kz_0_8 : 0 ≤ number_0 ∧ number_0 ≤ 1000000) : (kind_0 ≠ 3) ∨ (number_0 ≤ 9999) := by
  first
    | omega
  
def o_Sy_compileSum_at_k0_3 : or_T := (65, 14, [(0, (2, 0, 0, [11]))], [(24, [0, 3], []), (20, [3], [50, 2, 0, 6, 8, 3, 7, 7, 3, 2, 0, 6, 0, 3, 0, 3, 2, 0, 8, 0, 9999])], [], [], [(20, [0], [50, 2, 0, 6, 8, 3, 7, 7, 3, 2, 0, 6, 0, 3, 0, 3, 2, 0, 8, 0, 9999])], [], [])
theorem oo_Sy_compileSum_at_k0_3 {kA : Nat → ClassId} : or_ok PRD kA GG o_Sy_compileSum_at_k0_3 := by
  refine or_mk fun A ta ws vs hD hth hl => ?_
  intro t0 r0 f0 f1
  replace f0 := shm_5 f0
  replace f1 := shm_1840 f1
  have q3 : n_v vs 3 = n_v vs 0 := f0.symm
  simp only [q3] at f1
  have kz_0_6 := fdq_313 hD hth r0
  have kz_0_8 := fdq_314 hD hth r0
  have nf0 : fc_1 PRD (20, [0], [50, 2, 0, 6, 8, 3, 7, 7, 3, 2, 0, 6, 0, 3, 0, 3, 2, 0, 8, 0, 9999]) ws (vs) := ⟨nf_in hl rfl, sgq_1840 (vc_Sy_compileSum_at_k0_3_0 (w_fi ws (n_v vs 0) 6) (w_fi ws (n_v vs 0) 8) f1 kz_0_6 kz_0_8)⟩
  refine ⟨(fun _ h => (by cases h)), [], trivial, ?_, (fun _ h => (by cases h))⟩
  rw [List.append_nil]
  exact List.forall_mem_cons.mpr ⟨⟨show (20 : Nat) < 100 from by decide, nf0⟩, (fun _ h => (by cases h))⟩
set_option maxHeartbeats 4000000 in
theorem vc_Sy_compileSum_at_k0_4_0 (kind_0 : Int) (number_0 : Int) (f3 : (kind_0 ≠ 3) ∨ (number_0 ≤ 9999)) (kz_0_6 : 0 ≤ kind_0 ∧ kind_0 ≤ 127) (kz_0_8 : 0 ≤ number_0 ∧ number_0 ≤ 1000000) : (kind_0 ≠ 3) ∨ (number_0 ≤ 9999) := by
  first
    | omega
  
def o_Sy_compileSum_at_k0_4 : or_T := (79, 12, [(0, (2, 0, 0, [11]))], [(20, [3], [50, 2, 0, 6, 8, 3, 7, 7, 3, 2, 0, 6, 0, 3, 0, 3, 2, 0, 8, 0, 9999]), (24, [0, 3], [])], [], [], [(20, [0], [50, 2, 0, 6, 8, 3, 7, 7, 3, 2, 0, 6, 0, 3, 0, 3, 2, 0, 8, 0, 9999])], [], [])
theorem oo_Sy_compileSum_at_k0_4 {kA : Nat → ClassId} : or_ok PRD kA GG o_Sy_compileSum_at_k0_4 := by
  refine or_mk fun A ta ws vs hD hth hl => ?_
  intro t0 r0 f3 f4
  replace f3 := shm_1840 f3
  replace f4 := shm_5 f4
  have q3 : n_v vs 3 = n_v vs 0 := f4.symm
  simp only [q3] at f3
  have kz_0_6 := fdq_313 hD hth r0
  have kz_0_8 := fdq_314 hD hth r0
  have nf0 : fc_1 PRD (20, [0], [50, 2, 0, 6, 8, 3, 7, 7, 3, 2, 0, 6, 0, 3, 0, 3, 2, 0, 8, 0, 9999]) ws (vs) := ⟨nf_in hl rfl, sgq_1840 (vc_Sy_compileSum_at_k0_4_0 (w_fi ws (n_v vs 0) 6) (w_fi ws (n_v vs 0) 8) f3 kz_0_6 kz_0_8)⟩
  refine ⟨(fun _ h => (by cases h)), [], trivial, ?_, (fun _ h => (by cases h))⟩
  rw [List.append_nil]
  exact List.forall_mem_cons.mpr ⟨⟨show (20 : Nat) < 100 from by decide, nf0⟩, (fun _ h => (by cases h))⟩
set_option maxHeartbeats 4000000 in
theorem vc_Sy_compileSum_at_k0_5_0 (x12 : Int) (x14 : Int) (k12 : 3 ≤ x12 ∧ x12 ≤ 3) (k14 : 0 ≤ x14 ∧ x14 ≤ 0) : (0 ≤ x12) ∧ ((0 ≤ x14) ∧ (((x12 * 65536) + x14) ≤ 851970)) := by
  first
    | omega
  
def o_Sy_compileSum_at_k0_5 : or_T := (69, 15, [(12, (0, 3, 3, [])), (14, (0, 0, 0, []))], [], [], [], [(20, [12, 14], [50, 0, 0, 2, 6, 0, 2, 0, 0, 1, 0, 2, 6, 0, 2, 0, 0, 1, 1, 0, 10, 4, 6, 6, 2, 1, 0, 0, 65536, 1, 1, 0, 851970])], [], [])
theorem oo_Sy_compileSum_at_k0_5 {kA : Nat → ClassId} : or_ok PRD kA GG o_Sy_compileSum_at_k0_5 := by
  refine or_mk fun A ta ws vs hD hth hl => ?_
  intro t12 k12 t14 k14
  have nf0 : fc_1 PRD (20, [12, 14], [50, 0, 0, 2, 6, 0, 2, 0, 0, 1, 0, 2, 6, 0, 2, 0, 0, 1, 1, 0, 10, 4, 6, 6, 2, 1, 0, 0, 65536, 1, 1, 0, 851970]) ws (vs) := ⟨nf_in hl rfl, sgq_493 (vc_Sy_compileSum_at_k0_5_0 (v_iv (n_v vs 12)) (v_iv (n_v vs 14)) k12 k14)⟩
  refine ⟨(fun _ h => (by cases h)), [], trivial, ?_, (fun _ h => (by cases h))⟩
  rw [List.append_nil]
  exact List.forall_mem_cons.mpr ⟨⟨show (20 : Nat) < 100 from by decide, nf0⟩, (fun _ h => (by cases h))⟩
set_option maxHeartbeats 4000000 in
theorem vc_Sy_compileSum_at_k0_6_0 (kind_0 : Int) (number_0 : Int) (f1 : (kind_0 ≠ 3) ∨ (number_0 ≤ 9999)) (kz_0_6 : 0 ≤ kind_0 ∧ kind_0 ≤ 127) (kz_0_8 : 0 ≤ number_0 ∧ number_0 ≤ 1000000) : (kind_0 ≠ 3) ∨ (number_0 ≤ 9999) := by
  first
    | omega
  
def o_Sy_compileSum_at_k0_6 : or_T := (65, 15, [(0, (2, 0, 0, [11]))], [(24, [0, 3], []), (20, [3], [50, 2, 0, 6, 8, 3, 7, 7, 3, 2, 0, 6, 0, 3, 0, 3, 2, 0, 8, 0, 9999])], [], [], [(20, [0], [50, 2, 0, 6, 8, 3, 7, 7, 3, 2, 0, 6, 0, 3, 0, 3, 2, 0, 8, 0, 9999])], [], [])
theorem oo_Sy_compileSum_at_k0_6 {kA : Nat → ClassId} : or_ok PRD kA GG o_Sy_compileSum_at_k0_6 := by
  refine or_mk fun A ta ws vs hD hth hl => ?_
  intro t0 r0 f0 f1
  replace f0 := shm_5 f0
  replace f1 := shm_1840 f1
  have q3 : n_v vs 3 = n_v vs 0 := f0.symm
  simp only [q3] at f1
  have kz_0_6 := fdq_313 hD hth r0
  have kz_0_8 := fdq_314 hD hth r0
  have nf0 : fc_1 PRD (20, [0], [50, 2, 0, 6, 8, 3, 7, 7, 3, 2, 0, 6, 0, 3, 0, 3, 2, 0, 8, 0, 9999]) ws (vs) := ⟨nf_in hl rfl, sgq_1840 (vc_Sy_compileSum_at_k0_6_0 (w_fi ws (n_v vs 0) 6) (w_fi ws (n_v vs 0) 8) f1 kz_0_6 kz_0_8)⟩
  refine ⟨(fun _ h => (by cases h)), [], trivial, ?_, (fun _ h => (by cases h))⟩
  rw [List.append_nil]
  exact List.forall_mem_cons.mpr ⟨⟨show (20 : Nat) < 100 from by decide, nf0⟩, (fun _ h => (by cases h))⟩
def n_Sy_compileSum_at_k0_an : List an_T := [(12, [(0, (2, 0, 0, [11])), (1, (0, 0, 0, [])), (2, (0, 0, 2000, []))], [], (0, 0), [(0, 0, 99988), (1, 5, 2000), (0, 0, 100000)], [], [((0, 3), (2, 0, 0, [109]))], [(2, 0, 0, [11]), (0, 0, 0, []), (2, 0, 0, [109])], 0, [], [(20, [3], [50, 2, 0, 6, 8, 3, 7, 7, 3, 2, 0, 6, 0, 3, 0, 3, 2, 0, 8, 0, 9999]), (24, [0, 3], [])])]
def t_Sy_compileSum_at_k0_ct : ct_L := [(1, 69, e_Sy_advance), (1, 128, e_Sy_emit), (10, 155, e_Sy_compileProduct_at_k0), (178, 155, e_Sy_compileProduct_at_k0)]
set_option maxRecDepth 100000 in
theorem c_Sy_compileSum_at_k0 {l : Launch} {D : va_G} {kA : Nat → ClassId} (h_Sy_advance : ct_ok PRD l D kA GG y_Sy_advance z_Sy_advance e_Sy_advance) (h_Sy_compileProduct_at_k0 : ct_ok PRD l D kA GG y_Sy_compileProduct_at_k0 z_Sy_compileProduct_at_k0 e_Sy_compileProduct_at_k0) (h_Sy_emit : ct_ok PRD l D kA GG y_Sy_emit z_Sy_emit e_Sy_emit) : ct_ok PRD l D kA GG y_Sy_compileSum_at_k0 z_Sy_compileSum_at_k0 e_Sy_compileSum_at_k0 := chk_all_ok (FT := [(31, 11, 6)]) (PT := []) (CT := t_Sy_compileSum_at_k0_ct) (KT := []) (NT := []) (AN := n_Sy_compileSum_at_k0_an) (OT := [o_Sy_compileSum_at_k0_0, o_Sy_compileSum_at_k0_1, o_Sy_compileSum_at_k0_2, o_Sy_compileSum_at_k0_3, o_Sy_compileSum_at_k0_4, o_Sy_compileSum_at_k0_5, o_Sy_compileSum_at_k0_6]) 3 256 (List.forall_mem_cons.mpr ⟨oo_Sy_compileSum_at_k0_0, List.forall_mem_cons.mpr ⟨oo_Sy_compileSum_at_k0_1, List.forall_mem_cons.mpr ⟨oo_Sy_compileSum_at_k0_2, List.forall_mem_cons.mpr ⟨oo_Sy_compileSum_at_k0_3, List.forall_mem_cons.mpr ⟨oo_Sy_compileSum_at_k0_4, List.forall_mem_cons.mpr ⟨oo_Sy_compileSum_at_k0_5, List.forall_mem_cons.mpr ⟨oo_Sy_compileSum_at_k0_6, List.forall_mem_nil _⟩⟩⟩⟩⟩⟩⟩) (by decide +kernel) ⟨List.forall_mem_cons.mpr ⟨gf_Sy_31, List.forall_mem_nil _⟩, List.forall_mem_nil _, List.forall_mem_cons.mpr ⟨cl_virtual (y := y_Sy_advance) (ci := 11) rfl rfl ⟨_, _, rfl⟩ (by decide +kernel) h_Sy_advance wm_2158 wm_23 wm_2155 wm_2157 wv_10_10 ⟨by decide, by decide, by decide +kernel⟩ (by decide), List.forall_mem_cons.mpr ⟨cl_virtual (y := y_Sy_emit) (ci := 11) rfl rfl ⟨_, _, rfl⟩ (by decide +kernel) h_Sy_emit wm_2258 wm_23 wm_2255 wm_2257 wv_11_2 ⟨by decide, by decide, by decide +kernel⟩ (by decide), List.forall_mem_cons.mpr ⟨cl_virtual (y := y_Sy_compileProduct_at_k0) (ci := 11) rfl rfl ⟨_, _, rfl⟩ (by decide +kernel) h_Sy_compileProduct_at_k0 wm_2270 wm_23 wm_2267 wm_2269 wv_11_5 ⟨by decide, by decide, by decide +kernel⟩ (by decide), List.forall_mem_cons.mpr ⟨cl_virtual (y := y_Sy_compileProduct_at_k0) (ci := 11) rfl rfl ⟨_, _, rfl⟩ (by decide +kernel) h_Sy_compileProduct_at_k0 wm_2270 wm_23 wm_2267 wm_2269 wv_11_5 ⟨by decide, by decide, by decide +kernel⟩ (by decide), List.forall_mem_nil _⟩⟩⟩⟩, List.forall_mem_nil _, List.forall_mem_nil _, GG_pl⟩ (by decide +kernel)
def o_Sy_compileSum_at_k1_0 : or_T := (12, 5, [], [], [], [], [(24, [0, 0], [])], [], [])
theorem oo_Sy_compileSum_at_k1_0 {kA : Nat → ClassId} : or_ok PRD kA GG o_Sy_compileSum_at_k1_0 := by
  refine or_mk fun A ta ws vs hD hth hl => ?_
  have nf0 : fc_1 PRD (24, [0, 0], []) ws (vs) := by
    refine ⟨nf_in hl rfl, sgq_1 ?_⟩
    · show n_v vs 0 = n_v vs 0
      first | rfl | simp only [true_and]
  refine ⟨(fun _ h => (by cases h)), [], trivial, ?_, (fun _ h => (by cases h))⟩
  rw [List.append_nil]
  exact List.forall_mem_cons.mpr ⟨⟨show (24 : Nat) < 100 from by decide, nf0⟩, (fun _ h => (by cases h))⟩
set_option maxHeartbeats 4000000 in
theorem vc_Sy_compileSum_at_k1_1_0 (kind_0 : Int) (number_0 : Int) (f0 : (kind_0 ≠ 3) ∨ (number_0 ≤ 9999)) (kz_0_6 : 0 ≤ kind_0 ∧ kind_0 ≤ 127) (kz_0_8 : 0 ≤ number_0 ∧ number_0 ≤ 1000000) : (kind_0 ≠ 3) ∨ (number_0 ≤ 9999) := by
  first
    | omega
  
def o_Sy_compileSum_at_k1_1 : or_T := (79, 9, [(0, (2, 0, 0, [11]))], [(20, [3], [50, 2, 0, 6, 8, 3, 7, 7, 3, 2, 0, 6, 0, 3, 0, 3, 2, 0, 8, 0, 9999]), (24, [0, 3], [])], [], [], [(20, [0], [50, 2, 0, 6, 8, 3, 7, 7, 3, 2, 0, 6, 0, 3, 0, 3, 2, 0, 8, 0, 9999])], [], [])
theorem oo_Sy_compileSum_at_k1_1 {kA : Nat → ClassId} : or_ok PRD kA GG o_Sy_compileSum_at_k1_1 := by
  refine or_mk fun A ta ws vs hD hth hl => ?_
  intro t0 r0 f0 f1
  replace f0 := shm_1840 f0
  replace f1 := shm_5 f1
  have q3 : n_v vs 3 = n_v vs 0 := f1.symm
  simp only [q3] at f0
  have kz_0_6 := fdq_313 hD hth r0
  have kz_0_8 := fdq_314 hD hth r0
  have nf0 : fc_1 PRD (20, [0], [50, 2, 0, 6, 8, 3, 7, 7, 3, 2, 0, 6, 0, 3, 0, 3, 2, 0, 8, 0, 9999]) ws (vs) := ⟨nf_in hl rfl, sgq_1840 (vc_Sy_compileSum_at_k1_1_0 (w_fi ws (n_v vs 0) 6) (w_fi ws (n_v vs 0) 8) f0 kz_0_6 kz_0_8)⟩
  refine ⟨(fun _ h => (by cases h)), [], trivial, ?_, (fun _ h => (by cases h))⟩
  rw [List.append_nil]
  exact List.forall_mem_cons.mpr ⟨⟨show (20 : Nat) < 100 from by decide, nf0⟩, (fun _ h => (by cases h))⟩
set_option maxHeartbeats 4000000 in
theorem vc_Sy_compileSum_at_k1_2_0 (x11 : Int) (x13 : Int) (k11 : 2 ≤ x11 ∧ x11 ≤ 2) (k13 : 0 ≤ x13 ∧ x13 ≤ 0) : (0 ≤ x11) ∧ ((0 ≤ x13) ∧ (((x11 * 65536) + x13) ≤ 851970)) := by
  first
    | omega
  
def o_Sy_compileSum_at_k1_2 : or_T := (69, 14, [(11, (0, 2, 2, [])), (13, (0, 0, 0, []))], [], [], [], [(20, [11, 13], [50, 0, 0, 2, 6, 0, 2, 0, 0, 1, 0, 2, 6, 0, 2, 0, 0, 1, 1, 0, 10, 4, 6, 6, 2, 1, 0, 0, 65536, 1, 1, 0, 851970])], [], [])
theorem oo_Sy_compileSum_at_k1_2 {kA : Nat → ClassId} : or_ok PRD kA GG o_Sy_compileSum_at_k1_2 := by
  refine or_mk fun A ta ws vs hD hth hl => ?_
  intro t11 k11 t13 k13
  have nf0 : fc_1 PRD (20, [11, 13], [50, 0, 0, 2, 6, 0, 2, 0, 0, 1, 0, 2, 6, 0, 2, 0, 0, 1, 1, 0, 10, 4, 6, 6, 2, 1, 0, 0, 65536, 1, 1, 0, 851970]) ws (vs) := ⟨nf_in hl rfl, sgq_493 (vc_Sy_compileSum_at_k1_2_0 (v_iv (n_v vs 11)) (v_iv (n_v vs 13)) k11 k13)⟩
  refine ⟨(fun _ h => (by cases h)), [], trivial, ?_, (fun _ h => (by cases h))⟩
  rw [List.append_nil]
  exact List.forall_mem_cons.mpr ⟨⟨show (20 : Nat) < 100 from by decide, nf0⟩, (fun _ h => (by cases h))⟩
set_option maxHeartbeats 4000000 in
theorem vc_Sy_compileSum_at_k1_3_0 (kind_0 : Int) (number_0 : Int) (f1 : (kind_0 ≠ 3) ∨ (number_0 ≤ 9999)) (kz_0_6 : 0 ≤ kind_0 ∧ kind_0 ≤ 127) (kz_0_8 : 0 ≤ number_0 ∧ number_0 ≤ 1000000) : (kind_0 ≠ 3) ∨ (number_0 ≤ 9999) := by
  first
    | omega
  
def o_Sy_compileSum_at_k1_3 : or_T := (65, 14, [(0, (2, 0, 0, [11]))], [(24, [0, 3], []), (20, [3], [50, 2, 0, 6, 8, 3, 7, 7, 3, 2, 0, 6, 0, 3, 0, 3, 2, 0, 8, 0, 9999])], [], [], [(20, [0], [50, 2, 0, 6, 8, 3, 7, 7, 3, 2, 0, 6, 0, 3, 0, 3, 2, 0, 8, 0, 9999])], [], [])
theorem oo_Sy_compileSum_at_k1_3 {kA : Nat → ClassId} : or_ok PRD kA GG o_Sy_compileSum_at_k1_3 := by
  refine or_mk fun A ta ws vs hD hth hl => ?_
  intro t0 r0 f0 f1
  replace f0 := shm_5 f0
  replace f1 := shm_1840 f1
  have q3 : n_v vs 3 = n_v vs 0 := f0.symm
  simp only [q3] at f1
  have kz_0_6 := fdq_313 hD hth r0
  have kz_0_8 := fdq_314 hD hth r0
  have nf0 : fc_1 PRD (20, [0], [50, 2, 0, 6, 8, 3, 7, 7, 3, 2, 0, 6, 0, 3, 0, 3, 2, 0, 8, 0, 9999]) ws (vs) := ⟨nf_in hl rfl, sgq_1840 (vc_Sy_compileSum_at_k1_3_0 (w_fi ws (n_v vs 0) 6) (w_fi ws (n_v vs 0) 8) f1 kz_0_6 kz_0_8)⟩
  refine ⟨(fun _ h => (by cases h)), [], trivial, ?_, (fun _ h => (by cases h))⟩
  rw [List.append_nil]
  exact List.forall_mem_cons.mpr ⟨⟨show (20 : Nat) < 100 from by decide, nf0⟩, (fun _ h => (by cases h))⟩
set_option maxHeartbeats 4000000 in
theorem vc_Sy_compileSum_at_k1_4_0 (kind_0 : Int) (number_0 : Int) (f3 : (kind_0 ≠ 3) ∨ (number_0 ≤ 9999)) (kz_0_6 : 0 ≤ kind_0 ∧ kind_0 ≤ 127) (kz_0_8 : 0 ≤ number_0 ∧ number_0 ≤ 1000000) : (kind_0 ≠ 3) ∨ (number_0 ≤ 9999) := by
  first
    | omega
  
def o_Sy_compileSum_at_k1_4 : or_T := (79, 12, [(0, (2, 0, 0, [11]))], [(20, [3], [50, 2, 0, 6, 8, 3, 7, 7, 3, 2, 0, 6, 0, 3, 0, 3, 2, 0, 8, 0, 9999]), (24, [0, 3], [])], [], [], [(20, [0], [50, 2, 0, 6, 8, 3, 7, 7, 3, 2, 0, 6, 0, 3, 0, 3, 2, 0, 8, 0, 9999])], [], [])
theorem oo_Sy_compileSum_at_k1_4 {kA : Nat → ClassId} : or_ok PRD kA GG o_Sy_compileSum_at_k1_4 := by
  refine or_mk fun A ta ws vs hD hth hl => ?_
  intro t0 r0 f3 f4
  replace f3 := shm_1840 f3
  replace f4 := shm_5 f4
  have q3 : n_v vs 3 = n_v vs 0 := f4.symm
  simp only [q3] at f3
  have kz_0_6 := fdq_313 hD hth r0
  have kz_0_8 := fdq_314 hD hth r0
  have nf0 : fc_1 PRD (20, [0], [50, 2, 0, 6, 8, 3, 7, 7, 3, 2, 0, 6, 0, 3, 0, 3, 2, 0, 8, 0, 9999]) ws (vs) := ⟨nf_in hl rfl, sgq_1840 (vc_Sy_compileSum_at_k1_4_0 (w_fi ws (n_v vs 0) 6) (w_fi ws (n_v vs 0) 8) f3 kz_0_6 kz_0_8)⟩
  refine ⟨(fun _ h => (by cases h)), [], trivial, ?_, (fun _ h => (by cases h))⟩
  rw [List.append_nil]
  exact List.forall_mem_cons.mpr ⟨⟨show (20 : Nat) < 100 from by decide, nf0⟩, (fun _ h => (by cases h))⟩
set_option maxHeartbeats 4000000 in
theorem vc_Sy_compileSum_at_k1_5_0 (x12 : Int) (x14 : Int) (k12 : 3 ≤ x12 ∧ x12 ≤ 3) (k14 : 0 ≤ x14 ∧ x14 ≤ 0) : (0 ≤ x12) ∧ ((0 ≤ x14) ∧ (((x12 * 65536) + x14) ≤ 851970)) := by
  first
    | omega
  
def o_Sy_compileSum_at_k1_5 : or_T := (69, 15, [(12, (0, 3, 3, [])), (14, (0, 0, 0, []))], [], [], [], [(20, [12, 14], [50, 0, 0, 2, 6, 0, 2, 0, 0, 1, 0, 2, 6, 0, 2, 0, 0, 1, 1, 0, 10, 4, 6, 6, 2, 1, 0, 0, 65536, 1, 1, 0, 851970])], [], [])
theorem oo_Sy_compileSum_at_k1_5 {kA : Nat → ClassId} : or_ok PRD kA GG o_Sy_compileSum_at_k1_5 := by
  refine or_mk fun A ta ws vs hD hth hl => ?_
  intro t12 k12 t14 k14
  have nf0 : fc_1 PRD (20, [12, 14], [50, 0, 0, 2, 6, 0, 2, 0, 0, 1, 0, 2, 6, 0, 2, 0, 0, 1, 1, 0, 10, 4, 6, 6, 2, 1, 0, 0, 65536, 1, 1, 0, 851970]) ws (vs) := ⟨nf_in hl rfl, sgq_493 (vc_Sy_compileSum_at_k1_5_0 (v_iv (n_v vs 12)) (v_iv (n_v vs 14)) k12 k14)⟩
  refine ⟨(fun _ h => (by cases h)), [], trivial, ?_, (fun _ h => (by cases h))⟩
  rw [List.append_nil]
  exact List.forall_mem_cons.mpr ⟨⟨show (20 : Nat) < 100 from by decide, nf0⟩, (fun _ h => (by cases h))⟩
set_option maxHeartbeats 4000000 in
theorem vc_Sy_compileSum_at_k1_6_0 (kind_0 : Int) (number_0 : Int) (f1 : (kind_0 ≠ 3) ∨ (number_0 ≤ 9999)) (kz_0_6 : 0 ≤ kind_0 ∧ kind_0 ≤ 127) (kz_0_8 : 0 ≤ number_0 ∧ number_0 ≤ 1000000) : (kind_0 ≠ 3) ∨ (number_0 ≤ 9999) := by
  first
    | omega
  
def o_Sy_compileSum_at_k1_6 : or_T := (65, 15, [(0, (2, 0, 0, [11]))], [(24, [0, 3], []), (20, [3], [50, 2, 0, 6, 8, 3, 7, 7, 3, 2, 0, 6, 0, 3, 0, 3, 2, 0, 8, 0, 9999])], [], [], [(20, [0], [50, 2, 0, 6, 8, 3, 7, 7, 3, 2, 0, 6, 0, 3, 0, 3, 2, 0, 8, 0, 9999])], [], [])
theorem oo_Sy_compileSum_at_k1_6 {kA : Nat → ClassId} : or_ok PRD kA GG o_Sy_compileSum_at_k1_6 := by
  refine or_mk fun A ta ws vs hD hth hl => ?_
  intro t0 r0 f0 f1
  replace f0 := shm_5 f0
  replace f1 := shm_1840 f1
  have q3 : n_v vs 3 = n_v vs 0 := f0.symm
  simp only [q3] at f1
  have kz_0_6 := fdq_313 hD hth r0
  have kz_0_8 := fdq_314 hD hth r0
  have nf0 : fc_1 PRD (20, [0], [50, 2, 0, 6, 8, 3, 7, 7, 3, 2, 0, 6, 0, 3, 0, 3, 2, 0, 8, 0, 9999]) ws (vs) := ⟨nf_in hl rfl, sgq_1840 (vc_Sy_compileSum_at_k1_6_0 (w_fi ws (n_v vs 0) 6) (w_fi ws (n_v vs 0) 8) f1 kz_0_6 kz_0_8)⟩
  refine ⟨(fun _ h => (by cases h)), [], trivial, ?_, (fun _ h => (by cases h))⟩
  rw [List.append_nil]
  exact List.forall_mem_cons.mpr ⟨⟨show (20 : Nat) < 100 from by decide, nf0⟩, (fun _ h => (by cases h))⟩
def n_Sy_compileSum_at_k1_an : List an_T := [(12, [(0, (2, 0, 0, [11])), (1, (0, 1, 1, [])), (2, (0, 0, 2000, []))], [], (0, 0), [(0, 0, 99988), (1, 5, 2000), (0, 0, 100000)], [], [((0, 3), (2, 0, 0, [109]))], [(2, 0, 0, [11]), (0, 1, 1, []), (2, 0, 0, [109])], 0, [], [(20, [3], [50, 2, 0, 6, 8, 3, 7, 7, 3, 2, 0, 6, 0, 3, 0, 3, 2, 0, 8, 0, 9999]), (24, [0, 3], [])])]
def t_Sy_compileSum_at_k1_ct : ct_L := [(1, 69, e_Sy_advance), (1, 128, e_Sy_emit), (10, 155, e_Sy_compileProduct_at_k1), (178, 155, e_Sy_compileProduct_at_k1)]
set_option maxRecDepth 100000 in
theorem c_Sy_compileSum_at_k1 {l : Launch} {D : va_G} {kA : Nat → ClassId} (h_Sy_advance : ct_ok PRD l D kA GG y_Sy_advance z_Sy_advance e_Sy_advance) (h_Sy_compileProduct_at_k1 : ct_ok PRD l D kA GG y_Sy_compileProduct_at_k1 z_Sy_compileProduct_at_k1 e_Sy_compileProduct_at_k1) (h_Sy_emit : ct_ok PRD l D kA GG y_Sy_emit z_Sy_emit e_Sy_emit) : ct_ok PRD l D kA GG y_Sy_compileSum_at_k1 z_Sy_compileSum_at_k1 e_Sy_compileSum_at_k1 := chk_all_ok (FT := [(31, 11, 6)]) (PT := []) (CT := t_Sy_compileSum_at_k1_ct) (KT := []) (NT := []) (AN := n_Sy_compileSum_at_k1_an) (OT := [o_Sy_compileSum_at_k1_0, o_Sy_compileSum_at_k1_1, o_Sy_compileSum_at_k1_2, o_Sy_compileSum_at_k1_3, o_Sy_compileSum_at_k1_4, o_Sy_compileSum_at_k1_5, o_Sy_compileSum_at_k1_6]) 3 256 (List.forall_mem_cons.mpr ⟨oo_Sy_compileSum_at_k1_0, List.forall_mem_cons.mpr ⟨oo_Sy_compileSum_at_k1_1, List.forall_mem_cons.mpr ⟨oo_Sy_compileSum_at_k1_2, List.forall_mem_cons.mpr ⟨oo_Sy_compileSum_at_k1_3, List.forall_mem_cons.mpr ⟨oo_Sy_compileSum_at_k1_4, List.forall_mem_cons.mpr ⟨oo_Sy_compileSum_at_k1_5, List.forall_mem_cons.mpr ⟨oo_Sy_compileSum_at_k1_6, List.forall_mem_nil _⟩⟩⟩⟩⟩⟩⟩) (by decide +kernel) ⟨List.forall_mem_cons.mpr ⟨gf_Sy_31, List.forall_mem_nil _⟩, List.forall_mem_nil _, List.forall_mem_cons.mpr ⟨cl_virtual (y := y_Sy_advance) (ci := 11) rfl rfl ⟨_, _, rfl⟩ (by decide +kernel) h_Sy_advance wm_2158 wm_23 wm_2155 wm_2157 wv_10_10 ⟨by decide, by decide, by decide +kernel⟩ (by decide), List.forall_mem_cons.mpr ⟨cl_virtual (y := y_Sy_emit) (ci := 11) rfl rfl ⟨_, _, rfl⟩ (by decide +kernel) h_Sy_emit wm_2258 wm_23 wm_2255 wm_2257 wv_11_2 ⟨by decide, by decide, by decide +kernel⟩ (by decide), List.forall_mem_cons.mpr ⟨cl_virtual (y := y_Sy_compileProduct_at_k1) (ci := 11) rfl rfl ⟨_, _, rfl⟩ (by decide +kernel) h_Sy_compileProduct_at_k1 wm_2270 wm_23 wm_2267 wm_2269 wv_11_5 ⟨by decide, by decide, by decide +kernel⟩ (by decide), List.forall_mem_cons.mpr ⟨cl_virtual (y := y_Sy_compileProduct_at_k1) (ci := 11) rfl rfl ⟨_, _, rfl⟩ (by decide +kernel) h_Sy_compileProduct_at_k1 wm_2270 wm_23 wm_2267 wm_2269 wv_11_5 ⟨by decide, by decide, by decide +kernel⟩ (by decide), List.forall_mem_nil _⟩⟩⟩⟩, List.forall_mem_nil _, List.forall_mem_nil _, GG_pl⟩ (by decide +kernel)
def o_Sy_compileSum_at_k10_0 : or_T := (12, 5, [], [], [], [], [(24, [0, 0], [])], [], [])
theorem oo_Sy_compileSum_at_k10_0 {kA : Nat → ClassId} : or_ok PRD kA GG o_Sy_compileSum_at_k10_0 := by
  refine or_mk fun A ta ws vs hD hth hl => ?_
  have nf0 : fc_1 PRD (24, [0, 0], []) ws (vs) := by
    refine ⟨nf_in hl rfl, sgq_1 ?_⟩
    · show n_v vs 0 = n_v vs 0
      first | rfl | simp only [true_and]
  refine ⟨(fun _ h => (by cases h)), [], trivial, ?_, (fun _ h => (by cases h))⟩
  rw [List.append_nil]
  exact List.forall_mem_cons.mpr ⟨⟨show (24 : Nat) < 100 from by decide, nf0⟩, (fun _ h => (by cases h))⟩
set_option maxHeartbeats 4000000 in
theorem vc_Sy_compileSum_at_k10_1_0 (kind_0 : Int) (number_0 : Int) (f0 : (kind_0 ≠ 3) ∨ (number_0 ≤ 9999)) (kz_0_6 : 0 ≤ kind_0 ∧ kind_0 ≤ 127) (kz_0_8 : 0 ≤ number_0 ∧ number_0 ≤ 1000000) : (kind_0 ≠ 3) ∨ (number_0 ≤ 9999) := by
  first
    | omega
  
def o_Sy_compileSum_at_k10_1 : or_T := (79, 9, [(0, (2, 0, 0, [11]))], [(20, [3], [50, 2, 0, 6, 8, 3, 7, 7, 3, 2, 0, 6, 0, 3, 0, 3, 2, 0, 8, 0, 9999]), (24, [0, 3], [])], [], [], [(20, [0], [50, 2, 0, 6, 8, 3, 7, 7, 3, 2, 0, 6, 0, 3, 0, 3, 2, 0, 8, 0, 9999])], [], [])
theorem oo_Sy_compileSum_at_k10_1 {kA : Nat → ClassId} : or_ok PRD kA GG o_Sy_compileSum_at_k10_1 := by
  refine or_mk fun A ta ws vs hD hth hl => ?_
  intro t0 r0 f0 f1
  replace f0 := shm_1840 f0
  replace f1 := shm_5 f1
  have q3 : n_v vs 3 = n_v vs 0 := f1.symm
  simp only [q3] at f0
  have kz_0_6 := fdq_313 hD hth r0
  have kz_0_8 := fdq_314 hD hth r0
  have nf0 : fc_1 PRD (20, [0], [50, 2, 0, 6, 8, 3, 7, 7, 3, 2, 0, 6, 0, 3, 0, 3, 2, 0, 8, 0, 9999]) ws (vs) := ⟨nf_in hl rfl, sgq_1840 (vc_Sy_compileSum_at_k10_1_0 (w_fi ws (n_v vs 0) 6) (w_fi ws (n_v vs 0) 8) f0 kz_0_6 kz_0_8)⟩
  refine ⟨(fun _ h => (by cases h)), [], trivial, ?_, (fun _ h => (by cases h))⟩
  rw [List.append_nil]
  exact List.forall_mem_cons.mpr ⟨⟨show (20 : Nat) < 100 from by decide, nf0⟩, (fun _ h => (by cases h))⟩
set_option maxHeartbeats 4000000 in
theorem vc_Sy_compileSum_at_k10_2_0 (x11 : Int) (x13 : Int) (k11 : 2 ≤ x11 ∧ x11 ≤ 2) (k13 : 0 ≤ x13 ∧ x13 ≤ 0) : (0 ≤ x11) ∧ ((0 ≤ x13) ∧ (((x11 * 65536) + x13) ≤ 851970)) := by
  first
    | omega
  
def o_Sy_compileSum_at_k10_2 : or_T := (69, 14, [(11, (0, 2, 2, [])), (13, (0, 0, 0, []))], [], [], [], [(20, [11, 13], [50, 0, 0, 2, 6, 0, 2, 0, 0, 1, 0, 2, 6, 0, 2, 0, 0, 1, 1, 0, 10, 4, 6, 6, 2, 1, 0, 0, 65536, 1, 1, 0, 851970])], [], [])
theorem oo_Sy_compileSum_at_k10_2 {kA : Nat → ClassId} : or_ok PRD kA GG o_Sy_compileSum_at_k10_2 := by
  refine or_mk fun A ta ws vs hD hth hl => ?_
  intro t11 k11 t13 k13
  have nf0 : fc_1 PRD (20, [11, 13], [50, 0, 0, 2, 6, 0, 2, 0, 0, 1, 0, 2, 6, 0, 2, 0, 0, 1, 1, 0, 10, 4, 6, 6, 2, 1, 0, 0, 65536, 1, 1, 0, 851970]) ws (vs) := ⟨nf_in hl rfl, sgq_493 (vc_Sy_compileSum_at_k10_2_0 (v_iv (n_v vs 11)) (v_iv (n_v vs 13)) k11 k13)⟩
  refine ⟨(fun _ h => (by cases h)), [], trivial, ?_, (fun _ h => (by cases h))⟩
  rw [List.append_nil]
  exact List.forall_mem_cons.mpr ⟨⟨show (20 : Nat) < 100 from by decide, nf0⟩, (fun _ h => (by cases h))⟩
set_option maxHeartbeats 4000000 in
theorem vc_Sy_compileSum_at_k10_3_0 (kind_0 : Int) (number_0 : Int) (f1 : (kind_0 ≠ 3) ∨ (number_0 ≤ 9999)) (kz_0_6 : 0 ≤ kind_0 ∧ kind_0 ≤ 127) (kz_0_8 : 0 ≤ number_0 ∧ number_0 ≤ 1000000) : (kind_0 ≠ 3) ∨ (number_0 ≤ 9999) := by
  first
    | omega
  
def o_Sy_compileSum_at_k10_3 : or_T := (65, 14, [(0, (2, 0, 0, [11]))], [(24, [0, 3], []), (20, [3], [50, 2, 0, 6, 8, 3, 7, 7, 3, 2, 0, 6, 0, 3, 0, 3, 2, 0, 8, 0, 9999])], [], [], [(20, [0], [50, 2, 0, 6, 8, 3, 7, 7, 3, 2, 0, 6, 0, 3, 0, 3, 2, 0, 8, 0, 9999])], [], [])
theorem oo_Sy_compileSum_at_k10_3 {kA : Nat → ClassId} : or_ok PRD kA GG o_Sy_compileSum_at_k10_3 := by
  refine or_mk fun A ta ws vs hD hth hl => ?_
  intro t0 r0 f0 f1
  replace f0 := shm_5 f0
  replace f1 := shm_1840 f1
  have q3 : n_v vs 3 = n_v vs 0 := f0.symm
  simp only [q3] at f1
  have kz_0_6 := fdq_313 hD hth r0
  have kz_0_8 := fdq_314 hD hth r0
  have nf0 : fc_1 PRD (20, [0], [50, 2, 0, 6, 8, 3, 7, 7, 3, 2, 0, 6, 0, 3, 0, 3, 2, 0, 8, 0, 9999]) ws (vs) := ⟨nf_in hl rfl, sgq_1840 (vc_Sy_compileSum_at_k10_3_0 (w_fi ws (n_v vs 0) 6) (w_fi ws (n_v vs 0) 8) f1 kz_0_6 kz_0_8)⟩
  refine ⟨(fun _ h => (by cases h)), [], trivial, ?_, (fun _ h => (by cases h))⟩
  rw [List.append_nil]
  exact List.forall_mem_cons.mpr ⟨⟨show (20 : Nat) < 100 from by decide, nf0⟩, (fun _ h => (by cases h))⟩
set_option maxHeartbeats 4000000 in
theorem vc_Sy_compileSum_at_k10_4_0 (kind_0 : Int) (number_0 : Int) (f3 : (kind_0 ≠ 3) ∨ (number_0 ≤ 9999)) (kz_0_6 : 0 ≤ kind_0 ∧ kind_0 ≤ 127) (kz_0_8 : 0 ≤ number_0 ∧ number_0 ≤ 1000000) : (kind_0 ≠ 3) ∨ (number_0 ≤ 9999) := by
  first
    | omega
  
def o_Sy_compileSum_at_k10_4 : or_T := (79, 12, [(0, (2, 0, 0, [11]))], [(20, [3], [50, 2, 0, 6, 8, 3, 7, 7, 3, 2, 0, 6, 0, 3, 0, 3, 2, 0, 8, 0, 9999]), (24, [0, 3], [])], [], [], [(20, [0], [50, 2, 0, 6, 8, 3, 7, 7, 3, 2, 0, 6, 0, 3, 0, 3, 2, 0, 8, 0, 9999])], [], [])
theorem oo_Sy_compileSum_at_k10_4 {kA : Nat → ClassId} : or_ok PRD kA GG o_Sy_compileSum_at_k10_4 := by
  refine or_mk fun A ta ws vs hD hth hl => ?_
  intro t0 r0 f3 f4
  replace f3 := shm_1840 f3
  replace f4 := shm_5 f4
  have q3 : n_v vs 3 = n_v vs 0 := f4.symm
  simp only [q3] at f3
  have kz_0_6 := fdq_313 hD hth r0
  have kz_0_8 := fdq_314 hD hth r0
  have nf0 : fc_1 PRD (20, [0], [50, 2, 0, 6, 8, 3, 7, 7, 3, 2, 0, 6, 0, 3, 0, 3, 2, 0, 8, 0, 9999]) ws (vs) := ⟨nf_in hl rfl, sgq_1840 (vc_Sy_compileSum_at_k10_4_0 (w_fi ws (n_v vs 0) 6) (w_fi ws (n_v vs 0) 8) f3 kz_0_6 kz_0_8)⟩
  refine ⟨(fun _ h => (by cases h)), [], trivial, ?_, (fun _ h => (by cases h))⟩
  rw [List.append_nil]
  exact List.forall_mem_cons.mpr ⟨⟨show (20 : Nat) < 100 from by decide, nf0⟩, (fun _ h => (by cases h))⟩
set_option maxHeartbeats 4000000 in
theorem vc_Sy_compileSum_at_k10_5_0 (x12 : Int) (x14 : Int) (k12 : 3 ≤ x12 ∧ x12 ≤ 3) (k14 : 0 ≤ x14 ∧ x14 ≤ 0) : (0 ≤ x12) ∧ ((0 ≤ x14) ∧ (((x12 * 65536) + x14) ≤ 851970)) := by
  first
    | omega
  
def o_Sy_compileSum_at_k10_5 : or_T := (69, 15, [(12, (0, 3, 3, [])), (14, (0, 0, 0, []))], [], [], [], [(20, [12, 14], [50, 0, 0, 2, 6, 0, 2, 0, 0, 1, 0, 2, 6, 0, 2, 0, 0, 1, 1, 0, 10, 4, 6, 6, 2, 1, 0, 0, 65536, 1, 1, 0, 851970])], [], [])
theorem oo_Sy_compileSum_at_k10_5 {kA : Nat → ClassId} : or_ok PRD kA GG o_Sy_compileSum_at_k10_5 := by
  refine or_mk fun A ta ws vs hD hth hl => ?_
  intro t12 k12 t14 k14
  have nf0 : fc_1 PRD (20, [12, 14], [50, 0, 0, 2, 6, 0, 2, 0, 0, 1, 0, 2, 6, 0, 2, 0, 0, 1, 1, 0, 10, 4, 6, 6, 2, 1, 0, 0, 65536, 1, 1, 0, 851970]) ws (vs) := ⟨nf_in hl rfl, sgq_493 (vc_Sy_compileSum_at_k10_5_0 (v_iv (n_v vs 12)) (v_iv (n_v vs 14)) k12 k14)⟩
  refine ⟨(fun _ h => (by cases h)), [], trivial, ?_, (fun _ h => (by cases h))⟩
  rw [List.append_nil]
  exact List.forall_mem_cons.mpr ⟨⟨show (20 : Nat) < 100 from by decide, nf0⟩, (fun _ h => (by cases h))⟩
set_option maxHeartbeats 4000000 in
theorem vc_Sy_compileSum_at_k10_6_0 (kind_0 : Int) (number_0 : Int) (f1 : (kind_0 ≠ 3) ∨ (number_0 ≤ 9999)) (kz_0_6 : 0 ≤ kind_0 ∧ kind_0 ≤ 127) (kz_0_8 : 0 ≤ number_0 ∧ number_0 ≤ 1000000) : (kind_0 ≠ 3) ∨ (number_0 ≤ 9999) := by
  first
    | omega
  
def o_Sy_compileSum_at_k10_6 : or_T := (65, 15, [(0, (2, 0, 0, [11]))], [(24, [0, 3], []), (20, [3], [50, 2, 0, 6, 8, 3, 7, 7, 3, 2, 0, 6, 0, 3, 0, 3, 2, 0, 8, 0, 9999])], [], [], [(20, [0], [50, 2, 0, 6, 8, 3, 7, 7, 3, 2, 0, 6, 0, 3, 0, 3, 2, 0, 8, 0, 9999])], [], [])
theorem oo_Sy_compileSum_at_k10_6 {kA : Nat → ClassId} : or_ok PRD kA GG o_Sy_compileSum_at_k10_6 := by
  refine or_mk fun A ta ws vs hD hth hl => ?_
  intro t0 r0 f0 f1
  replace f0 := shm_5 f0
  replace f1 := shm_1840 f1
  have q3 : n_v vs 3 = n_v vs 0 := f0.symm
  simp only [q3] at f1
  have kz_0_6 := fdq_313 hD hth r0
  have kz_0_8 := fdq_314 hD hth r0
  have nf0 : fc_1 PRD (20, [0], [50, 2, 0, 6, 8, 3, 7, 7, 3, 2, 0, 6, 0, 3, 0, 3, 2, 0, 8, 0, 9999]) ws (vs) := ⟨nf_in hl rfl, sgq_1840 (vc_Sy_compileSum_at_k10_6_0 (w_fi ws (n_v vs 0) 6) (w_fi ws (n_v vs 0) 8) f1 kz_0_6 kz_0_8)⟩
  refine ⟨(fun _ h => (by cases h)), [], trivial, ?_, (fun _ h => (by cases h))⟩
  rw [List.append_nil]
  exact List.forall_mem_cons.mpr ⟨⟨show (20 : Nat) < 100 from by decide, nf0⟩, (fun _ h => (by cases h))⟩
def n_Sy_compileSum_at_k10_an : List an_T := [(12, [(0, (2, 0, 0, [11])), (1, (0, 10, 10, [])), (2, (0, 0, 2000, []))], [], (0, 0), [(0, 0, 99988), (1, 5, 2000), (0, 0, 100000)], [], [((0, 3), (2, 0, 0, [109]))], [(2, 0, 0, [11]), (0, 10, 10, []), (2, 0, 0, [109])], 0, [], [(20, [3], [50, 2, 0, 6, 8, 3, 7, 7, 3, 2, 0, 6, 0, 3, 0, 3, 2, 0, 8, 0, 9999]), (24, [0, 3], [])])]
def t_Sy_compileSum_at_k10_ct : ct_L := [(1, 69, e_Sy_advance), (1, 128, e_Sy_emit), (10, 155, e_Sy_compileProduct_at_k10), (178, 155, e_Sy_compileProduct_at_k10)]
set_option maxRecDepth 100000 in
theorem c_Sy_compileSum_at_k10 {l : Launch} {D : va_G} {kA : Nat → ClassId} (h_Sy_advance : ct_ok PRD l D kA GG y_Sy_advance z_Sy_advance e_Sy_advance) (h_Sy_compileProduct_at_k10 : ct_ok PRD l D kA GG y_Sy_compileProduct_at_k10 z_Sy_compileProduct_at_k10 e_Sy_compileProduct_at_k10) (h_Sy_emit : ct_ok PRD l D kA GG y_Sy_emit z_Sy_emit e_Sy_emit) : ct_ok PRD l D kA GG y_Sy_compileSum_at_k10 z_Sy_compileSum_at_k10 e_Sy_compileSum_at_k10 := chk_all_ok (FT := [(31, 11, 6)]) (PT := []) (CT := t_Sy_compileSum_at_k10_ct) (KT := []) (NT := []) (AN := n_Sy_compileSum_at_k10_an) (OT := [o_Sy_compileSum_at_k10_0, o_Sy_compileSum_at_k10_1, o_Sy_compileSum_at_k10_2, o_Sy_compileSum_at_k10_3, o_Sy_compileSum_at_k10_4, o_Sy_compileSum_at_k10_5, o_Sy_compileSum_at_k10_6]) 3 256 (List.forall_mem_cons.mpr ⟨oo_Sy_compileSum_at_k10_0, List.forall_mem_cons.mpr ⟨oo_Sy_compileSum_at_k10_1, List.forall_mem_cons.mpr ⟨oo_Sy_compileSum_at_k10_2, List.forall_mem_cons.mpr ⟨oo_Sy_compileSum_at_k10_3, List.forall_mem_cons.mpr ⟨oo_Sy_compileSum_at_k10_4, List.forall_mem_cons.mpr ⟨oo_Sy_compileSum_at_k10_5, List.forall_mem_cons.mpr ⟨oo_Sy_compileSum_at_k10_6, List.forall_mem_nil _⟩⟩⟩⟩⟩⟩⟩) (by decide +kernel) ⟨List.forall_mem_cons.mpr ⟨gf_Sy_31, List.forall_mem_nil _⟩, List.forall_mem_nil _, List.forall_mem_cons.mpr ⟨cl_virtual (y := y_Sy_advance) (ci := 11) rfl rfl ⟨_, _, rfl⟩ (by decide +kernel) h_Sy_advance wm_2158 wm_23 wm_2155 wm_2157 wv_10_10 ⟨by decide, by decide, by decide +kernel⟩ (by decide), List.forall_mem_cons.mpr ⟨cl_virtual (y := y_Sy_emit) (ci := 11) rfl rfl ⟨_, _, rfl⟩ (by decide +kernel) h_Sy_emit wm_2258 wm_23 wm_2255 wm_2257 wv_11_2 ⟨by decide, by decide, by decide +kernel⟩ (by decide), List.forall_mem_cons.mpr ⟨cl_virtual (y := y_Sy_compileProduct_at_k10) (ci := 11) rfl rfl ⟨_, _, rfl⟩ (by decide +kernel) h_Sy_compileProduct_at_k10 wm_2270 wm_23 wm_2267 wm_2269 wv_11_5 ⟨by decide, by decide, by decide +kernel⟩ (by decide), List.forall_mem_cons.mpr ⟨cl_virtual (y := y_Sy_compileProduct_at_k10) (ci := 11) rfl rfl ⟨_, _, rfl⟩ (by decide +kernel) h_Sy_compileProduct_at_k10 wm_2270 wm_23 wm_2267 wm_2269 wv_11_5 ⟨by decide, by decide, by decide +kernel⟩ (by decide), List.forall_mem_nil _⟩⟩⟩⟩, List.forall_mem_nil _, List.forall_mem_nil _, GG_pl⟩ (by decide +kernel)

def o_Sy_compileSum_at_k11_0 : or_T := (12, 5, [], [], [], [], [(24, [0, 0], [])], [], [])
theorem oo_Sy_compileSum_at_k11_0 {kA : Nat → ClassId} : or_ok PRD kA GG o_Sy_compileSum_at_k11_0 := by
  refine or_mk fun A ta ws vs hD hth hl => ?_
  have nf0 : fc_1 PRD (24, [0, 0], []) ws (vs) := by
    refine ⟨nf_in hl rfl, sgq_1 ?_⟩
    · show n_v vs 0 = n_v vs 0
      first | rfl | simp only [true_and]
  refine ⟨(fun _ h => (by cases h)), [], trivial, ?_, (fun _ h => (by cases h))⟩
  rw [List.append_nil]
  exact List.forall_mem_cons.mpr ⟨⟨show (24 : Nat) < 100 from by decide, nf0⟩, (fun _ h => (by cases h))⟩
set_option maxHeartbeats 4000000 in
theorem vc_Sy_compileSum_at_k11_1_0 (kind_0 : Int) (number_0 : Int) (f0 : (kind_0 ≠ 3) ∨ (number_0 ≤ 9999)) (kz_0_6 : 0 ≤ kind_0 ∧ kind_0 ≤ 127) (kz_0_8 : 0 ≤ number_0 ∧ number_0 ≤ 1000000) : (kind_0 ≠ 3) ∨ (number_0 ≤ 9999) := by
  first
    | omega
  
def o_Sy_compileSum_at_k11_1 : or_T := (79, 9, [(0, (2, 0, 0, [11]))], [(20, [3], [50, 2, 0, 6, 8, 3, 7, 7, 3, 2, 0, 6, 0, 3, 0, 3, 2, 0, 8, 0, 9999]), (24, [0, 3], [])], [], [], [(20, [0], [50, 2, 0, 6, 8, 3, 7, 7, 3, 2, 0, 6, 0, 3, 0, 3, 2, 0, 8, 0, 9999])], [], [])
theorem oo_Sy_compileSum_at_k11_1 {kA : Nat → ClassId} : or_ok PRD kA GG o_Sy_compileSum_at_k11_1 := by
  refine or_mk fun A ta ws vs hD hth hl => ?_
  intro t0 r0 f0 f1
  replace f0 := shm_1840 f0
  replace f1 := shm_5 f1
  have q3 : n_v vs 3 = n_v vs 0 := f1.symm
  simp only [q3] at f0
  have kz_0_6 := fdq_313 hD hth r0
  have kz_0_8 := fdq_314 hD hth r0
  have nf0 : fc_1 PRD (20, [0], [50, 2, 0, 6, 8, 3, 7, 7, 3, 2, 0, 6, 0, 3, 0, 3, 2, 0, 8, 0, 9999]) ws (vs) := ⟨nf_in hl rfl, sgq_1840 (vc_Sy_compileSum_at_k11_1_0 (w_fi ws (n_v vs 0) 6) (w_fi ws (n_v vs 0) 8) f0 kz_0_6 kz_0_8)⟩
  refine ⟨(fun _ h => (by cases h)), [], trivial, ?_, (fun _ h => (by cases h))⟩
  rw [List.append_nil]
  exact List.forall_mem_cons.mpr ⟨⟨show (20 : Nat) < 100 from by decide, nf0⟩, (fun _ h => (by cases h))⟩
set_option maxHeartbeats 4000000 in
theorem vc_Sy_compileSum_at_k11_2_0 (x11 : Int) (x13 : Int) (k11 : 2 ≤ x11 ∧ x11 ≤ 2) (k13 : 0 ≤ x13 ∧ x13 ≤ 0) : (0 ≤ x11) ∧ ((0 ≤ x13) ∧ (((x11 * 65536) + x13) ≤ 851970)) := by
  first
    | omega
  
def o_Sy_compileSum_at_k11_2 : or_T := (69, 14, [(11, (0, 2, 2, [])), (13, (0, 0, 0, []))], [], [], [], [(20, [11, 13], [50, 0, 0, 2, 6, 0, 2, 0, 0, 1, 0, 2, 6, 0, 2, 0, 0, 1, 1, 0, 10, 4, 6, 6, 2, 1, 0, 0, 65536, 1, 1, 0, 851970])], [], [])
theorem oo_Sy_compileSum_at_k11_2 {kA : Nat → ClassId} : or_ok PRD kA GG o_Sy_compileSum_at_k11_2 := by
  refine or_mk fun A ta ws vs hD hth hl => ?_
  intro t11 k11 t13 k13
  have nf0 : fc_1 PRD (20, [11, 13], [50, 0, 0, 2, 6, 0, 2, 0, 0, 1, 0, 2, 6, 0, 2, 0, 0, 1, 1, 0, 10, 4, 6, 6, 2, 1, 0, 0, 65536, 1, 1, 0, 851970]) ws (vs) := ⟨nf_in hl rfl, sgq_493 (vc_Sy_compileSum_at_k11_2_0 (v_iv (n_v vs 11)) (v_iv (n_v vs 13)) k11 k13)⟩
  refine ⟨(fun _ h => (by cases h)), [], trivial, ?_, (fun _ h => (by cases h))⟩
  rw [List.append_nil]
  exact List.forall_mem_cons.mpr ⟨⟨show (20 : Nat) < 100 from by decide, nf0⟩, (fun _ h => (by cases h))⟩
set_option maxHeartbeats 4000000 in
theorem vc_Sy_compileSum_at_k11_3_0 (kind_0 : Int) (number_0 : Int) (f1 : (kind_0 ≠ 3) ∨ (number_0 ≤ 9999)) (kz_0_6 : 0 ≤ kind_0 ∧ kind_0 ≤ 127) (kz_0_8 : 0 ≤ number_0 ∧ number_0 ≤ 1000000) : (kind_0 ≠ 3) ∨ (number_0 ≤ 9999) := by
  first
    | omega
  
def o_Sy_compileSum_at_k11_3 : or_T := (65, 14, [(0, (2, 0, 0, [11]))], [(24, [0, 3], []), (20, [3], [50, 2, 0, 6, 8, 3, 7, 7, 3, 2, 0, 6, 0, 3, 0, 3, 2, 0, 8, 0, 9999])], [], [], [(20, [0], [50, 2, 0, 6, 8, 3, 7, 7, 3, 2, 0, 6, 0, 3, 0, 3, 2, 0, 8, 0, 9999])], [], [])
theorem oo_Sy_compileSum_at_k11_3 {kA : Nat → ClassId} : or_ok PRD kA GG o_Sy_compileSum_at_k11_3 := by
  refine or_mk fun A ta ws vs hD hth hl => ?_
  intro t0 r0 f0 f1
  replace f0 := shm_5 f0
  replace f1 := shm_1840 f1
  have q3 : n_v vs 3 = n_v vs 0 := f0.symm
  simp only [q3] at f1
  have kz_0_6 := fdq_313 hD hth r0
  have kz_0_8 := fdq_314 hD hth r0
  have nf0 : fc_1 PRD (20, [0], [50, 2, 0, 6, 8, 3, 7, 7, 3, 2, 0, 6, 0, 3, 0, 3, 2, 0, 8, 0, 9999]) ws (vs) := ⟨nf_in hl rfl, sgq_1840 (vc_Sy_compileSum_at_k11_3_0 (w_fi ws (n_v vs 0) 6) (w_fi ws (n_v vs 0) 8) f1 kz_0_6 kz_0_8)⟩
  refine ⟨(fun _ h => (by cases h)), [], trivial, ?_, (fun _ h => (by cases h))⟩
  rw [List.append_nil]
  exact List.forall_mem_cons.mpr ⟨⟨show (20 : Nat) < 100 from by decide, nf0⟩, (fun _ h => (by cases h))⟩
set_option maxHeartbeats 4000000 in
theorem vc_Sy_compileSum_at_k11_4_0 (kind_0 : Int) (number_0 : Int) (f3 : (kind_0 ≠ 3) ∨ (number_0 ≤ 9999)) (kz_0_6 : 0 ≤ kind_0 ∧ kind_0 ≤ 127) (kz_0_8 : 0 ≤ number_0 ∧ number_0 ≤ 1000000) : (kind_0 ≠ 3) ∨ (number_0 ≤ 9999) := by
  first
    | omega
  
def o_Sy_compileSum_at_k11_4 : or_T := (79, 12, [(0, (2, 0, 0, [11]))], [(20, [3], [50, 2, 0, 6, 8, 3, 7, 7, 3, 2, 0, 6, 0, 3, 0, 3, 2, 0, 8, 0, 9999]), (24, [0, 3], [])], [], [], [(20, [0], [50, 2, 0, 6, 8, 3, 7, 7, 3, 2, 0, 6, 0, 3, 0, 3, 2, 0, 8, 0, 9999])], [], [])
theorem oo_Sy_compileSum_at_k11_4 {kA : Nat → ClassId} : or_ok PRD kA GG o_Sy_compileSum_at_k11_4 := by
  refine or_mk fun A ta ws vs hD hth hl => ?_
  intro t0 r0 f3 f4
  replace f3 := shm_1840 f3
  replace f4 := shm_5 f4
  have q3 : n_v vs 3 = n_v vs 0 := f4.symm
  simp only [q3] at f3
  have kz_0_6 := fdq_313 hD hth r0
  have kz_0_8 := fdq_314 hD hth r0
  have nf0 : fc_1 PRD (20, [0], [50, 2, 0, 6, 8, 3, 7, 7, 3, 2, 0, 6, 0, 3, 0, 3, 2, 0, 8, 0, 9999]) ws (vs) := ⟨nf_in hl rfl, sgq_1840 (vc_Sy_compileSum_at_k11_4_0 (w_fi ws (n_v vs 0) 6) (w_fi ws (n_v vs 0) 8) f3 kz_0_6 kz_0_8)⟩
  refine ⟨(fun _ h => (by cases h)), [], trivial, ?_, (fun _ h => (by cases h))⟩
  rw [List.append_nil]
  exact List.forall_mem_cons.mpr ⟨⟨show (20 : Nat) < 100 from by decide, nf0⟩, (fun _ h => (by cases h))⟩
set_option maxHeartbeats 4000000 in
theorem vc_Sy_compileSum_at_k11_5_0 (x12 : Int) (x14 : Int) (k12 : 3 ≤ x12 ∧ x12 ≤ 3) (k14 : 0 ≤ x14 ∧ x14 ≤ 0) : (0 ≤ x12) ∧ ((0 ≤ x14) ∧ (((x12 * 65536) + x14) ≤ 851970)) := by
  first
    | omega
  
def o_Sy_compileSum_at_k11_5 : or_T := (69, 15, [(12, (0, 3, 3, [])), (14, (0, 0, 0, []))], [], [], [], [(20, [12, 14], [50, 0, 0, 2, 6, 0, 2, 0, 0, 1, 0, 2, 6, 0, 2, 0, 0, 1, 1, 0, 10, 4, 6, 6, 2, 1, 0, 0, 65536, 1, 1, 0, 851970])], [], [])
theorem oo_Sy_compileSum_at_k11_5 {kA : Nat → ClassId} : or_ok PRD kA GG o_Sy_compileSum_at_k11_5 := by
  refine or_mk fun A ta ws vs hD hth hl => ?_
  intro t12 k12 t14 k14
  have nf0 : fc_1 PRD (20, [12, 14], [50, 0, 0, 2, 6, 0, 2, 0, 0, 1, 0, 2, 6, 0, 2, 0, 0, 1, 1, 0, 10, 4, 6, 6, 2, 1, 0, 0, 65536, 1, 1, 0, 851970]) ws (vs) := ⟨nf_in hl rfl, sgq_493 (vc_Sy_compileSum_at_k11_5_0 (v_iv (n_v vs 12)) (v_iv (n_v vs 14)) k12 k14)⟩
  refine ⟨(fun _ h => (by cases h)), [], trivial, ?_, (fun _ h => (by cases h))⟩
  rw [List.append_nil]
  exact List.forall_mem_cons.mpr ⟨⟨show (20 : Nat) < 100 from by decide, nf0⟩, (fun _ h => (by cases h))⟩
set_option maxHeartbeats 4000000 in
theorem vc_Sy_compileSum_at_k11_6_0 (kind_0 : Int) (number_0 : Int) (f1 : (kind_0 ≠ 3) ∨ (number_0 ≤ 9999)) (kz_0_6 : 0 ≤ kind_0 ∧ kind_0 ≤ 127) (kz_0_8 : 0 ≤ number_0 ∧ number_0 ≤ 1000000) : (kind_0 ≠ 3) ∨ (number_0 ≤ 9999) := by
  first
    | omega
  
def o_Sy_compileSum_at_k11_6 : or_T := (65, 15, [(0, (2, 0, 0, [11]))], [(24, [0, 3], []), (20, [3], [50, 2, 0, 6, 8, 3, 7, 7, 3, 2, 0, 6, 0, 3, 0, 3, 2, 0, 8, 0, 9999])], [], [], [(20, [0], [50, 2, 0, 6, 8, 3, 7, 7, 3, 2, 0, 6, 0, 3, 0, 3, 2, 0, 8, 0, 9999])], [], [])
theorem oo_Sy_compileSum_at_k11_6 {kA : Nat → ClassId} : or_ok PRD kA GG o_Sy_compileSum_at_k11_6 := by
  refine or_mk fun A ta ws vs hD hth hl => ?_
  intro t0 r0 f0 f1
  replace f0 := shm_5 f0
  replace f1 := shm_1840 f1
  have q3 : n_v vs 3 = n_v vs 0 := f0.symm
  simp only [q3] at f1
  have kz_0_6 := fdq_313 hD hth r0
  have kz_0_8 := fdq_314 hD hth r0
  have nf0 : fc_1 PRD (20, [0], [50, 2, 0, 6, 8, 3, 7, 7, 3, 2, 0, 6, 0, 3, 0, 3, 2, 0, 8, 0, 9999]) ws (vs) := ⟨nf_in hl rfl, sgq_1840 (vc_Sy_compileSum_at_k11_6_0 (w_fi ws (n_v vs 0) 6) (w_fi ws (n_v vs 0) 8) f1 kz_0_6 kz_0_8)⟩
  refine ⟨(fun _ h => (by cases h)), [], trivial, ?_, (fun _ h => (by cases h))⟩
  rw [List.append_nil]
  exact List.forall_mem_cons.mpr ⟨⟨show (20 : Nat) < 100 from by decide, nf0⟩, (fun _ h => (by cases h))⟩
def n_Sy_compileSum_at_k11_an : List an_T := [(12, [(0, (2, 0, 0, [11])), (1, (0, 11, 11, [])), (2, (0, 0, 2000, []))], [], (0, 0), [(0, 0, 99988), (1, 5, 2000), (0, 0, 100000)], [], [((0, 3), (2, 0, 0, [109]))], [(2, 0, 0, [11]), (0, 11, 11, []), (2, 0, 0, [109])], 0, [], [(20, [3], [50, 2, 0, 6, 8, 3, 7, 7, 3, 2, 0, 6, 0, 3, 0, 3, 2, 0, 8, 0, 9999]), (24, [0, 3], [])])]
def t_Sy_compileSum_at_k11_ct : ct_L := [(1, 69, e_Sy_advance), (1, 128, e_Sy_emit), (10, 155, e_Sy_compileProduct_at_k11), (178, 155, e_Sy_compileProduct_at_k11)]
set_option maxRecDepth 100000 in
theorem c_Sy_compileSum_at_k11 {l : Launch} {D : va_G} {kA : Nat → ClassId} (h_Sy_advance : ct_ok PRD l D kA GG y_Sy_advance z_Sy_advance e_Sy_advance) (h_Sy_compileProduct_at_k11 : ct_ok PRD l D kA GG y_Sy_compileProduct_at_k11 z_Sy_compileProduct_at_k11 e_Sy_compileProduct_at_k11) (h_Sy_emit : ct_ok PRD l D kA GG y_Sy_emit z_Sy_emit e_Sy_emit) : ct_ok PRD l D kA GG y_Sy_compileSum_at_k11 z_Sy_compileSum_at_k11 e_Sy_compileSum_at_k11 := chk_all_ok (FT := [(31, 11, 6)]) (PT := []) (CT := t_Sy_compileSum_at_k11_ct) (KT := []) (NT := []) (AN := n_Sy_compileSum_at_k11_an) (OT := [o_Sy_compileSum_at_k11_0, o_Sy_compileSum_at_k11_1, o_Sy_compileSum_at_k11_2, o_Sy_compileSum_at_k11_3, o_Sy_compileSum_at_k11_4, o_Sy_compileSum_at_k11_5, o_Sy_compileSum_at_k11_6]) 3 256 (List.forall_mem_cons.mpr ⟨oo_Sy_compileSum_at_k11_0, List.forall_mem_cons.mpr ⟨oo_Sy_compileSum_at_k11_1, List.forall_mem_cons.mpr ⟨oo_Sy_compileSum_at_k11_2, List.forall_mem_cons.mpr ⟨oo_Sy_compileSum_at_k11_3, List.forall_mem_cons.mpr ⟨oo_Sy_compileSum_at_k11_4, List.forall_mem_cons.mpr ⟨oo_Sy_compileSum_at_k11_5, List.forall_mem_cons.mpr ⟨oo_Sy_compileSum_at_k11_6, List.forall_mem_nil _⟩⟩⟩⟩⟩⟩⟩) (by decide +kernel) ⟨List.forall_mem_cons.mpr ⟨gf_Sy_31, List.forall_mem_nil _⟩, List.forall_mem_nil _, List.forall_mem_cons.mpr ⟨cl_virtual (y := y_Sy_advance) (ci := 11) rfl rfl ⟨_, _, rfl⟩ (by decide +kernel) h_Sy_advance wm_2158 wm_23 wm_2155 wm_2157 wv_10_10 ⟨by decide, by decide, by decide +kernel⟩ (by decide), List.forall_mem_cons.mpr ⟨cl_virtual (y := y_Sy_emit) (ci := 11) rfl rfl ⟨_, _, rfl⟩ (by decide +kernel) h_Sy_emit wm_2258 wm_23 wm_2255 wm_2257 wv_11_2 ⟨by decide, by decide, by decide +kernel⟩ (by decide), List.forall_mem_cons.mpr ⟨cl_virtual (y := y_Sy_compileProduct_at_k11) (ci := 11) rfl rfl ⟨_, _, rfl⟩ (by decide +kernel) h_Sy_compileProduct_at_k11 wm_2270 wm_23 wm_2267 wm_2269 wv_11_5 ⟨by decide, by decide, by decide +kernel⟩ (by decide), List.forall_mem_cons.mpr ⟨cl_virtual (y := y_Sy_compileProduct_at_k11) (ci := 11) rfl rfl ⟨_, _, rfl⟩ (by decide +kernel) h_Sy_compileProduct_at_k11 wm_2270 wm_23 wm_2267 wm_2269 wv_11_5 ⟨by decide, by decide, by decide +kernel⟩ (by decide), List.forall_mem_nil _⟩⟩⟩⟩, List.forall_mem_nil _, List.forall_mem_nil _, GG_pl⟩ (by decide +kernel)
def o_Sy_compileSum_at_k12_0 : or_T := (12, 5, [], [], [], [], [(24, [0, 0], [])], [], [])
theorem oo_Sy_compileSum_at_k12_0 {kA : Nat → ClassId} : or_ok PRD kA GG o_Sy_compileSum_at_k12_0 := by
  refine or_mk fun A ta ws vs hD hth hl => ?_
  have nf0 : fc_1 PRD (24, [0, 0], []) ws (vs) := by
    refine ⟨nf_in hl rfl, sgq_1 ?_⟩
    · show n_v vs 0 = n_v vs 0
      first | rfl | simp only [true_and]
  refine ⟨(fun _ h => (by cases h)), [], trivial, ?_, (fun _ h => (by cases h))⟩
  rw [List.append_nil]
  exact List.forall_mem_cons.mpr ⟨⟨show (24 : Nat) < 100 from by decide, nf0⟩, (fun _ h => (by cases h))⟩
set_option maxHeartbeats 4000000 in
theorem vc_Sy_compileSum_at_k12_1_0 (kind_0 : Int) (number_0 : Int) (f0 : (kind_0 ≠ 3) ∨ (number_0 ≤ 9999)) (kz_0_6 : 0 ≤ kind_0 ∧ kind_0 ≤ 127) (kz_0_8 : 0 ≤ number_0 ∧ number_0 ≤ 1000000) : (kind_0 ≠ 3) ∨ (number_0 ≤ 9999) := by
  first
    | omega
  
def o_Sy_compileSum_at_k12_1 : or_T := (79, 9, [(0, (2, 0, 0, [11]))], [(20, [3], [50, 2, 0, 6, 8, 3, 7, 7, 3, 2, 0, 6, 0, 3, 0, 3, 2, 0, 8, 0, 9999]), (24, [0, 3], [])], [], [], [(20, [0], [50, 2, 0, 6, 8, 3, 7, 7, 3, 2, 0, 6, 0, 3, 0, 3, 2, 0, 8, 0, 9999])], [], [])
theorem oo_Sy_compileSum_at_k12_1 {kA : Nat → ClassId} : or_ok PRD kA GG o_Sy_compileSum_at_k12_1 := by
  refine or_mk fun A ta ws vs hD hth hl => ?_
  intro t0 r0 f0 f1
  replace f0 := shm_1840 f0
  replace f1 := shm_5 f1
  have q3 : n_v vs 3 = n_v vs 0 := f1.symm
  simp only [q3] at f0
  have kz_0_6 := fdq_313 hD hth r0
  have kz_0_8 := fdq_314 hD hth r0
  have nf0 : fc_1 PRD (20, [0], [50, 2, 0, 6, 8, 3, 7, 7, 3, 2, 0, 6, 0, 3, 0, 3, 2, 0, 8, 0, 9999]) ws (vs) := ⟨nf_in hl rfl, sgq_1840 (vc_Sy_compileSum_at_k12_1_0 (w_fi ws (n_v vs 0) 6) (w_fi ws (n_v vs 0) 8) f0 kz_0_6 kz_0_8)⟩
  refine ⟨(fun _ h => (by cases h)), [], trivial, ?_, (fun _ h => (by cases h))⟩
  rw [List.append_nil]
  exact List.forall_mem_cons.mpr ⟨⟨show (20 : Nat) < 100 from by decide, nf0⟩, (fun _ h => (by cases h))⟩
set_option maxHeartbeats 4000000 in
theorem vc_Sy_compileSum_at_k12_2_0 (x11 : Int) (x13 : Int) (k11 : 2 ≤ x11 ∧ x11 ≤ 2) (k13 : 0 ≤ x13 ∧ x13 ≤ 0) : (0 ≤ x11) ∧ ((0 ≤ x13) ∧ (((x11 * 65536) + x13) ≤ 851970)) := by
  first
    | omega
  
def o_Sy_compileSum_at_k12_2 : or_T := (69, 14, [(11, (0, 2, 2, [])), (13, (0, 0, 0, []))], [], [], [], [(20, [11, 13], [50, 0, 0, 2, 6, 0, 2, 0, 0, 1, 0, 2, 6, 0, 2, 0, 0, 1, 1, 0, 10, 4, 6, 6, 2, 1, 0, 0, 65536, 1, 1, 0, 851970])], [], [])
theorem oo_Sy_compileSum_at_k12_2 {kA : Nat → ClassId} : or_ok PRD kA GG o_Sy_compileSum_at_k12_2 := by
  refine or_mk fun A ta ws vs hD hth hl => ?_
  intro t11 k11 t13 k13
  have nf0 : fc_1 PRD (20, [11, 13], [50, 0, 0, 2, 6, 0, 2, 0, 0, 1, 0, 2, 6, 0, 2, 0, 0, 1, 1, 0, 10, 4, 6, 6, 2, 1, 0, 0, 65536, 1, 1, 0, 851970]) ws (vs) := ⟨nf_in hl rfl, sgq_493 (vc_Sy_compileSum_at_k12_2_0 (v_iv (n_v vs 11)) (v_iv (n_v vs 13)) k11 k13)⟩
  refine ⟨(fun _ h => (by cases h)), [], trivial, ?_, (fun _ h => (by cases h))⟩
  rw [List.append_nil]
  exact List.forall_mem_cons.mpr ⟨⟨show (20 : Nat) < 100 from by decide, nf0⟩, (fun _ h => (by cases h))⟩
set_option maxHeartbeats 4000000 in
theorem vc_Sy_compileSum_at_k12_3_0 (kind_0 : Int) (number_0 : Int) (f1 : (kind_0 ≠ 3) ∨ (number_0 ≤ 9999)) (kz_0_6 : 0 ≤ kind_0 ∧ kind_0 ≤ 127) (kz_0_8 : 0 ≤ number_0 ∧ number_0 ≤ 1000000) : (kind_0 ≠ 3) ∨ (number_0 ≤ 9999) := by
  first
    | omega
  
def o_Sy_compileSum_at_k12_3 : or_T := (65, 14, [(0, (2, 0, 0, [11]))], [(24, [0, 3], []), (20, [3], [50, 2, 0, 6, 8, 3, 7, 7, 3, 2, 0, 6, 0, 3, 0, 3, 2, 0, 8, 0, 9999])], [], [], [(20, [0], [50, 2, 0, 6, 8, 3, 7, 7, 3, 2, 0, 6, 0, 3, 0, 3, 2, 0, 8, 0, 9999])], [], [])
theorem oo_Sy_compileSum_at_k12_3 {kA : Nat → ClassId} : or_ok PRD kA GG o_Sy_compileSum_at_k12_3 := by
  refine or_mk fun A ta ws vs hD hth hl => ?_
  intro t0 r0 f0 f1
  replace f0 := shm_5 f0
  replace f1 := shm_1840 f1
  have q3 : n_v vs 3 = n_v vs 0 := f0.symm
  simp only [q3] at f1
  have kz_0_6 := fdq_313 hD hth r0
  have kz_0_8 := fdq_314 hD hth r0
  have nf0 : fc_1 PRD (20, [0], [50, 2, 0, 6, 8, 3, 7, 7, 3, 2, 0, 6, 0, 3, 0, 3, 2, 0, 8, 0, 9999]) ws (vs) := ⟨nf_in hl rfl, sgq_1840 (vc_Sy_compileSum_at_k12_3_0 (w_fi ws (n_v vs 0) 6) (w_fi ws (n_v vs 0) 8) f1 kz_0_6 kz_0_8)⟩
  refine ⟨(fun _ h => (by cases h)), [], trivial, ?_, (fun _ h => (by cases h))⟩
  rw [List.append_nil]
  exact List.forall_mem_cons.mpr ⟨⟨show (20 : Nat) < 100 from by decide, nf0⟩, (fun _ h => (by cases h))⟩
set_option maxHeartbeats 4000000 in
theorem vc_Sy_compileSum_at_k12_4_0 (kind_0 : Int) (number_0 : Int) (f3 : (kind_0 ≠ 3) ∨ (number_0 ≤ 9999)) (kz_0_6 : 0 ≤ kind_0 ∧ kind_0 ≤ 127) (kz_0_8 : 0 ≤ number_0 ∧ number_0 ≤ 1000000) : (kind_0 ≠ 3) ∨ (number_0 ≤ 9999) := by
  first
    | omega
  
def o_Sy_compileSum_at_k12_4 : or_T := (79, 12, [(0, (2, 0, 0, [11]))], [(20, [3], [50, 2, 0, 6, 8, 3, 7, 7, 3, 2, 0, 6, 0, 3, 0, 3, 2, 0, 8, 0, 9999]), (24, [0, 3], [])], [], [], [(20, [0], [50, 2, 0, 6, 8, 3, 7, 7, 3, 2, 0, 6, 0, 3, 0, 3, 2, 0, 8, 0, 9999])], [], [])
theorem oo_Sy_compileSum_at_k12_4 {kA : Nat → ClassId} : or_ok PRD kA GG o_Sy_compileSum_at_k12_4 := by
  refine or_mk fun A ta ws vs hD hth hl => ?_
  intro t0 r0 f3 f4
  replace f3 := shm_1840 f3
  replace f4 := shm_5 f4
  have q3 : n_v vs 3 = n_v vs 0 := f4.symm
  simp only [q3] at f3
  have kz_0_6 := fdq_313 hD hth r0
  have kz_0_8 := fdq_314 hD hth r0
  have nf0 : fc_1 PRD (20, [0], [50, 2, 0, 6, 8, 3, 7, 7, 3, 2, 0, 6, 0, 3, 0, 3, 2, 0, 8, 0, 9999]) ws (vs) := ⟨nf_in hl rfl, sgq_1840 (vc_Sy_compileSum_at_k12_4_0 (w_fi ws (n_v vs 0) 6) (w_fi ws (n_v vs 0) 8) f3 kz_0_6 kz_0_8)⟩
  refine ⟨(fun _ h => (by cases h)), [], trivial, ?_, (fun _ h => (by cases h))⟩
  rw [List.append_nil]
  exact List.forall_mem_cons.mpr ⟨⟨show (20 : Nat) < 100 from by decide, nf0⟩, (fun _ h => (by cases h))⟩
set_option maxHeartbeats 4000000 in
theorem vc_Sy_compileSum_at_k12_5_0 (x12 : Int) (x14 : Int) (k12 : 3 ≤ x12 ∧ x12 ≤ 3) (k14 : 0 ≤ x14 ∧ x14 ≤ 0) : (0 ≤ x12) ∧ ((0 ≤ x14) ∧ (((x12 * 65536) + x14) ≤ 851970)) := by
  first
    | omega
  
def o_Sy_compileSum_at_k12_5 : or_T := (69, 15, [(12, (0, 3, 3, [])), (14, (0, 0, 0, []))], [], [], [], [(20, [12, 14], [50, 0, 0, 2, 6, 0, 2, 0, 0, 1, 0, 2, 6, 0, 2, 0, 0, 1, 1, 0, 10, 4, 6, 6, 2, 1, 0, 0, 65536, 1, 1, 0, 851970])], [], [])
theorem oo_Sy_compileSum_at_k12_5 {kA : Nat → ClassId} : or_ok PRD kA GG o_Sy_compileSum_at_k12_5 := by
  refine or_mk fun A ta ws vs hD hth hl => ?_
  intro t12 k12 t14 k14
  have nf0 : fc_1 PRD (20, [12, 14], [50, 0, 0, 2, 6, 0, 2, 0, 0, 1, 0, 2, 6, 0, 2, 0, 0, 1, 1, 0, 10, 4, 6, 6, 2, 1, 0, 0, 65536, 1, 1, 0, 851970]) ws (vs) := ⟨nf_in hl rfl, sgq_493 (vc_Sy_compileSum_at_k12_5_0 (v_iv (n_v vs 12)) (v_iv (n_v vs 14)) k12 k14)⟩
  refine ⟨(fun _ h => (by cases h)), [], trivial, ?_, (fun _ h => (by cases h))⟩
  rw [List.append_nil]
  exact List.forall_mem_cons.mpr ⟨⟨show (20 : Nat) < 100 from by decide, nf0⟩, (fun _ h => (by cases h))⟩
set_option maxHeartbeats 4000000 in
theorem vc_Sy_compileSum_at_k12_6_0 (kind_0 : Int) (number_0 : Int) (f1 : (kind_0 ≠ 3) ∨ (number_0 ≤ 9999)) (kz_0_6 : 0 ≤ kind_0 ∧ kind_0 ≤ 127) (kz_0_8 : 0 ≤ number_0 ∧ number_0 ≤ 1000000) : (kind_0 ≠ 3) ∨ (number_0 ≤ 9999) := by
  first
    | omega
  
def o_Sy_compileSum_at_k12_6 : or_T := (65, 15, [(0, (2, 0, 0, [11]))], [(24, [0, 3], []), (20, [3], [50, 2, 0, 6, 8, 3, 7, 7, 3, 2, 0, 6, 0, 3, 0, 3, 2, 0, 8, 0, 9999])], [], [], [(20, [0], [50, 2, 0, 6, 8, 3, 7, 7, 3, 2, 0, 6, 0, 3, 0, 3, 2, 0, 8, 0, 9999])], [], [])
theorem oo_Sy_compileSum_at_k12_6 {kA : Nat → ClassId} : or_ok PRD kA GG o_Sy_compileSum_at_k12_6 := by
  refine or_mk fun A ta ws vs hD hth hl => ?_
  intro t0 r0 f0 f1
  replace f0 := shm_5 f0
  replace f1 := shm_1840 f1
  have q3 : n_v vs 3 = n_v vs 0 := f0.symm
  simp only [q3] at f1
  have kz_0_6 := fdq_313 hD hth r0
  have kz_0_8 := fdq_314 hD hth r0
  have nf0 : fc_1 PRD (20, [0], [50, 2, 0, 6, 8, 3, 7, 7, 3, 2, 0, 6, 0, 3, 0, 3, 2, 0, 8, 0, 9999]) ws (vs) := ⟨nf_in hl rfl, sgq_1840 (vc_Sy_compileSum_at_k12_6_0 (w_fi ws (n_v vs 0) 6) (w_fi ws (n_v vs 0) 8) f1 kz_0_6 kz_0_8)⟩
  refine ⟨(fun _ h => (by cases h)), [], trivial, ?_, (fun _ h => (by cases h))⟩
  rw [List.append_nil]
  exact List.forall_mem_cons.mpr ⟨⟨show (20 : Nat) < 100 from by decide, nf0⟩, (fun _ h => (by cases h))⟩
def n_Sy_compileSum_at_k12_an : List an_T := [(12, [(0, (2, 0, 0, [11])), (1, (0, 12, 12, [])), (2, (0, 0, 2000, []))], [], (0, 0), [(0, 0, 99988), (1, 5, 2000), (0, 0, 100000)], [], [((0, 3), (2, 0, 0, [109]))], [(2, 0, 0, [11]), (0, 12, 12, []), (2, 0, 0, [109])], 0, [], [(20, [3], [50, 2, 0, 6, 8, 3, 7, 7, 3, 2, 0, 6, 0, 3, 0, 3, 2, 0, 8, 0, 9999]), (24, [0, 3], [])])]
def t_Sy_compileSum_at_k12_ct : ct_L := [(1, 69, e_Sy_advance), (1, 128, e_Sy_emit), (10, 155, e_Sy_compileProduct_at_k12), (178, 155, e_Sy_compileProduct_at_k12)]
set_option maxRecDepth 100000 in
theorem c_Sy_compileSum_at_k12 {l : Launch} {D : va_G} {kA : Nat → ClassId} (h_Sy_advance : ct_ok PRD l D kA GG y_Sy_advance z_Sy_advance e_Sy_advance) (h_Sy_compileProduct_at_k12 : ct_ok PRD l D kA GG y_Sy_compileProduct_at_k12 z_Sy_compileProduct_at_k12 e_Sy_compileProduct_at_k12) (h_Sy_emit : ct_ok PRD l D kA GG y_Sy_emit z_Sy_emit e_Sy_emit) : ct_ok PRD l D kA GG y_Sy_compileSum_at_k12 z_Sy_compileSum_at_k12 e_Sy_compileSum_at_k12 := chk_all_ok (FT := [(31, 11, 6)]) (PT := []) (CT := t_Sy_compileSum_at_k12_ct) (KT := []) (NT := []) (AN := n_Sy_compileSum_at_k12_an) (OT := [o_Sy_compileSum_at_k12_0, o_Sy_compileSum_at_k12_1, o_Sy_compileSum_at_k12_2, o_Sy_compileSum_at_k12_3, o_Sy_compileSum_at_k12_4, o_Sy_compileSum_at_k12_5, o_Sy_compileSum_at_k12_6]) 3 256 (List.forall_mem_cons.mpr ⟨oo_Sy_compileSum_at_k12_0, List.forall_mem_cons.mpr ⟨oo_Sy_compileSum_at_k12_1, List.forall_mem_cons.mpr ⟨oo_Sy_compileSum_at_k12_2, List.forall_mem_cons.mpr ⟨oo_Sy_compileSum_at_k12_3, List.forall_mem_cons.mpr ⟨oo_Sy_compileSum_at_k12_4, List.forall_mem_cons.mpr ⟨oo_Sy_compileSum_at_k12_5, List.forall_mem_cons.mpr ⟨oo_Sy_compileSum_at_k12_6, List.forall_mem_nil _⟩⟩⟩⟩⟩⟩⟩) (by decide +kernel) ⟨List.forall_mem_cons.mpr ⟨gf_Sy_31, List.forall_mem_nil _⟩, List.forall_mem_nil _, List.forall_mem_cons.mpr ⟨cl_virtual (y := y_Sy_advance) (ci := 11) rfl rfl ⟨_, _, rfl⟩ (by decide +kernel) h_Sy_advance wm_2158 wm_23 wm_2155 wm_2157 wv_10_10 ⟨by decide, by decide, by decide +kernel⟩ (by decide), List.forall_mem_cons.mpr ⟨cl_virtual (y := y_Sy_emit) (ci := 11) rfl rfl ⟨_, _, rfl⟩ (by decide +kernel) h_Sy_emit wm_2258 wm_23 wm_2255 wm_2257 wv_11_2 ⟨by decide, by decide, by decide +kernel⟩ (by decide), List.forall_mem_cons.mpr ⟨cl_virtual (y := y_Sy_compileProduct_at_k12) (ci := 11) rfl rfl ⟨_, _, rfl⟩ (by decide +kernel) h_Sy_compileProduct_at_k12 wm_2270 wm_23 wm_2267 wm_2269 wv_11_5 ⟨by decide, by decide, by decide +kernel⟩ (by decide), List.forall_mem_cons.mpr ⟨cl_virtual (y := y_Sy_compileProduct_at_k12) (ci := 11) rfl rfl ⟨_, _, rfl⟩ (by decide +kernel) h_Sy_compileProduct_at_k12 wm_2270 wm_23 wm_2267 wm_2269 wv_11_5 ⟨by decide, by decide, by decide +kernel⟩ (by decide), List.forall_mem_nil _⟩⟩⟩⟩, List.forall_mem_nil _, List.forall_mem_nil _, GG_pl⟩ (by decide +kernel)
def o_Sy_compileSum_at_k2_0 : or_T := (12, 5, [], [], [], [], [(24, [0, 0], [])], [], [])
theorem oo_Sy_compileSum_at_k2_0 {kA : Nat → ClassId} : or_ok PRD kA GG o_Sy_compileSum_at_k2_0 := by
  refine or_mk fun A ta ws vs hD hth hl => ?_
  have nf0 : fc_1 PRD (24, [0, 0], []) ws (vs) := by
    refine ⟨nf_in hl rfl, sgq_1 ?_⟩
    · show n_v vs 0 = n_v vs 0
      first | rfl | simp only [true_and]
  refine ⟨(fun _ h => (by cases h)), [], trivial, ?_, (fun _ h => (by cases h))⟩
  rw [List.append_nil]
  exact List.forall_mem_cons.mpr ⟨⟨show (24 : Nat) < 100 from by decide, nf0⟩, (fun _ h => (by cases h))⟩
set_option maxHeartbeats 4000000 in
theorem vc_Sy_compileSum_at_k2_1_0 (kind_0 : Int) (number_0 : Int) (f0 : (kind_0 ≠ 3) ∨ (number_0 ≤ 9999)) (kz_0_6 : 0 ≤ kind_0 ∧ kind_0 ≤ 127) (kz_0_8 : 0 ≤ number_0 ∧ number_0 ≤ 1000000) : (kind_0 ≠ 3) ∨ (number_0 ≤ 9999) := by
  first
    | omega
  
def o_Sy_compileSum_at_k2_1 : or_T := (79, 9, [(0, (2, 0, 0, [11]))], [(20, [3], [50, 2, 0, 6, 8, 3, 7, 7, 3, 2, 0, 6, 0, 3, 0, 3, 2, 0, 8, 0, 9999]), (24, [0, 3], [])], [], [], [(20, [0], [50, 2, 0, 6, 8, 3, 7, 7, 3, 2, 0, 6, 0, 3, 0, 3, 2, 0, 8, 0, 9999])], [], [])
theorem oo_Sy_compileSum_at_k2_1 {kA : Nat → ClassId} : or_ok PRD kA GG o_Sy_compileSum_at_k2_1 := by
  refine or_mk fun A ta ws vs hD hth hl => ?_
  intro t0 r0 f0 f1
  replace f0 := shm_1840 f0
  replace f1 := shm_5 f1
  have q3 : n_v vs 3 = n_v vs 0 := f1.symm
  simp only [q3] at f0
  have kz_0_6 := fdq_313 hD hth r0
  have kz_0_8 := fdq_314 hD hth r0
  have nf0 : fc_1 PRD (20, [0], [50, 2, 0, 6, 8, 3, 7, 7, 3, 2, 0, 6, 0, 3, 0, 3, 2, 0, 8, 0, 9999]) ws (vs) := ⟨nf_in hl rfl, sgq_1840 (vc_Sy_compileSum_at_k2_1_0 (w_fi ws (n_v vs 0) 6) (w_fi ws (n_v vs 0) 8) f0 kz_0_6 kz_0_8)⟩
  refine ⟨(fun _ h => (by cases h)), [], trivial, ?_, (fun _ h => (by cases h))⟩
  rw [List.append_nil]
  exact List.forall_mem_cons.mpr ⟨⟨show (20 : Nat) < 100 from by decide, nf0⟩, (fun _ h => (by cases h))⟩
set_option maxHeartbeats 4000000 in
theorem vc_Sy_compileSum_at_k2_2_0 (x11 : Int) (x13 : Int) (k11 : 2 ≤ x11 ∧ x11 ≤ 2) (k13 : 0 ≤ x13 ∧ x13 ≤ 0) : (0 ≤ x11) ∧ ((0 ≤ x13) ∧ (((x11 * 65536) + x13) ≤ 851970)) := by
  first
    | omega
  
def o_Sy_compileSum_at_k2_2 : or_T := (69, 14, [(11, (0, 2, 2, [])), (13, (0, 0, 0, []))], [], [], [], [(20, [11, 13], [50, 0, 0, 2, 6, 0, 2, 0, 0, 1, 0, 2, 6, 0, 2, 0, 0, 1, 1, 0, 10, 4, 6, 6, 2, 1, 0, 0, 65536, 1, 1, 0, 851970])], [], [])
theorem oo_Sy_compileSum_at_k2_2 {kA : Nat → ClassId} : or_ok PRD kA GG o_Sy_compileSum_at_k2_2 := by
  refine or_mk fun A ta ws vs hD hth hl => ?_
  intro t11 k11 t13 k13
  have nf0 : fc_1 PRD (20, [11, 13], [50, 0, 0, 2, 6, 0, 2, 0, 0, 1, 0, 2, 6, 0, 2, 0, 0, 1, 1, 0, 10, 4, 6, 6, 2, 1, 0, 0, 65536, 1, 1, 0, 851970]) ws (vs) := ⟨nf_in hl rfl, sgq_493 (vc_Sy_compileSum_at_k2_2_0 (v_iv (n_v vs 11)) (v_iv (n_v vs 13)) k11 k13)⟩
  refine ⟨(fun _ h => (by cases h)), [], trivial, ?_, (fun _ h => (by cases h))⟩
  rw [List.append_nil]
  exact List.forall_mem_cons.mpr ⟨⟨show (20 : Nat) < 100 from by decide, nf0⟩, (fun _ h => (by cases h))⟩
set_option maxHeartbeats 4000000 in
theorem vc_Sy_compileSum_at_k2_3_0 (kind_0 : Int) (number_0 : Int) (f1 : (kind_0 ≠ 3) ∨ (number_0 ≤ 9999)) (kz_0_6 : 0 ≤ kind_0 ∧ kind_0 ≤ 127) (kz_0_8 : 0 ≤ number_0 ∧ number_0 ≤ 1000000) : (kind_0 ≠ 3) ∨ (number_0 ≤ 9999) := by
  first
    | omega
  
def o_Sy_compileSum_at_k2_3 : or_T := (65, 14, [(0, (2, 0, 0, [11]))], [(24, [0, 3], []), (20, [3], [50, 2, 0, 6, 8, 3, 7, 7, 3, 2, 0, 6, 0, 3, 0, 3, 2, 0, 8, 0, 9999])], [], [], [(20, [0], [50, 2, 0, 6, 8, 3, 7, 7, 3, 2, 0, 6, 0, 3, 0, 3, 2, 0, 8, 0, 9999])], [], [])
theorem oo_Sy_compileSum_at_k2_3 {kA : Nat → ClassId} : or_ok PRD kA GG o_Sy_compileSum_at_k2_3 := by
  refine or_mk fun A ta ws vs hD hth hl => ?_
  intro t0 r0 f0 f1
  replace f0 := shm_5 f0
  replace f1 := shm_1840 f1
  have q3 : n_v vs 3 = n_v vs 0 := f0.symm
  simp only [q3] at f1
  have kz_0_6 := fdq_313 hD hth r0
  have kz_0_8 := fdq_314 hD hth r0
  have nf0 : fc_1 PRD (20, [0], [50, 2, 0, 6, 8, 3, 7, 7, 3, 2, 0, 6, 0, 3, 0, 3, 2, 0, 8, 0, 9999]) ws (vs) := ⟨nf_in hl rfl, sgq_1840 (vc_Sy_compileSum_at_k2_3_0 (w_fi ws (n_v vs 0) 6) (w_fi ws (n_v vs 0) 8) f1 kz_0_6 kz_0_8)⟩
  refine ⟨(fun _ h => (by cases h)), [], trivial, ?_, (fun _ h => (by cases h))⟩
  rw [List.append_nil]
  exact List.forall_mem_cons.mpr ⟨⟨show (20 : Nat) < 100 from by decide, nf0⟩, (fun _ h => (by cases h))⟩
set_option maxHeartbeats 4000000 in
theorem vc_Sy_compileSum_at_k2_4_0 (kind_0 : Int) (number_0 : Int) (f3 : (kind_0 ≠ 3) ∨ (number_0 ≤ 9999)) (kz_0_6 : 0 ≤ kind_0 ∧ kind_0 ≤ 127) (kz_0_8 : 0 ≤ number_0 ∧ number_0 ≤ 1000000) : (kind_0 ≠ 3) ∨ (number_0 ≤ 9999) := by
  first
    | omega
  
def o_Sy_compileSum_at_k2_4 : or_T := (79, 12, [(0, (2, 0, 0, [11]))], [(20, [3], [50, 2, 0, 6, 8, 3, 7, 7, 3, 2, 0, 6, 0, 3, 0, 3, 2, 0, 8, 0, 9999]), (24, [0, 3], [])], [], [], [(20, [0], [50, 2, 0, 6, 8, 3, 7, 7, 3, 2, 0, 6, 0, 3, 0, 3, 2, 0, 8, 0, 9999])], [], [])
theorem oo_Sy_compileSum_at_k2_4 {kA : Nat → ClassId} : or_ok PRD kA GG o_Sy_compileSum_at_k2_4 := by
  refine or_mk fun A ta ws vs hD hth hl => ?_
  intro t0 r0 f3 f4
  replace f3 := shm_1840 f3
  replace f4 := shm_5 f4
  have q3 : n_v vs 3 = n_v vs 0 := f4.symm
  simp only [q3] at f3
  have kz_0_6 := fdq_313 hD hth r0
  have kz_0_8 := fdq_314 hD hth r0
  have nf0 : fc_1 PRD (20, [0], [50, 2, 0, 6, 8, 3, 7, 7, 3, 2, 0, 6, 0, 3, 0, 3, 2, 0, 8, 0, 9999]) ws (vs) := ⟨nf_in hl rfl, sgq_1840 (vc_Sy_compileSum_at_k2_4_0 (w_fi ws (n_v vs 0) 6) (w_fi ws (n_v vs 0) 8) f3 kz_0_6 kz_0_8)⟩
  refine ⟨(fun _ h => (by cases h)), [], trivial, ?_, (fun _ h => (by cases h))⟩
  rw [List.append_nil]
  exact List.forall_mem_cons.mpr ⟨⟨show (20 : Nat) < 100 from by decide, nf0⟩, (fun _ h => (by cases h))⟩
set_option maxHeartbeats 4000000 in
theorem vc_Sy_compileSum_at_k2_5_0 (x12 : Int) (x14 : Int) (k12 : 3 ≤ x12 ∧ x12 ≤ 3) (k14 : 0 ≤ x14 ∧ x14 ≤ 0) : (0 ≤ x12) ∧ ((0 ≤ x14) ∧ (((x12 * 65536) + x14) ≤ 851970)) := by
  first
    | omega
  
def o_Sy_compileSum_at_k2_5 : or_T := (69, 15, [(12, (0, 3, 3, [])), (14, (0, 0, 0, []))], [], [], [], [(20, [12, 14], [50, 0, 0, 2, 6, 0, 2, 0, 0, 1, 0, 2, 6, 0, 2, 0, 0, 1, 1, 0, 10, 4, 6, 6, 2, 1, 0, 0, 65536, 1, 1, 0, 851970])], [], [])
theorem oo_Sy_compileSum_at_k2_5 {kA : Nat → ClassId} : or_ok PRD kA GG o_Sy_compileSum_at_k2_5 := by
  refine or_mk fun A ta ws vs hD hth hl => ?_
  intro t12 k12 t14 k14
  have nf0 : fc_1 PRD (20, [12, 14], [50, 0, 0, 2, 6, 0, 2, 0, 0, 1, 0, 2, 6, 0, 2, 0, 0, 1, 1, 0, 10, 4, 6, 6, 2, 1, 0, 0, 65536, 1, 1, 0, 851970]) ws (vs) := ⟨nf_in hl rfl, sgq_493 (vc_Sy_compileSum_at_k2_5_0 (v_iv (n_v vs 12)) (v_iv (n_v vs 14)) k12 k14)⟩
  refine ⟨(fun _ h => (by cases h)), [], trivial, ?_, (fun _ h => (by cases h))⟩
  rw [List.append_nil]
  exact List.forall_mem_cons.mpr ⟨⟨show (20 : Nat) < 100 from by decide, nf0⟩, (fun _ h => (by cases h))⟩
set_option maxHeartbeats 4000000 in
theorem vc_Sy_compileSum_at_k2_6_0 (kind_0 : Int) (number_0 : Int) (f1 : (kind_0 ≠ 3) ∨ (number_0 ≤ 9999)) (kz_0_6 : 0 ≤ kind_0 ∧ kind_0 ≤ 127) (kz_0_8 : 0 ≤ number_0 ∧ number_0 ≤ 1000000) : (kind_0 ≠ 3) ∨ (number_0 ≤ 9999) := by
  first
    | omega
  
def o_Sy_compileSum_at_k2_6 : or_T := (65, 15, [(0, (2, 0, 0, [11]))], [(24, [0, 3], []), (20, [3], [50, 2, 0, 6, 8, 3, 7, 7, 3, 2, 0, 6, 0, 3, 0, 3, 2, 0, 8, 0, 9999])], [], [], [(20, [0], [50, 2, 0, 6, 8, 3, 7, 7, 3, 2, 0, 6, 0, 3, 0, 3, 2, 0, 8, 0, 9999])], [], [])
theorem oo_Sy_compileSum_at_k2_6 {kA : Nat → ClassId} : or_ok PRD kA GG o_Sy_compileSum_at_k2_6 := by
  refine or_mk fun A ta ws vs hD hth hl => ?_
  intro t0 r0 f0 f1
  replace f0 := shm_5 f0
  replace f1 := shm_1840 f1
  have q3 : n_v vs 3 = n_v vs 0 := f0.symm
  simp only [q3] at f1
  have kz_0_6 := fdq_313 hD hth r0
  have kz_0_8 := fdq_314 hD hth r0
  have nf0 : fc_1 PRD (20, [0], [50, 2, 0, 6, 8, 3, 7, 7, 3, 2, 0, 6, 0, 3, 0, 3, 2, 0, 8, 0, 9999]) ws (vs) := ⟨nf_in hl rfl, sgq_1840 (vc_Sy_compileSum_at_k2_6_0 (w_fi ws (n_v vs 0) 6) (w_fi ws (n_v vs 0) 8) f1 kz_0_6 kz_0_8)⟩
  refine ⟨(fun _ h => (by cases h)), [], trivial, ?_, (fun _ h => (by cases h))⟩
  rw [List.append_nil]
  exact List.forall_mem_cons.mpr ⟨⟨show (20 : Nat) < 100 from by decide, nf0⟩, (fun _ h => (by cases h))⟩
def n_Sy_compileSum_at_k2_an : List an_T := [(12, [(0, (2, 0, 0, [11])), (1, (0, 2, 2, [])), (2, (0, 0, 2000, []))], [], (0, 0), [(0, 0, 99988), (1, 5, 2000), (0, 0, 100000)], [], [((0, 3), (2, 0, 0, [109]))], [(2, 0, 0, [11]), (0, 2, 2, []), (2, 0, 0, [109])], 0, [], [(20, [3], [50, 2, 0, 6, 8, 3, 7, 7, 3, 2, 0, 6, 0, 3, 0, 3, 2, 0, 8, 0, 9999]), (24, [0, 3], [])])]
def t_Sy_compileSum_at_k2_ct : ct_L := [(1, 69, e_Sy_advance), (1, 128, e_Sy_emit), (10, 155, e_Sy_compileProduct_at_k2), (178, 155, e_Sy_compileProduct_at_k2)]
set_option maxRecDepth 100000 in
theorem c_Sy_compileSum_at_k2 {l : Launch} {D : va_G} {kA : Nat → ClassId} (h_Sy_advance : ct_ok PRD l D kA GG y_Sy_advance z_Sy_advance e_Sy_advance) (h_Sy_compileProduct_at_k2 : ct_ok PRD l D kA GG y_Sy_compileProduct_at_k2 z_Sy_compileProduct_at_k2 e_Sy_compileProduct_at_k2) (h_Sy_emit : ct_ok PRD l D kA GG y_Sy_emit z_Sy_emit e_Sy_emit) : ct_ok PRD l D kA GG y_Sy_compileSum_at_k2 z_Sy_compileSum_at_k2 e_Sy_compileSum_at_k2 := chk_all_ok (FT := [(31, 11, 6)]) (PT := []) (CT := t_Sy_compileSum_at_k2_ct) (KT := []) (NT := []) (AN := n_Sy_compileSum_at_k2_an) (OT := [o_Sy_compileSum_at_k2_0, o_Sy_compileSum_at_k2_1, o_Sy_compileSum_at_k2_2, o_Sy_compileSum_at_k2_3, o_Sy_compileSum_at_k2_4, o_Sy_compileSum_at_k2_5, o_Sy_compileSum_at_k2_6]) 3 256 (List.forall_mem_cons.mpr ⟨oo_Sy_compileSum_at_k2_0, List.forall_mem_cons.mpr ⟨oo_Sy_compileSum_at_k2_1, List.forall_mem_cons.mpr ⟨oo_Sy_compileSum_at_k2_2, List.forall_mem_cons.mpr ⟨oo_Sy_compileSum_at_k2_3, List.forall_mem_cons.mpr ⟨oo_Sy_compileSum_at_k2_4, List.forall_mem_cons.mpr ⟨oo_Sy_compileSum_at_k2_5, List.forall_mem_cons.mpr ⟨oo_Sy_compileSum_at_k2_6, List.forall_mem_nil _⟩⟩⟩⟩⟩⟩⟩) (by decide +kernel) ⟨List.forall_mem_cons.mpr ⟨gf_Sy_31, List.forall_mem_nil _⟩, List.forall_mem_nil _, List.forall_mem_cons.mpr ⟨cl_virtual (y := y_Sy_advance) (ci := 11) rfl rfl ⟨_, _, rfl⟩ (by decide +kernel) h_Sy_advance wm_2158 wm_23 wm_2155 wm_2157 wv_10_10 ⟨by decide, by decide, by decide +kernel⟩ (by decide), List.forall_mem_cons.mpr ⟨cl_virtual (y := y_Sy_emit) (ci := 11) rfl rfl ⟨_, _, rfl⟩ (by decide +kernel) h_Sy_emit wm_2258 wm_23 wm_2255 wm_2257 wv_11_2 ⟨by decide, by decide, by decide +kernel⟩ (by decide), List.forall_mem_cons.mpr ⟨cl_virtual (y := y_Sy_compileProduct_at_k2) (ci := 11) rfl rfl ⟨_, _, rfl⟩ (by decide +kernel) h_Sy_compileProduct_at_k2 wm_2270 wm_23 wm_2267 wm_2269 wv_11_5 ⟨by decide, by decide, by decide +kernel⟩ (by decide), List.forall_mem_cons.mpr ⟨cl_virtual (y := y_Sy_compileProduct_at_k2) (ci := 11) rfl rfl ⟨_, _, rfl⟩ (by decide +kernel) h_Sy_compileProduct_at_k2 wm_2270 wm_23 wm_2267 wm_2269 wv_11_5 ⟨by decide, by decide, by decide +kernel⟩ (by decide), List.forall_mem_nil _⟩⟩⟩⟩, List.forall_mem_nil _, List.forall_mem_nil _, GG_pl⟩ (by decide +kernel)
def o_Sy_compileSum_at_k3_0 : or_T := (12, 5, [], [], [], [], [(24, [0, 0], [])], [], [])
theorem oo_Sy_compileSum_at_k3_0 {kA : Nat → ClassId} : or_ok PRD kA GG o_Sy_compileSum_at_k3_0 := by
  refine or_mk fun A ta ws vs hD hth hl => ?_
  have nf0 : fc_1 PRD (24, [0, 0], []) ws (vs) := by
    refine ⟨nf_in hl rfl, sgq_1 ?_⟩
    · show n_v vs 0 = n_v vs 0
      first | rfl | simp only [true_and]
  refine ⟨(fun _ h => (by cases h)), [], trivial, ?_, (fun _ h => (by cases h))⟩
  rw [List.append_nil]
  exact List.forall_mem_cons.mpr ⟨⟨show (24 : Nat) < 100 from by decide, nf0⟩, (fun _ h => (by cases h))⟩
set_option maxHeartbeats 4000000 in
theorem vc_Sy_compileSum_at_k3_1_0 (kind_0 : Int) (number_0 : Int) (f0 : (kind_0 ≠ 3) ∨ (number_0 ≤ 9999)) (kz_0_6 : 0 ≤ kind_0 ∧ kind_0 ≤ 127) (kz_0_8 : 0 ≤ number_0 ∧ number_0 ≤ 1000000) : (kind_0 ≠ 3) ∨ (number_0 ≤ 9999) := by
  first
    | omega
  
def o_Sy_compileSum_at_k3_1 : or_T := (79, 9, [(0, (2, 0, 0, [11]))], [(20, [3], [50, 2, 0, 6, 8, 3, 7, 7, 3, 2, 0, 6, 0, 3, 0, 3, 2, 0, 8, 0, 9999]), (24, [0, 3], [])], [], [], [(20, [0], [50, 2, 0, 6, 8, 3, 7, 7, 3, 2, 0, 6, 0, 3, 0, 3, 2, 0, 8, 0, 9999])], [], [])
theorem oo_Sy_compileSum_at_k3_1 {kA : Nat → ClassId} : or_ok PRD kA GG o_Sy_compileSum_at_k3_1 := by
  refine or_mk fun A ta ws vs hD hth hl => ?_
  intro t0 r0 f0 f1
  replace f0 := shm_1840 f0
  replace f1 := shm_5 f1
  have q3 : n_v vs 3 = n_v vs 0 := f1.symm
  simp only [q3] at f0
  have kz_0_6 := fdq_313 hD hth r0
  have kz_0_8 := fdq_314 hD hth r0
  have nf0 : fc_1 PRD (20, [0], [50, 2, 0, 6, 8, 3, 7, 7, 3, 2, 0, 6, 0, 3, 0, 3, 2, 0, 8, 0, 9999]) ws (vs) := ⟨nf_in hl rfl, sgq_1840 (vc_Sy_compileSum_at_k3_1_0 (w_fi ws (n_v vs 0) 6) (w_fi ws (n_v vs 0) 8) f0 kz_0_6 kz_0_8)⟩
  refine ⟨(fun _ h => (by cases h)), [], trivial, ?_, (fun _ h => (by cases h))⟩
  rw [List.append_nil]
  exact List.forall_mem_cons.mpr ⟨⟨show (20 : Nat) < 100 from by decide, nf0⟩, (fun _ h => (by cases h))⟩
set_option maxHeartbeats 4000000 in
theorem vc_Sy_compileSum_at_k3_2_0 (x11 : Int) (x13 : Int) (k11 : 2 ≤ x11 ∧ x11 ≤ 2) (k13 : 0 ≤ x13 ∧ x13 ≤ 0) : (0 ≤ x11) ∧ ((0 ≤ x13) ∧ (((x11 * 65536) + x13) ≤ 851970)) := by
  first
    | omega
  
def o_Sy_compileSum_at_k3_2 : or_T := (69, 14, [(11, (0, 2, 2, [])), (13, (0, 0, 0, []))], [], [], [], [(20, [11, 13], [50, 0, 0, 2, 6, 0, 2, 0, 0, 1, 0, 2, 6, 0, 2, 0, 0, 1, 1, 0, 10, 4, 6, 6, 2, 1, 0, 0, 65536, 1, 1, 0, 851970])], [], [])
theorem oo_Sy_compileSum_at_k3_2 {kA : Nat → ClassId} : or_ok PRD kA GG o_Sy_compileSum_at_k3_2 := by
  refine or_mk fun A ta ws vs hD hth hl => ?_
  intro t11 k11 t13 k13
  have nf0 : fc_1 PRD (20, [11, 13], [50, 0, 0, 2, 6, 0, 2, 0, 0, 1, 0, 2, 6, 0, 2, 0, 0, 1, 1, 0, 10, 4, 6, 6, 2, 1, 0, 0, 65536, 1, 1, 0, 851970]) ws (vs) := ⟨nf_in hl rfl, sgq_493 (vc_Sy_compileSum_at_k3_2_0 (v_iv (n_v vs 11)) (v_iv (n_v vs 13)) k11 k13)⟩
  refine ⟨(fun _ h => (by cases h)), [], trivial, ?_, (fun _ h => (by cases h))⟩
  rw [List.append_nil]
  exact List.forall_mem_cons.mpr ⟨⟨show (20 : Nat) < 100 from by decide, nf0⟩, (fun _ h => (by cases h))⟩
set_option maxHeartbeats 4000000 in
theorem vc_Sy_compileSum_at_k3_3_0 (kind_0 : Int) (number_0 : Int) (f1 : (kind_0 ≠ 3) ∨ (number_0 ≤ 9999)) (kz_0_6 : 0 ≤ kind_0 ∧ kind_0 ≤ 127) (kz_0_8 : 0 ≤ number_0 ∧ number_0 ≤ 1000000) : (kind_0 ≠ 3) ∨ (number_0 ≤ 9999) := by
  first
    | omega
  
def o_Sy_compileSum_at_k3_3 : or_T := (65, 14, [(0, (2, 0, 0, [11]))], [(24, [0, 3], []), (20, [3], [50, 2, 0, 6, 8, 3, 7, 7, 3, 2, 0, 6, 0, 3, 0, 3, 2, 0, 8, 0, 9999])], [], [], [(20, [0], [50, 2, 0, 6, 8, 3, 7, 7, 3, 2, 0, 6, 0, 3, 0, 3, 2, 0, 8, 0, 9999])], [], [])
theorem oo_Sy_compileSum_at_k3_3 {kA : Nat → ClassId} : or_ok PRD kA GG o_Sy_compileSum_at_k3_3 := by
  refine or_mk fun A ta ws vs hD hth hl => ?_
  intro t0 r0 f0 f1
  replace f0 := shm_5 f0
  replace f1 := shm_1840 f1
  have q3 : n_v vs 3 = n_v vs 0 := f0.symm
  simp only [q3] at f1
  have kz_0_6 := fdq_313 hD hth r0
  have kz_0_8 := fdq_314 hD hth r0
  have nf0 : fc_1 PRD (20, [0], [50, 2, 0, 6, 8, 3, 7, 7, 3, 2, 0, 6, 0, 3, 0, 3, 2, 0, 8, 0, 9999]) ws (vs) := ⟨nf_in hl rfl, sgq_1840 (vc_Sy_compileSum_at_k3_3_0 (w_fi ws (n_v vs 0) 6) (w_fi ws (n_v vs 0) 8) f1 kz_0_6 kz_0_8)⟩
  refine ⟨(fun _ h => (by cases h)), [], trivial, ?_, (fun _ h => (by cases h))⟩
  rw [List.append_nil]
  exact List.forall_mem_cons.mpr ⟨⟨show (20 : Nat) < 100 from by decide, nf0⟩, (fun _ h => (by cases h))⟩
set_option maxHeartbeats 4000000 in
theorem vc_Sy_compileSum_at_k3_4_0 (kind_0 : Int) (number_0 : Int) (f3 : (kind_0 ≠ 3) ∨ (number_0 ≤ 9999)) (kz_0_6 : 0 ≤ kind_0 ∧ kind_0 ≤ 127) (kz_0_8 : 0 ≤ number_0 ∧ number_0 ≤ 1000000) : (kind_0 ≠ 3) ∨ (number_0 ≤ 9999) := by
  first
    | omega
  
def o_Sy_compileSum_at_k3_4 : or_T := (79, 12, [(0, (2, 0, 0, [11]))], [(20, [3], [50, 2, 0, 6, 8, 3, 7, 7, 3, 2, 0, 6, 0, 3, 0, 3, 2, 0, 8, 0, 9999]), (24, [0, 3], [])], [], [], [(20, [0], [50, 2, 0, 6, 8, 3, 7, 7, 3, 2, 0, 6, 0, 3, 0, 3, 2, 0, 8, 0, 9999])], [], [])
theorem oo_Sy_compileSum_at_k3_4 {kA : Nat → ClassId} : or_ok PRD kA GG o_Sy_compileSum_at_k3_4 := by
  refine or_mk fun A ta ws vs hD hth hl => ?_
  intro t0 r0 f3 f4
  replace f3 := shm_1840 f3
  replace f4 := shm_5 f4
  have q3 : n_v vs 3 = n_v vs 0 := f4.symm
  simp only [q3] at f3
  have kz_0_6 := fdq_313 hD hth r0
  have kz_0_8 := fdq_314 hD hth r0
  have nf0 : fc_1 PRD (20, [0], [50, 2, 0, 6, 8, 3, 7, 7, 3, 2, 0, 6, 0, 3, 0, 3, 2, 0, 8, 0, 9999]) ws (vs) := ⟨nf_in hl rfl, sgq_1840 (vc_Sy_compileSum_at_k3_4_0 (w_fi ws (n_v vs 0) 6) (w_fi ws (n_v vs 0) 8) f3 kz_0_6 kz_0_8)⟩
  refine ⟨(fun _ h => (by cases h)), [], trivial, ?_, (fun _ h => (by cases h))⟩
  rw [List.append_nil]
  exact List.forall_mem_cons.mpr ⟨⟨show (20 : Nat) < 100 from by decide, nf0⟩, (fun _ h => (by cases h))⟩
set_option maxHeartbeats 4000000 in
theorem vc_Sy_compileSum_at_k3_5_0 (x12 : Int) (x14 : Int) (k12 : 3 ≤ x12 ∧ x12 ≤ 3) (k14 : 0 ≤ x14 ∧ x14 ≤ 0) : (0 ≤ x12) ∧ ((0 ≤ x14) ∧ (((x12 * 65536) + x14) ≤ 851970)) := by
  first
    | omega
  
def o_Sy_compileSum_at_k3_5 : or_T := (69, 15, [(12, (0, 3, 3, [])), (14, (0, 0, 0, []))], [], [], [], [(20, [12, 14], [50, 0, 0, 2, 6, 0, 2, 0, 0, 1, 0, 2, 6, 0, 2, 0, 0, 1, 1, 0, 10, 4, 6, 6, 2, 1, 0, 0, 65536, 1, 1, 0, 851970])], [], [])
theorem oo_Sy_compileSum_at_k3_5 {kA : Nat → ClassId} : or_ok PRD kA GG o_Sy_compileSum_at_k3_5 := by
  refine or_mk fun A ta ws vs hD hth hl => ?_
  intro t12 k12 t14 k14
  have nf0 : fc_1 PRD (20, [12, 14], [50, 0, 0, 2, 6, 0, 2, 0, 0, 1, 0, 2, 6, 0, 2, 0, 0, 1, 1, 0, 10, 4, 6, 6, 2, 1, 0, 0, 65536, 1, 1, 0, 851970]) ws (vs) := ⟨nf_in hl rfl, sgq_493 (vc_Sy_compileSum_at_k3_5_0 (v_iv (n_v vs 12)) (v_iv (n_v vs 14)) k12 k14)⟩
  refine ⟨(fun _ h => (by cases h)), [], trivial, ?_, (fun _ h => (by cases h))⟩
  rw [List.append_nil]
  exact List.forall_mem_cons.mpr ⟨⟨show (20 : Nat) < 100 from by decide, nf0⟩, (fun _ h => (by cases h))⟩
set_option maxHeartbeats 4000000 in
theorem vc_Sy_compileSum_at_k3_6_0 (kind_0 : Int) (number_0 : Int) (f1 : (kind_0 ≠ 3) ∨ (number_0 ≤ 9999)) (kz_0_6 : 0 ≤ kind_0 ∧ kind_0 ≤ 127) (kz_0_8 : 0 ≤ number_0 ∧ number_0 ≤ 1000000) : (kind_0 ≠ 3) ∨ (number_0 ≤ 9999) := by
  first
    | omega
  
def o_Sy_compileSum_at_k3_6 : or_T := (65, 15, [(0, (2, 0, 0, [11]))], [(24, [0, 3], []), (20, [3], [50, 2, 0, 6, 8, 3, 7, 7, 3, 2, 0, 6, 0, 3, 0, 3, 2, 0, 8, 0, 9999])], [], [], [(20, [0], [50, 2, 0, 6, 8, 3, 7, 7, 3, 2, 0, 6, 0, 3, 0, 3, 2, 0, 8, 0, 9999])], [], [])
theorem oo_Sy_compileSum_at_k3_6 {kA : Nat → ClassId} : or_ok PRD kA GG o_Sy_compileSum_at_k3_6 := by
  refine or_mk fun A ta ws vs hD hth hl => ?_
  intro t0 r0 f0 f1
  replace f0 := shm_5 f0
  replace f1 := shm_1840 f1
  have q3 : n_v vs 3 = n_v vs 0 := f0.symm
  simp only [q3] at f1
  have kz_0_6 := fdq_313 hD hth r0
  have kz_0_8 := fdq_314 hD hth r0
  have nf0 : fc_1 PRD (20, [0], [50, 2, 0, 6, 8, 3, 7, 7, 3, 2, 0, 6, 0, 3, 0, 3, 2, 0, 8, 0, 9999]) ws (vs) := ⟨nf_in hl rfl, sgq_1840 (vc_Sy_compileSum_at_k3_6_0 (w_fi ws (n_v vs 0) 6) (w_fi ws (n_v vs 0) 8) f1 kz_0_6 kz_0_8)⟩
  refine ⟨(fun _ h => (by cases h)), [], trivial, ?_, (fun _ h => (by cases h))⟩
  rw [List.append_nil]
  exact List.forall_mem_cons.mpr ⟨⟨show (20 : Nat) < 100 from by decide, nf0⟩, (fun _ h => (by cases h))⟩
def n_Sy_compileSum_at_k3_an : List an_T := [(12, [(0, (2, 0, 0, [11])), (1, (0, 3, 3, [])), (2, (0, 0, 2000, []))], [], (0, 0), [(0, 0, 99988), (1, 5, 2000), (0, 0, 100000)], [], [((0, 3), (2, 0, 0, [109]))], [(2, 0, 0, [11]), (0, 3, 3, []), (2, 0, 0, [109])], 0, [], [(20, [3], [50, 2, 0, 6, 8, 3, 7, 7, 3, 2, 0, 6, 0, 3, 0, 3, 2, 0, 8, 0, 9999]), (24, [0, 3], [])])]
def t_Sy_compileSum_at_k3_ct : ct_L := [(1, 69, e_Sy_advance), (1, 128, e_Sy_emit), (10, 155, e_Sy_compileProduct_at_k3), (178, 155, e_Sy_compileProduct_at_k3)]
set_option maxRecDepth 100000 in
theorem c_Sy_compileSum_at_k3 {l : Launch} {D : va_G} {kA : Nat → ClassId} (h_Sy_advance : ct_ok PRD l D kA GG y_Sy_advance z_Sy_advance e_Sy_advance) (h_Sy_compileProduct_at_k3 : ct_ok PRD l D kA GG y_Sy_compileProduct_at_k3 z_Sy_compileProduct_at_k3 e_Sy_compileProduct_at_k3) (h_Sy_emit : ct_ok PRD l D kA GG y_Sy_emit z_Sy_emit e_Sy_emit) : ct_ok PRD l D kA GG y_Sy_compileSum_at_k3 z_Sy_compileSum_at_k3 e_Sy_compileSum_at_k3 := chk_all_ok (FT := [(31, 11, 6)]) (PT := []) (CT := t_Sy_compileSum_at_k3_ct) (KT := []) (NT := []) (AN := n_Sy_compileSum_at_k3_an) (OT := [o_Sy_compileSum_at_k3_0, o_Sy_compileSum_at_k3_1, o_Sy_compileSum_at_k3_2, o_Sy_compileSum_at_k3_3, o_Sy_compileSum_at_k3_4, o_Sy_compileSum_at_k3_5, o_Sy_compileSum_at_k3_6]) 3 256 (List.forall_mem_cons.mpr ⟨oo_Sy_compileSum_at_k3_0, List.forall_mem_cons.mpr ⟨oo_Sy_compileSum_at_k3_1, List.forall_mem_cons.mpr ⟨oo_Sy_compileSum_at_k3_2, List.forall_mem_cons.mpr ⟨oo_Sy_compileSum_at_k3_3, List.forall_mem_cons.mpr ⟨oo_Sy_compileSum_at_k3_4, List.forall_mem_cons.mpr ⟨oo_Sy_compileSum_at_k3_5, List.forall_mem_cons.mpr ⟨oo_Sy_compileSum_at_k3_6, List.forall_mem_nil _⟩⟩⟩⟩⟩⟩⟩) (by decide +kernel) ⟨List.forall_mem_cons.mpr ⟨gf_Sy_31, List.forall_mem_nil _⟩, List.forall_mem_nil _, List.forall_mem_cons.mpr ⟨cl_virtual (y := y_Sy_advance) (ci := 11) rfl rfl ⟨_, _, rfl⟩ (by decide +kernel) h_Sy_advance wm_2158 wm_23 wm_2155 wm_2157 wv_10_10 ⟨by decide, by decide, by decide +kernel⟩ (by decide), List.forall_mem_cons.mpr ⟨cl_virtual (y := y_Sy_emit) (ci := 11) rfl rfl ⟨_, _, rfl⟩ (by decide +kernel) h_Sy_emit wm_2258 wm_23 wm_2255 wm_2257 wv_11_2 ⟨by decide, by decide, by decide +kernel⟩ (by decide), List.forall_mem_cons.mpr ⟨cl_virtual (y := y_Sy_compileProduct_at_k3) (ci := 11) rfl rfl ⟨_, _, rfl⟩ (by decide +kernel) h_Sy_compileProduct_at_k3 wm_2270 wm_23 wm_2267 wm_2269 wv_11_5 ⟨by decide, by decide, by decide +kernel⟩ (by decide), List.forall_mem_cons.mpr ⟨cl_virtual (y := y_Sy_compileProduct_at_k3) (ci := 11) rfl rfl ⟨_, _, rfl⟩ (by decide +kernel) h_Sy_compileProduct_at_k3 wm_2270 wm_23 wm_2267 wm_2269 wv_11_5 ⟨by decide, by decide, by decide +kernel⟩ (by decide), List.forall_mem_nil _⟩⟩⟩⟩, List.forall_mem_nil _, List.forall_mem_nil _, GG_pl⟩ (by decide +kernel)
def o_Sy_compileSum_at_k4_0 : or_T := (12, 5, [], [], [], [], [(24, [0, 0], [])], [], [])
theorem oo_Sy_compileSum_at_k4_0 {kA : Nat → ClassId} : or_ok PRD kA GG o_Sy_compileSum_at_k4_0 := by
  refine or_mk fun A ta ws vs hD hth hl => ?_
  have nf0 : fc_1 PRD (24, [0, 0], []) ws (vs) := by
    refine ⟨nf_in hl rfl, sgq_1 ?_⟩
    · show n_v vs 0 = n_v vs 0
      first | rfl | simp only [true_and]
  refine ⟨(fun _ h => (by cases h)), [], trivial, ?_, (fun _ h => (by cases h))⟩
  rw [List.append_nil]
  exact List.forall_mem_cons.mpr ⟨⟨show (24 : Nat) < 100 from by decide, nf0⟩, (fun _ h => (by cases h))⟩
set_option maxHeartbeats 4000000 in
theorem vc_Sy_compileSum_at_k4_1_0 (kind_0 : Int) (number_0 : Int) (f0 : (kind_0 ≠ 3) ∨ (number_0 ≤ 9999)) (kz_0_6 : 0 ≤ kind_0 ∧ kind_0 ≤ 127) (kz_0_8 : 0 ≤ number_0 ∧ number_0 ≤ 1000000) : (kind_0 ≠ 3) ∨ (number_0 ≤ 9999) := by
  first
    | omega
  
def o_Sy_compileSum_at_k4_1 : or_T := (79, 9, [(0, (2, 0, 0, [11]))], [(20, [3], [50, 2, 0, 6, 8, 3, 7, 7, 3, 2, 0, 6, 0, 3, 0, 3, 2, 0, 8, 0, 9999]), (24, [0, 3], [])], [], [], [(20, [0], [50, 2, 0, 6, 8, 3, 7, 7, 3, 2, 0, 6, 0, 3, 0, 3, 2, 0, 8, 0, 9999])], [], [])
theorem oo_Sy_compileSum_at_k4_1 {kA : Nat → ClassId} : or_ok PRD kA GG o_Sy_compileSum_at_k4_1 := by
  refine or_mk fun A ta ws vs hD hth hl => ?_
  intro t0 r0 f0 f1
  replace f0 := shm_1840 f0
  replace f1 := shm_5 f1
  have q3 : n_v vs 3 = n_v vs 0 := f1.symm
  simp only [q3] at f0
  have kz_0_6 := fdq_313 hD hth r0
  have kz_0_8 := fdq_314 hD hth r0
  have nf0 : fc_1 PRD (20, [0], [50, 2, 0, 6, 8, 3, 7, 7, 3, 2, 0, 6, 0, 3, 0, 3, 2, 0, 8, 0, 9999]) ws (vs) := ⟨nf_in hl rfl, sgq_1840 (vc_Sy_compileSum_at_k4_1_0 (w_fi ws (n_v vs 0) 6) (w_fi ws (n_v vs 0) 8) f0 kz_0_6 kz_0_8)⟩
  refine ⟨(fun _ h => (by cases h)), [], trivial, ?_, (fun _ h => (by cases h))⟩
  rw [List.append_nil]
  exact List.forall_mem_cons.mpr ⟨⟨show (20 : Nat) < 100 from by decide, nf0⟩, (fun _ h => (by cases h))⟩
set_option maxHeartbeats 4000000 in
theorem vc_Sy_compileSum_at_k4_2_0 (x11 : Int) (x13 : Int) (k11 : 2 ≤ x11 ∧ x11 ≤ 2) (k13 : 0 ≤ x13 ∧ x13 ≤ 0) : (0 ≤ x11) ∧ ((0 ≤ x13) ∧ (((x11 * 65536) + x13) ≤ 851970)) := by
  first
    | omega
  
def o_Sy_compileSum_at_k4_2 : or_T := (69, 14, [(11, (0, 2, 2, [])), (13, (0, 0, 0, []))], [], [], [], [(20, [11, 13], [50, 0, 0, 2, 6, 0, 2, 0, 0, 1, 0, 2, 6, 0, 2, 0, 0, 1, 1, 0, 10, 4, 6, 6, 2, 1, 0, 0, 65536, 1, 1, 0, 851970])], [], [])
theorem oo_Sy_compileSum_at_k4_2 {kA : Nat → ClassId} : or_ok PRD kA GG o_Sy_compileSum_at_k4_2 := by
  refine or_mk fun A ta ws vs hD hth hl => ?_
  intro t11 k11 t13 k13
  have nf0 : fc_1 PRD (20, [11, 13], [50, 0, 0, 2, 6, 0, 2, 0, 0, 1, 0, 2, 6, 0, 2, 0, 0, 1, 1, 0, 10, 4, 6, 6, 2, 1, 0, 0, 65536, 1, 1, 0, 851970]) ws (vs) := ⟨nf_in hl rfl, sgq_493 (vc_Sy_compileSum_at_k4_2_0 (v_iv (n_v vs 11)) (v_iv (n_v vs 13)) k11 k13)⟩
  refine ⟨(fun _ h => (by cases h)), [], trivial, ?_, (fun _ h => (by cases h))⟩
  rw [List.append_nil]
  exact List.forall_mem_cons.mpr ⟨⟨show (20 : Nat) < 100 from by decide, nf0⟩, (fun _ h => (by cases h))⟩
set_option maxHeartbeats 4000000 in
theorem vc_Sy_compileSum_at_k4_3_0 (kind_0 : Int) (number_0 : Int) (f1 : (kind_0 ≠ 3) ∨ (number_0 ≤ 9999)) (kz_0_6 : 0 ≤ kind_0 ∧ kind_0 ≤ 127) (kz_0_8 : 0 ≤ number_0 ∧ number_0 ≤ 1000000) : (kind_0 ≠ 3) ∨ (number_0 ≤ 9999) := by
  first
    | omega
  
def o_Sy_compileSum_at_k4_3 : or_T := (65, 14, [(0, (2, 0, 0, [11]))], [(24, [0, 3], []), (20, [3], [50, 2, 0, 6, 8, 3, 7, 7, 3, 2, 0, 6, 0, 3, 0, 3, 2, 0, 8, 0, 9999])], [], [], [(20, [0], [50, 2, 0, 6, 8, 3, 7, 7, 3, 2, 0, 6, 0, 3, 0, 3, 2, 0, 8, 0, 9999])], [], [])
theorem oo_Sy_compileSum_at_k4_3 {kA : Nat → ClassId} : or_ok PRD kA GG o_Sy_compileSum_at_k4_3 := by
  refine or_mk fun A ta ws vs hD hth hl => ?_
  intro t0 r0 f0 f1
  replace f0 := shm_5 f0
  replace f1 := shm_1840 f1
  have q3 : n_v vs 3 = n_v vs 0 := f0.symm
  simp only [q3] at f1
  have kz_0_6 := fdq_313 hD hth r0
  have kz_0_8 := fdq_314 hD hth r0
  have nf0 : fc_1 PRD (20, [0], [50, 2, 0, 6, 8, 3, 7, 7, 3, 2, 0, 6, 0, 3, 0, 3, 2, 0, 8, 0, 9999]) ws (vs) := ⟨nf_in hl rfl, sgq_1840 (vc_Sy_compileSum_at_k4_3_0 (w_fi ws (n_v vs 0) 6) (w_fi ws (n_v vs 0) 8) f1 kz_0_6 kz_0_8)⟩
  refine ⟨(fun _ h => (by cases h)), [], trivial, ?_, (fun _ h => (by cases h))⟩
  rw [List.append_nil]
  exact List.forall_mem_cons.mpr ⟨⟨show (20 : Nat) < 100 from by decide, nf0⟩, (fun _ h => (by cases h))⟩
set_option maxHeartbeats 4000000 in
theorem vc_Sy_compileSum_at_k4_4_0 (kind_0 : Int) (number_0 : Int) (f3 : (kind_0 ≠ 3) ∨ (number_0 ≤ 9999)) (kz_0_6 : 0 ≤ kind_0 ∧ kind_0 ≤ 127) (kz_0_8 : 0 ≤ number_0 ∧ number_0 ≤ 1000000) : (kind_0 ≠ 3) ∨ (number_0 ≤ 9999) := by
  first
    | omega
  
def o_Sy_compileSum_at_k4_4 : or_T := (79, 12, [(0, (2, 0, 0, [11]))], [(20, [3], [50, 2, 0, 6, 8, 3, 7, 7, 3, 2, 0, 6, 0, 3, 0, 3, 2, 0, 8, 0, 9999]), (24, [0, 3], [])], [], [], [(20, [0], [50, 2, 0, 6, 8, 3, 7, 7, 3, 2, 0, 6, 0, 3, 0, 3, 2, 0, 8, 0, 9999])], [], [])
theorem oo_Sy_compileSum_at_k4_4 {kA : Nat → ClassId} : or_ok PRD kA GG o_Sy_compileSum_at_k4_4 := by
  refine or_mk fun A ta ws vs hD hth hl => ?_
  intro t0 r0 f3 f4
  replace f3 := shm_1840 f3
  replace f4 := shm_5 f4
  have q3 : n_v vs 3 = n_v vs 0 := f4.symm
  simp only [q3] at f3
  have kz_0_6 := fdq_313 hD hth r0
  have kz_0_8 := fdq_314 hD hth r0
  have nf0 : fc_1 PRD (20, [0], [50, 2, 0, 6, 8, 3, 7, 7, 3, 2, 0, 6, 0, 3, 0, 3, 2, 0, 8, 0, 9999]) ws (vs) := ⟨nf_in hl rfl, sgq_1840 (vc_Sy_compileSum_at_k4_4_0 (w_fi ws (n_v vs 0) 6) (w_fi ws (n_v vs 0) 8) f3 kz_0_6 kz_0_8)⟩
  refine ⟨(fun _ h => (by cases h)), [], trivial, ?_, (fun _ h => (by cases h))⟩
  rw [List.append_nil]
  exact List.forall_mem_cons.mpr ⟨⟨show (20 : Nat) < 100 from by decide, nf0⟩, (fun _ h => (by cases h))⟩
set_option maxHeartbeats 4000000 in
theorem vc_Sy_compileSum_at_k4_5_0 (x12 : Int) (x14 : Int) (k12 : 3 ≤ x12 ∧ x12 ≤ 3) (k14 : 0 ≤ x14 ∧ x14 ≤ 0) : (0 ≤ x12) ∧ ((0 ≤ x14) ∧ (((x12 * 65536) + x14) ≤ 851970)) := by
  first
    | omega
  
def o_Sy_compileSum_at_k4_5 : or_T := (69, 15, [(12, (0, 3, 3, [])), (14, (0, 0, 0, []))], [], [], [], [(20, [12, 14], [50, 0, 0, 2, 6, 0, 2, 0, 0, 1, 0, 2, 6, 0, 2, 0, 0, 1, 1, 0, 10, 4, 6, 6, 2, 1, 0, 0, 65536, 1, 1, 0, 851970])], [], [])
theorem oo_Sy_compileSum_at_k4_5 {kA : Nat → ClassId} : or_ok PRD kA GG o_Sy_compileSum_at_k4_5 := by
  refine or_mk fun A ta ws vs hD hth hl => ?_
  intro t12 k12 t14 k14
  have nf0 : fc_1 PRD (20, [12, 14], [50, 0, 0, 2, 6, 0, 2, 0, 0, 1, 0, 2, 6, 0, 2, 0, 0, 1, 1, 0, 10, 4, 6, 6, 2, 1, 0, 0, 65536, 1, 1, 0, 851970]) ws (vs) := ⟨nf_in hl rfl, sgq_493 (vc_Sy_compileSum_at_k4_5_0 (v_iv (n_v vs 12)) (v_iv (n_v vs 14)) k12 k14)⟩
  refine ⟨(fun _ h => (by cases h)), [], trivial, ?_, (fun _ h => (by cases h))⟩
  rw [List.append_nil]
  exact List.forall_mem_cons.mpr ⟨⟨show (20 : Nat) < 100 from by decide, nf0⟩, (fun _ h => (by cases h))⟩
set_option maxHeartbeats 4000000 in
theorem vc_Sy_compileSum_at_k4_6_0 (kind_0 : Int) (number_0 : Int) (f1 : (kind_0 ≠ 3) ∨ (number_0 ≤ 9999)) (kz_0_6 : 0 ≤ kind_0 ∧ kind_0 ≤ 127) (kz_0_8 : 0 ≤ number_0 ∧ number_0 ≤ 1000000) : (kind_0 ≠ 3) ∨ (number_0 ≤ 9999) := by
  first
    | omega
  
def o_Sy_compileSum_at_k4_6 : or_T := (65, 15, [(0, (2, 0, 0, [11]))], [(24, [0, 3], []), (20, [3], [50, 2, 0, 6, 8, 3, 7, 7, 3, 2, 0, 6, 0, 3, 0, 3, 2, 0, 8, 0, 9999])], [], [], [(20, [0], [50, 2, 0, 6, 8, 3, 7, 7, 3, 2, 0, 6, 0, 3, 0, 3, 2, 0, 8, 0, 9999])], [], [])
theorem oo_Sy_compileSum_at_k4_6 {kA : Nat → ClassId} : or_ok PRD kA GG o_Sy_compileSum_at_k4_6 := by
  refine or_mk fun A ta ws vs hD hth hl => ?_
  intro t0 r0 f0 f1
  replace f0 := shm_5 f0
  replace f1 := shm_1840 f1
  have q3 : n_v vs 3 = n_v vs 0 := f0.symm
  simp only [q3] at f1
  have kz_0_6 := fdq_313 hD hth r0
  have kz_0_8 := fdq_314 hD hth r0
  have nf0 : fc_1 PRD (20, [0], [50, 2, 0, 6, 8, 3, 7, 7, 3, 2, 0, 6, 0, 3, 0, 3, 2, 0, 8, 0, 9999]) ws (vs) := ⟨nf_in hl rfl, sgq_1840 (vc_Sy_compileSum_at_k4_6_0 (w_fi ws (n_v vs 0) 6) (w_fi ws (n_v vs 0) 8) f1 kz_0_6 kz_0_8)⟩
  refine ⟨(fun _ h => (by cases h)), [], trivial, ?_, (fun _ h => (by cases h))⟩
  rw [List.append_nil]
  exact List.forall_mem_cons.mpr ⟨⟨show (20 : Nat) < 100 from by decide, nf0⟩, (fun _ h => (by cases h))⟩
def n_Sy_compileSum_at_k4_an : List an_T := [(12, [(0, (2, 0, 0, [11])), (1, (0, 4, 4, [])), (2, (0, 0, 2000, []))], [], (0, 0), [(0, 0, 99988), (1, 5, 2000), (0, 0, 100000)], [], [((0, 3), (2, 0, 0, [109]))], [(2, 0, 0, [11]), (0, 4, 4, []), (2, 0, 0, [109])], 0, [], [(20, [3], [50, 2, 0, 6, 8, 3, 7, 7, 3, 2, 0, 6, 0, 3, 0, 3, 2, 0, 8, 0, 9999]), (24, [0, 3], [])])]
def t_Sy_compileSum_at_k4_ct : ct_L := [(1, 69, e_Sy_advance), (1, 128, e_Sy_emit), (10, 155, e_Sy_compileProduct_at_k4), (178, 155, e_Sy_compileProduct_at_k4)]
set_option maxRecDepth 100000 in
theorem c_Sy_compileSum_at_k4 {l : Launch} {D : va_G} {kA : Nat → ClassId} (h_Sy_advance : ct_ok PRD l D kA GG y_Sy_advance z_Sy_advance e_Sy_advance) (h_Sy_compileProduct_at_k4 : ct_ok PRD l D kA GG y_Sy_compileProduct_at_k4 z_Sy_compileProduct_at_k4 e_Sy_compileProduct_at_k4) (h_Sy_emit : ct_ok PRD l D kA GG y_Sy_emit z_Sy_emit e_Sy_emit) : ct_ok PRD l D kA GG y_Sy_compileSum_at_k4 z_Sy_compileSum_at_k4 e_Sy_compileSum_at_k4 := chk_all_ok (FT := [(31, 11, 6)]) (PT := []) (CT := t_Sy_compileSum_at_k4_ct) (KT := []) (NT := []) (AN := n_Sy_compileSum_at_k4_an) (OT := [o_Sy_compileSum_at_k4_0, o_Sy_compileSum_at_k4_1, o_Sy_compileSum_at_k4_2, o_Sy_compileSum_at_k4_3, o_Sy_compileSum_at_k4_4, o_Sy_compileSum_at_k4_5, o_Sy_compileSum_at_k4_6]) 3 256 (List.forall_mem_cons.mpr ⟨oo_Sy_compileSum_at_k4_0, List.forall_mem_cons.mpr ⟨oo_Sy_compileSum_at_k4_1, List.forall_mem_cons.mpr ⟨oo_Sy_compileSum_at_k4_2, List.forall_mem_cons.mpr ⟨oo_Sy_compileSum_at_k4_3, List.forall_mem_cons.mpr ⟨oo_Sy_compileSum_at_k4_4, List.forall_mem_cons.mpr ⟨oo_Sy_compileSum_at_k4_5, List.forall_mem_cons.mpr ⟨oo_Sy_compileSum_at_k4_6, List.forall_mem_nil _⟩⟩⟩⟩⟩⟩⟩) (by decide +kernel) ⟨List.forall_mem_cons.mpr ⟨gf_Sy_31, List.forall_mem_nil _⟩, List.forall_mem_nil _, List.forall_mem_cons.mpr ⟨cl_virtual (y := y_Sy_advance) (ci := 11) rfl rfl ⟨_, _, rfl⟩ (by decide +kernel) h_Sy_advance wm_2158 wm_23 wm_2155 wm_2157 wv_10_10 ⟨by decide, by decide, by decide +kernel⟩ (by decide), List.forall_mem_cons.mpr ⟨cl_virtual (y := y_Sy_emit) (ci := 11) rfl rfl ⟨_, _, rfl⟩ (by decide +kernel) h_Sy_emit wm_2258 wm_23 wm_2255 wm_2257 wv_11_2 ⟨by decide, by decide, by decide +kernel⟩ (by decide), List.forall_mem_cons.mpr ⟨cl_virtual (y := y_Sy_compileProduct_at_k4) (ci := 11) rfl rfl ⟨_, _, rfl⟩ (by decide +kernel) h_Sy_compileProduct_at_k4 wm_2270 wm_23 wm_2267 wm_2269 wv_11_5 ⟨by decide, by decide, by decide +kernel⟩ (by decide), List.forall_mem_cons.mpr ⟨cl_virtual (y := y_Sy_compileProduct_at_k4) (ci := 11) rfl rfl ⟨_, _, rfl⟩ (by decide +kernel) h_Sy_compileProduct_at_k4 wm_2270 wm_23 wm_2267 wm_2269 wv_11_5 ⟨by decide, by decide, by decide +kernel⟩ (by decide), List.forall_mem_nil _⟩⟩⟩⟩, List.forall_mem_nil _, List.forall_mem_nil _, GG_pl⟩ (by decide +kernel)
def o_Sy_compileSum_at_k5_0 : or_T := (12, 5, [], [], [], [], [(24, [0, 0], [])], [], [])
theorem oo_Sy_compileSum_at_k5_0 {kA : Nat → ClassId} : or_ok PRD kA GG o_Sy_compileSum_at_k5_0 := by
  refine or_mk fun A ta ws vs hD hth hl => ?_
  have nf0 : fc_1 PRD (24, [0, 0], []) ws (vs) := by
    refine ⟨nf_in hl rfl, sgq_1 ?_⟩
    · show n_v vs 0 = n_v vs 0
      first | rfl | simp only [true_and]
  refine ⟨(fun _ h => (by cases h)), [], trivial, ?_, (fun _ h => (by cases h))⟩
  rw [List.append_nil]
  exact List.forall_mem_cons.mpr ⟨⟨show (24 : Nat) < 100 from by decide, nf0⟩, (fun _ h => (by cases h))⟩
set_option maxHeartbeats 4000000 in
theorem vc_Sy_compileSum_at_k5_1_0 (kind_0 : Int) (number_0 : Int) (f0 : (kind_0 ≠ 3) ∨ (number_0 ≤ 9999)) (kz_0_6 : 0 ≤ kind_0 ∧ kind_0 ≤ 127) (kz_0_8 : 0 ≤ number_0 ∧ number_0 ≤ 1000000) : (kind_0 ≠ 3) ∨ (number_0 ≤ 9999) := by
  first
    | omega
  
def o_Sy_compileSum_at_k5_1 : or_T := (79, 9, [(0, (2, 0, 0, [11]))], [(20, [3], [50, 2, 0, 6, 8, 3, 7, 7, 3, 2, 0, 6, 0, 3, 0, 3, 2, 0, 8, 0, 9999]), (24, [0, 3], [])], [], [], [(20, [0], [50, 2, 0, 6, 8, 3, 7, 7, 3, 2, 0, 6, 0, 3, 0, 3, 2, 0, 8, 0, 9999])], [], [])
theorem oo_Sy_compileSum_at_k5_1 {kA : Nat → ClassId} : or_ok PRD kA GG o_Sy_compileSum_at_k5_1 := by
  refine or_mk fun A ta ws vs hD hth hl => ?_
  intro t0 r0 f0 f1
  replace f0 := shm_1840 f0
  replace f1 := shm_5 f1
  have q3 : n_v vs 3 = n_v vs 0 := f1.symm
  simp only [q3] at f0
  have kz_0_6 := fdq_313 hD hth r0
  have kz_0_8 := fdq_314 hD hth r0
  have nf0 : fc_1 PRD (20, [0], [50, 2, 0, 6, 8, 3, 7, 7, 3, 2, 0, 6, 0, 3, 0, 3, 2, 0, 8, 0, 9999]) ws (vs) := ⟨nf_in hl rfl, sgq_1840 (vc_Sy_compileSum_at_k5_1_0 (w_fi ws (n_v vs 0) 6) (w_fi ws (n_v vs 0) 8) f0 kz_0_6 kz_0_8)⟩
  refine ⟨(fun _ h => (by cases h)), [], trivial, ?_, (fun _ h => (by cases h))⟩
  rw [List.append_nil]
  exact List.forall_mem_cons.mpr ⟨⟨show (20 : Nat) < 100 from by decide, nf0⟩, (fun _ h => (by cases h))⟩
set_option maxHeartbeats 4000000 in
theorem vc_Sy_compileSum_at_k5_2_0 (x11 : Int) (x13 : Int) (k11 : 2 ≤ x11 ∧ x11 ≤ 2) (k13 : 0 ≤ x13 ∧ x13 ≤ 0) : (0 ≤ x11) ∧ ((0 ≤ x13) ∧ (((x11 * 65536) + x13) ≤ 851970)) := by
  first
    | omega
  
def o_Sy_compileSum_at_k5_2 : or_T := (69, 14, [(11, (0, 2, 2, [])), (13, (0, 0, 0, []))], [], [], [], [(20, [11, 13], [50, 0, 0, 2, 6, 0, 2, 0, 0, 1, 0, 2, 6, 0, 2, 0, 0, 1, 1, 0, 10, 4, 6, 6, 2, 1, 0, 0, 65536, 1, 1, 0, 851970])], [], [])
theorem oo_Sy_compileSum_at_k5_2 {kA : Nat → ClassId} : or_ok PRD kA GG o_Sy_compileSum_at_k5_2 := by
  refine or_mk fun A ta ws vs hD hth hl => ?_
  intro t11 k11 t13 k13
  have nf0 : fc_1 PRD (20, [11, 13], [50, 0, 0, 2, 6, 0, 2, 0, 0, 1, 0, 2, 6, 0, 2, 0, 0, 1, 1, 0, 10, 4, 6, 6, 2, 1, 0, 0, 65536, 1, 1, 0, 851970]) ws (vs) := ⟨nf_in hl rfl, sgq_493 (vc_Sy_compileSum_at_k5_2_0 (v_iv (n_v vs 11)) (v_iv (n_v vs 13)) k11 k13)⟩
  refine ⟨(fun _ h => (by cases h)), [], trivial, ?_, (fun _ h => (by cases h))⟩
  rw [List.append_nil]
  exact List.forall_mem_cons.mpr ⟨⟨show (20 : Nat) < 100 from by decide, nf0⟩, (fun _ h => (by cases h))⟩
set_option maxHeartbeats 4000000 in
theorem vc_Sy_compileSum_at_k5_3_0 (kind_0 : Int) (number_0 : Int) (f1 : (kind_0 ≠ 3) ∨ (number_0 ≤ 9999)) (kz_0_6 : 0 ≤ kind_0 ∧ kind_0 ≤ 127) (kz_0_8 : 0 ≤ number_0 ∧ number_0 ≤ 1000000) : (kind_0 ≠ 3) ∨ (number_0 ≤ 9999) := by
  first
    | omega
  
def o_Sy_compileSum_at_k5_3 : or_T := (65, 14, [(0, (2, 0, 0, [11]))], [(24, [0, 3], []), (20, [3], [50, 2, 0, 6, 8, 3, 7, 7, 3, 2, 0, 6, 0, 3, 0, 3, 2, 0, 8, 0, 9999])], [], [], [(20, [0], [50, 2, 0, 6, 8, 3, 7, 7, 3, 2, 0, 6, 0, 3, 0, 3, 2, 0, 8, 0, 9999])], [], [])
theorem oo_Sy_compileSum_at_k5_3 {kA : Nat → ClassId} : or_ok PRD kA GG o_Sy_compileSum_at_k5_3 := by
  refine or_mk fun A ta ws vs hD hth hl => ?_
  intro t0 r0 f0 f1
  replace f0 := shm_5 f0
  replace f1 := shm_1840 f1
  have q3 : n_v vs 3 = n_v vs 0 := f0.symm
  simp only [q3] at f1
  have kz_0_6 := fdq_313 hD hth r0
  have kz_0_8 := fdq_314 hD hth r0
  have nf0 : fc_1 PRD (20, [0], [50, 2, 0, 6, 8, 3, 7, 7, 3, 2, 0, 6, 0, 3, 0, 3, 2, 0, 8, 0, 9999]) ws (vs) := ⟨nf_in hl rfl, sgq_1840 (vc_Sy_compileSum_at_k5_3_0 (w_fi ws (n_v vs 0) 6) (w_fi ws (n_v vs 0) 8) f1 kz_0_6 kz_0_8)⟩
  refine ⟨(fun _ h => (by cases h)), [], trivial, ?_, (fun _ h => (by cases h))⟩
  rw [List.append_nil]
  exact List.forall_mem_cons.mpr ⟨⟨show (20 : Nat) < 100 from by decide, nf0⟩, (fun _ h => (by cases h))⟩
set_option maxHeartbeats 4000000 in
theorem vc_Sy_compileSum_at_k5_4_0 (kind_0 : Int) (number_0 : Int) (f3 : (kind_0 ≠ 3) ∨ (number_0 ≤ 9999)) (kz_0_6 : 0 ≤ kind_0 ∧ kind_0 ≤ 127) (kz_0_8 : 0 ≤ number_0 ∧ number_0 ≤ 1000000) : (kind_0 ≠ 3) ∨ (number_0 ≤ 9999) := by
  first
    | omega
  
def o_Sy_compileSum_at_k5_4 : or_T := (79, 12, [(0, (2, 0, 0, [11]))], [(20, [3], [50, 2, 0, 6, 8, 3, 7, 7, 3, 2, 0, 6, 0, 3, 0, 3, 2, 0, 8, 0, 9999]), (24, [0, 3], [])], [], [], [(20, [0], [50, 2, 0, 6, 8, 3, 7, 7, 3, 2, 0, 6, 0, 3, 0, 3, 2, 0, 8, 0, 9999])], [], [])
theorem oo_Sy_compileSum_at_k5_4 {kA : Nat → ClassId} : or_ok PRD kA GG o_Sy_compileSum_at_k5_4 := by
  refine or_mk fun A ta ws vs hD hth hl => ?_
  intro t0 r0 f3 f4
  replace f3 := shm_1840 f3
  replace f4 := shm_5 f4
  have q3 : n_v vs 3 = n_v vs 0 := f4.symm
  simp only [q3] at f3
  have kz_0_6 := fdq_313 hD hth r0
  have kz_0_8 := fdq_314 hD hth r0
  have nf0 : fc_1 PRD (20, [0], [50, 2, 0, 6, 8, 3, 7, 7, 3, 2, 0, 6, 0, 3, 0, 3, 2, 0, 8, 0, 9999]) ws (vs) := ⟨nf_in hl rfl, sgq_1840 (vc_Sy_compileSum_at_k5_4_0 (w_fi ws (n_v vs 0) 6) (w_fi ws (n_v vs 0) 8) f3 kz_0_6 kz_0_8)⟩
  refine ⟨(fun _ h => (by cases h)), [], trivial, ?_, (fun _ h => (by cases h))⟩
  rw [List.append_nil]
  exact List.forall_mem_cons.mpr ⟨⟨show (20 : Nat) < 100 from by decide, nf0⟩, (fun _ h => (by cases h))⟩
set_option maxHeartbeats 4000000 in
theorem vc_Sy_compileSum_at_k5_5_0 (x12 : Int) (x14 : Int) (k12 : 3 ≤ x12 ∧ x12 ≤ 3) (k14 : 0 ≤ x14 ∧ x14 ≤ 0) : (0 ≤ x12) ∧ ((0 ≤ x14) ∧ (((x12 * 65536) + x14) ≤ 851970)) := by
  first
    | omega
  
def o_Sy_compileSum_at_k5_5 : or_T := (69, 15, [(12, (0, 3, 3, [])), (14, (0, 0, 0, []))], [], [], [], [(20, [12, 14], [50, 0, 0, 2, 6, 0, 2, 0, 0, 1, 0, 2, 6, 0, 2, 0, 0, 1, 1, 0, 10, 4, 6, 6, 2, 1, 0, 0, 65536, 1, 1, 0, 851970])], [], [])
theorem oo_Sy_compileSum_at_k5_5 {kA : Nat → ClassId} : or_ok PRD kA GG o_Sy_compileSum_at_k5_5 := by
  refine or_mk fun A ta ws vs hD hth hl => ?_
  intro t12 k12 t14 k14
  have nf0 : fc_1 PRD (20, [12, 14], [50, 0, 0, 2, 6, 0, 2, 0, 0, 1, 0, 2, 6, 0, 2, 0, 0, 1, 1, 0, 10, 4, 6, 6, 2, 1, 0, 0, 65536, 1, 1, 0, 851970]) ws (vs) := ⟨nf_in hl rfl, sgq_493 (vc_Sy_compileSum_at_k5_5_0 (v_iv (n_v vs 12)) (v_iv (n_v vs 14)) k12 k14)⟩
  refine ⟨(fun _ h => (by cases h)), [], trivial, ?_, (fun _ h => (by cases h))⟩
  rw [List.append_nil]
  exact List.forall_mem_cons.mpr ⟨⟨show (20 : Nat) < 100 from by decide, nf0⟩, (fun _ h => (by cases h))⟩
set_option maxHeartbeats 4000000 in
theorem vc_Sy_compileSum_at_k5_6_0 (kind_0 : Int) (number_0 : Int) (f1 : (kind_0 ≠ 3) ∨ (number_0 ≤ 9999)) (kz_0_6 : 0 ≤ kind_0 ∧ kind_0 ≤ 127) (kz_0_8 : 0 ≤ number_0 ∧ number_0 ≤ 1000000) : (kind_0 ≠ 3) ∨ (number_0 ≤ 9999) := by
  first
    | omega
  
def o_Sy_compileSum_at_k5_6 : or_T := (65, 15, [(0, (2, 0, 0, [11]))], [(24, [0, 3], []), (20, [3], [50, 2, 0, 6, 8, 3, 7, 7, 3, 2, 0, 6, 0, 3, 0, 3, 2, 0, 8, 0, 9999])], [], [], [(20, [0], [50, 2, 0, 6, 8, 3, 7, 7, 3, 2, 0, 6, 0, 3, 0, 3, 2, 0, 8, 0, 9999])], [], [])
theorem oo_Sy_compileSum_at_k5_6 {kA : Nat → ClassId} : or_ok PRD kA GG o_Sy_compileSum_at_k5_6 := by
  refine or_mk fun A ta ws vs hD hth hl => ?_
  intro t0 r0 f0 f1
  replace f0 := shm_5 f0
  replace f1 := shm_1840 f1
  have q3 : n_v vs 3 = n_v vs 0 := f0.symm
  simp only [q3] at f1
  have kz_0_6 := fdq_313 hD hth r0
  have kz_0_8 := fdq_314 hD hth r0
  have nf0 : fc_1 PRD (20, [0], [50, 2, 0, 6, 8, 3, 7, 7, 3, 2, 0, 6, 0, 3, 0, 3, 2, 0, 8, 0, 9999]) ws (vs) := ⟨nf_in hl rfl, sgq_1840 (vc_Sy_compileSum_at_k5_6_0 (w_fi ws (n_v vs 0) 6) (w_fi ws (n_v vs 0) 8) f1 kz_0_6 kz_0_8)⟩
  refine ⟨(fun _ h => (by cases h)), [], trivial, ?_, (fun _ h => (by cases h))⟩
  rw [List.append_nil]
  exact List.forall_mem_cons.mpr ⟨⟨show (20 : Nat) < 100 from by decide, nf0⟩, (fun _ h => (by cases h))⟩
def n_Sy_compileSum_at_k5_an : List an_T := [(12, [(0, (2, 0, 0, [11])), (1, (0, 5, 5, [])), (2, (0, 0, 2000, []))], [], (0, 0), [(0, 0, 99988), (1, 5, 2000), (0, 0, 100000)], [], [((0, 3), (2, 0, 0, [109]))], [(2, 0, 0, [11]), (0, 5, 5, []), (2, 0, 0, [109])], 0, [], [(20, [3], [50, 2, 0, 6, 8, 3, 7, 7, 3, 2, 0, 6, 0, 3, 0, 3, 2, 0, 8, 0, 9999]), (24, [0, 3], [])])]
def t_Sy_compileSum_at_k5_ct : ct_L := [(1, 69, e_Sy_advance), (1, 128, e_Sy_emit), (10, 155, e_Sy_compileProduct_at_k5), (178, 155, e_Sy_compileProduct_at_k5)]
set_option maxRecDepth 100000 in
theorem c_Sy_compileSum_at_k5 {l : Launch} {D : va_G} {kA : Nat → ClassId} (h_Sy_advance : ct_ok PRD l D kA GG y_Sy_advance z_Sy_advance e_Sy_advance) (h_Sy_compileProduct_at_k5 : ct_ok PRD l D kA GG y_Sy_compileProduct_at_k5 z_Sy_compileProduct_at_k5 e_Sy_compileProduct_at_k5) (h_Sy_emit : ct_ok PRD l D kA GG y_Sy_emit z_Sy_emit e_Sy_emit) : ct_ok PRD l D kA GG y_Sy_compileSum_at_k5 z_Sy_compileSum_at_k5 e_Sy_compileSum_at_k5 := chk_all_ok (FT := [(31, 11, 6)]) (PT := []) (CT := t_Sy_compileSum_at_k5_ct) (KT := []) (NT := []) (AN := n_Sy_compileSum_at_k5_an) (OT := [o_Sy_compileSum_at_k5_0, o_Sy_compileSum_at_k5_1, o_Sy_compileSum_at_k5_2, o_Sy_compileSum_at_k5_3, o_Sy_compileSum_at_k5_4, o_Sy_compileSum_at_k5_5, o_Sy_compileSum_at_k5_6]) 3 256 (List.forall_mem_cons.mpr ⟨oo_Sy_compileSum_at_k5_0, List.forall_mem_cons.mpr ⟨oo_Sy_compileSum_at_k5_1, List.forall_mem_cons.mpr ⟨oo_Sy_compileSum_at_k5_2, List.forall_mem_cons.mpr ⟨oo_Sy_compileSum_at_k5_3, List.forall_mem_cons.mpr ⟨oo_Sy_compileSum_at_k5_4, List.forall_mem_cons.mpr ⟨oo_Sy_compileSum_at_k5_5, List.forall_mem_cons.mpr ⟨oo_Sy_compileSum_at_k5_6, List.forall_mem_nil _⟩⟩⟩⟩⟩⟩⟩) (by decide +kernel) ⟨List.forall_mem_cons.mpr ⟨gf_Sy_31, List.forall_mem_nil _⟩, List.forall_mem_nil _, List.forall_mem_cons.mpr ⟨cl_virtual (y := y_Sy_advance) (ci := 11) rfl rfl ⟨_, _, rfl⟩ (by decide +kernel) h_Sy_advance wm_2158 wm_23 wm_2155 wm_2157 wv_10_10 ⟨by decide, by decide, by decide +kernel⟩ (by decide), List.forall_mem_cons.mpr ⟨cl_virtual (y := y_Sy_emit) (ci := 11) rfl rfl ⟨_, _, rfl⟩ (by decide +kernel) h_Sy_emit wm_2258 wm_23 wm_2255 wm_2257 wv_11_2 ⟨by decide, by decide, by decide +kernel⟩ (by decide), List.forall_mem_cons.mpr ⟨cl_virtual (y := y_Sy_compileProduct_at_k5) (ci := 11) rfl rfl ⟨_, _, rfl⟩ (by decide +kernel) h_Sy_compileProduct_at_k5 wm_2270 wm_23 wm_2267 wm_2269 wv_11_5 ⟨by decide, by decide, by decide +kernel⟩ (by decide), List.forall_mem_cons.mpr ⟨cl_virtual (y := y_Sy_compileProduct_at_k5) (ci := 11) rfl rfl ⟨_, _, rfl⟩ (by decide +kernel) h_Sy_compileProduct_at_k5 wm_2270 wm_23 wm_2267 wm_2269 wv_11_5 ⟨by decide, by decide, by decide +kernel⟩ (by decide), List.forall_mem_nil _⟩⟩⟩⟩, List.forall_mem_nil _, List.forall_mem_nil _, GG_pl⟩ (by decide +kernel)
def o_Sy_compileSum_at_k6_0 : or_T := (12, 5, [], [], [], [], [(24, [0, 0], [])], [], [])
theorem oo_Sy_compileSum_at_k6_0 {kA : Nat → ClassId} : or_ok PRD kA GG o_Sy_compileSum_at_k6_0 := by
  refine or_mk fun A ta ws vs hD hth hl => ?_
  have nf0 : fc_1 PRD (24, [0, 0], []) ws (vs) := by
    refine ⟨nf_in hl rfl, sgq_1 ?_⟩
    · show n_v vs 0 = n_v vs 0
      first | rfl | simp only [true_and]
  refine ⟨(fun _ h => (by cases h)), [], trivial, ?_, (fun _ h => (by cases h))⟩
  rw [List.append_nil]
  exact List.forall_mem_cons.mpr ⟨⟨show (24 : Nat) < 100 from by decide, nf0⟩, (fun _ h => (by cases h))⟩
set_option maxHeartbeats 4000000 in
theorem vc_Sy_compileSum_at_k6_1_0 (kind_0 : Int) (number_0 : Int) (f0 : (kind_0 ≠ 3) ∨ (number_0 ≤ 9999)) (kz_0_6 : 0 ≤ kind_0 ∧ kind_0 ≤ 127) (kz_0_8 : 0 ≤ number_0 ∧ number_0 ≤ 1000000) : (kind_0 ≠ 3) ∨ (number_0 ≤ 9999) := by
  first
    | omega
  
def o_Sy_compileSum_at_k6_1 : or_T := (79, 9, [(0, (2, 0, 0, [11]))], [(20, [3], [50, 2, 0, 6, 8, 3, 7, 7, 3, 2, 0, 6, 0, 3, 0, 3, 2, 0, 8, 0, 9999]), (24, [0, 3], [])], [], [], [(20, [0], [50, 2, 0, 6, 8, 3, 7, 7, 3, 2, 0, 6, 0, 3, 0, 3, 2, 0, 8, 0, 9999])], [], [])
theorem oo_Sy_compileSum_at_k6_1 {kA : Nat → ClassId} : or_ok PRD kA GG o_Sy_compileSum_at_k6_1 := by
  refine or_mk fun A ta ws vs hD hth hl => ?_
  intro t0 r0 f0 f1
  replace f0 := shm_1840 f0
  replace f1 := shm_5 f1
  have q3 : n_v vs 3 = n_v vs 0 := f1.symm
  simp only [q3] at f0
  have kz_0_6 := fdq_313 hD hth r0
  have kz_0_8 := fdq_314 hD hth r0
  have nf0 : fc_1 PRD (20, [0], [50, 2, 0, 6, 8, 3, 7, 7, 3, 2, 0, 6, 0, 3, 0, 3, 2, 0, 8, 0, 9999]) ws (vs) := ⟨nf_in hl rfl, sgq_1840 (vc_Sy_compileSum_at_k6_1_0 (w_fi ws (n_v vs 0) 6) (w_fi ws (n_v vs 0) 8) f0 kz_0_6 kz_0_8)⟩
  refine ⟨(fun _ h => (by cases h)), [], trivial, ?_, (fun _ h => (by cases h))⟩
  rw [List.append_nil]
  exact List.forall_mem_cons.mpr ⟨⟨show (20 : Nat) < 100 from by decide, nf0⟩, (fun _ h => (by cases h))⟩
set_option maxHeartbeats 4000000 in
theorem vc_Sy_compileSum_at_k6_2_0 (x11 : Int) (x13 : Int) (k11 : 2 ≤ x11 ∧ x11 ≤ 2) (k13 : 0 ≤ x13 ∧ x13 ≤ 0) : (0 ≤ x11) ∧ ((0 ≤ x13) ∧ (((x11 * 65536) + x13) ≤ 851970)) := by
  first
    | omega
  
def o_Sy_compileSum_at_k6_2 : or_T := (69, 14, [(11, (0, 2, 2, [])), (13, (0, 0, 0, []))], [], [], [], [(20, [11, 13], [50, 0, 0, 2, 6, 0, 2, 0, 0, 1, 0, 2, 6, 0, 2, 0, 0, 1, 1, 0, 10, 4, 6, 6, 2, 1, 0, 0, 65536, 1, 1, 0, 851970])], [], [])
theorem oo_Sy_compileSum_at_k6_2 {kA : Nat → ClassId} : or_ok PRD kA GG o_Sy_compileSum_at_k6_2 := by
  refine or_mk fun A ta ws vs hD hth hl => ?_
  intro t11 k11 t13 k13
  have nf0 : fc_1 PRD (20, [11, 13], [50, 0, 0, 2, 6, 0, 2, 0, 0, 1, 0, 2, 6, 0, 2, 0, 0, 1, 1, 0, 10, 4, 6, 6, 2, 1, 0, 0, 65536, 1, 1, 0, 851970]) ws (vs) := ⟨nf_in hl rfl, sgq_493 (vc_Sy_compileSum_at_k6_2_0 (v_iv (n_v vs 11)) (v_iv (n_v vs 13)) k11 k13)⟩
  refine ⟨(fun _ h => (by cases h)), [], trivial, ?_, (fun _ h => (by cases h))⟩
  rw [List.append_nil]
  exact List.forall_mem_cons.mpr ⟨⟨show (20 : Nat) < 100 from by decide, nf0⟩, (fun _ h => (by cases h))⟩
set_option maxHeartbeats 4000000 in
theorem vc_Sy_compileSum_at_k6_3_0 (kind_0 : Int) (number_0 : Int) (f1 : (kind_0 ≠ 3) ∨ (number_0 ≤ 9999)) (kz_0_6 : 0 ≤ kind_0 ∧ kind_0 ≤ 127) (kz_0_8 : 0 ≤ number_0 ∧ number_0 ≤ 1000000) : (kind_0 ≠ 3) ∨ (number_0 ≤ 9999) := by
  first
    | omega
  
def o_Sy_compileSum_at_k6_3 : or_T := (65, 14, [(0, (2, 0, 0, [11]))], [(24, [0, 3], []), (20, [3], [50, 2, 0, 6, 8, 3, 7, 7, 3, 2, 0, 6, 0, 3, 0, 3, 2, 0, 8, 0, 9999])], [], [], [(20, [0], [50, 2, 0, 6, 8, 3, 7, 7, 3, 2, 0, 6, 0, 3, 0, 3, 2, 0, 8, 0, 9999])], [], [])
theorem oo_Sy_compileSum_at_k6_3 {kA : Nat → ClassId} : or_ok PRD kA GG o_Sy_compileSum_at_k6_3 := by
  refine or_mk fun A ta ws vs hD hth hl => ?_
  intro t0 r0 f0 f1
  replace f0 := shm_5 f0
  replace f1 := shm_1840 f1
  have q3 : n_v vs 3 = n_v vs 0 := f0.symm
  simp only [q3] at f1
  have kz_0_6 := fdq_313 hD hth r0
  have kz_0_8 := fdq_314 hD hth r0
  have nf0 : fc_1 PRD (20, [0], [50, 2, 0, 6, 8, 3, 7, 7, 3, 2, 0, 6, 0, 3, 0, 3, 2, 0, 8, 0, 9999]) ws (vs) := ⟨nf_in hl rfl, sgq_1840 (vc_Sy_compileSum_at_k6_3_0 (w_fi ws (n_v vs 0) 6) (w_fi ws (n_v vs 0) 8) f1 kz_0_6 kz_0_8)⟩
  refine ⟨(fun _ h => (by cases h)), [], trivial, ?_, (fun _ h => (by cases h))⟩
  rw [List.append_nil]
  exact List.forall_mem_cons.mpr ⟨⟨show (20 : Nat) < 100 from by decide, nf0⟩, (fun _ h => (by cases h))⟩
set_option maxHeartbeats 4000000 in
theorem vc_Sy_compileSum_at_k6_4_0 (kind_0 : Int) (number_0 : Int) (f3 : (kind_0 ≠ 3) ∨ (number_0 ≤ 9999)) (kz_0_6 : 0 ≤ kind_0 ∧ kind_0 ≤ 127) (kz_0_8 : 0 ≤ number_0 ∧ number_0 ≤ 1000000) : (kind_0 ≠ 3) ∨ (number_0 ≤ 9999) := by
  first
    | omega
  
def o_Sy_compileSum_at_k6_4 : or_T := (79, 12, [(0, (2, 0, 0, [11]))], [(20, [3], [50, 2, 0, 6, 8, 3, 7, 7, 3, 2, 0, 6, 0, 3, 0, 3, 2, 0, 8, 0, 9999]), (24, [0, 3], [])], [], [], [(20, [0], [50, 2, 0, 6, 8, 3, 7, 7, 3, 2, 0, 6, 0, 3, 0, 3, 2, 0, 8, 0, 9999])], [], [])
theorem oo_Sy_compileSum_at_k6_4 {kA : Nat → ClassId} : or_ok PRD kA GG o_Sy_compileSum_at_k6_4 := by
  refine or_mk fun A ta ws vs hD hth hl => ?_
  intro t0 r0 f3 f4
  replace f3 := shm_1840 f3
  replace f4 := shm_5 f4
  have q3 : n_v vs 3 = n_v vs 0 := f4.symm
  simp only [q3] at f3
  have kz_0_6 := fdq_313 hD hth r0
  have kz_0_8 := fdq_314 hD hth r0
  have nf0 : fc_1 PRD (20, [0], [50, 2, 0, 6, 8, 3, 7, 7, 3, 2, 0, 6, 0, 3, 0, 3, 2, 0, 8, 0, 9999]) ws (vs) := ⟨nf_in hl rfl, sgq_1840 (vc_Sy_compileSum_at_k6_4_0 (w_fi ws (n_v vs 0) 6) (w_fi ws (n_v vs 0) 8) f3 kz_0_6 kz_0_8)⟩
  refine ⟨(fun _ h => (by cases h)), [], trivial, ?_, (fun _ h => (by cases h))⟩
  rw [List.append_nil]
  exact List.forall_mem_cons.mpr ⟨⟨show (20 : Nat) < 100 from by decide, nf0⟩, (fun _ h => (by cases h))⟩
set_option maxHeartbeats 4000000 in
theorem vc_Sy_compileSum_at_k6_5_0 (x12 : Int) (x14 : Int) (k12 : 3 ≤ x12 ∧ x12 ≤ 3) (k14 : 0 ≤ x14 ∧ x14 ≤ 0) : (0 ≤ x12) ∧ ((0 ≤ x14) ∧ (((x12 * 65536) + x14) ≤ 851970)) := by
  first
    | omega
  
def o_Sy_compileSum_at_k6_5 : or_T := (69, 15, [(12, (0, 3, 3, [])), (14, (0, 0, 0, []))], [], [], [], [(20, [12, 14], [50, 0, 0, 2, 6, 0, 2, 0, 0, 1, 0, 2, 6, 0, 2, 0, 0, 1, 1, 0, 10, 4, 6, 6, 2, 1, 0, 0, 65536, 1, 1, 0, 851970])], [], [])
theorem oo_Sy_compileSum_at_k6_5 {kA : Nat → ClassId} : or_ok PRD kA GG o_Sy_compileSum_at_k6_5 := by
  refine or_mk fun A ta ws vs hD hth hl => ?_
  intro t12 k12 t14 k14
  have nf0 : fc_1 PRD (20, [12, 14], [50, 0, 0, 2, 6, 0, 2, 0, 0, 1, 0, 2, 6, 0, 2, 0, 0, 1, 1, 0, 10, 4, 6, 6, 2, 1, 0, 0, 65536, 1, 1, 0, 851970]) ws (vs) := ⟨nf_in hl rfl, sgq_493 (vc_Sy_compileSum_at_k6_5_0 (v_iv (n_v vs 12)) (v_iv (n_v vs 14)) k12 k14)⟩
  refine ⟨(fun _ h => (by cases h)), [], trivial, ?_, (fun _ h => (by cases h))⟩
  rw [List.append_nil]
  exact List.forall_mem_cons.mpr ⟨⟨show (20 : Nat) < 100 from by decide, nf0⟩, (fun _ h => (by cases h))⟩
set_option maxHeartbeats 4000000 in
theorem vc_Sy_compileSum_at_k6_6_0 (kind_0 : Int) (number_0 : Int) (f1 : (kind_0 ≠ 3) ∨ (number_0 ≤ 9999)) (kz_0_6 : 0 ≤ kind_0 ∧ kind_0 ≤ 127) (kz_0_8 : 0 ≤ number_0 ∧ number_0 ≤ 1000000) : (kind_0 ≠ 3) ∨ (number_0 ≤ 9999) := by
  first
    | omega
  
def o_Sy_compileSum_at_k6_6 : or_T := (65, 15, [(0, (2, 0, 0, [11]))], [(24, [0, 3], []), (20, [3], [50, 2, 0, 6, 8, 3, 7, 7, 3, 2, 0, 6, 0, 3, 0, 3, 2, 0, 8, 0, 9999])], [], [], [(20, [0], [50, 2, 0, 6, 8, 3, 7, 7, 3, 2, 0, 6, 0, 3, 0, 3, 2, 0, 8, 0, 9999])], [], [])
theorem oo_Sy_compileSum_at_k6_6 {kA : Nat → ClassId} : or_ok PRD kA GG o_Sy_compileSum_at_k6_6 := by
  refine or_mk fun A ta ws vs hD hth hl => ?_
  intro t0 r0 f0 f1
  replace f0 := shm_5 f0
  replace f1 := shm_1840 f1
  have q3 : n_v vs 3 = n_v vs 0 := f0.symm
  simp only [q3] at f1
  have kz_0_6 := fdq_313 hD hth r0
  have kz_0_8 := fdq_314 hD hth r0
  have nf0 : fc_1 PRD (20, [0], [50, 2, 0, 6, 8, 3, 7, 7, 3, 2, 0, 6, 0, 3, 0, 3, 2, 0, 8, 0, 9999]) ws (vs) := ⟨nf_in hl rfl, sgq_1840 (vc_Sy_compileSum_at_k6_6_0 (w_fi ws (n_v vs 0) 6) (w_fi ws (n_v vs 0) 8) f1 kz_0_6 kz_0_8)⟩
  refine ⟨(fun _ h => (by cases h)), [], trivial, ?_, (fun _ h => (by cases h))⟩
  rw [List.append_nil]
  exact List.forall_mem_cons.mpr ⟨⟨show (20 : Nat) < 100 from by decide, nf0⟩, (fun _ h => (by cases h))⟩
def n_Sy_compileSum_at_k6_an : List an_T := [(12, [(0, (2, 0, 0, [11])), (1, (0, 6, 6, [])), (2, (0, 0, 2000, []))], [], (0, 0), [(0, 0, 99988), (1, 5, 2000), (0, 0, 100000)], [], [((0, 3), (2, 0, 0, [109]))], [(2, 0, 0, [11]), (0, 6, 6, []), (2, 0, 0, [109])], 0, [], [(20, [3], [50, 2, 0, 6, 8, 3, 7, 7, 3, 2, 0, 6, 0, 3, 0, 3, 2, 0, 8, 0, 9999]), (24, [0, 3], [])])]
def t_Sy_compileSum_at_k6_ct : ct_L := [(1, 69, e_Sy_advance), (1, 128, e_Sy_emit), (10, 155, e_Sy_compileProduct_at_k6), (178, 155, e_Sy_compileProduct_at_k6)]
set_option maxRecDepth 100000 in
theorem c_Sy_compileSum_at_k6 {l : Launch} {D : va_G} {kA : Nat → ClassId} (h_Sy_advance : ct_ok PRD l D kA GG y_Sy_advance z_Sy_advance e_Sy_advance) (h_Sy_compileProduct_at_k6 : ct_ok PRD l D kA GG y_Sy_compileProduct_at_k6 z_Sy_compileProduct_at_k6 e_Sy_compileProduct_at_k6) (h_Sy_emit : ct_ok PRD l D kA GG y_Sy_emit z_Sy_emit e_Sy_emit) : ct_ok PRD l D kA GG y_Sy_compileSum_at_k6 z_Sy_compileSum_at_k6 e_Sy_compileSum_at_k6 := chk_all_ok (FT := [(31, 11, 6)]) (PT := []) (CT := t_Sy_compileSum_at_k6_ct) (KT := []) (NT := []) (AN := n_Sy_compileSum_at_k6_an) (OT := [o_Sy_compileSum_at_k6_0, o_Sy_compileSum_at_k6_1, o_Sy_compileSum_at_k6_2, o_Sy_compileSum_at_k6_3, o_Sy_compileSum_at_k6_4, o_Sy_compileSum_at_k6_5, o_Sy_compileSum_at_k6_6]) 3 256 (List.forall_mem_cons.mpr ⟨oo_Sy_compileSum_at_k6_0, List.forall_mem_cons.mpr ⟨oo_Sy_compileSum_at_k6_1, List.forall_mem_cons.mpr ⟨oo_Sy_compileSum_at_k6_2, List.forall_mem_cons.mpr ⟨oo_Sy_compileSum_at_k6_3, List.forall_mem_cons.mpr ⟨oo_Sy_compileSum_at_k6_4, List.forall_mem_cons.mpr ⟨oo_Sy_compileSum_at_k6_5, List.forall_mem_cons.mpr ⟨oo_Sy_compileSum_at_k6_6, List.forall_mem_nil _⟩⟩⟩⟩⟩⟩⟩) (by decide +kernel) ⟨List.forall_mem_cons.mpr ⟨gf_Sy_31, List.forall_mem_nil _⟩, List.forall_mem_nil _, List.forall_mem_cons.mpr ⟨cl_virtual (y := y_Sy_advance) (ci := 11) rfl rfl ⟨_, _, rfl⟩ (by decide +kernel) h_Sy_advance wm_2158 wm_23 wm_2155 wm_2157 wv_10_10 ⟨by decide, by decide, by decide +kernel⟩ (by decide), List.forall_mem_cons.mpr ⟨cl_virtual (y := y_Sy_emit) (ci := 11) rfl rfl ⟨_, _, rfl⟩ (by decide +kernel) h_Sy_emit wm_2258 wm_23 wm_2255 wm_2257 wv_11_2 ⟨by decide, by decide, by decide +kernel⟩ (by decide), List.forall_mem_cons.mpr ⟨cl_virtual (y := y_Sy_compileProduct_at_k6) (ci := 11) rfl rfl ⟨_, _, rfl⟩ (by decide +kernel) h_Sy_compileProduct_at_k6 wm_2270 wm_23 wm_2267 wm_2269 wv_11_5 ⟨by decide, by decide, by decide +kernel⟩ (by decide), List.forall_mem_cons.mpr ⟨cl_virtual (y := y_Sy_compileProduct_at_k6) (ci := 11) rfl rfl ⟨_, _, rfl⟩ (by decide +kernel) h_Sy_compileProduct_at_k6 wm_2270 wm_23 wm_2267 wm_2269 wv_11_5 ⟨by decide, by decide, by decide +kernel⟩ (by decide), List.forall_mem_nil _⟩⟩⟩⟩, List.forall_mem_nil _, List.forall_mem_nil _, GG_pl⟩ (by decide +kernel)
def o_Sy_compileSum_at_k7_0 : or_T := (12, 5, [], [], [], [], [(24, [0, 0], [])], [], [])
theorem oo_Sy_compileSum_at_k7_0 {kA : Nat → ClassId} : or_ok PRD kA GG o_Sy_compileSum_at_k7_0 := by
  refine or_mk fun A ta ws vs hD hth hl => ?_
  have nf0 : fc_1 PRD (24, [0, 0], []) ws (vs) := by
    refine ⟨nf_in hl rfl, sgq_1 ?_⟩
    · show n_v vs 0 = n_v vs 0
      first | rfl | simp only [true_and]
  refine ⟨(fun _ h => (by cases h)), [], trivial, ?_, (fun _ h => (by cases h))⟩
  rw [List.append_nil]
  exact List.forall_mem_cons.mpr ⟨⟨show (24 : Nat) < 100 from by decide, nf0⟩, (fun _ h => (by cases h))⟩
set_option maxHeartbeats 4000000 in
theorem vc_Sy_compileSum_at_k7_1_0 (kind_0 : Int) (number_0 : Int) (f0 : (kind_0 ≠ 3) ∨ (number_0 ≤ 9999)) (kz_0_6 : 0 ≤ kind_0 ∧ kind_0 ≤ 127) (kz_0_8 : 0 ≤ number_0 ∧ number_0 ≤ 1000000) : (kind_0 ≠ 3) ∨ (number_0 ≤ 9999) := by
  first
    | omega
  
def o_Sy_compileSum_at_k7_1 : or_T := (79, 9, [(0, (2, 0, 0, [11]))], [(20, [3], [50, 2, 0, 6, 8, 3, 7, 7, 3, 2, 0, 6, 0, 3, 0, 3, 2, 0, 8, 0, 9999]), (24, [0, 3], [])], [], [], [(20, [0], [50, 2, 0, 6, 8, 3, 7, 7, 3, 2, 0, 6, 0, 3, 0, 3, 2, 0, 8, 0, 9999])], [], [])
theorem oo_Sy_compileSum_at_k7_1 {kA : Nat → ClassId} : or_ok PRD kA GG o_Sy_compileSum_at_k7_1 := by
  refine or_mk fun A ta ws vs hD hth hl => ?_
  intro t0 r0 f0 f1
  replace f0 := shm_1840 f0
  replace f1 := shm_5 f1
  have q3 : n_v vs 3 = n_v vs 0 := f1.symm
  simp only [q3] at f0
  have kz_0_6 := fdq_313 hD hth r0
  have kz_0_8 := fdq_314 hD hth r0
  have nf0 : fc_1 PRD (20, [0], [50, 2, 0, 6, 8, 3, 7, 7, 3, 2, 0, 6, 0, 3, 0, 3, 2, 0, 8, 0, 9999]) ws (vs) := ⟨nf_in hl rfl, sgq_1840 (vc_Sy_compileSum_at_k7_1_0 (w_fi ws (n_v vs 0) 6) (w_fi ws (n_v vs 0) 8) f0 kz_0_6 kz_0_8)⟩
  refine ⟨(fun _ h => (by cases h)), [], trivial, ?_, (fun _ h => (by cases h))⟩
  rw [List.append_nil]
  exact List.forall_mem_cons.mpr ⟨⟨show (20 : Nat) < 100 from by decide, nf0⟩, (fun _ h => (by cases h))⟩
set_option maxHeartbeats 4000000 in
theorem vc_Sy_compileSum_at_k7_2_0 (x11 : Int) (x13 : Int) (k11 : 2 ≤ x11 ∧ x11 ≤ 2) (k13 : 0 ≤ x13 ∧ x13 ≤ 0) : (0 ≤ x11) ∧ ((0 ≤ x13) ∧ (((x11 * 65536) + x13) ≤ 851970)) := by
  first
    | omega
  
def o_Sy_compileSum_at_k7_2 : or_T := (69, 14, [(11, (0, 2, 2, [])), (13, (0, 0, 0, []))], [], [], [], [(20, [11, 13], [50, 0, 0, 2, 6, 0, 2, 0, 0, 1, 0, 2, 6, 0, 2, 0, 0, 1, 1, 0, 10, 4, 6, 6, 2, 1, 0, 0, 65536, 1, 1, 0, 851970])], [], [])
theorem oo_Sy_compileSum_at_k7_2 {kA : Nat → ClassId} : or_ok PRD kA GG o_Sy_compileSum_at_k7_2 := by
  refine or_mk fun A ta ws vs hD hth hl => ?_
  intro t11 k11 t13 k13
  have nf0 : fc_1 PRD (20, [11, 13], [50, 0, 0, 2, 6, 0, 2, 0, 0, 1, 0, 2, 6, 0, 2, 0, 0, 1, 1, 0, 10, 4, 6, 6, 2, 1, 0, 0, 65536, 1, 1, 0, 851970]) ws (vs) := ⟨nf_in hl rfl, sgq_493 (vc_Sy_compileSum_at_k7_2_0 (v_iv (n_v vs 11)) (v_iv (n_v vs 13)) k11 k13)⟩
  refine ⟨(fun _ h => (by cases h)), [], trivial, ?_, (fun _ h => (by cases h))⟩
  rw [List.append_nil]
  exact List.forall_mem_cons.mpr ⟨⟨show (20 : Nat) < 100 from by decide, nf0⟩, (fun _ h => (by cases h))⟩
set_option maxHeartbeats 4000000 in
theorem vc_Sy_compileSum_at_k7_3_0 (kind_0 : Int) (number_0 : Int) (f1 : (kind_0 ≠ 3) ∨ (number_0 ≤ 9999)) (kz_0_6 : 0 ≤ kind_0 ∧ kind_0 ≤ 127) (kz_0_8 : 0 ≤ number_0 ∧ number_0 ≤ 1000000) : (kind_0 ≠ 3) ∨ (number_0 ≤ 9999) := by
  first
    | omega
  
def o_Sy_compileSum_at_k7_3 : or_T := (65, 14, [(0, (2, 0, 0, [11]))], [(24, [0, 3], []), (20, [3], [50, 2, 0, 6, 8, 3, 7, 7, 3, 2, 0, 6, 0, 3, 0, 3, 2, 0, 8, 0, 9999])], [], [], [(20, [0], [50, 2, 0, 6, 8, 3, 7, 7, 3, 2, 0, 6, 0, 3, 0, 3, 2, 0, 8, 0, 9999])], [], [])
theorem oo_Sy_compileSum_at_k7_3 {kA : Nat → ClassId} : or_ok PRD kA GG o_Sy_compileSum_at_k7_3 := by
  refine or_mk fun A ta ws vs hD hth hl => ?_
  intro t0 r0 f0 f1
  replace f0 := shm_5 f0
  replace f1 := shm_1840 f1
  have q3 : n_v vs 3 = n_v vs 0 := f0.symm
  simp only [q3] at f1
  have kz_0_6 := fdq_313 hD hth r0
  have kz_0_8 := fdq_314 hD hth r0
  have nf0 : fc_1 PRD (20, [0], [50, 2, 0, 6, 8, 3, 7, 7, 3, 2, 0, 6, 0, 3, 0, 3, 2, 0, 8, 0, 9999]) ws (vs) := ⟨nf_in hl rfl, sgq_1840 (vc_Sy_compileSum_at_k7_3_0 (w_fi ws (n_v vs 0) 6) (w_fi ws (n_v vs 0) 8) f1 kz_0_6 kz_0_8)⟩
  refine ⟨(fun _ h => (by cases h)), [], trivial, ?_, (fun _ h => (by cases h))⟩
  rw [List.append_nil]
  exact List.forall_mem_cons.mpr ⟨⟨show (20 : Nat) < 100 from by decide, nf0⟩, (fun _ h => (by cases h))⟩
set_option maxHeartbeats 4000000 in
theorem vc_Sy_compileSum_at_k7_4_0 (kind_0 : Int) (number_0 : Int) (f3 : (kind_0 ≠ 3) ∨ (number_0 ≤ 9999)) (kz_0_6 : 0 ≤ kind_0 ∧ kind_0 ≤ 127) (kz_0_8 : 0 ≤ number_0 ∧ number_0 ≤ 1000000) : (kind_0 ≠ 3) ∨ (number_0 ≤ 9999) := by
  first
    | omega
  
def o_Sy_compileSum_at_k7_4 : or_T := (79, 12, [(0, (2, 0, 0, [11]))], [(20, [3], [50, 2, 0, 6, 8, 3, 7, 7, 3, 2, 0, 6, 0, 3, 0, 3, 2, 0, 8, 0, 9999]), (24, [0, 3], [])], [], [], [(20, [0], [50, 2, 0, 6, 8, 3, 7, 7, 3, 2, 0, 6, 0, 3, 0, 3, 2, 0, 8, 0, 9999])], [], [])
theorem oo_Sy_compileSum_at_k7_4 {kA : Nat → ClassId} : or_ok PRD kA GG o_Sy_compileSum_at_k7_4 := by
  refine or_mk fun A ta ws vs hD hth hl => ?_
  intro t0 r0 f3 f4
  replace f3 := shm_1840 f3
  replace f4 := shm_5 f4
  have q3 : n_v vs 3 = n_v vs 0 := f4.symm
  simp only [q3] at f3
  have kz_0_6 := fdq_313 hD hth r0
  have kz_0_8 := fdq_314 hD hth r0
  have nf0 : fc_1 PRD (20, [0], [50, 2, 0, 6, 8, 3, 7, 7, 3, 2, 0, 6, 0, 3, 0, 3, 2, 0, 8, 0, 9999]) ws (vs) := ⟨nf_in hl rfl, sgq_1840 (vc_Sy_compileSum_at_k7_4_0 (w_fi ws (n_v vs 0) 6) (w_fi ws (n_v vs 0) 8) f3 kz_0_6 kz_0_8)⟩
  refine ⟨(fun _ h => (by cases h)), [], trivial, ?_, (fun _ h => (by cases h))⟩
  rw [List.append_nil]
  exact List.forall_mem_cons.mpr ⟨⟨show (20 : Nat) < 100 from by decide, nf0⟩, (fun _ h => (by cases h))⟩
set_option maxHeartbeats 4000000 in
theorem vc_Sy_compileSum_at_k7_5_0 (x12 : Int) (x14 : Int) (k12 : 3 ≤ x12 ∧ x12 ≤ 3) (k14 : 0 ≤ x14 ∧ x14 ≤ 0) : (0 ≤ x12) ∧ ((0 ≤ x14) ∧ (((x12 * 65536) + x14) ≤ 851970)) := by
  first
    | omega
  
def o_Sy_compileSum_at_k7_5 : or_T := (69, 15, [(12, (0, 3, 3, [])), (14, (0, 0, 0, []))], [], [], [], [(20, [12, 14], [50, 0, 0, 2, 6, 0, 2, 0, 0, 1, 0, 2, 6, 0, 2, 0, 0, 1, 1, 0, 10, 4, 6, 6, 2, 1, 0, 0, 65536, 1, 1, 0, 851970])], [], [])
theorem oo_Sy_compileSum_at_k7_5 {kA : Nat → ClassId} : or_ok PRD kA GG o_Sy_compileSum_at_k7_5 := by
  refine or_mk fun A ta ws vs hD hth hl => ?_
  intro t12 k12 t14 k14
  have nf0 : fc_1 PRD (20, [12, 14], [50, 0, 0, 2, 6, 0, 2, 0, 0, 1, 0, 2, 6, 0, 2, 0, 0, 1, 1, 0, 10, 4, 6, 6, 2, 1, 0, 0, 65536, 1, 1, 0, 851970]) ws (vs) := ⟨nf_in hl rfl, sgq_493 (vc_Sy_compileSum_at_k7_5_0 (v_iv (n_v vs 12)) (v_iv (n_v vs 14)) k12 k14)⟩
  refine ⟨(fun _ h => (by cases h)), [], trivial, ?_, (fun _ h => (by cases h))⟩
  rw [List.append_nil]
  exact List.forall_mem_cons.mpr ⟨⟨show (20 : Nat) < 100 from by decide, nf0⟩, (fun _ h => (by cases h))⟩
set_option maxHeartbeats 4000000 in
theorem vc_Sy_compileSum_at_k7_6_0 (kind_0 : Int) (number_0 : Int) (f1 : (kind_0 ≠ 3) ∨ (number_0 ≤ 9999)) (kz_0_6 : 0 ≤ kind_0 ∧ kind_0 ≤ 127) (kz_0_8 : 0 ≤ number_0 ∧ number_0 ≤ 1000000) : (kind_0 ≠ 3) ∨ (number_0 ≤ 9999) := by
  first
    | omega
  
def o_Sy_compileSum_at_k7_6 : or_T := (65, 15, [(0, (2, 0, 0, [11]))], [(24, [0, 3], []), (20, [3], [50, 2, 0, 6, 8, 3, 7, 7, 3, 2, 0, 6, 0, 3, 0, 3, 2, 0, 8, 0, 9999])], [], [], [(20, [0], [50, 2, 0, 6, 8, 3, 7, 7, 3, 2, 0, 6, 0, 3, 0, 3, 2, 0, 8, 0, 9999])], [], [])
theorem oo_Sy_compileSum_at_k7_6 {kA : Nat → ClassId} : or_ok PRD kA GG o_Sy_compileSum_at_k7_6 := by
  refine or_mk fun A ta ws vs hD hth hl => ?_
  intro t0 r0 f0 f1
  replace f0 := shm_5 f0
  replace f1 := shm_1840 f1
  have q3 : n_v vs 3 = n_v vs 0 := f0.symm
  simp only [q3] at f1
  have kz_0_6 := fdq_313 hD hth r0
  have kz_0_8 := fdq_314 hD hth r0
  have nf0 : fc_1 PRD (20, [0], [50, 2, 0, 6, 8, 3, 7, 7, 3, 2, 0, 6, 0, 3, 0, 3, 2, 0, 8, 0, 9999]) ws (vs) := ⟨nf_in hl rfl, sgq_1840 (vc_Sy_compileSum_at_k7_6_0 (w_fi ws (n_v vs 0) 6) (w_fi ws (n_v vs 0) 8) f1 kz_0_6 kz_0_8)⟩
  refine ⟨(fun _ h => (by cases h)), [], trivial, ?_, (fun _ h => (by cases h))⟩
  rw [List.append_nil]
  exact List.forall_mem_cons.mpr ⟨⟨show (20 : Nat) < 100 from by decide, nf0⟩, (fun _ h => (by cases h))⟩
def n_Sy_compileSum_at_k7_an : List an_T := [(12, [(0, (2, 0, 0, [11])), (1, (0, 7, 7, [])), (2, (0, 0, 2000, []))], [], (0, 0), [(0, 0, 99988), (1, 5, 2000), (0, 0, 100000)], [], [((0, 3), (2, 0, 0, [109]))], [(2, 0, 0, [11]), (0, 7, 7, []), (2, 0, 0, [109])], 0, [], [(20, [3], [50, 2, 0, 6, 8, 3, 7, 7, 3, 2, 0, 6, 0, 3, 0, 3, 2, 0, 8, 0, 9999]), (24, [0, 3], [])])]
def t_Sy_compileSum_at_k7_ct : ct_L := [(1, 69, e_Sy_advance), (1, 128, e_Sy_emit), (10, 155, e_Sy_compileProduct_at_k7), (178, 155, e_Sy_compileProduct_at_k7)]
set_option maxRecDepth 100000 in
theorem c_Sy_compileSum_at_k7 {l : Launch} {D : va_G} {kA : Nat → ClassId} (h_Sy_advance : ct_ok PRD l D kA GG y_Sy_advance z_Sy_advance e_Sy_advance) (h_Sy_compileProduct_at_k7 : ct_ok PRD l D kA GG y_Sy_compileProduct_at_k7 z_Sy_compileProduct_at_k7 e_Sy_compileProduct_at_k7) (h_Sy_emit : ct_ok PRD l D kA GG y_Sy_emit z_Sy_emit e_Sy_emit) : ct_ok PRD l D kA GG y_Sy_compileSum_at_k7 z_Sy_compileSum_at_k7 e_Sy_compileSum_at_k7 := chk_all_ok (FT := [(31, 11, 6)]) (PT := []) (CT := t_Sy_compileSum_at_k7_ct) (KT := []) (NT := []) (AN := n_Sy_compileSum_at_k7_an) (OT := [o_Sy_compileSum_at_k7_0, o_Sy_compileSum_at_k7_1, o_Sy_compileSum_at_k7_2, o_Sy_compileSum_at_k7_3, o_Sy_compileSum_at_k7_4, o_Sy_compileSum_at_k7_5, o_Sy_compileSum_at_k7_6]) 3 256 (List.forall_mem_cons.mpr ⟨oo_Sy_compileSum_at_k7_0, List.forall_mem_cons.mpr ⟨oo_Sy_compileSum_at_k7_1, List.forall_mem_cons.mpr ⟨oo_Sy_compileSum_at_k7_2, List.forall_mem_cons.mpr ⟨oo_Sy_compileSum_at_k7_3, List.forall_mem_cons.mpr ⟨oo_Sy_compileSum_at_k7_4, List.forall_mem_cons.mpr ⟨oo_Sy_compileSum_at_k7_5, List.forall_mem_cons.mpr ⟨oo_Sy_compileSum_at_k7_6, List.forall_mem_nil _⟩⟩⟩⟩⟩⟩⟩) (by decide +kernel) ⟨List.forall_mem_cons.mpr ⟨gf_Sy_31, List.forall_mem_nil _⟩, List.forall_mem_nil _, List.forall_mem_cons.mpr ⟨cl_virtual (y := y_Sy_advance) (ci := 11) rfl rfl ⟨_, _, rfl⟩ (by decide +kernel) h_Sy_advance wm_2158 wm_23 wm_2155 wm_2157 wv_10_10 ⟨by decide, by decide, by decide +kernel⟩ (by decide), List.forall_mem_cons.mpr ⟨cl_virtual (y := y_Sy_emit) (ci := 11) rfl rfl ⟨_, _, rfl⟩ (by decide +kernel) h_Sy_emit wm_2258 wm_23 wm_2255 wm_2257 wv_11_2 ⟨by decide, by decide, by decide +kernel⟩ (by decide), List.forall_mem_cons.mpr ⟨cl_virtual (y := y_Sy_compileProduct_at_k7) (ci := 11) rfl rfl ⟨_, _, rfl⟩ (by decide +kernel) h_Sy_compileProduct_at_k7 wm_2270 wm_23 wm_2267 wm_2269 wv_11_5 ⟨by decide, by decide, by decide +kernel⟩ (by decide), List.forall_mem_cons.mpr ⟨cl_virtual (y := y_Sy_compileProduct_at_k7) (ci := 11) rfl rfl ⟨_, _, rfl⟩ (by decide +kernel) h_Sy_compileProduct_at_k7 wm_2270 wm_23 wm_2267 wm_2269 wv_11_5 ⟨by decide, by decide, by decide +kernel⟩ (by decide), List.forall_mem_nil _⟩⟩⟩⟩, List.forall_mem_nil _, List.forall_mem_nil _, GG_pl⟩ (by decide +kernel)
def o_Sy_compileSum_at_k8_0 : or_T := (12, 5, [], [], [], [], [(24, [0, 0], [])], [], [])
theorem oo_Sy_compileSum_at_k8_0 {kA : Nat → ClassId} : or_ok PRD kA GG o_Sy_compileSum_at_k8_0 := by
  refine or_mk fun A ta ws vs hD hth hl => ?_
  have nf0 : fc_1 PRD (24, [0, 0], []) ws (vs) := by
    refine ⟨nf_in hl rfl, sgq_1 ?_⟩
    · show n_v vs 0 = n_v vs 0
      first | rfl | simp only [true_and]
  refine ⟨(fun _ h => (by cases h)), [], trivial, ?_, (fun _ h => (by cases h))⟩
  rw [List.append_nil]
  exact List.forall_mem_cons.mpr ⟨⟨show (24 : Nat) < 100 from by decide, nf0⟩, (fun _ h => (by cases h))⟩
set_option maxHeartbeats 4000000 in
theorem vc_Sy_compileSum_at_k8_1_0 (kind_0 : Int) (number_0 : Int) (f0 : (kind_0 ≠ 3) ∨ (number_0 ≤ 9999)) (kz_0_6 : 0 ≤ kind_0 ∧ kind_0 ≤ 127) (kz_0_8 : 0 ≤ number_0 ∧ number_0 ≤ 1000000) : (kind_0 ≠ 3) ∨ (number_0 ≤ 9999) := by
  first
    | omega
  
def o_Sy_compileSum_at_k8_1 : or_T := (79, 9, [(0, (2, 0, 0, [11]))], [(20, [3], [50, 2, 0, 6, 8, 3, 7, 7, 3, 2, 0, 6, 0, 3, 0, 3, 2, 0, 8, 0, 9999]), (24, [0, 3], [])], [], [], [(20, [0], [50, 2, 0, 6, 8, 3, 7, 7, 3, 2, 0, 6, 0, 3, 0, 3, 2, 0, 8, 0, 9999])], [], [])
theorem oo_Sy_compileSum_at_k8_1 {kA : Nat → ClassId} : or_ok PRD kA GG o_Sy_compileSum_at_k8_1 := by
  refine or_mk fun A ta ws vs hD hth hl => ?_
  intro t0 r0 f0 f1
  replace f0 := shm_1840 f0
  replace f1 := shm_5 f1
  have q3 : n_v vs 3 = n_v vs 0 := f1.symm
  simp only [q3] at f0
  have kz_0_6 := fdq_313 hD hth r0
  have kz_0_8 := fdq_314 hD hth r0
  have nf0 : fc_1 PRD (20, [0], [50, 2, 0, 6, 8, 3, 7, 7, 3, 2, 0, 6, 0, 3, 0, 3, 2, 0, 8, 0, 9999]) ws (vs) := ⟨nf_in hl rfl, sgq_1840 (vc_Sy_compileSum_at_k8_1_0 (w_fi ws (n_v vs 0) 6) (w_fi ws (n_v vs 0) 8) f0 kz_0_6 kz_0_8)⟩
  refine ⟨(fun _ h => (by cases h)), [], trivial, ?_, (fun _ h => (by cases h))⟩
  rw [List.append_nil]
  exact List.forall_mem_cons.mpr ⟨⟨show (20 : Nat) < 100 from by decide, nf0⟩, (fun _ h => (by cases h))⟩
set_option maxHeartbeats 4000000 in
theorem vc_Sy_compileSum_at_k8_2_0 (x11 : Int) (x13 : Int) (k11 : 2 ≤ x11 ∧ x11 ≤ 2) (k13 : 0 ≤ x13 ∧ x13 ≤ 0) : (0 ≤ x11) ∧ ((0 ≤ x13) ∧ (((x11 * 65536) + x13) ≤ 851970)) := by
  first
    | omega
  
def o_Sy_compileSum_at_k8_2 : or_T := (69, 14, [(11, (0, 2, 2, [])), (13, (0, 0, 0, []))], [], [], [], [(20, [11, 13], [50, 0, 0, 2, 6, 0, 2, 0, 0, 1, 0, 2, 6, 0, 2, 0, 0, 1, 1, 0, 10, 4, 6, 6, 2, 1, 0, 0, 65536, 1, 1, 0, 851970])], [], [])
theorem oo_Sy_compileSum_at_k8_2 {kA : Nat → ClassId} : or_ok PRD kA GG o_Sy_compileSum_at_k8_2 := by
  refine or_mk fun A ta ws vs hD hth hl => ?_
  intro t11 k11 t13 k13
  have nf0 : fc_1 PRD (20, [11, 13], [50, 0, 0, 2, 6, 0, 2, 0, 0, 1, 0, 2, 6, 0, 2, 0, 0, 1, 1, 0, 10, 4, 6, 6, 2, 1, 0, 0, 65536, 1, 1, 0, 851970]) ws (vs) := ⟨nf_in hl rfl, sgq_493 (vc_Sy_compileSum_at_k8_2_0 (v_iv (n_v vs 11)) (v_iv (n_v vs 13)) k11 k13)⟩
  refine ⟨(fun _ h => (by cases h)), [], trivial, ?_, (fun _ h => (by cases h))⟩
  rw [List.append_nil]
  exact List.forall_mem_cons.mpr ⟨⟨show (20 : Nat) < 100 from by decide, nf0⟩, (fun _ h => (by cases h))⟩
set_option maxHeartbeats 4000000 in
theorem vc_Sy_compileSum_at_k8_3_0 (kind_0 : Int) (number_0 : Int) (f1 : (kind_0 ≠ 3) ∨ (number_0 ≤ 9999)) (kz_0_6 : 0 ≤ kind_0 ∧ kind_0 ≤ 127) (kz_0_8 : 0 ≤ number_0 ∧ number_0 ≤ 1000000) : (kind_0 ≠ 3) ∨ (number_0 ≤ 9999) := by
  first
    | omega
  
def o_Sy_compileSum_at_k8_3 : or_T := (65, 14, [(0, (2, 0, 0, [11]))], [(24, [0, 3], []), (20, [3], [50, 2, 0, 6, 8, 3, 7, 7, 3, 2, 0, 6, 0, 3, 0, 3, 2, 0, 8, 0, 9999])], [], [], [(20, [0], [50, 2, 0, 6, 8, 3, 7, 7, 3, 2, 0, 6, 0, 3, 0, 3, 2, 0, 8, 0, 9999])], [], [])
theorem oo_Sy_compileSum_at_k8_3 {kA : Nat → ClassId} : or_ok PRD kA GG o_Sy_compileSum_at_k8_3 := by
  refine or_mk fun A ta ws vs hD hth hl => ?_
  intro t0 r0 f0 f1
  replace f0 := shm_5 f0
  replace f1 := shm_1840 f1
  have q3 : n_v vs 3 = n_v vs 0 := f0.symm
  simp only [q3] at f1
  have kz_0_6 := fdq_313 hD hth r0
  have kz_0_8 := fdq_314 hD hth r0
  have nf0 : fc_1 PRD (20, [0], [50, 2, 0, 6, 8, 3, 7, 7, 3, 2, 0, 6, 0, 3, 0, 3, 2, 0, 8, 0, 9999]) ws (vs) := ⟨nf_in hl rfl, sgq_1840 (vc_Sy_compileSum_at_k8_3_0 (w_fi ws (n_v vs 0) 6) (w_fi ws (n_v vs 0) 8) f1 kz_0_6 kz_0_8)⟩
  refine ⟨(fun _ h => (by cases h)), [], trivial, ?_, (fun _ h => (by cases h))⟩
  rw [List.append_nil]
  exact List.forall_mem_cons.mpr ⟨⟨show (20 : Nat) < 100 from by decide, nf0⟩, (fun _ h => (by cases h))⟩
set_option maxHeartbeats 4000000 in
theorem vc_Sy_compileSum_at_k8_4_0 (kind_0 : Int) (number_0 : Int) (f3 : (kind_0 ≠ 3) ∨ (number_0 ≤ 9999)) (kz_0_6 : 0 ≤ kind_0 ∧ kind_0 ≤ 127) (kz_0_8 : 0 ≤ number_0 ∧ number_0 ≤ 1000000) : (kind_0 ≠ 3) ∨ (number_0 ≤ 9999) := by
  first
    | omega
  
def o_Sy_compileSum_at_k8_4 : or_T := (79, 12, [(0, (2, 0, 0, [11]))], [(20, [3], [50, 2, 0, 6, 8, 3, 7, 7, 3, 2, 0, 6, 0, 3, 0, 3, 2, 0, 8, 0, 9999]), (24, [0, 3], [])], [], [], [(20, [0], [50, 2, 0, 6, 8, 3, 7, 7, 3, 2, 0, 6, 0, 3, 0, 3, 2, 0, 8, 0, 9999])], [], [])
theorem oo_Sy_compileSum_at_k8_4 {kA : Nat → ClassId} : or_ok PRD kA GG o_Sy_compileSum_at_k8_4 := by
  refine or_mk fun A ta ws vs hD hth hl => ?_
  intro t0 r0 f3 f4
  replace f3 := shm_1840 f3
  replace f4 := shm_5 f4
  have q3 : n_v vs 3 = n_v vs 0 := f4.symm
  simp only [q3] at f3
  have kz_0_6 := fdq_313 hD hth r0
  have kz_0_8 := fdq_314 hD hth r0
  have nf0 : fc_1 PRD (20, [0], [50, 2, 0, 6, 8, 3, 7, 7, 3, 2, 0, 6, 0, 3, 0, 3, 2, 0, 8, 0, 9999]) ws (vs) := ⟨nf_in hl rfl, sgq_1840 (vc_Sy_compileSum_at_k8_4_0 (w_fi ws (n_v vs 0) 6) (w_fi ws (n_v vs 0) 8) f3 kz_0_6 kz_0_8)⟩
  refine ⟨(fun _ h => (by cases h)), [], trivial, ?_, (fun _ h => (by cases h))⟩
  rw [List.append_nil]
  exact List.forall_mem_cons.mpr ⟨⟨show (20 : Nat) < 100 from by decide, nf0⟩, (fun _ h => (by cases h))⟩
set_option maxHeartbeats 4000000 in
theorem vc_Sy_compileSum_at_k8_5_0 (x12 : Int) (x14 : Int) (k12 : 3 ≤ x12 ∧ x12 ≤ 3) (k14 : 0 ≤ x14 ∧ x14 ≤ 0) : (0 ≤ x12) ∧ ((0 ≤ x14) ∧ (((x12 * 65536) + x14) ≤ 851970)) := by
  first
    | omega
  
def o_Sy_compileSum_at_k8_5 : or_T := (69, 15, [(12, (0, 3, 3, [])), (14, (0, 0, 0, []))], [], [], [], [(20, [12, 14], [50, 0, 0, 2, 6, 0, 2, 0, 0, 1, 0, 2, 6, 0, 2, 0, 0, 1, 1, 0, 10, 4, 6, 6, 2, 1, 0, 0, 65536, 1, 1, 0, 851970])], [], [])
theorem oo_Sy_compileSum_at_k8_5 {kA : Nat → ClassId} : or_ok PRD kA GG o_Sy_compileSum_at_k8_5 := by
  refine or_mk fun A ta ws vs hD hth hl => ?_
  intro t12 k12 t14 k14
  have nf0 : fc_1 PRD (20, [12, 14], [50, 0, 0, 2, 6, 0, 2, 0, 0, 1, 0, 2, 6, 0, 2, 0, 0, 1, 1, 0, 10, 4, 6, 6, 2, 1, 0, 0, 65536, 1, 1, 0, 851970]) ws (vs) := ⟨nf_in hl rfl, sgq_493 (vc_Sy_compileSum_at_k8_5_0 (v_iv (n_v vs 12)) (v_iv (n_v vs 14)) k12 k14)⟩
  refine ⟨(fun _ h => (by cases h)), [], trivial, ?_, (fun _ h => (by cases h))⟩
  rw [List.append_nil]
  exact List.forall_mem_cons.mpr ⟨⟨show (20 : Nat) < 100 from by decide, nf0⟩, (fun _ h => (by cases h))⟩
set_option maxHeartbeats 4000000 in
theorem vc_Sy_compileSum_at_k8_6_0 (kind_0 : Int) (number_0 : Int) (f1 : (kind_0 ≠ 3) ∨ (number_0 ≤ 9999)) (kz_0_6 : 0 ≤ kind_0 ∧ kind_0 ≤ 127) (kz_0_8 : 0 ≤ number_0 ∧ number_0 ≤ 1000000) : (kind_0 ≠ 3) ∨ (number_0 ≤ 9999) := by
  first
    | omega
  
def o_Sy_compileSum_at_k8_6 : or_T := (65, 15, [(0, (2, 0, 0, [11]))], [(24, [0, 3], []), (20, [3], [50, 2, 0, 6, 8, 3, 7, 7, 3, 2, 0, 6, 0, 3, 0, 3, 2, 0, 8, 0, 9999])], [], [], [(20, [0], [50, 2, 0, 6, 8, 3, 7, 7, 3, 2, 0, 6, 0, 3, 0, 3, 2, 0, 8, 0, 9999])], [], [])
theorem oo_Sy_compileSum_at_k8_6 {kA : Nat → ClassId} : or_ok PRD kA GG o_Sy_compileSum_at_k8_6 := by
  refine or_mk fun A ta ws vs hD hth hl => ?_
  intro t0 r0 f0 f1
  replace f0 := shm_5 f0
  replace f1 := shm_1840 f1
  have q3 : n_v vs 3 = n_v vs 0 := f0.symm
  simp only [q3] at f1
  have kz_0_6 := fdq_313 hD hth r0
  have kz_0_8 := fdq_314 hD hth r0
  have nf0 : fc_1 PRD (20, [0], [50, 2, 0, 6, 8, 3, 7, 7, 3, 2, 0, 6, 0, 3, 0, 3, 2, 0, 8, 0, 9999]) ws (vs) := ⟨nf_in hl rfl, sgq_1840 (vc_Sy_compileSum_at_k8_6_0 (w_fi ws (n_v vs 0) 6) (w_fi ws (n_v vs 0) 8) f1 kz_0_6 kz_0_8)⟩
  refine ⟨(fun _ h => (by cases h)), [], trivial, ?_, (fun _ h => (by cases h))⟩
  rw [List.append_nil]
  exact List.forall_mem_cons.mpr ⟨⟨show (20 : Nat) < 100 from by decide, nf0⟩, (fun _ h => (by cases h))⟩
def n_Sy_compileSum_at_k8_an : List an_T := [(12, [(0, (2, 0, 0, [11])), (1, (0, 8, 8, [])), (2, (0, 0, 2000, []))], [], (0, 0), [(0, 0, 99988), (1, 5, 2000), (0, 0, 100000)], [], [((0, 3), (2, 0, 0, [109]))], [(2, 0, 0, [11]), (0, 8, 8, []), (2, 0, 0, [109])], 0, [], [(20, [3], [50, 2, 0, 6, 8, 3, 7, 7, 3, 2, 0, 6, 0, 3, 0, 3, 2, 0, 8, 0, 9999]), (24, [0, 3], [])])]
def t_Sy_compileSum_at_k8_ct : ct_L := [(1, 69, e_Sy_advance), (1, 128, e_Sy_emit), (10, 155, e_Sy_compileProduct_at_k8), (178, 155, e_Sy_compileProduct_at_k8)]
set_option maxRecDepth 100000 in
theorem c_Sy_compileSum_at_k8 {l : Launch} {D : va_G} {kA : Nat → ClassId} (h_Sy_advance : ct_ok PRD l D kA GG y_Sy_advance z_Sy_advance e_Sy_advance) (h_Sy_compileProduct_at_k8 : ct_ok PRD l D kA GG y_Sy_compileProduct_at_k8 z_Sy_compileProduct_at_k8 e_Sy_compileProduct_at_k8) (h_Sy_emit : ct_ok PRD l D kA GG y_Sy_emit z_Sy_emit e_Sy_emit) : ct_ok PRD l D kA GG y_Sy_compileSum_at_k8 z_Sy_compileSum_at_k8 e_Sy_compileSum_at_k8 := chk_all_ok (FT := [(31, 11, 6)]) (PT := []) (CT := t_Sy_compileSum_at_k8_ct) (KT := []) (NT := []) (AN := n_Sy_compileSum_at_k8_an) (OT := [o_Sy_compileSum_at_k8_0, o_Sy_compileSum_at_k8_1, o_Sy_compileSum_at_k8_2, o_Sy_compileSum_at_k8_3, o_Sy_compileSum_at_k8_4, o_Sy_compileSum_at_k8_5, o_Sy_compileSum_at_k8_6]) 3 256 (List.forall_mem_cons.mpr ⟨oo_Sy_compileSum_at_k8_0, List.forall_mem_cons.mpr ⟨oo_Sy_compileSum_at_k8_1, List.forall_mem_cons.mpr ⟨oo_Sy_compileSum_at_k8_2, List.forall_mem_cons.mpr ⟨oo_Sy_compileSum_at_k8_3, List.forall_mem_cons.mpr ⟨oo_Sy_compileSum_at_k8_4, List.forall_mem_cons.mpr ⟨oo_Sy_compileSum_at_k8_5, List.forall_mem_cons.mpr ⟨oo_Sy_compileSum_at_k8_6, List.forall_mem_nil _⟩⟩⟩⟩⟩⟩⟩) (by decide +kernel) ⟨List.forall_mem_cons.mpr ⟨gf_Sy_31, List.forall_mem_nil _⟩, List.forall_mem_nil _, List.forall_mem_cons.mpr ⟨cl_virtual (y := y_Sy_advance) (ci := 11) rfl rfl ⟨_, _, rfl⟩ (by decide +kernel) h_Sy_advance wm_2158 wm_23 wm_2155 wm_2157 wv_10_10 ⟨by decide, by decide, by decide +kernel⟩ (by decide), List.forall_mem_cons.mpr ⟨cl_virtual (y := y_Sy_emit) (ci := 11) rfl rfl ⟨_, _, rfl⟩ (by decide +kernel) h_Sy_emit wm_2258 wm_23 wm_2255 wm_2257 wv_11_2 ⟨by decide, by decide, by decide +kernel⟩ (by decide), List.forall_mem_cons.mpr ⟨cl_virtual (y := y_Sy_compileProduct_at_k8) (ci := 11) rfl rfl ⟨_, _, rfl⟩ (by decide +kernel) h_Sy_compileProduct_at_k8 wm_2270 wm_23 wm_2267 wm_2269 wv_11_5 ⟨by decide, by decide, by decide +kernel⟩ (by decide), List.forall_mem_cons.mpr ⟨cl_virtual (y := y_Sy_compileProduct_at_k8) (ci := 11) rfl rfl ⟨_, _, rfl⟩ (by decide +kernel) h_Sy_compileProduct_at_k8 wm_2270 wm_23 wm_2267 wm_2269 wv_11_5 ⟨by decide, by decide, by decide +kernel⟩ (by decide), List.forall_mem_nil _⟩⟩⟩⟩, List.forall_mem_nil _, List.forall_mem_nil _, GG_pl⟩ (by decide +kernel)
def o_Sy_compileSum_at_k9_0 : or_T := (12, 5, [], [], [], [], [(24, [0, 0], [])], [], [])
theorem oo_Sy_compileSum_at_k9_0 {kA : Nat → ClassId} : or_ok PRD kA GG o_Sy_compileSum_at_k9_0 := by
  refine or_mk fun A ta ws vs hD hth hl => ?_
  have nf0 : fc_1 PRD (24, [0, 0], []) ws (vs) := by
    refine ⟨nf_in hl rfl, sgq_1 ?_⟩
    · show n_v vs 0 = n_v vs 0
      first | rfl | simp only [true_and]
  refine ⟨(fun _ h => (by cases h)), [], trivial, ?_, (fun _ h => (by cases h))⟩
  rw [List.append_nil]
  exact List.forall_mem_cons.mpr ⟨⟨show (24 : Nat) < 100 from by decide, nf0⟩, (fun _ h => (by cases h))⟩
set_option maxHeartbeats 4000000 in
theorem vc_Sy_compileSum_at_k9_1_0 (kind_0 : Int) (number_0 : Int) (f0 : (kind_0 ≠ 3) ∨ (number_0 ≤ 9999)) (kz_0_6 : 0 ≤ kind_0 ∧ kind_0 ≤ 127) (kz_0_8 : 0 ≤ number_0 ∧ number_0 ≤ 1000000) : (kind_0 ≠ 3) ∨ (number_0 ≤ 9999) := by
  first
    | omega
  
def o_Sy_compileSum_at_k9_1 : or_T := (79, 9, [(0, (2, 0, 0, [11]))], [(20, [3], [50, 2, 0, 6, 8, 3, 7, 7, 3, 2, 0, 6, 0, 3, 0, 3, 2, 0, 8, 0, 9999]), (24, [0, 3], [])], [], [], [(20, [0], [50, 2, 0, 6, 8, 3, 7, 7, 3, 2, 0, 6, 0, 3, 0, 3, 2, 0, 8, 0, 9999])], [], [])
theorem oo_Sy_compileSum_at_k9_1 {kA : Nat → ClassId} : or_ok PRD kA GG o_Sy_compileSum_at_k9_1 := by
  refine or_mk fun A ta ws vs hD hth hl => ?_
  intro t0 r0 f0 f1
  replace f0 := shm_1840 f0
  replace f1 := shm_5 f1
  have q3 : n_v vs 3 = n_v vs 0 := f1.symm
  simp only [q3] at f0
  have kz_0_6 := fdq_313 hD hth r0
  have kz_0_8 := fdq_314 hD hth r0
  have nf0 : fc_1 PRD (20, [0], [50, 2, 0, 6, 8, 3, 7, 7, 3, 2, 0, 6, 0, 3, 0, 3, 2, 0, 8, 0, 9999]) ws (vs) := ⟨nf_in hl rfl, sgq_1840 (vc_Sy_compileSum_at_k9_1_0 (w_fi ws (n_v vs 0) 6) (w_fi ws (n_v vs 0) 8) f0 kz_0_6 kz_0_8)⟩
  refine ⟨(fun _ h => (by cases h)), [], trivial, ?_, (fun _ h => (by cases h))⟩
  rw [List.append_nil]
  exact List.forall_mem_cons.mpr ⟨⟨show (20 : Nat) < 100 from by decide, nf0⟩, (fun _ h => (by cases h))⟩
set_option maxHeartbeats 4000000 in
theorem vc_Sy_compileSum_at_k9_2_0 (x11 : Int) (x13 : Int) (k11 : 2 ≤ x11 ∧ x11 ≤ 2) (k13 : 0 ≤ x13 ∧ x13 ≤ 0) : (0 ≤ x11) ∧ ((0 ≤ x13) ∧ (((x11 * 65536) + x13) ≤ 851970)) := by
  first
    | omega
  
def o_Sy_compileSum_at_k9_2 : or_T := (69, 14, [(11, (0, 2, 2, [])), (13, (0, 0, 0, []))], [], [], [], [(20, [11, 13], [50, 0, 0, 2, 6, 0, 2, 0, 0, 1, 0, 2, 6, 0, 2, 0, 0, 1, 1, 0, 10, 4, 6, 6, 2, 1, 0, 0, 65536, 1, 1, 0, 851970])], [], [])
theorem oo_Sy_compileSum_at_k9_2 {kA : Nat → ClassId} : or_ok PRD kA GG o_Sy_compileSum_at_k9_2 := by
  refine or_mk fun A ta ws vs hD hth hl => ?_
  intro t11 k11 t13 k13
  have nf0 : fc_1 PRD (20, [11, 13], [50, 0, 0, 2, 6, 0, 2, 0, 0, 1, 0, 2, 6, 0, 2, 0, 0, 1, 1, 0, 10, 4, 6, 6, 2, 1, 0, 0, 65536, 1, 1, 0, 851970]) ws (vs) := ⟨nf_in hl rfl, sgq_493 (vc_Sy_compileSum_at_k9_2_0 (v_iv (n_v vs 11)) (v_iv (n_v vs 13)) k11 k13)⟩
  refine ⟨(fun _ h => (by cases h)), [], trivial, ?_, (fun _ h => (by cases h))⟩
  rw [List.append_nil]
  exact List.forall_mem_cons.mpr ⟨⟨show (20 : Nat) < 100 from by decide, nf0⟩, (fun _ h => (by cases h))⟩
set_option maxHeartbeats 4000000 in
theorem vc_Sy_compileSum_at_k9_3_0 (kind_0 : Int) (number_0 : Int) (f1 : (kind_0 ≠ 3) ∨ (number_0 ≤ 9999)) (kz_0_6 : 0 ≤ kind_0 ∧ kind_0 ≤ 127) (kz_0_8 : 0 ≤ number_0 ∧ number_0 ≤ 1000000) : (kind_0 ≠ 3) ∨ (number_0 ≤ 9999) := by
  first
    | omega
  
def o_Sy_compileSum_at_k9_3 : or_T := (65, 14, [(0, (2, 0, 0, [11]))], [(24, [0, 3], []), (20, [3], [50, 2, 0, 6, 8, 3, 7, 7, 3, 2, 0, 6, 0, 3, 0, 3, 2, 0, 8, 0, 9999])], [], [], [(20, [0], [50, 2, 0, 6, 8, 3, 7, 7, 3, 2, 0, 6, 0, 3, 0, 3, 2, 0, 8, 0, 9999])], [], [])
theorem oo_Sy_compileSum_at_k9_3 {kA : Nat → ClassId} : or_ok PRD kA GG o_Sy_compileSum_at_k9_3 := by
  refine or_mk fun A ta ws vs hD hth hl => ?_
  intro t0 r0 f0 f1
  replace f0 := shm_5 f0
  replace f1 := shm_1840 f1
  have q3 : n_v vs 3 = n_v vs 0 := f0.symm
  simp only [q3] at f1
  have kz_0_6 := fdq_313 hD hth r0
  have kz_0_8 := fdq_314 hD hth r0
  have nf0 : fc_1 PRD (20, [0], [50, 2, 0, 6, 8, 3, 7, 7, 3, 2, 0, 6, 0, 3, 0, 3, 2, 0, 8, 0, 9999]) ws (vs) := ⟨nf_in hl rfl, sgq_1840 (vc_Sy_compileSum_at_k9_3_0 (w_fi ws (n_v vs 0) 6) (w_fi ws (n_v vs 0) 8) f1 kz_0_6 kz_0_8)⟩
  refine ⟨(fun _ h => (by cases h)), [], trivial, ?_, (fun _ h => (by cases h))⟩
  rw [List.append_nil]
  exact List.forall_mem_cons.mpr ⟨⟨show (20 : Nat) < 100 from by decide, nf0⟩, (fun _ h => (by cases h))⟩
set_option maxHeartbeats 4000000 in
theorem vc_Sy_compileSum_at_k9_4_0 (kind_0 : Int) (number_0 : Int) (f3 : (kind_0 ≠ 3) ∨ (number_0 ≤ 9999)) (kz_0_6 : 0 ≤ kind_0 ∧ kind_0 ≤ 127) (kz_0_8 : 0 ≤ number_0 ∧ number_0 ≤ 1000000) : (kind_0 ≠ 3) ∨ (number_0 ≤ 9999) := by
  first
    | omega
  
def o_Sy_compileSum_at_k9_4 : or_T := (79, 12, [(0, (2, 0, 0, [11]))], [(20, [3], [50, 2, 0, 6, 8, 3, 7, 7, 3, 2, 0, 6, 0, 3, 0, 3, 2, 0, 8, 0, 9999]), (24, [0, 3], [])], [], [], [(20, [0], [50, 2, 0, 6, 8, 3, 7, 7, 3, 2, 0, 6, 0, 3, 0, 3, 2, 0, 8, 0, 9999])], [], [])
theorem oo_Sy_compileSum_at_k9_4 {kA : Nat → ClassId} : or_ok PRD kA GG o_Sy_compileSum_at_k9_4 := by
  refine or_mk fun A ta ws vs hD hth hl => ?_
  intro t0 r0 f3 f4
  replace f3 := shm_1840 f3
  replace f4 := shm_5 f4
  have q3 : n_v vs 3 = n_v vs 0 := f4.symm
  simp only [q3] at f3
  have kz_0_6 := fdq_313 hD hth r0
  have kz_0_8 := fdq_314 hD hth r0
  have nf0 : fc_1 PRD (20, [0], [50, 2, 0, 6, 8, 3, 7, 7, 3, 2, 0, 6, 0, 3, 0, 3, 2, 0, 8, 0, 9999]) ws (vs) := ⟨nf_in hl rfl, sgq_1840 (vc_Sy_compileSum_at_k9_4_0 (w_fi ws (n_v vs 0) 6) (w_fi ws (n_v vs 0) 8) f3 kz_0_6 kz_0_8)⟩
  refine ⟨(fun _ h => (by cases h)), [], trivial, ?_, (fun _ h => (by cases h))⟩
  rw [List.append_nil]
  exact List.forall_mem_cons.mpr ⟨⟨show (20 : Nat) < 100 from by decide, nf0⟩, (fun _ h => (by cases h))⟩
set_option maxHeartbeats 4000000 in
theorem vc_Sy_compileSum_at_k9_5_0 (x12 : Int) (x14 : Int) (k12 : 3 ≤ x12 ∧ x12 ≤ 3) (k14 : 0 ≤ x14 ∧ x14 ≤ 0) : (0 ≤ x12) ∧ ((0 ≤ x14) ∧ (((x12 * 65536) + x14) ≤ 851970)) := by
  first
    | omega
  
def o_Sy_compileSum_at_k9_5 : or_T := (69, 15, [(12, (0, 3, 3, [])), (14, (0, 0, 0, []))], [], [], [], [(20, [12, 14], [50, 0, 0, 2, 6, 0, 2, 0, 0, 1, 0, 2, 6, 0, 2, 0, 0, 1, 1, 0, 10, 4, 6, 6, 2, 1, 0, 0, 65536, 1, 1, 0, 851970])], [], [])
theorem oo_Sy_compileSum_at_k9_5 {kA : Nat → ClassId} : or_ok PRD kA GG o_Sy_compileSum_at_k9_5 := by
  refine or_mk fun A ta ws vs hD hth hl => ?_
  intro t12 k12 t14 k14
  have nf0 : fc_1 PRD (20, [12, 14], [50, 0, 0, 2, 6, 0, 2, 0, 0, 1, 0, 2, 6, 0, 2, 0, 0, 1, 1, 0, 10, 4, 6, 6, 2, 1, 0, 0, 65536, 1, 1, 0, 851970]) ws (vs) := ⟨nf_in hl rfl, sgq_493 (vc_Sy_compileSum_at_k9_5_0 (v_iv (n_v vs 12)) (v_iv (n_v vs 14)) k12 k14)⟩
  refine ⟨(fun _ h => (by cases h)), [], trivial, ?_, (fun _ h => (by cases h))⟩
  rw [List.append_nil]
  exact List.forall_mem_cons.mpr ⟨⟨show (20 : Nat) < 100 from by decide, nf0⟩, (fun _ h => (by cases h))⟩
set_option maxHeartbeats 4000000 in
theorem vc_Sy_compileSum_at_k9_6_0 (kind_0 : Int) (number_0 : Int) (f1 : (kind_0 ≠ 3) ∨ (number_0 ≤ 9999)) (kz_0_6 : 0 ≤ kind_0 ∧ kind_0 ≤ 127) (kz_0_8 : 0 ≤ number_0 ∧ number_0 ≤ 1000000) : (kind_0 ≠ 3) ∨ (number_0 ≤ 9999) := by
  first
    | omega
  
def o_Sy_compileSum_at_k9_6 : or_T := (65, 15, [(0, (2, 0, 0, [11]))], [(24, [0, 3], []), (20, [3], [50, 2, 0, 6, 8, 3, 7, 7, 3, 2, 0, 6, 0, 3, 0, 3, 2, 0, 8, 0, 9999])], [], [], [(20, [0], [50, 2, 0, 6, 8, 3, 7, 7, 3, 2, 0, 6, 0, 3, 0, 3, 2, 0, 8, 0, 9999])], [], [])
theorem oo_Sy_compileSum_at_k9_6 {kA : Nat → ClassId} : or_ok PRD kA GG o_Sy_compileSum_at_k9_6 := by
  refine or_mk fun A ta ws vs hD hth hl => ?_
  intro t0 r0 f0 f1
  replace f0 := shm_5 f0
  replace f1 := shm_1840 f1
  have q3 : n_v vs 3 = n_v vs 0 := f0.symm
  simp only [q3] at f1
  have kz_0_6 := fdq_313 hD hth r0
  have kz_0_8 := fdq_314 hD hth r0
  have nf0 : fc_1 PRD (20, [0], [50, 2, 0, 6, 8, 3, 7, 7, 3, 2, 0, 6, 0, 3, 0, 3, 2, 0, 8, 0, 9999]) ws (vs) := ⟨nf_in hl rfl, sgq_1840 (vc_Sy_compileSum_at_k9_6_0 (w_fi ws (n_v vs 0) 6) (w_fi ws (n_v vs 0) 8) f1 kz_0_6 kz_0_8)⟩
  refine ⟨(fun _ h => (by cases h)), [], trivial, ?_, (fun _ h => (by cases h))⟩
  rw [List.append_nil]
  exact List.forall_mem_cons.mpr ⟨⟨show (20 : Nat) < 100 from by decide, nf0⟩, (fun _ h => (by cases h))⟩
def n_Sy_compileSum_at_k9_an : List an_T := [(12, [(0, (2, 0, 0, [11])), (1, (0, 9, 9, [])), (2, (0, 0, 2000, []))], [], (0, 0), [(0, 0, 99988), (1, 5, 2000), (0, 0, 100000)], [], [((0, 3), (2, 0, 0, [109]))], [(2, 0, 0, [11]), (0, 9, 9, []), (2, 0, 0, [109])], 0, [], [(20, [3], [50, 2, 0, 6, 8, 3, 7, 7, 3, 2, 0, 6, 0, 3, 0, 3, 2, 0, 8, 0, 9999]), (24, [0, 3], [])])]
def t_Sy_compileSum_at_k9_ct : ct_L := [(1, 69, e_Sy_advance), (1, 128, e_Sy_emit), (10, 155, e_Sy_compileProduct_at_k9), (178, 155, e_Sy_compileProduct_at_k9)]
set_option maxRecDepth 100000 in
theorem c_Sy_compileSum_at_k9 {l : Launch} {D : va_G} {kA : Nat → ClassId} (h_Sy_advance : ct_ok PRD l D kA GG y_Sy_advance z_Sy_advance e_Sy_advance) (h_Sy_compileProduct_at_k9 : ct_ok PRD l D kA GG y_Sy_compileProduct_at_k9 z_Sy_compileProduct_at_k9 e_Sy_compileProduct_at_k9) (h_Sy_emit : ct_ok PRD l D kA GG y_Sy_emit z_Sy_emit e_Sy_emit) : ct_ok PRD l D kA GG y_Sy_compileSum_at_k9 z_Sy_compileSum_at_k9 e_Sy_compileSum_at_k9 := chk_all_ok (FT := [(31, 11, 6)]) (PT := []) (CT := t_Sy_compileSum_at_k9_ct) (KT := []) (NT := []) (AN := n_Sy_compileSum_at_k9_an) (OT := [o_Sy_compileSum_at_k9_0, o_Sy_compileSum_at_k9_1, o_Sy_compileSum_at_k9_2, o_Sy_compileSum_at_k9_3, o_Sy_compileSum_at_k9_4, o_Sy_compileSum_at_k9_5, o_Sy_compileSum_at_k9_6]) 3 256 (List.forall_mem_cons.mpr ⟨oo_Sy_compileSum_at_k9_0, List.forall_mem_cons.mpr ⟨oo_Sy_compileSum_at_k9_1, List.forall_mem_cons.mpr ⟨oo_Sy_compileSum_at_k9_2, List.forall_mem_cons.mpr ⟨oo_Sy_compileSum_at_k9_3, List.forall_mem_cons.mpr ⟨oo_Sy_compileSum_at_k9_4, List.forall_mem_cons.mpr ⟨oo_Sy_compileSum_at_k9_5, List.forall_mem_cons.mpr ⟨oo_Sy_compileSum_at_k9_6, List.forall_mem_nil _⟩⟩⟩⟩⟩⟩⟩) (by decide +kernel) ⟨List.forall_mem_cons.mpr ⟨gf_Sy_31, List.forall_mem_nil _⟩, List.forall_mem_nil _, List.forall_mem_cons.mpr ⟨cl_virtual (y := y_Sy_advance) (ci := 11) rfl rfl ⟨_, _, rfl⟩ (by decide +kernel) h_Sy_advance wm_2158 wm_23 wm_2155 wm_2157 wv_10_10 ⟨by decide, by decide, by decide +kernel⟩ (by decide), List.forall_mem_cons.mpr ⟨cl_virtual (y := y_Sy_emit) (ci := 11) rfl rfl ⟨_, _, rfl⟩ (by decide +kernel) h_Sy_emit wm_2258 wm_23 wm_2255 wm_2257 wv_11_2 ⟨by decide, by decide, by decide +kernel⟩ (by decide), List.forall_mem_cons.mpr ⟨cl_virtual (y := y_Sy_compileProduct_at_k9) (ci := 11) rfl rfl ⟨_, _, rfl⟩ (by decide +kernel) h_Sy_compileProduct_at_k9 wm_2270 wm_23 wm_2267 wm_2269 wv_11_5 ⟨by decide, by decide, by decide +kernel⟩ (by decide), List.forall_mem_cons.mpr ⟨cl_virtual (y := y_Sy_compileProduct_at_k9) (ci := 11) rfl rfl ⟨_, _, rfl⟩ (by decide +kernel) h_Sy_compileProduct_at_k9 wm_2270 wm_23 wm_2267 wm_2269 wv_11_5 ⟨by decide, by decide, by decide +kernel⟩ (by decide), List.forall_mem_nil _⟩⟩⟩⟩, List.forall_mem_nil _, List.forall_mem_nil _, GG_pl⟩ (by decide +kernel)
set_option maxHeartbeats 4000000 in
theorem vc_Sy_compileValue_at_k0_0_0 (x3 : Int) (x4 : Int) (x9 : Int) (x11 : Int) (number_0 : Int) (kind_0 : Int) (k3 : 3 ≤ x3 ∧ x3 ≤ 3) (k4 : 40 ≤ x4 ∧ x4 ≤ 40) (k9 : 0 ≤ x9 ∧ x9 ≤ 0) (k11 : 0 ≤ x11 ∧ x11 ≤ 1000000) (g0 : x11 = number_0) (g2 : x3 = kind_0) (f5 : (kind_0 ≠ 3) ∨ (number_0 ≤ 9999)) (f7 : x3 ≠ x4) (kz_0_6 : 0 ≤ kind_0 ∧ kind_0 ≤ 127) (kz_0_8 : 0 ≤ number_0 ∧ number_0 ≤ 1000000) : (0 ≤ x9) ∧ ((0 ≤ x11) ∧ (((x9 * 65536) + x11) ≤ 851970)) := by
  first
    | omega
  
def o_Sy_compileValue_at_k0_0 : or_T := (108, 12, [(0, (2, 0, 0, [11])), (3, (0, 3, 3, [])), (4, (0, 40, 40, [])), (7, (0, 3, 3, [])), (8, (0, 3, 3, [])), (9, (0, 0, 0, [])), (10, (0, 3, 3, [])), (11, (0, 0, 1000000, []))], [(9, [11, 0], [8]), (7, [3, 10], [0]), (9, [3, 0], [6]), (7, [3, 8], [0]), (7, [3, 7], [0]), (20, [0], [50, 2, 0, 6, 8, 3, 7, 7, 3, 2, 0, 6, 0, 3, 0, 3, 2, 0, 8, 0, 9999]), (102, [5], [0]), (7, [3, 4], [1])], [], [], [(20, [9, 11], [50, 0, 0, 2, 6, 0, 2, 0, 0, 1, 0, 2, 6, 0, 2, 0, 0, 1, 1, 0, 10, 4, 6, 6, 2, 1, 0, 0, 65536, 1, 1, 0, 851970])], [], [])
theorem oo_Sy_compileValue_at_k0_0 {kA : Nat → ClassId} : or_ok PRD kA GG o_Sy_compileValue_at_k0_0 := by
  refine or_mk fun A ta ws vs hD hth hl => ?_
  intro t0 r0 t3 k3 t4 k4 t7 k7 t8 k8 t9 k9 t10 k10 t11 k11 f0 f1 f2 f3 f4 f5 ta1 w1 le1 s1 f7
  replace f0 := shm_293 f0
  replace f2 := shm_111 f2
  have g0 : v_iv (n_v vs 11) = w_fi ws (n_v vs 0) 8 := congrArg v_iv f0
  have g2 : v_iv (n_v vs 3) = w_fi ws (n_v vs 0) 6 := congrArg v_iv f2
  have kz_0_6 := fdq_313 hD hth r0
  have kz_0_8 := fdq_314 hD hth r0
  have nf0 : fc_1 PRD (20, [9, 11], [50, 0, 0, 2, 6, 0, 2, 0, 0, 1, 0, 2, 6, 0, 2, 0, 0, 1, 1, 0, 10, 4, 6, 6, 2, 1, 0, 0, 65536, 1, 1, 0, 851970]) ws (vs) := ⟨nf_in hl rfl, sgq_493 (vc_Sy_compileValue_at_k0_0_0 (v_iv (n_v vs 3)) (v_iv (n_v vs 4)) (v_iv (n_v vs 9)) (v_iv (n_v vs 11)) (w_fi ws (n_v vs 0) 8) (w_fi ws (n_v vs 0) 6) k3 k4 k9 k11 g0 g2 (shm_1840 f5) (shm_40 f7) kz_0_6 kz_0_8)⟩
  refine ⟨(fun _ h => (by cases h)), [], trivial, ?_, (fun _ h => (by cases h))⟩
  rw [List.append_nil]
  exact List.forall_mem_cons.mpr ⟨⟨show (20 : Nat) < 100 from by decide, nf0⟩, (fun _ h => (by cases h))⟩
set_option maxHeartbeats 4000000 in
theorem vc_Sy_compileValue_at_k0_1_0 (x3 : Int) (x4 : Int) (x6 : Int) (x7 : Int) (x8 : Int) (x9 : Int) (x10 : Int) (x11 : Int) (kind_0 : Int) (number_0 : Int) (k3 : 0 ≤ x3 ∧ x3 ≤ 127) (k4 : 40 ≤ x4 ∧ x4 ≤ 40) (k6 : 0 ≤ x6 ∧ x6 ≤ 38) (k7 : 3 ≤ x7 ∧ x7 ≤ 3) (k8 : (-1) ≤ x8 ∧ x8 ≤ (-1)) (k9 : 3 ≤ x9 ∧ x9 ≤ 3) (k10 : 1 ≤ x10 ∧ x10 ≤ 1) (k11 : 3 ≤ x11 ∧ x11 ≤ 3) (f0 : x3 ≠ x11) (g1 : x3 = kind_0) (f2 : x3 ≠ x9) (f3 : x6 ≠ x8) (f4 : x3 ≠ x7) (f5 : (kind_0 ≠ 3) ∨ (number_0 ≤ 9999)) (f7 : x3 ≠ x4) (kz_0_6 : 0 ≤ kind_0 ∧ kind_0 ≤ 127) (kz_0_8 : 0 ≤ number_0 ∧ number_0 ≤ 1000000) : (0 ≤ x10) ∧ ((0 ≤ x6) ∧ (((x10 * 65536) + x6) ≤ 851970)) := by
  first
    | omega
  
def o_Sy_compileValue_at_k0_1 : or_T := (108, 12, [(0, (2, 0, 0, [11])), (3, (0, 0, 127, [])), (4, (0, 40, 40, [])), (6, (0, 0, 38, [])), (7, (0, 3, 3, [])), (8, (0, -1, -1, [])), (9, (0, 3, 3, [])), (10, (0, 1, 1, [])), (11, (0, 3, 3, []))], [(7, [3, 11], [1]), (9, [3, 0], [6]), (7, [3, 9], [1]), (7, [6, 8], [1]), (7, [3, 7], [1]), (20, [0], [50, 2, 0, 6, 8, 3, 7, 7, 3, 2, 0, 6, 0, 3, 0, 3, 2, 0, 8, 0, 9999]), (102, [5], [0]), (7, [3, 4], [1])], [], [], [(20, [10, 6], [50, 0, 0, 2, 6, 0, 2, 0, 0, 1, 0, 2, 6, 0, 2, 0, 0, 1, 1, 0, 10, 4, 6, 6, 2, 1, 0, 0, 65536, 1, 1, 0, 851970])], [], [])
theorem oo_Sy_compileValue_at_k0_1 {kA : Nat → ClassId} : or_ok PRD kA GG o_Sy_compileValue_at_k0_1 := by
  refine or_mk fun A ta ws vs hD hth hl => ?_
  intro t0 r0 t3 k3 t4 k4 t6 k6 t7 k7 t8 k8 t9 k9 t10 k10 t11 k11 f0 f1 f2 f3 f4 f5 ta1 w1 le1 s1 f7
  replace f1 := shm_111 f1
  have g1 : v_iv (n_v vs 3) = w_fi ws (n_v vs 0) 6 := congrArg v_iv f1
  have kz_0_6 := fdq_313 hD hth r0
  have kz_0_8 := fdq_314 hD hth r0
  have nf0 : fc_1 PRD (20, [10, 6], [50, 0, 0, 2, 6, 0, 2, 0, 0, 1, 0, 2, 6, 0, 2, 0, 0, 1, 1, 0, 10, 4, 6, 6, 2, 1, 0, 0, 65536, 1, 1, 0, 851970]) ws (vs) := ⟨nf_in hl rfl, sgq_493 (vc_Sy_compileValue_at_k0_1_0 (v_iv (n_v vs 3)) (v_iv (n_v vs 4)) (v_iv (n_v vs 6)) (v_iv (n_v vs 7)) (v_iv (n_v vs 8)) (v_iv (n_v vs 9)) (v_iv (n_v vs 10)) (v_iv (n_v vs 11)) (w_fi ws (n_v vs 0) 6) (w_fi ws (n_v vs 0) 8) k3 k4 k6 k7 k8 k9 k10 k11 (shm_40 f0) g1 (shm_40 f2) (shm_40 f3) (shm_40 f4) (shm_1840 f5) (shm_40 f7) kz_0_6 kz_0_8)⟩
  refine ⟨(fun _ h => (by cases h)), [], trivial, ?_, (fun _ h => (by cases h))⟩
  rw [List.append_nil]
  exact List.forall_mem_cons.mpr ⟨⟨show (20 : Nat) < 100 from by decide, nf0⟩, (fun _ h => (by cases h))⟩
set_option maxHeartbeats 4000000 in
theorem vc_Sy_compileValue_at_k0_2_0 (x3 : Int) (x4 : Int) (x10 : Int) (x12 : Int) (number_0 : Int) (kind_0 : Int) (k3 : 3 ≤ x3 ∧ x3 ≤ 3) (k4 : 40 ≤ x4 ∧ x4 ≤ 40) (k10 : 1 ≤ x10 ∧ x10 ≤ 1) (k12 : 0 ≤ x12 ∧ x12 ≤ 1000000) (g0 : x12 = number_0) (g2 : x3 = kind_0) (f5 : (kind_0 ≠ 3) ∨ (number_0 ≤ 9999)) (f7 : x3 ≠ x4) (kz_0_6 : 0 ≤ kind_0 ∧ kind_0 ≤ 127) (kz_0_8 : 0 ≤ number_0 ∧ number_0 ≤ 1000000) : (0 ≤ x10) ∧ ((0 ≤ x12) ∧ (((x10 * 65536) + x12) ≤ 851970)) := by
  first
    | omega
  
def o_Sy_compileValue_at_k0_2 : or_T := (108, 13, [(0, (2, 0, 0, [11])), (3, (0, 3, 3, [])), (4, (0, 40, 40, [])), (7, (0, 3, 3, [])), (9, (0, 3, 3, [])), (10, (0, 1, 1, [])), (11, (0, 3, 3, [])), (12, (0, 0, 1000000, []))], [(9, [12, 0], [8]), (7, [3, 11], [0]), (9, [3, 0], [6]), (7, [3, 9], [1]), (7, [3, 7], [1]), (20, [0], [50, 2, 0, 6, 8, 3, 7, 7, 3, 2, 0, 6, 0, 3, 0, 3, 2, 0, 8, 0, 9999]), (102, [5], [0]), (7, [3, 4], [1])], [], [], [(20, [10, 12], [50, 0, 0, 2, 6, 0, 2, 0, 0, 1, 0, 2, 6, 0, 2, 0, 0, 1, 1, 0, 10, 4, 6, 6, 2, 1, 0, 0, 65536, 1, 1, 0, 851970])], [], [])
theorem oo_Sy_compileValue_at_k0_2 {kA : Nat → ClassId} : or_ok PRD kA GG o_Sy_compileValue_at_k0_2 := by
  refine or_mk fun A ta ws vs hD hth hl => ?_
  intro t0 r0 t3 k3 t4 k4 t7 k7 t9 k9 t10 k10 t11 k11 t12 k12 f0 f1 f2 f3 f4 f5 ta1 w1 le1 s1 f7
  replace f0 := shm_293 f0
  replace f2 := shm_111 f2
  have g0 : v_iv (n_v vs 12) = w_fi ws (n_v vs 0) 8 := congrArg v_iv f0
  have g2 : v_iv (n_v vs 3) = w_fi ws (n_v vs 0) 6 := congrArg v_iv f2
  have kz_0_6 := fdq_313 hD hth r0
  have kz_0_8 := fdq_314 hD hth r0
  have nf0 : fc_1 PRD (20, [10, 12], [50, 0, 0, 2, 6, 0, 2, 0, 0, 1, 0, 2, 6, 0, 2, 0, 0, 1, 1, 0, 10, 4, 6, 6, 2, 1, 0, 0, 65536, 1, 1, 0, 851970]) ws (vs) := ⟨nf_in hl rfl, sgq_493 (vc_Sy_compileValue_at_k0_2_0 (v_iv (n_v vs 3)) (v_iv (n_v vs 4)) (v_iv (n_v vs 10)) (v_iv (n_v vs 12)) (w_fi ws (n_v vs 0) 8) (w_fi ws (n_v vs 0) 6) k3 k4 k10 k12 g0 g2 (shm_1840 f5) (shm_40 f7) kz_0_6 kz_0_8)⟩
  refine ⟨(fun _ h => (by cases h)), [], trivial, ?_, (fun _ h => (by cases h))⟩
  rw [List.append_nil]
  exact List.forall_mem_cons.mpr ⟨⟨show (20 : Nat) < 100 from by decide, nf0⟩, (fun _ h => (by cases h))⟩
set_option maxHeartbeats 4000000 in
theorem vc_Sy_compileValue_at_k0_3_0 (x3 : Int) (x4 : Int) (x10 : Int) (x12 : Int) (number_0 : Int) (kind_0 : Int) (k3 : 3 ≤ x3 ∧ x3 ≤ 3) (k4 : 40 ≤ x4 ∧ x4 ≤ 40) (k10 : 0 ≤ x10 ∧ x10 ≤ 0) (k12 : 0 ≤ x12 ∧ x12 ≤ 1000000) (g0 : x12 = number_0) (g2 : x3 = kind_0) (f5 : (kind_0 ≠ 3) ∨ (number_0 ≤ 9999)) (f7 : x3 ≠ x4) (kz_0_6 : 0 ≤ kind_0 ∧ kind_0 ≤ 127) (kz_0_8 : 0 ≤ number_0 ∧ number_0 ≤ 1000000) : (0 ≤ x10) ∧ ((0 ≤ x12) ∧ (((x10 * 65536) + x12) ≤ 851970)) := by
  first
    | omega
  
def o_Sy_compileValue_at_k0_3 : or_T := (108, 13, [(0, (2, 0, 0, [11])), (3, (0, 3, 3, [])), (4, (0, 40, 40, [])), (7, (0, 3, 3, [])), (9, (0, 3, 3, [])), (10, (0, 0, 0, [])), (11, (0, 3, 3, [])), (12, (0, 0, 1000000, []))], [(9, [12, 0], [8]), (7, [3, 11], [0]), (9, [3, 0], [6]), (7, [3, 9], [0]), (7, [3, 7], [1]), (20, [0], [50, 2, 0, 6, 8, 3, 7, 7, 3, 2, 0, 6, 0, 3, 0, 3, 2, 0, 8, 0, 9999]), (102, [5], [0]), (7, [3, 4], [1])], [], [], [(20, [10, 12], [50, 0, 0, 2, 6, 0, 2, 0, 0, 1, 0, 2, 6, 0, 2, 0, 0, 1, 1, 0, 10, 4, 6, 6, 2, 1, 0, 0, 65536, 1, 1, 0, 851970])], [], [])
theorem oo_Sy_compileValue_at_k0_3 {kA : Nat → ClassId} : or_ok PRD kA GG o_Sy_compileValue_at_k0_3 := by
  refine or_mk fun A ta ws vs hD hth hl => ?_
  intro t0 r0 t3 k3 t4 k4 t7 k7 t9 k9 t10 k10 t11 k11 t12 k12 f0 f1 f2 f3 f4 f5 ta1 w1 le1 s1 f7
  replace f0 := shm_293 f0
  replace f2 := shm_111 f2
  have g0 : v_iv (n_v vs 12) = w_fi ws (n_v vs 0) 8 := congrArg v_iv f0
  have g2 : v_iv (n_v vs 3) = w_fi ws (n_v vs 0) 6 := congrArg v_iv f2
  have kz_0_6 := fdq_313 hD hth r0
  have kz_0_8 := fdq_314 hD hth r0
  have nf0 : fc_1 PRD (20, [10, 12], [50, 0, 0, 2, 6, 0, 2, 0, 0, 1, 0, 2, 6, 0, 2, 0, 0, 1, 1, 0, 10, 4, 6, 6, 2, 1, 0, 0, 65536, 1, 1, 0, 851970]) ws (vs) := ⟨nf_in hl rfl, sgq_493 (vc_Sy_compileValue_at_k0_3_0 (v_iv (n_v vs 3)) (v_iv (n_v vs 4)) (v_iv (n_v vs 10)) (v_iv (n_v vs 12)) (w_fi ws (n_v vs 0) 8) (w_fi ws (n_v vs 0) 6) k3 k4 k10 k12 g0 g2 (shm_1840 f5) (shm_40 f7) kz_0_6 kz_0_8)⟩
  refine ⟨(fun _ h => (by cases h)), [], trivial, ?_, (fun _ h => (by cases h))⟩
  rw [List.append_nil]
  exact List.forall_mem_cons.mpr ⟨⟨show (20 : Nat) < 100 from by decide, nf0⟩, (fun _ h => (by cases h))⟩
set_option maxHeartbeats 4000000 in
theorem vc_Sy_compileValue_at_k0_4_0 (x3 : Int) (x4 : Int) (x6 : Int) (x7 : Int) (x8 : Int) (x9 : Int) (x10 : Int) (x11 : Int) (kind_0 : Int) (number_0 : Int) (k3 : 0 ≤ x3 ∧ x3 ≤ 127) (k4 : 40 ≤ x4 ∧ x4 ≤ 40) (k6 : 0 ≤ x6 ∧ x6 ≤ 43) (k7 : 3 ≤ x7 ∧ x7 ≤ 3) (k8 : (-1) ≤ x8 ∧ x8 ≤ (-1)) (k9 : 3 ≤ x9 ∧ x9 ≤ 3) (k10 : 1 ≤ x10 ∧ x10 ≤ 1) (k11 : 3 ≤ x11 ∧ x11 ≤ 3) (f0 : x3 ≠ x11) (g1 : x3 = kind_0) (f2 : x3 ≠ x9) (f3 : x6 ≠ x8) (f4 : x3 ≠ x7) (f5 : (kind_0 ≠ 3) ∨ (number_0 ≤ 9999)) (f7 : x3 ≠ x4) (kz_0_6 : 0 ≤ kind_0 ∧ kind_0 ≤ 127) (kz_0_8 : 0 ≤ number_0 ∧ number_0 ≤ 1000000) : (0 ≤ x10) ∧ ((0 ≤ x6) ∧ (((x10 * 65536) + x6) ≤ 851970)) := by
  first
    | omega
  
def o_Sy_compileValue_at_k0_4 : or_T := (108, 12, [(0, (2, 0, 0, [11])), (3, (0, 0, 127, [])), (4, (0, 40, 40, [])), (6, (0, 0, 43, [])), (7, (0, 3, 3, [])), (8, (0, -1, -1, [])), (9, (0, 3, 3, [])), (10, (0, 1, 1, [])), (11, (0, 3, 3, []))], [(7, [3, 11], [1]), (9, [3, 0], [6]), (7, [3, 9], [1]), (7, [6, 8], [1]), (7, [3, 7], [1]), (20, [0], [50, 2, 0, 6, 8, 3, 7, 7, 3, 2, 0, 6, 0, 3, 0, 3, 2, 0, 8, 0, 9999]), (102, [5], [0]), (7, [3, 4], [1])], [], [], [(20, [10, 6], [50, 0, 0, 2, 6, 0, 2, 0, 0, 1, 0, 2, 6, 0, 2, 0, 0, 1, 1, 0, 10, 4, 6, 6, 2, 1, 0, 0, 65536, 1, 1, 0, 851970])], [], [])
theorem oo_Sy_compileValue_at_k0_4 {kA : Nat → ClassId} : or_ok PRD kA GG o_Sy_compileValue_at_k0_4 := by
  refine or_mk fun A ta ws vs hD hth hl => ?_
  intro t0 r0 t3 k3 t4 k4 t6 k6 t7 k7 t8 k8 t9 k9 t10 k10 t11 k11 f0 f1 f2 f3 f4 f5 ta1 w1 le1 s1 f7
  replace f1 := shm_111 f1
  have g1 : v_iv (n_v vs 3) = w_fi ws (n_v vs 0) 6 := congrArg v_iv f1
  have kz_0_6 := fdq_313 hD hth r0
  have kz_0_8 := fdq_314 hD hth r0
  have nf0 : fc_1 PRD (20, [10, 6], [50, 0, 0, 2, 6, 0, 2, 0, 0, 1, 0, 2, 6, 0, 2, 0, 0, 1, 1, 0, 10, 4, 6, 6, 2, 1, 0, 0, 65536, 1, 1, 0, 851970]) ws (vs) := ⟨nf_in hl rfl, sgq_493 (vc_Sy_compileValue_at_k0_4_0 (v_iv (n_v vs 3)) (v_iv (n_v vs 4)) (v_iv (n_v vs 6)) (v_iv (n_v vs 7)) (v_iv (n_v vs 8)) (v_iv (n_v vs 9)) (v_iv (n_v vs 10)) (v_iv (n_v vs 11)) (w_fi ws (n_v vs 0) 6) (w_fi ws (n_v vs 0) 8) k3 k4 k6 k7 k8 k9 k10 k11 (shm_40 f0) g1 (shm_40 f2) (shm_40 f3) (shm_40 f4) (shm_1840 f5) (shm_40 f7) kz_0_6 kz_0_8)⟩
  refine ⟨(fun _ h => (by cases h)), [], trivial, ?_, (fun _ h => (by cases h))⟩
  rw [List.append_nil]
  exact List.forall_mem_cons.mpr ⟨⟨show (20 : Nat) < 100 from by decide, nf0⟩, (fun _ h => (by cases h))⟩
def n_Sy_compileValue_at_k0_an : List an_T := []
def t_Sy_compileValue_at_k0_ct : ct_L := [(1, 69, e_Sy_advance), (1, 118, e_Sy_fail), (1, 128, e_Sy_emit), (1, 152, e_Sy_closes), (91, 137, e_Sy_compileSum_at_k1), (169, 114, e_Sy_wordIn_at_s5007), (169, 114, e_Sy_wordIn_at_s5004)]
set_option maxRecDepth 100000 in
theorem c_Sy_compileValue_at_k0 {l : Launch} {D : va_G} {kA : Nat → ClassId} (h_Sy_advance : ct_ok PRD l D kA GG y_Sy_advance z_Sy_advance e_Sy_advance) (h_Sy_closes : ct_ok PRD l D kA GG y_Sy_closes z_Sy_closes e_Sy_closes) (h_Sy_compileSum_at_k1 : ct_ok PRD l D kA GG y_Sy_compileSum_at_k1 z_Sy_compileSum_at_k1 e_Sy_compileSum_at_k1) (h_Sy_emit : ct_ok PRD l D kA GG y_Sy_emit z_Sy_emit e_Sy_emit) (h_Sy_fail : ct_ok PRD l D kA GG y_Sy_fail z_Sy_fail e_Sy_fail) (h_Sy_wordIn_at_s5004 : ct_ok PRD l D kA GG y_Sy_wordIn_at_s5004 z_Sy_wordIn_at_s5004 e_Sy_wordIn_at_s5004) (h_Sy_wordIn_at_s5007 : ct_ok PRD l D kA GG y_Sy_wordIn_at_s5007 z_Sy_wordIn_at_s5007 e_Sy_wordIn_at_s5007) : ct_ok PRD l D kA GG y_Sy_compileValue_at_k0 z_Sy_compileValue_at_k0 e_Sy_compileValue_at_k0 := chk_all_ok (FT := [(31, 11, 6), (37, 11, 8), (42, 11, 9)]) (PT := []) (CT := t_Sy_compileValue_at_k0_ct) (KT := []) (NT := []) (AN := n_Sy_compileValue_at_k0_an) (OT := [o_Sy_compileValue_at_k0_0, o_Sy_compileValue_at_k0_1, o_Sy_compileValue_at_k0_2, o_Sy_compileValue_at_k0_3, o_Sy_compileValue_at_k0_4]) 0 684 (List.forall_mem_cons.mpr ⟨oo_Sy_compileValue_at_k0_0, List.forall_mem_cons.mpr ⟨oo_Sy_compileValue_at_k0_1, List.forall_mem_cons.mpr ⟨oo_Sy_compileValue_at_k0_2, List.forall_mem_cons.mpr ⟨oo_Sy_compileValue_at_k0_3, List.forall_mem_cons.mpr ⟨oo_Sy_compileValue_at_k0_4, List.forall_mem_nil _⟩⟩⟩⟩⟩) (by decide +kernel) ⟨List.forall_mem_cons.mpr ⟨gf_Sy_31, List.forall_mem_cons.mpr ⟨gf_Sy_37, List.forall_mem_cons.mpr ⟨gf_Sy_42, List.forall_mem_nil _⟩⟩⟩, List.forall_mem_nil _, List.forall_mem_cons.mpr ⟨cl_virtual (y := y_Sy_advance) (ci := 11) rfl rfl ⟨_, _, rfl⟩ (by decide +kernel) h_Sy_advance wm_2158 wm_23 wm_2155 wm_2157 wv_10_10 ⟨by decide, by decide, by decide +kernel⟩ (by decide), List.forall_mem_cons.mpr ⟨cl_virtual (y := y_Sy_fail) (ci := 11) rfl rfl ⟨_, _, rfl⟩ (by decide +kernel) h_Sy_fail wm_2239 wm_23 wm_2236 wm_2238 wv_10_14 ⟨by decide, by decide, by decide +kernel⟩ (by decide), List.forall_mem_cons.mpr ⟨cl_virtual (y := y_Sy_emit) (ci := 11) rfl rfl ⟨_, _, rfl⟩ (by decide +kernel) h_Sy_emit wm_2258 wm_23 wm_2255 wm_2257 wv_11_2 ⟨by decide, by decide, by decide +kernel⟩ (by decide), List.forall_mem_cons.mpr ⟨cl_virtual (y := y_Sy_closes) (ci := 11) rfl rfl ⟨_, _, rfl⟩ (by decide +kernel) h_Sy_closes wm_2262 wm_23 wm_2259 wm_2261 wv_11_3 ⟨by decide, by decide, by decide +kernel⟩ (by decide), List.forall_mem_cons.mpr ⟨cl_virtual (y := y_Sy_compileSum_at_k1) (ci := 11) rfl rfl ⟨_, _, rfl⟩ (by decide +kernel) h_Sy_compileSum_at_k1 wm_2266 wm_23 wm_2263 wm_2265 wv_11_4 ⟨by decide, by decide, by decide +kernel⟩ (by decide), List.forall_mem_cons.mpr ⟨cl_virtual (y := y_Sy_wordIn_at_s5007) (ci := 11) rfl rfl ⟨_, _, rfl⟩ (by decide +kernel) h_Sy_wordIn_at_s5007 wm_2229 wm_23 wm_2226 wm_2228 wv_10_12 ⟨by decide, by decide, by decide +kernel⟩ (by decide), List.forall_mem_cons.mpr ⟨cl_virtual (y := y_Sy_wordIn_at_s5004) (ci := 11) rfl rfl ⟨_, _, rfl⟩ (by decide +kernel) h_Sy_wordIn_at_s5004 wm_2229 wm_23 wm_2226 wm_2228 wv_10_12 ⟨by decide, by decide, by decide +kernel⟩ (by decide), List.forall_mem_nil _⟩⟩⟩⟩⟩⟩⟩, List.forall_mem_nil _, List.forall_mem_nil _, GG_pl⟩ (by decide +kernel)
set_option maxHeartbeats 4000000 in
theorem vc_Sy_compileValue_at_k1_0_0 (x3 : Int) (x4 : Int) (x9 : Int) (x11 : Int) (number_0 : Int) (kind_0 : Int) (k3 : 3 ≤ x3 ∧ x3 ≤ 3) (k4 : 40 ≤ x4 ∧ x4 ≤ 40) (k9 : 0 ≤ x9 ∧ x9 ≤ 0) (k11 : 0 ≤ x11 ∧ x11 ≤ 1000000) (g0 : x11 = number_0) (g2 : x3 = kind_0) (f5 : (kind_0 ≠ 3) ∨ (number_0 ≤ 9999)) (f7 : x3 ≠ x4) (kz_0_6 : 0 ≤ kind_0 ∧ kind_0 ≤ 127) (kz_0_8 : 0 ≤ number_0 ∧ number_0 ≤ 1000000) : (0 ≤ x9) ∧ ((0 ≤ x11) ∧ (((x9 * 65536) + x11) ≤ 851970)) := by
  first
    | omega
  
def o_Sy_compileValue_at_k1_0 : or_T := (108, 12, [(0, (2, 0, 0, [11])), (3, (0, 3, 3, [])), (4, (0, 40, 40, [])), (7, (0, 3, 3, [])), (8, (0, 3, 3, [])), (9, (0, 0, 0, [])), (10, (0, 3, 3, [])), (11, (0, 0, 1000000, []))], [(9, [11, 0], [8]), (7, [3, 10], [0]), (9, [3, 0], [6]), (7, [3, 8], [0]), (7, [3, 7], [0]), (20, [0], [50, 2, 0, 6, 8, 3, 7, 7, 3, 2, 0, 6, 0, 3, 0, 3, 2, 0, 8, 0, 9999]), (102, [5], [0]), (7, [3, 4], [1])], [], [], [(20, [9, 11], [50, 0, 0, 2, 6, 0, 2, 0, 0, 1, 0, 2, 6, 0, 2, 0, 0, 1, 1, 0, 10, 4, 6, 6, 2, 1, 0, 0, 65536, 1, 1, 0, 851970])], [], [])
theorem oo_Sy_compileValue_at_k1_0 {kA : Nat → ClassId} : or_ok PRD kA GG o_Sy_compileValue_at_k1_0 := by
  refine or_mk fun A ta ws vs hD hth hl => ?_
  intro t0 r0 t3 k3 t4 k4 t7 k7 t8 k8 t9 k9 t10 k10 t11 k11 f0 f1 f2 f3 f4 f5 ta1 w1 le1 s1 f7
  replace f0 := shm_293 f0
  replace f2 := shm_111 f2
  have g0 : v_iv (n_v vs 11) = w_fi ws (n_v vs 0) 8 := congrArg v_iv f0
  have g2 : v_iv (n_v vs 3) = w_fi ws (n_v vs 0) 6 := congrArg v_iv f2
  have kz_0_6 := fdq_313 hD hth r0
  have kz_0_8 := fdq_314 hD hth r0
  have nf0 : fc_1 PRD (20, [9, 11], [50, 0, 0, 2, 6, 0, 2, 0, 0, 1, 0, 2, 6, 0, 2, 0, 0, 1, 1, 0, 10, 4, 6, 6, 2, 1, 0, 0, 65536, 1, 1, 0, 851970]) ws (vs) := ⟨nf_in hl rfl, sgq_493 (vc_Sy_compileValue_at_k1_0_0 (v_iv (n_v vs 3)) (v_iv (n_v vs 4)) (v_iv (n_v vs 9)) (v_iv (n_v vs 11)) (w_fi ws (n_v vs 0) 8) (w_fi ws (n_v vs 0) 6) k3 k4 k9 k11 g0 g2 (shm_1840 f5) (shm_40 f7) kz_0_6 kz_0_8)⟩
  refine ⟨(fun _ h => (by cases h)), [], trivial, ?_, (fun _ h => (by cases h))⟩
  rw [List.append_nil]
  exact List.forall_mem_cons.mpr ⟨⟨show (20 : Nat) < 100 from by decide, nf0⟩, (fun _ h => (by cases h))⟩
set_option maxHeartbeats 4000000 in
theorem vc_Sy_compileValue_at_k1_1_0 (x3 : Int) (x4 : Int) (x6 : Int) (x7 : Int) (x8 : Int) (x9 : Int) (x10 : Int) (x11 : Int) (kind_0 : Int) (number_0 : Int) (k3 : 0 ≤ x3 ∧ x3 ≤ 127) (k4 : 40 ≤ x4 ∧ x4 ≤ 40) (k6 : 0 ≤ x6 ∧ x6 ≤ 38) (k7 : 3 ≤ x7 ∧ x7 ≤ 3) (k8 : (-1) ≤ x8 ∧ x8 ≤ (-1)) (k9 : 3 ≤ x9 ∧ x9 ≤ 3) (k10 : 1 ≤ x10 ∧ x10 ≤ 1) (k11 : 3 ≤ x11 ∧ x11 ≤ 3) (f0 : x3 ≠ x11) (g1 : x3 = kind_0) (f2 : x3 ≠ x9) (f3 : x6 ≠ x8) (f4 : x3 ≠ x7) (f5 : (kind_0 ≠ 3) ∨ (number_0 ≤ 9999)) (f7 : x3 ≠ x4) (kz_0_6 : 0 ≤ kind_0 ∧ kind_0 ≤ 127) (kz_0_8 : 0 ≤ number_0 ∧ number_0 ≤ 1000000) : (0 ≤ x10) ∧ ((0 ≤ x6) ∧ (((x10 * 65536) + x6) ≤ 851970)) := by
  first
    | omega
  
def o_Sy_compileValue_at_k1_1 : or_T := (108, 12, [(0, (2, 0, 0, [11])), (3, (0, 0, 127, [])), (4, (0, 40, 40, [])), (6, (0, 0, 38, [])), (7, (0, 3, 3, [])), (8, (0, -1, -1, [])), (9, (0, 3, 3, [])), (10, (0, 1, 1, [])), (11, (0, 3, 3, []))], [(7, [3, 11], [1]), (9, [3, 0], [6]), (7, [3, 9], [1]), (7, [6, 8], [1]), (7, [3, 7], [1]), (20, [0], [50, 2, 0, 6, 8, 3, 7, 7, 3, 2, 0, 6, 0, 3, 0, 3, 2, 0, 8, 0, 9999]), (102, [5], [0]), (7, [3, 4], [1])], [], [], [(20, [10, 6], [50, 0, 0, 2, 6, 0, 2, 0, 0, 1, 0, 2, 6, 0, 2, 0, 0, 1, 1, 0, 10, 4, 6, 6, 2, 1, 0, 0, 65536, 1, 1, 0, 851970])], [], [])
theorem oo_Sy_compileValue_at_k1_1 {kA : Nat → ClassId} : or_ok PRD kA GG o_Sy_compileValue_at_k1_1 := by
  refine or_mk fun A ta ws vs hD hth hl => ?_
  intro t0 r0 t3 k3 t4 k4 t6 k6 t7 k7 t8 k8 t9 k9 t10 k10 t11 k11 f0 f1 f2 f3 f4 f5 ta1 w1 le1 s1 f7
  replace f1 := shm_111 f1
  have g1 : v_iv (n_v vs 3) = w_fi ws (n_v vs 0) 6 := congrArg v_iv f1
  have kz_0_6 := fdq_313 hD hth r0
  have kz_0_8 := fdq_314 hD hth r0
  have nf0 : fc_1 PRD (20, [10, 6], [50, 0, 0, 2, 6, 0, 2, 0, 0, 1, 0, 2, 6, 0, 2, 0, 0, 1, 1, 0, 10, 4, 6, 6, 2, 1, 0, 0, 65536, 1, 1, 0, 851970]) ws (vs) := ⟨nf_in hl rfl, sgq_493 (vc_Sy_compileValue_at_k1_1_0 (v_iv (n_v vs 3)) (v_iv (n_v vs 4)) (v_iv (n_v vs 6)) (v_iv (n_v vs 7)) (v_iv (n_v vs 8)) (v_iv (n_v vs 9)) (v_iv (n_v vs 10)) (v_iv (n_v vs 11)) (w_fi ws (n_v vs 0) 6) (w_fi ws (n_v vs 0) 8) k3 k4 k6 k7 k8 k9 k10 k11 (shm_40 f0) g1 (shm_40 f2) (shm_40 f3) (shm_40 f4) (shm_1840 f5) (shm_40 f7) kz_0_6 kz_0_8)⟩
  refine ⟨(fun _ h => (by cases h)), [], trivial, ?_, (fun _ h => (by cases h))⟩
  rw [List.append_nil]
  exact List.forall_mem_cons.mpr ⟨⟨show (20 : Nat) < 100 from by decide, nf0⟩, (fun _ h => (by cases h))⟩
set_option maxHeartbeats 4000000 in
theorem vc_Sy_compileValue_at_k1_2_0 (x3 : Int) (x4 : Int) (x10 : Int) (x12 : Int) (number_0 : Int) (kind_0 : Int) (k3 : 3 ≤ x3 ∧ x3 ≤ 3) (k4 : 40 ≤ x4 ∧ x4 ≤ 40) (k10 : 1 ≤ x10 ∧ x10 ≤ 1) (k12 : 0 ≤ x12 ∧ x12 ≤ 1000000) (g0 : x12 = number_0) (g2 : x3 = kind_0) (f5 : (kind_0 ≠ 3) ∨ (number_0 ≤ 9999)) (f7 : x3 ≠ x4) (kz_0_6 : 0 ≤ kind_0 ∧ kind_0 ≤ 127) (kz_0_8 : 0 ≤ number_0 ∧ number_0 ≤ 1000000) : (0 ≤ x10) ∧ ((0 ≤ x12) ∧ (((x10 * 65536) + x12) ≤ 851970)) := by
  first
    | omega
  
def o_Sy_compileValue_at_k1_2 : or_T := (108, 13, [(0, (2, 0, 0, [11])), (3, (0, 3, 3, [])), (4, (0, 40, 40, [])), (7, (0, 3, 3, [])), (9, (0, 3, 3, [])), (10, (0, 1, 1, [])), (11, (0, 3, 3, [])), (12, (0, 0, 1000000, []))], [(9, [12, 0], [8]), (7, [3, 11], [0]), (9, [3, 0], [6]), (7, [3, 9], [1]), (7, [3, 7], [1]), (20, [0], [50, 2, 0, 6, 8, 3, 7, 7, 3, 2, 0, 6, 0, 3, 0, 3, 2, 0, 8, 0, 9999]), (102, [5], [0]), (7, [3, 4], [1])], [], [], [(20, [10, 12], [50, 0, 0, 2, 6, 0, 2, 0, 0, 1, 0, 2, 6, 0, 2, 0, 0, 1, 1, 0, 10, 4, 6, 6, 2, 1, 0, 0, 65536, 1, 1, 0, 851970])], [], [])
theorem oo_Sy_compileValue_at_k1_2 {kA : Nat → ClassId} : or_ok PRD kA GG o_Sy_compileValue_at_k1_2 := by
  refine or_mk fun A ta ws vs hD hth hl => ?_
  intro t0 r0 t3 k3 t4 k4 t7 k7 t9 k9 t10 k10 t11 k11 t12 k12 f0 f1 f2 f3 f4 f5 ta1 w1 le1 s1 f7
  replace f0 := shm_293 f0
  replace f2 := shm_111 f2
  have g0 : v_iv (n_v vs 12) = w_fi ws (n_v vs 0) 8 := congrArg v_iv f0
  have g2 : v_iv (n_v vs 3) = w_fi ws (n_v vs 0) 6 := congrArg v_iv f2
  have kz_0_6 := fdq_313 hD hth r0
  have kz_0_8 := fdq_314 hD hth r0
  have nf0 : fc_1 PRD (20, [10, 12], [50, 0, 0, 2, 6, 0, 2, 0, 0, 1, 0, 2, 6, 0, 2, 0, 0, 1, 1, 0, 10, 4, 6, 6, 2, 1, 0, 0, 65536, 1, 1, 0, 851970]) ws (vs) := ⟨nf_in hl rfl, sgq_493 (vc_Sy_compileValue_at_k1_2_0 (v_iv (n_v vs 3)) (v_iv (n_v vs 4)) (v_iv (n_v vs 10)) (v_iv (n_v vs 12)) (w_fi ws (n_v vs 0) 8) (w_fi ws (n_v vs 0) 6) k3 k4 k10 k12 g0 g2 (shm_1840 f5) (shm_40 f7) kz_0_6 kz_0_8)⟩
  refine ⟨(fun _ h => (by cases h)), [], trivial, ?_, (fun _ h => (by cases h))⟩
  rw [List.append_nil]
  exact List.forall_mem_cons.mpr ⟨⟨show (20 : Nat) < 100 from by decide, nf0⟩, (fun _ h => (by cases h))⟩
set_option maxHeartbeats 4000000 in
theorem vc_Sy_compileValue_at_k1_3_0 (x3 : Int) (x4 : Int) (x10 : Int) (x12 : Int) (number_0 : Int) (kind_0 : Int) (k3 : 3 ≤ x3 ∧ x3 ≤ 3) (k4 : 40 ≤ x4 ∧ x4 ≤ 40) (k10 : 0 ≤ x10 ∧ x10 ≤ 0) (k12 : 0 ≤ x12 ∧ x12 ≤ 1000000) (g0 : x12 = number_0) (g2 : x3 = kind_0) (f5 : (kind_0 ≠ 3) ∨ (number_0 ≤ 9999)) (f7 : x3 ≠ x4) (kz_0_6 : 0 ≤ kind_0 ∧ kind_0 ≤ 127) (kz_0_8 : 0 ≤ number_0 ∧ number_0 ≤ 1000000) : (0 ≤ x10) ∧ ((0 ≤ x12) ∧ (((x10 * 65536) + x12) ≤ 851970)) := by
  first
    | omega
  
def o_Sy_compileValue_at_k1_3 : or_T := (108, 13, [(0, (2, 0, 0, [11])), (3, (0, 3, 3, [])), (4, (0, 40, 40, [])), (7, (0, 3, 3, [])), (9, (0, 3, 3, [])), (10, (0, 0, 0, [])), (11, (0, 3, 3, [])), (12, (0, 0, 1000000, []))], [(9, [12, 0], [8]), (7, [3, 11], [0]), (9, [3, 0], [6]), (7, [3, 9], [0]), (7, [3, 7], [1]), (20, [0], [50, 2, 0, 6, 8, 3, 7, 7, 3, 2, 0, 6, 0, 3, 0, 3, 2, 0, 8, 0, 9999]), (102, [5], [0]), (7, [3, 4], [1])], [], [], [(20, [10, 12], [50, 0, 0, 2, 6, 0, 2, 0, 0, 1, 0, 2, 6, 0, 2, 0, 0, 1, 1, 0, 10, 4, 6, 6, 2, 1, 0, 0, 65536, 1, 1, 0, 851970])], [], [])
theorem oo_Sy_compileValue_at_k1_3 {kA : Nat → ClassId} : or_ok PRD kA GG o_Sy_compileValue_at_k1_3 := by
  refine or_mk fun A ta ws vs hD hth hl => ?_
  intro t0 r0 t3 k3 t4 k4 t7 k7 t9 k9 t10 k10 t11 k11 t12 k12 f0 f1 f2 f3 f4 f5 ta1 w1 le1 s1 f7
  replace f0 := shm_293 f0
  replace f2 := shm_111 f2
  have g0 : v_iv (n_v vs 12) = w_fi ws (n_v vs 0) 8 := congrArg v_iv f0
  have g2 : v_iv (n_v vs 3) = w_fi ws (n_v vs 0) 6 := congrArg v_iv f2
  have kz_0_6 := fdq_313 hD hth r0
  have kz_0_8 := fdq_314 hD hth r0
  have nf0 : fc_1 PRD (20, [10, 12], [50, 0, 0, 2, 6, 0, 2, 0, 0, 1, 0, 2, 6, 0, 2, 0, 0, 1, 1, 0, 10, 4, 6, 6, 2, 1, 0, 0, 65536, 1, 1, 0, 851970]) ws (vs) := ⟨nf_in hl rfl, sgq_493 (vc_Sy_compileValue_at_k1_3_0 (v_iv (n_v vs 3)) (v_iv (n_v vs 4)) (v_iv (n_v vs 10)) (v_iv (n_v vs 12)) (w_fi ws (n_v vs 0) 8) (w_fi ws (n_v vs 0) 6) k3 k4 k10 k12 g0 g2 (shm_1840 f5) (shm_40 f7) kz_0_6 kz_0_8)⟩
  refine ⟨(fun _ h => (by cases h)), [], trivial, ?_, (fun _ h => (by cases h))⟩
  rw [List.append_nil]
  exact List.forall_mem_cons.mpr ⟨⟨show (20 : Nat) < 100 from by decide, nf0⟩, (fun _ h => (by cases h))⟩
set_option maxHeartbeats 4000000 in
theorem vc_Sy_compileValue_at_k1_4_0 (x3 : Int) (x4 : Int) (x6 : Int) (x7 : Int) (x8 : Int) (x9 : Int) (x10 : Int) (x11 : Int) (kind_0 : Int) (number_0 : Int) (k3 : 0 ≤ x3 ∧ x3 ≤ 127) (k4 : 40 ≤ x4 ∧ x4 ≤ 40) (k6 : 0 ≤ x6 ∧ x6 ≤ 43) (k7 : 3 ≤ x7 ∧ x7 ≤ 3) (k8 : (-1) ≤ x8 ∧ x8 ≤ (-1)) (k9 : 3 ≤ x9 ∧ x9 ≤ 3) (k10 : 1 ≤ x10 ∧ x10 ≤ 1) (k11 : 3 ≤ x11 ∧ x11 ≤ 3) (f0 : x3 ≠ x11) (g1 : x3 = kind_0) (f2 : x3 ≠ x9) (f3 : x6 ≠ x8) (f4 : x3 ≠ x7) (f5 : (kind_0 ≠ 3) ∨ (number_0 ≤ 9999)) (f7 : x3 ≠ x4) (kz_0_6 : 0 ≤ kind_0 ∧ kind_0 ≤ 127) (kz_0_8 : 0 ≤ number_0 ∧ number_0 ≤ 1000000) : (0 ≤ x10) ∧ ((0 ≤ x6) ∧ (((x10 * 65536) + x6) ≤ 851970)) := by
  first
    | omega
  
def o_Sy_compileValue_at_k1_4 : or_T := (108, 12, [(0, (2, 0, 0, [11])), (3, (0, 0, 127, [])), (4, (0, 40, 40, [])), (6, (0, 0, 43, [])), (7, (0, 3, 3, [])), (8, (0, -1, -1, [])), (9, (0, 3, 3, [])), (10, (0, 1, 1, [])), (11, (0, 3, 3, []))], [(7, [3, 11], [1]), (9, [3, 0], [6]), (7, [3, 9], [1]), (7, [6, 8], [1]), (7, [3, 7], [1]), (20, [0], [50, 2, 0, 6, 8, 3, 7, 7, 3, 2, 0, 6, 0, 3, 0, 3, 2, 0, 8, 0, 9999]), (102, [5], [0]), (7, [3, 4], [1])], [], [], [(20, [10, 6], [50, 0, 0, 2, 6, 0, 2, 0, 0, 1, 0, 2, 6, 0, 2, 0, 0, 1, 1, 0, 10, 4, 6, 6, 2, 1, 0, 0, 65536, 1, 1, 0, 851970])], [], [])
theorem oo_Sy_compileValue_at_k1_4 {kA : Nat → ClassId} : or_ok PRD kA GG o_Sy_compileValue_at_k1_4 := by
  refine or_mk fun A ta ws vs hD hth hl => ?_
  intro t0 r0 t3 k3 t4 k4 t6 k6 t7 k7 t8 k8 t9 k9 t10 k10 t11 k11 f0 f1 f2 f3 f4 f5 ta1 w1 le1 s1 f7
  replace f1 := shm_111 f1
  have g1 : v_iv (n_v vs 3) = w_fi ws (n_v vs 0) 6 := congrArg v_iv f1
  have kz_0_6 := fdq_313 hD hth r0
  have kz_0_8 := fdq_314 hD hth r0
  have nf0 : fc_1 PRD (20, [10, 6], [50, 0, 0, 2, 6, 0, 2, 0, 0, 1, 0, 2, 6, 0, 2, 0, 0, 1, 1, 0, 10, 4, 6, 6, 2, 1, 0, 0, 65536, 1, 1, 0, 851970]) ws (vs) := ⟨nf_in hl rfl, sgq_493 (vc_Sy_compileValue_at_k1_4_0 (v_iv (n_v vs 3)) (v_iv (n_v vs 4)) (v_iv (n_v vs 6)) (v_iv (n_v vs 7)) (v_iv (n_v vs 8)) (v_iv (n_v vs 9)) (v_iv (n_v vs 10)) (v_iv (n_v vs 11)) (w_fi ws (n_v vs 0) 6) (w_fi ws (n_v vs 0) 8) k3 k4 k6 k7 k8 k9 k10 k11 (shm_40 f0) g1 (shm_40 f2) (shm_40 f3) (shm_40 f4) (shm_1840 f5) (shm_40 f7) kz_0_6 kz_0_8)⟩
  refine ⟨(fun _ h => (by cases h)), [], trivial, ?_, (fun _ h => (by cases h))⟩
  rw [List.append_nil]
  exact List.forall_mem_cons.mpr ⟨⟨show (20 : Nat) < 100 from by decide, nf0⟩, (fun _ h => (by cases h))⟩
def n_Sy_compileValue_at_k1_an : List an_T := []
def t_Sy_compileValue_at_k1_ct : ct_L := [(1, 69, e_Sy_advance), (1, 118, e_Sy_fail), (1, 128, e_Sy_emit), (1, 152, e_Sy_closes), (91, 137, e_Sy_compileSum_at_k2), (169, 114, e_Sy_wordIn_at_s5007), (169, 114, e_Sy_wordIn_at_s5004)]
set_option maxRecDepth 100000 in
theorem c_Sy_compileValue_at_k1 {l : Launch} {D : va_G} {kA : Nat → ClassId} (h_Sy_advance : ct_ok PRD l D kA GG y_Sy_advance z_Sy_advance e_Sy_advance) (h_Sy_closes : ct_ok PRD l D kA GG y_Sy_closes z_Sy_closes e_Sy_closes) (h_Sy_compileSum_at_k2 : ct_ok PRD l D kA GG y_Sy_compileSum_at_k2 z_Sy_compileSum_at_k2 e_Sy_compileSum_at_k2) (h_Sy_emit : ct_ok PRD l D kA GG y_Sy_emit z_Sy_emit e_Sy_emit) (h_Sy_fail : ct_ok PRD l D kA GG y_Sy_fail z_Sy_fail e_Sy_fail) (h_Sy_wordIn_at_s5004 : ct_ok PRD l D kA GG y_Sy_wordIn_at_s5004 z_Sy_wordIn_at_s5004 e_Sy_wordIn_at_s5004) (h_Sy_wordIn_at_s5007 : ct_ok PRD l D kA GG y_Sy_wordIn_at_s5007 z_Sy_wordIn_at_s5007 e_Sy_wordIn_at_s5007) : ct_ok PRD l D kA GG y_Sy_compileValue_at_k1 z_Sy_compileValue_at_k1 e_Sy_compileValue_at_k1 := chk_all_ok (FT := [(31, 11, 6), (37, 11, 8), (42, 11, 9)]) (PT := []) (CT := t_Sy_compileValue_at_k1_ct) (KT := []) (NT := []) (AN := n_Sy_compileValue_at_k1_an) (OT := [o_Sy_compileValue_at_k1_0, o_Sy_compileValue_at_k1_1, o_Sy_compileValue_at_k1_2, o_Sy_compileValue_at_k1_3, o_Sy_compileValue_at_k1_4]) 0 684 (List.forall_mem_cons.mpr ⟨oo_Sy_compileValue_at_k1_0, List.forall_mem_cons.mpr ⟨oo_Sy_compileValue_at_k1_1, List.forall_mem_cons.mpr ⟨oo_Sy_compileValue_at_k1_2, List.forall_mem_cons.mpr ⟨oo_Sy_compileValue_at_k1_3, List.forall_mem_cons.mpr ⟨oo_Sy_compileValue_at_k1_4, List.forall_mem_nil _⟩⟩⟩⟩⟩) (by decide +kernel) ⟨List.forall_mem_cons.mpr ⟨gf_Sy_31, List.forall_mem_cons.mpr ⟨gf_Sy_37, List.forall_mem_cons.mpr ⟨gf_Sy_42, List.forall_mem_nil _⟩⟩⟩, List.forall_mem_nil _, List.forall_mem_cons.mpr ⟨cl_virtual (y := y_Sy_advance) (ci := 11) rfl rfl ⟨_, _, rfl⟩ (by decide +kernel) h_Sy_advance wm_2158 wm_23 wm_2155 wm_2157 wv_10_10 ⟨by decide, by decide, by decide +kernel⟩ (by decide), List.forall_mem_cons.mpr ⟨cl_virtual (y := y_Sy_fail) (ci := 11) rfl rfl ⟨_, _, rfl⟩ (by decide +kernel) h_Sy_fail wm_2239 wm_23 wm_2236 wm_2238 wv_10_14 ⟨by decide, by decide, by decide +kernel⟩ (by decide), List.forall_mem_cons.mpr ⟨cl_virtual (y := y_Sy_emit) (ci := 11) rfl rfl ⟨_, _, rfl⟩ (by decide +kernel) h_Sy_emit wm_2258 wm_23 wm_2255 wm_2257 wv_11_2 ⟨by decide, by decide, by decide +kernel⟩ (by decide), List.forall_mem_cons.mpr ⟨cl_virtual (y := y_Sy_closes) (ci := 11) rfl rfl ⟨_, _, rfl⟩ (by decide +kernel) h_Sy_closes wm_2262 wm_23 wm_2259 wm_2261 wv_11_3 ⟨by decide, by decide, by decide +kernel⟩ (by decide), List.forall_mem_cons.mpr ⟨cl_virtual (y := y_Sy_compileSum_at_k2) (ci := 11) rfl rfl ⟨_, _, rfl⟩ (by decide +kernel) h_Sy_compileSum_at_k2 wm_2266 wm_23 wm_2263 wm_2265 wv_11_4 ⟨by decide, by decide, by decide +kernel⟩ (by decide), List.forall_mem_cons.mpr ⟨cl_virtual (y := y_Sy_wordIn_at_s5007) (ci := 11) rfl rfl ⟨_, _, rfl⟩ (by decide +kernel) h_Sy_wordIn_at_s5007 wm_2229 wm_23 wm_2226 wm_2228 wv_10_12 ⟨by decide, by decide, by decide +kernel⟩ (by decide), List.forall_mem_cons.mpr ⟨cl_virtual (y := y_Sy_wordIn_at_s5004) (ci := 11) rfl rfl ⟨_, _, rfl⟩ (by decide +kernel) h_Sy_wordIn_at_s5004 wm_2229 wm_23 wm_2226 wm_2228 wv_10_12 ⟨by decide, by decide, by decide +kernel⟩ (by decide), List.forall_mem_nil _⟩⟩⟩⟩⟩⟩⟩, List.forall_mem_nil _, List.forall_mem_nil _, GG_pl⟩ (by decide +kernel)
set_option maxHeartbeats 4000000 in
theorem vc_Sy_compileValue_at_k10_0_0 (x3 : Int) (x4 : Int) (x9 : Int) (x11 : Int) (number_0 : Int) (kind_0 : Int) (k3 : 3 ≤ x3 ∧ x3 ≤ 3) (k4 : 40 ≤ x4 ∧ x4 ≤ 40) (k9 : 0 ≤ x9 ∧ x9 ≤ 0) (k11 : 0 ≤ x11 ∧ x11 ≤ 1000000) (g0 : x11 = number_0) (g2 : x3 = kind_0) (f5 : (kind_0 ≠ 3) ∨ (number_0 ≤ 9999)) (f7 : x3 ≠ x4) (kz_0_6 : 0 ≤ kind_0 ∧ kind_0 ≤ 127) (kz_0_8 : 0 ≤ number_0 ∧ number_0 ≤ 1000000) : (0 ≤ x9) ∧ ((0 ≤ x11) ∧ (((x9 * 65536) + x11) ≤ 851970)) := by
  first
    | omega
  
def o_Sy_compileValue_at_k10_0 : or_T := (108, 12, [(0, (2, 0, 0, [11])), (3, (0, 3, 3, [])), (4, (0, 40, 40, [])), (7, (0, 3, 3, [])), (8, (0, 3, 3, [])), (9, (0, 0, 0, [])), (10, (0, 3, 3, [])), (11, (0, 0, 1000000, []))], [(9, [11, 0], [8]), (7, [3, 10], [0]), (9, [3, 0], [6]), (7, [3, 8], [0]), (7, [3, 7], [0]), (20, [0], [50, 2, 0, 6, 8, 3, 7, 7, 3, 2, 0, 6, 0, 3, 0, 3, 2, 0, 8, 0, 9999]), (102, [5], [0]), (7, [3, 4], [1])], [], [], [(20, [9, 11], [50, 0, 0, 2, 6, 0, 2, 0, 0, 1, 0, 2, 6, 0, 2, 0, 0, 1, 1, 0, 10, 4, 6, 6, 2, 1, 0, 0, 65536, 1, 1, 0, 851970])], [], [])
theorem oo_Sy_compileValue_at_k10_0 {kA : Nat → ClassId} : or_ok PRD kA GG o_Sy_compileValue_at_k10_0 := by
  refine or_mk fun A ta ws vs hD hth hl => ?_
  intro t0 r0 t3 k3 t4 k4 t7 k7 t8 k8 t9 k9 t10 k10 t11 k11 f0 f1 f2 f3 f4 f5 ta1 w1 le1 s1 f7
  replace f0 := shm_293 f0
  replace f2 := shm_111 f2
  have g0 : v_iv (n_v vs 11) = w_fi ws (n_v vs 0) 8 := congrArg v_iv f0
  have g2 : v_iv (n_v vs 3) = w_fi ws (n_v vs 0) 6 := congrArg v_iv f2
  have kz_0_6 := fdq_313 hD hth r0
  have kz_0_8 := fdq_314 hD hth r0
  have nf0 : fc_1 PRD (20, [9, 11], [50, 0, 0, 2, 6, 0, 2, 0, 0, 1, 0, 2, 6, 0, 2, 0, 0, 1, 1, 0, 10, 4, 6, 6, 2, 1, 0, 0, 65536, 1, 1, 0, 851970]) ws (vs) := ⟨nf_in hl rfl, sgq_493 (vc_Sy_compileValue_at_k10_0_0 (v_iv (n_v vs 3)) (v_iv (n_v vs 4)) (v_iv (n_v vs 9)) (v_iv (n_v vs 11)) (w_fi ws (n_v vs 0) 8) (w_fi ws (n_v vs 0) 6) k3 k4 k9 k11 g0 g2 (shm_1840 f5) (shm_40 f7) kz_0_6 kz_0_8)⟩
  refine ⟨(fun _ h => (by cases h)), [], trivial, ?_, (fun _ h => (by cases h))⟩
  rw [List.append_nil]
  exact List.forall_mem_cons.mpr ⟨⟨show (20 : Nat) < 100 from by decide, nf0⟩, (fun _ h => (by cases h))⟩
set_option maxHeartbeats 4000000 in
theorem vc_Sy_compileValue_at_k10_1_0 (x3 : Int) (x4 : Int) (x6 : Int) (x7 : Int) (x8 : Int) (x9 : Int) (x10 : Int) (x11 : Int) (kind_0 : Int) (number_0 : Int) (k3 : 0 ≤ x3 ∧ x3 ≤ 127) (k4 : 40 ≤ x4 ∧ x4 ≤ 40) (k6 : 0 ≤ x6 ∧ x6 ≤ 38) (k7 : 3 ≤ x7 ∧ x7 ≤ 3) (k8 : (-1) ≤ x8 ∧ x8 ≤ (-1)) (k9 : 3 ≤ x9 ∧ x9 ≤ 3) (k10 : 1 ≤ x10 ∧ x10 ≤ 1) (k11 : 3 ≤ x11 ∧ x11 ≤ 3) (f0 : x3 ≠ x11) (g1 : x3 = kind_0) (f2 : x3 ≠ x9) (f3 : x6 ≠ x8) (f4 : x3 ≠ x7) (f5 : (kind_0 ≠ 3) ∨ (number_0 ≤ 9999)) (f7 : x3 ≠ x4) (kz_0_6 : 0 ≤ kind_0 ∧ kind_0 ≤ 127) (kz_0_8 : 0 ≤ number_0 ∧ number_0 ≤ 1000000) : (0 ≤ x10) ∧ ((0 ≤ x6) ∧ (((x10 * 65536) + x6) ≤ 851970)) := by
  first
    | omega
  
def o_Sy_compileValue_at_k10_1 : or_T := (108, 12, [(0, (2, 0, 0, [11])), (3, (0, 0, 127, [])), (4, (0, 40, 40, [])), (6, (0, 0, 38, [])), (7, (0, 3, 3, [])), (8, (0, -1, -1, [])), (9, (0, 3, 3, [])), (10, (0, 1, 1, [])), (11, (0, 3, 3, []))], [(7, [3, 11], [1]), (9, [3, 0], [6]), (7, [3, 9], [1]), (7, [6, 8], [1]), (7, [3, 7], [1]), (20, [0], [50, 2, 0, 6, 8, 3, 7, 7, 3, 2, 0, 6, 0, 3, 0, 3, 2, 0, 8, 0, 9999]), (102, [5], [0]), (7, [3, 4], [1])], [], [], [(20, [10, 6], [50, 0, 0, 2, 6, 0, 2, 0, 0, 1, 0, 2, 6, 0, 2, 0, 0, 1, 1, 0, 10, 4, 6, 6, 2, 1, 0, 0, 65536, 1, 1, 0, 851970])], [], [])
theorem oo_Sy_compileValue_at_k10_1 {kA : Nat → ClassId} : or_ok PRD kA GG o_Sy_compileValue_at_k10_1 := by
  refine or_mk fun A ta ws vs hD hth hl => ?_
  intro t0 r0 t3 k3 t4 k4 t6 k6 t7 k7 t8 k8 t9 k9 t10 k10 t11 k11 f0 f1 f2 f3 f4 f5 ta1 w1 le1 s1 f7
  replace f1 := shm_111 f1
  have g1 : v_iv (n_v vs 3) = w_fi ws (n_v vs 0) 6 := congrArg v_iv f1
  have kz_0_6 := fdq_313 hD hth r0
  have kz_0_8 := fdq_314 hD hth r0
  have nf0 : fc_1 PRD (20, [10, 6], [50, 0, 0, 2, 6, 0, 2, 0, 0, 1, 0, 2, 6, 0, 2, 0, 0, 1, 1, 0, 10, 4, 6, 6, 2, 1, 0, 0, 65536, 1, 1, 0, 851970]) ws (vs) := ⟨nf_in hl rfl, sgq_493 (vc_Sy_compileValue_at_k10_1_0 (v_iv (n_v vs 3)) (v_iv (n_v vs 4)) (v_iv (n_v vs 6)) (v_iv (n_v vs 7)) (v_iv (n_v vs 8)) (v_iv (n_v vs 9)) (v_iv (n_v vs 10)) (v_iv (n_v vs 11)) (w_fi ws (n_v vs 0) 6) (w_fi ws (n_v vs 0) 8) k3 k4 k6 k7 k8 k9 k10 k11 (shm_40 f0) g1 (shm_40 f2) (shm_40 f3) (shm_40 f4) (shm_1840 f5) (shm_40 f7) kz_0_6 kz_0_8)⟩
  refine ⟨(fun _ h => (by cases h)), [], trivial, ?_, (fun _ h => (by cases h))⟩
  rw [List.append_nil]
  exact List.forall_mem_cons.mpr ⟨⟨show (20 : Nat) < 100 from by decide, nf0⟩, (fun _ h => (by cases h))⟩
set_option maxHeartbeats 4000000 in
theorem vc_Sy_compileValue_at_k10_2_0 (x3 : Int) (x4 : Int) (x10 : Int) (x12 : Int) (number_0 : Int) (kind_0 : Int) (k3 : 3 ≤ x3 ∧ x3 ≤ 3) (k4 : 40 ≤ x4 ∧ x4 ≤ 40) (k10 : 1 ≤ x10 ∧ x10 ≤ 1) (k12 : 0 ≤ x12 ∧ x12 ≤ 1000000) (g0 : x12 = number_0) (g2 : x3 = kind_0) (f5 : (kind_0 ≠ 3) ∨ (number_0 ≤ 9999)) (f7 : x3 ≠ x4) (kz_0_6 : 0 ≤ kind_0 ∧ kind_0 ≤ 127) (kz_0_8 : 0 ≤ number_0 ∧ number_0 ≤ 1000000) : (0 ≤ x10) ∧ ((0 ≤ x12) ∧ (((x10 * 65536) + x12) ≤ 851970)) := by
  first
    | omega
  
def o_Sy_compileValue_at_k10_2 : or_T := (108, 13, [(0, (2, 0, 0, [11])), (3, (0, 3, 3, [])), (4, (0, 40, 40, [])), (7, (0, 3, 3, [])), (9, (0, 3, 3, [])), (10, (0, 1, 1, [])), (11, (0, 3, 3, [])), (12, (0, 0, 1000000, []))], [(9, [12, 0], [8]), (7, [3, 11], [0]), (9, [3, 0], [6]), (7, [3, 9], [1]), (7, [3, 7], [1]), (20, [0], [50, 2, 0, 6, 8, 3, 7, 7, 3, 2, 0, 6, 0, 3, 0, 3, 2, 0, 8, 0, 9999]), (102, [5], [0]), (7, [3, 4], [1])], [], [], [(20, [10, 12], [50, 0, 0, 2, 6, 0, 2, 0, 0, 1, 0, 2, 6, 0, 2, 0, 0, 1, 1, 0, 10, 4, 6, 6, 2, 1, 0, 0, 65536, 1, 1, 0, 851970])], [], [])
theorem oo_Sy_compileValue_at_k10_2 {kA : Nat → ClassId} : or_ok PRD kA GG o_Sy_compileValue_at_k10_2 := by
  refine or_mk fun A ta ws vs hD hth hl => ?_
  intro t0 r0 t3 k3 t4 k4 t7 k7 t9 k9 t10 k10 t11 k11 t12 k12 f0 f1 f2 f3 f4 f5 ta1 w1 le1 s1 f7
  replace f0 := shm_293 f0
  replace f2 := shm_111 f2
  have g0 : v_iv (n_v vs 12) = w_fi ws (n_v vs 0) 8 := congrArg v_iv f0
  have g2 : v_iv (n_v vs 3) = w_fi ws (n_v vs 0) 6 := congrArg v_iv f2
  have kz_0_6 := fdq_313 hD hth r0
  have kz_0_8 := fdq_314 hD hth r0
  have nf0 : fc_1 PRD (20, [10, 12], [50, 0, 0, 2, 6, 0, 2, 0, 0, 1, 0, 2, 6, 0, 2, 0, 0, 1, 1, 0, 10, 4, 6, 6, 2, 1, 0, 0, 65536, 1, 1, 0, 851970]) ws (vs) := ⟨nf_in hl rfl, sgq_493 (vc_Sy_compileValue_at_k10_2_0 (v_iv (n_v vs 3)) (v_iv (n_v vs 4)) (v_iv (n_v vs 10)) (v_iv (n_v vs 12)) (w_fi ws (n_v vs 0) 8) (w_fi ws (n_v vs 0) 6) k3 k4 k10 k12 g0 g2 (shm_1840 f5) (shm_40 f7) kz_0_6 kz_0_8)⟩
  refine ⟨(fun _ h => (by cases h)), [], trivial, ?_, (fun _ h => (by cases h))⟩
  rw [List.append_nil]
  exact List.forall_mem_cons.mpr ⟨⟨show (20 : Nat) < 100 from by decide, nf0⟩, (fun _ h => (by cases h))⟩
set_option maxHeartbeats 4000000 in
theorem vc_Sy_compileValue_at_k10_3_0 (x3 : Int) (x4 : Int) (x10 : Int) (x12 : Int) (number_0 : Int) (kind_0 : Int) (k3 : 3 ≤ x3 ∧ x3 ≤ 3) (k4 : 40 ≤ x4 ∧ x4 ≤ 40) (k10 : 0 ≤ x10 ∧ x10 ≤ 0) (k12 : 0 ≤ x12 ∧ x12 ≤ 1000000) (g0 : x12 = number_0) (g2 : x3 = kind_0) (f5 : (kind_0 ≠ 3) ∨ (number_0 ≤ 9999)) (f7 : x3 ≠ x4) (kz_0_6 : 0 ≤ kind_0 ∧ kind_0 ≤ 127) (kz_0_8 : 0 ≤ number_0 ∧ number_0 ≤ 1000000) : (0 ≤ x10) ∧ ((0 ≤ x12) ∧ (((x10 * 65536) + x12) ≤ 851970)) := by
  first
    | omega
  
def o_Sy_compileValue_at_k10_3 : or_T := (108, 13, [(0, (2, 0, 0, [11])), (3, (0, 3, 3, [])), (4, (0, 40, 40, [])), (7, (0, 3, 3, [])), (9, (0, 3, 3, [])), (10, (0, 0, 0, [])), (11, (0, 3, 3, [])), (12, (0, 0, 1000000, []))], [(9, [12, 0], [8]), (7, [3, 11], [0]), (9, [3, 0], [6]), (7, [3, 9], [0]), (7, [3, 7], [1]), (20, [0], [50, 2, 0, 6, 8, 3, 7, 7, 3, 2, 0, 6, 0, 3, 0, 3, 2, 0, 8, 0, 9999]), (102, [5], [0]), (7, [3, 4], [1])], [], [], [(20, [10, 12], [50, 0, 0, 2, 6, 0, 2, 0, 0, 1, 0, 2, 6, 0, 2, 0, 0, 1, 1, 0, 10, 4, 6, 6, 2, 1, 0, 0, 65536, 1, 1, 0, 851970])], [], [])
theorem oo_Sy_compileValue_at_k10_3 {kA : Nat → ClassId} : or_ok PRD kA GG o_Sy_compileValue_at_k10_3 := by
  refine or_mk fun A ta ws vs hD hth hl => ?_
  intro t0 r0 t3 k3 t4 k4 t7 k7 t9 k9 t10 k10 t11 k11 t12 k12 f0 f1 f2 f3 f4 f5 ta1 w1 le1 s1 f7
  replace f0 := shm_293 f0
  replace f2 := shm_111 f2
  have g0 : v_iv (n_v vs 12) = w_fi ws (n_v vs 0) 8 := congrArg v_iv f0
  have g2 : v_iv (n_v vs 3) = w_fi ws (n_v vs 0) 6 := congrArg v_iv f2
  have kz_0_6 := fdq_313 hD hth r0
  have kz_0_8 := fdq_314 hD hth r0
  have nf0 : fc_1 PRD (20, [10, 12], [50, 0, 0, 2, 6, 0, 2, 0, 0, 1, 0, 2, 6, 0, 2, 0, 0, 1, 1, 0, 10, 4, 6, 6, 2, 1, 0, 0, 65536, 1, 1, 0, 851970]) ws (vs) := ⟨nf_in hl rfl, sgq_493 (vc_Sy_compileValue_at_k10_3_0 (v_iv (n_v vs 3)) (v_iv (n_v vs 4)) (v_iv (n_v vs 10)) (v_iv (n_v vs 12)) (w_fi ws (n_v vs 0) 8) (w_fi ws (n_v vs 0) 6) k3 k4 k10 k12 g0 g2 (shm_1840 f5) (shm_40 f7) kz_0_6 kz_0_8)⟩
  refine ⟨(fun _ h => (by cases h)), [], trivial, ?_, (fun _ h => (by cases h))⟩
  rw [List.append_nil]
  exact List.forall_mem_cons.mpr ⟨⟨show (20 : Nat) < 100 from by decide, nf0⟩, (fun _ h => (by cases h))⟩
set_option maxHeartbeats 4000000 in
theorem vc_Sy_compileValue_at_k10_4_0 (x3 : Int) (x4 : Int) (x6 : Int) (x7 : Int) (x8 : Int) (x9 : Int) (x10 : Int) (x11 : Int) (kind_0 : Int) (number_0 : Int) (k3 : 0 ≤ x3 ∧ x3 ≤ 127) (k4 : 40 ≤ x4 ∧ x4 ≤ 40) (k6 : 0 ≤ x6 ∧ x6 ≤ 43) (k7 : 3 ≤ x7 ∧ x7 ≤ 3) (k8 : (-1) ≤ x8 ∧ x8 ≤ (-1)) (k9 : 3 ≤ x9 ∧ x9 ≤ 3) (k10 : 1 ≤ x10 ∧ x10 ≤ 1) (k11 : 3 ≤ x11 ∧ x11 ≤ 3) (f0 : x3 ≠ x11) (g1 : x3 = kind_0) (f2 : x3 ≠ x9) (f3 : x6 ≠ x8) (f4 : x3 ≠ x7) (f5 : (kind_0 ≠ 3) ∨ (number_0 ≤ 9999)) (f7 : x3 ≠ x4) (kz_0_6 : 0 ≤ kind_0 ∧ kind_0 ≤ 127) (kz_0_8 : 0 ≤ number_0 ∧ number_0 ≤ 1000000) : (0 ≤ x10) ∧ ((0 ≤ x6) ∧ (((x10 * 65536) + x6) ≤ 851970)) := by
  first
    | omega
  
def o_Sy_compileValue_at_k10_4 : or_T := (108, 12, [(0, (2, 0, 0, [11])), (3, (0, 0, 127, [])), (4, (0, 40, 40, [])), (6, (0, 0, 43, [])), (7, (0, 3, 3, [])), (8, (0, -1, -1, [])), (9, (0, 3, 3, [])), (10, (0, 1, 1, [])), (11, (0, 3, 3, []))], [(7, [3, 11], [1]), (9, [3, 0], [6]), (7, [3, 9], [1]), (7, [6, 8], [1]), (7, [3, 7], [1]), (20, [0], [50, 2, 0, 6, 8, 3, 7, 7, 3, 2, 0, 6, 0, 3, 0, 3, 2, 0, 8, 0, 9999]), (102, [5], [0]), (7, [3, 4], [1])], [], [], [(20, [10, 6], [50, 0, 0, 2, 6, 0, 2, 0, 0, 1, 0, 2, 6, 0, 2, 0, 0, 1, 1, 0, 10, 4, 6, 6, 2, 1, 0, 0, 65536, 1, 1, 0, 851970])], [], [])
theorem oo_Sy_compileValue_at_k10_4 {kA : Nat → ClassId} : or_ok PRD kA GG o_Sy_compileValue_at_k10_4 := by
  refine or_mk fun A ta ws vs hD hth hl => ?_
  intro t0 r0 t3 k3 t4 k4 t6 k6 t7 k7 t8 k8 t9 k9 t10 k10 t11 k11 f0 f1 f2 f3 f4 f5 ta1 w1 le1 s1 f7
  replace f1 := shm_111 f1
  have g1 : v_iv (n_v vs 3) = w_fi ws (n_v vs 0) 6 := congrArg v_iv f1
  have kz_0_6 := fdq_313 hD hth r0
  have kz_0_8 := fdq_314 hD hth r0
  have nf0 : fc_1 PRD (20, [10, 6], [50, 0, 0, 2, 6, 0, 2, 0, 0, 1, 0, 2, 6, 0, 2, 0, 0, 1, 1, 0, 10, 4, 6, 6, 2, 1, 0, 0, 65536, 1, 1, 0, 851970]) ws (vs) := ⟨nf_in hl rfl, sgq_493 (vc_Sy_compileValue_at_k10_4_0 (v_iv (n_v vs 3)) (v_iv (n_v vs 4)) (v_iv (n_v vs 6)) (v_iv (n_v vs 7)) (v_iv (n_v vs 8)) (v_iv (n_v vs 9)) (v_iv (n_v vs 10)) (v_iv (n_v vs 11)) (w_fi ws (n_v vs 0) 6) (w_fi ws (n_v vs 0) 8) k3 k4 k6 k7 k8 k9 k10 k11 (shm_40 f0) g1 (shm_40 f2) (shm_40 f3) (shm_40 f4) (shm_1840 f5) (shm_40 f7) kz_0_6 kz_0_8)⟩
  refine ⟨(fun _ h => (by cases h)), [], trivial, ?_, (fun _ h => (by cases h))⟩
  rw [List.append_nil]
  exact List.forall_mem_cons.mpr ⟨⟨show (20 : Nat) < 100 from by decide, nf0⟩, (fun _ h => (by cases h))⟩
def n_Sy_compileValue_at_k10_an : List an_T := []
def t_Sy_compileValue_at_k10_ct : ct_L := [(1, 69, e_Sy_advance), (1, 118, e_Sy_fail), (1, 128, e_Sy_emit), (1, 152, e_Sy_closes), (91, 137, e_Sy_compileSum_at_k11), (169, 114, e_Sy_wordIn_at_s5007), (169, 114, e_Sy_wordIn_at_s5004)]
set_option maxRecDepth 100000 in
theorem c_Sy_compileValue_at_k10 {l : Launch} {D : va_G} {kA : Nat → ClassId} (h_Sy_advance : ct_ok PRD l D kA GG y_Sy_advance z_Sy_advance e_Sy_advance) (h_Sy_closes : ct_ok PRD l D kA GG y_Sy_closes z_Sy_closes e_Sy_closes) (h_Sy_compileSum_at_k11 : ct_ok PRD l D kA GG y_Sy_compileSum_at_k11 z_Sy_compileSum_at_k11 e_Sy_compileSum_at_k11) (h_Sy_emit : ct_ok PRD l D kA GG y_Sy_emit z_Sy_emit e_Sy_emit) (h_Sy_fail : ct_ok PRD l D kA GG y_Sy_fail z_Sy_fail e_Sy_fail) (h_Sy_wordIn_at_s5004 : ct_ok PRD l D kA GG y_Sy_wordIn_at_s5004 z_Sy_wordIn_at_s5004 e_Sy_wordIn_at_s5004) (h_Sy_wordIn_at_s5007 : ct_ok PRD l D kA GG y_Sy_wordIn_at_s5007 z_Sy_wordIn_at_s5007 e_Sy_wordIn_at_s5007) : ct_ok PRD l D kA GG y_Sy_compileValue_at_k10 z_Sy_compileValue_at_k10 e_Sy_compileValue_at_k10 := chk_all_ok (FT := [(31, 11, 6), (37, 11, 8), (42, 11, 9)]) (PT := []) (CT := t_Sy_compileValue_at_k10_ct) (KT := []) (NT := []) (AN := n_Sy_compileValue_at_k10_an) (OT := [o_Sy_compileValue_at_k10_0, o_Sy_compileValue_at_k10_1, o_Sy_compileValue_at_k10_2, o_Sy_compileValue_at_k10_3, o_Sy_compileValue_at_k10_4]) 0 684 (List.forall_mem_cons.mpr ⟨oo_Sy_compileValue_at_k10_0, List.forall_mem_cons.mpr ⟨oo_Sy_compileValue_at_k10_1, List.forall_mem_cons.mpr ⟨oo_Sy_compileValue_at_k10_2, List.forall_mem_cons.mpr ⟨oo_Sy_compileValue_at_k10_3, List.forall_mem_cons.mpr ⟨oo_Sy_compileValue_at_k10_4, List.forall_mem_nil _⟩⟩⟩⟩⟩) (by decide +kernel) ⟨List.forall_mem_cons.mpr ⟨gf_Sy_31, List.forall_mem_cons.mpr ⟨gf_Sy_37, List.forall_mem_cons.mpr ⟨gf_Sy_42, List.forall_mem_nil _⟩⟩⟩, List.forall_mem_nil _, List.forall_mem_cons.mpr ⟨cl_virtual (y := y_Sy_advance) (ci := 11) rfl rfl ⟨_, _, rfl⟩ (by decide +kernel) h_Sy_advance wm_2158 wm_23 wm_2155 wm_2157 wv_10_10 ⟨by decide, by decide, by decide +kernel⟩ (by decide), List.forall_mem_cons.mpr ⟨cl_virtual (y := y_Sy_fail) (ci := 11) rfl rfl ⟨_, _, rfl⟩ (by decide +kernel) h_Sy_fail wm_2239 wm_23 wm_2236 wm_2238 wv_10_14 ⟨by decide, by decide, by decide +kernel⟩ (by decide), List.forall_mem_cons.mpr ⟨cl_virtual (y := y_Sy_emit) (ci := 11) rfl rfl ⟨_, _, rfl⟩ (by decide +kernel) h_Sy_emit wm_2258 wm_23 wm_2255 wm_2257 wv_11_2 ⟨by decide, by decide, by decide +kernel⟩ (by decide), List.forall_mem_cons.mpr ⟨cl_virtual (y := y_Sy_closes) (ci := 11) rfl rfl ⟨_, _, rfl⟩ (by decide +kernel) h_Sy_closes wm_2262 wm_23 wm_2259 wm_2261 wv_11_3 ⟨by decide, by decide, by decide +kernel⟩ (by decide), List.forall_mem_cons.mpr ⟨cl_virtual (y := y_Sy_compileSum_at_k11) (ci := 11) rfl rfl ⟨_, _, rfl⟩ (by decide +kernel) h_Sy_compileSum_at_k11 wm_2266 wm_23 wm_2263 wm_2265 wv_11_4 ⟨by decide, by decide, by decide +kernel⟩ (by decide), List.forall_mem_cons.mpr ⟨cl_virtual (y := y_Sy_wordIn_at_s5007) (ci := 11) rfl rfl ⟨_, _, rfl⟩ (by decide +kernel) h_Sy_wordIn_at_s5007 wm_2229 wm_23 wm_2226 wm_2228 wv_10_12 ⟨by decide, by decide, by decide +kernel⟩ (by decide), List.forall_mem_cons.mpr ⟨cl_virtual (y := y_Sy_wordIn_at_s5004) (ci := 11) rfl rfl ⟨_, _, rfl⟩ (by decide +kernel) h_Sy_wordIn_at_s5004 wm_2229 wm_23 wm_2226 wm_2228 wv_10_12 ⟨by decide, by decide, by decide +kernel⟩ (by decide), List.forall_mem_nil _⟩⟩⟩⟩⟩⟩⟩, List.forall_mem_nil _, List.forall_mem_nil _, GG_pl⟩ (by decide +kernel)

set_option maxHeartbeats 4000000 in
theorem vc_Sy_compileValue_at_k11_0_0 (x3 : Int) (x4 : Int) (x9 : Int) (x11 : Int) (number_0 : Int) (kind_0 : Int) (k3 : 3 ≤ x3 ∧ x3 ≤ 3) (k4 : 40 ≤ x4 ∧ x4 ≤ 40) (k9 : 0 ≤ x9 ∧ x9 ≤ 0) (k11 : 0 ≤ x11 ∧ x11 ≤ 1000000) (g0 : x11 = number_0) (g2 : x3 = kind_0) (f5 : (kind_0 ≠ 3) ∨ (number_0 ≤ 9999)) (f7 : x3 ≠ x4) (kz_0_6 : 0 ≤ kind_0 ∧ kind_0 ≤ 127) (kz_0_8 : 0 ≤ number_0 ∧ number_0 ≤ 1000000) : (0 ≤ x9) ∧ ((0 ≤ x11) ∧ (((x9 * 65536) + x11) ≤ 851970)) := by
  first
    | omega
  
def o_Sy_compileValue_at_k11_0 : or_T := (108, 12, [(0, (2, 0, 0, [11])), (3, (0, 3, 3, [])), (4, (0, 40, 40, [])), (7, (0, 3, 3, [])), (8, (0, 3, 3, [])), (9, (0, 0, 0, [])), (10, (0, 3, 3, [])), (11, (0, 0, 1000000, []))], [(9, [11, 0], [8]), (7, [3, 10], [0]), (9, [3, 0], [6]), (7, [3, 8], [0]), (7, [3, 7], [0]), (20, [0], [50, 2, 0, 6, 8, 3, 7, 7, 3, 2, 0, 6, 0, 3, 0, 3, 2, 0, 8, 0, 9999]), (102, [5], [0]), (7, [3, 4], [1])], [], [], [(20, [9, 11], [50, 0, 0, 2, 6, 0, 2, 0, 0, 1, 0, 2, 6, 0, 2, 0, 0, 1, 1, 0, 10, 4, 6, 6, 2, 1, 0, 0, 65536, 1, 1, 0, 851970])], [], [])
theorem oo_Sy_compileValue_at_k11_0 {kA : Nat → ClassId} : or_ok PRD kA GG o_Sy_compileValue_at_k11_0 := by
  refine or_mk fun A ta ws vs hD hth hl => ?_
  intro t0 r0 t3 k3 t4 k4 t7 k7 t8 k8 t9 k9 t10 k10 t11 k11 f0 f1 f2 f3 f4 f5 ta1 w1 le1 s1 f7
  replace f0 := shm_293 f0
  replace f2 := shm_111 f2
  have g0 : v_iv (n_v vs 11) = w_fi ws (n_v vs 0) 8 := congrArg v_iv f0
  have g2 : v_iv (n_v vs 3) = w_fi ws (n_v vs 0) 6 := congrArg v_iv f2
  have kz_0_6 := fdq_313 hD hth r0
  have kz_0_8 := fdq_314 hD hth r0
  have nf0 : fc_1 PRD (20, [9, 11], [50, 0, 0, 2, 6, 0, 2, 0, 0, 1, 0, 2, 6, 0, 2, 0, 0, 1, 1, 0, 10, 4, 6, 6, 2, 1, 0, 0, 65536, 1, 1, 0, 851970]) ws (vs) := ⟨nf_in hl rfl, sgq_493 (vc_Sy_compileValue_at_k11_0_0 (v_iv (n_v vs 3)) (v_iv (n_v vs 4)) (v_iv (n_v vs 9)) (v_iv (n_v vs 11)) (w_fi ws (n_v vs 0) 8) (w_fi ws (n_v vs 0) 6) k3 k4 k9 k11 g0 g2 (shm_1840 f5) (shm_40 f7) kz_0_6 kz_0_8)⟩
  refine ⟨(fun _ h => (by cases h)), [], trivial, ?_, (fun _ h => (by cases h))⟩
  rw [List.append_nil]
  exact List.forall_mem_cons.mpr ⟨⟨show (20 : Nat) < 100 from by decide, nf0⟩, (fun _ h => (by cases h))⟩
set_option maxHeartbeats 4000000 in
theorem vc_Sy_compileValue_at_k11_1_0 (x3 : Int) (x4 : Int) (x6 : Int) (x7 : Int) (x8 : Int) (x9 : Int) (x10 : Int) (x11 : Int) (kind_0 : Int) (number_0 : Int) (k3 : 0 ≤ x3 ∧ x3 ≤ 127) (k4 : 40 ≤ x4 ∧ x4 ≤ 40) (k6 : 0 ≤ x6 ∧ x6 ≤ 38) (k7 : 3 ≤ x7 ∧ x7 ≤ 3) (k8 : (-1) ≤ x8 ∧ x8 ≤ (-1)) (k9 : 3 ≤ x9 ∧ x9 ≤ 3) (k10 : 1 ≤ x10 ∧ x10 ≤ 1) (k11 : 3 ≤ x11 ∧ x11 ≤ 3) (f0 : x3 ≠ x11) (g1 : x3 = kind_0) (f2 : x3 ≠ x9) (f3 : x6 ≠ x8) (f4 : x3 ≠ x7) (f5 : (kind_0 ≠ 3) ∨ (number_0 ≤ 9999)) (f7 : x3 ≠ x4) (kz_0_6 : 0 ≤ kind_0 ∧ kind_0 ≤ 127) (kz_0_8 : 0 ≤ number_0 ∧ number_0 ≤ 1000000) : (0 ≤ x10) ∧ ((0 ≤ x6) ∧ (((x10 * 65536) + x6) ≤ 851970)) := by
  first
    | omega
  
def o_Sy_compileValue_at_k11_1 : or_T := (108, 12, [(0, (2, 0, 0, [11])), (3, (0, 0, 127, [])), (4, (0, 40, 40, [])), (6, (0, 0, 38, [])), (7, (0, 3, 3, [])), (8, (0, -1, -1, [])), (9, (0, 3, 3, [])), (10, (0, 1, 1, [])), (11, (0, 3, 3, []))], [(7, [3, 11], [1]), (9, [3, 0], [6]), (7, [3, 9], [1]), (7, [6, 8], [1]), (7, [3, 7], [1]), (20, [0], [50, 2, 0, 6, 8, 3, 7, 7, 3, 2, 0, 6, 0, 3, 0, 3, 2, 0, 8, 0, 9999]), (102, [5], [0]), (7, [3, 4], [1])], [], [], [(20, [10, 6], [50, 0, 0, 2, 6, 0, 2, 0, 0, 1, 0, 2, 6, 0, 2, 0, 0, 1, 1, 0, 10, 4, 6, 6, 2, 1, 0, 0, 65536, 1, 1, 0, 851970])], [], [])
theorem oo_Sy_compileValue_at_k11_1 {kA : Nat → ClassId} : or_ok PRD kA GG o_Sy_compileValue_at_k11_1 := by
  refine or_mk fun A ta ws vs hD hth hl => ?_
  intro t0 r0 t3 k3 t4 k4 t6 k6 t7 k7 t8 k8 t9 k9 t10 k10 t11 k11 f0 f1 f2 f3 f4 f5 ta1 w1 le1 s1 f7
  replace f1 := shm_111 f1
  have g1 : v_iv (n_v vs 3) = w_fi ws (n_v vs 0) 6 := congrArg v_iv f1
  have kz_0_6 := fdq_313 hD hth r0
  have kz_0_8 := fdq_314 hD hth r0
  have nf0 : fc_1 PRD (20, [10, 6], [50, 0, 0, 2, 6, 0, 2, 0, 0, 1, 0, 2, 6, 0, 2, 0, 0, 1, 1, 0, 10, 4, 6, 6, 2, 1, 0, 0, 65536, 1, 1, 0, 851970]) ws (vs) := ⟨nf_in hl rfl, sgq_493 (vc_Sy_compileValue_at_k11_1_0 (v_iv (n_v vs 3)) (v_iv (n_v vs 4)) (v_iv (n_v vs 6)) (v_iv (n_v vs 7)) (v_iv (n_v vs 8)) (v_iv (n_v vs 9)) (v_iv (n_v vs 10)) (v_iv (n_v vs 11)) (w_fi ws (n_v vs 0) 6) (w_fi ws (n_v vs 0) 8) k3 k4 k6 k7 k8 k9 k10 k11 (shm_40 f0) g1 (shm_40 f2) (shm_40 f3) (shm_40 f4) (shm_1840 f5) (shm_40 f7) kz_0_6 kz_0_8)⟩
  refine ⟨(fun _ h => (by cases h)), [], trivial, ?_, (fun _ h => (by cases h))⟩
  rw [List.append_nil]
  exact List.forall_mem_cons.mpr ⟨⟨show (20 : Nat) < 100 from by decide, nf0⟩, (fun _ h => (by cases h))⟩
set_option maxHeartbeats 4000000 in
theorem vc_Sy_compileValue_at_k11_2_0 (x3 : Int) (x4 : Int) (x10 : Int) (x12 : Int) (number_0 : Int) (kind_0 : Int) (k3 : 3 ≤ x3 ∧ x3 ≤ 3) (k4 : 40 ≤ x4 ∧ x4 ≤ 40) (k10 : 1 ≤ x10 ∧ x10 ≤ 1) (k12 : 0 ≤ x12 ∧ x12 ≤ 1000000) (g0 : x12 = number_0) (g2 : x3 = kind_0) (f5 : (kind_0 ≠ 3) ∨ (number_0 ≤ 9999)) (f7 : x3 ≠ x4) (kz_0_6 : 0 ≤ kind_0 ∧ kind_0 ≤ 127) (kz_0_8 : 0 ≤ number_0 ∧ number_0 ≤ 1000000) : (0 ≤ x10) ∧ ((0 ≤ x12) ∧ (((x10 * 65536) + x12) ≤ 851970)) := by
  first
    | omega
  
def o_Sy_compileValue_at_k11_2 : or_T := (108, 13, [(0, (2, 0, 0, [11])), (3, (0, 3, 3, [])), (4, (0, 40, 40, [])), (7, (0, 3, 3, [])), (9, (0, 3, 3, [])), (10, (0, 1, 1, [])), (11, (0, 3, 3, [])), (12, (0, 0, 1000000, []))], [(9, [12, 0], [8]), (7, [3, 11], [0]), (9, [3, 0], [6]), (7, [3, 9], [1]), (7, [3, 7], [1]), (20, [0], [50, 2, 0, 6, 8, 3, 7, 7, 3, 2, 0, 6, 0, 3, 0, 3, 2, 0, 8, 0, 9999]), (102, [5], [0]), (7, [3, 4], [1])], [], [], [(20, [10, 12], [50, 0, 0, 2, 6, 0, 2, 0, 0, 1, 0, 2, 6, 0, 2, 0, 0, 1, 1, 0, 10, 4, 6, 6, 2, 1, 0, 0, 65536, 1, 1, 0, 851970])], [], [])
theorem oo_Sy_compileValue_at_k11_2 {kA : Nat → ClassId} : or_ok PRD kA GG o_Sy_compileValue_at_k11_2 := by
  refine or_mk fun A ta ws vs hD hth hl => ?_
  intro t0 r0 t3 k3 t4 k4 t7 k7 t9 k9 t10 k10 t11 k11 t12 k12 f0 f1 f2 f3 f4 f5 ta1 w1 le1 s1 f7
  replace f0 := shm_293 f0
  replace f2 := shm_111 f2
  have g0 : v_iv (n_v vs 12) = w_fi ws (n_v vs 0) 8 := congrArg v_iv f0
  have g2 : v_iv (n_v vs 3) = w_fi ws (n_v vs 0) 6 := congrArg v_iv f2
  have kz_0_6 := fdq_313 hD hth r0
  have kz_0_8 := fdq_314 hD hth r0
  have nf0 : fc_1 PRD (20, [10, 12], [50, 0, 0, 2, 6, 0, 2, 0, 0, 1, 0, 2, 6, 0, 2, 0, 0, 1, 1, 0, 10, 4, 6, 6, 2, 1, 0, 0, 65536, 1, 1, 0, 851970]) ws (vs) := ⟨nf_in hl rfl, sgq_493 (vc_Sy_compileValue_at_k11_2_0 (v_iv (n_v vs 3)) (v_iv (n_v vs 4)) (v_iv (n_v vs 10)) (v_iv (n_v vs 12)) (w_fi ws (n_v vs 0) 8) (w_fi ws (n_v vs 0) 6) k3 k4 k10 k12 g0 g2 (shm_1840 f5) (shm_40 f7) kz_0_6 kz_0_8)⟩
  refine ⟨(fun _ h => (by cases h)), [], trivial, ?_, (fun _ h => (by cases h))⟩
  rw [List.append_nil]
  exact List.forall_mem_cons.mpr ⟨⟨show (20 : Nat) < 100 from by decide, nf0⟩, (fun _ h => (by cases h))⟩
set_option maxHeartbeats 4000000 in
theorem vc_Sy_compileValue_at_k11_3_0 (x3 : Int) (x4 : Int) (x10 : Int) (x12 : Int) (number_0 : Int) (kind_0 : Int) (k3 : 3 ≤ x3 ∧ x3 ≤ 3) (k4 : 40 ≤ x4 ∧ x4 ≤ 40) (k10 : 0 ≤ x10 ∧ x10 ≤ 0) (k12 : 0 ≤ x12 ∧ x12 ≤ 1000000) (g0 : x12 = number_0) (g2 : x3 = kind_0) (f5 : (kind_0 ≠ 3) ∨ (number_0 ≤ 9999)) (f7 : x3 ≠ x4) (kz_0_6 : 0 ≤ kind_0 ∧ kind_0 ≤ 127) (kz_0_8 : 0 ≤ number_0 ∧ number_0 ≤ 1000000) : (0 ≤ x10) ∧ ((0 ≤ x12) ∧ (((x10 * 65536) + x12) ≤ 851970)) := by
  first
    | omega
  
def o_Sy_compileValue_at_k11_3 : or_T := (108, 13, [(0, (2, 0, 0, [11])), (3, (0, 3, 3, [])), (4, (0, 40, 40, [])), (7, (0, 3, 3, [])), (9, (0, 3, 3, [])), (10, (0, 0, 0, [])), (11, (0, 3, 3, [])), (12, (0, 0, 1000000, []))], [(9, [12, 0], [8]), (7, [3, 11], [0]), (9, [3, 0], [6]), (7, [3, 9], [0]), (7, [3, 7], [1]), (20, [0], [50, 2, 0, 6, 8, 3, 7, 7, 3, 2, 0, 6, 0, 3, 0, 3, 2, 0, 8, 0, 9999]), (102, [5], [0]), (7, [3, 4], [1])], [], [], [(20, [10, 12], [50, 0, 0, 2, 6, 0, 2, 0, 0, 1, 0, 2, 6, 0, 2, 0, 0, 1, 1, 0, 10, 4, 6, 6, 2, 1, 0, 0, 65536, 1, 1, 0, 851970])], [], [])
theorem oo_Sy_compileValue_at_k11_3 {kA : Nat → ClassId} : or_ok PRD kA GG o_Sy_compileValue_at_k11_3 := by
  refine or_mk fun A ta ws vs hD hth hl => ?_
  intro t0 r0 t3 k3 t4 k4 t7 k7 t9 k9 t10 k10 t11 k11 t12 k12 f0 f1 f2 f3 f4 f5 ta1 w1 le1 s1 f7
  replace f0 := shm_293 f0
  replace f2 := shm_111 f2
  have g0 : v_iv (n_v vs 12) = w_fi ws (n_v vs 0) 8 := congrArg v_iv f0
  have g2 : v_iv (n_v vs 3) = w_fi ws (n_v vs 0) 6 := congrArg v_iv f2
  have kz_0_6 := fdq_313 hD hth r0
  have kz_0_8 := fdq_314 hD hth r0
  have nf0 : fc_1 PRD (20, [10, 12], [50, 0, 0, 2, 6, 0, 2, 0, 0, 1, 0, 2, 6, 0, 2, 0, 0, 1, 1, 0, 10, 4, 6, 6, 2, 1, 0, 0, 65536, 1, 1, 0, 851970]) ws (vs) := ⟨nf_in hl rfl, sgq_493 (vc_Sy_compileValue_at_k11_3_0 (v_iv (n_v vs 3)) (v_iv (n_v vs 4)) (v_iv (n_v vs 10)) (v_iv (n_v vs 12)) (w_fi ws (n_v vs 0) 8) (w_fi ws (n_v vs 0) 6) k3 k4 k10 k12 g0 g2 (shm_1840 f5) (shm_40 f7) kz_0_6 kz_0_8)⟩
  refine ⟨(fun _ h => (by cases h)), [], trivial, ?_, (fun _ h => (by cases h))⟩
  rw [List.append_nil]
  exact List.forall_mem_cons.mpr ⟨⟨show (20 : Nat) < 100 from by decide, nf0⟩, (fun _ h => (by cases h))⟩
set_option maxHeartbeats 4000000 in
theorem vc_Sy_compileValue_at_k11_4_0 (x3 : Int) (x4 : Int) (x6 : Int) (x7 : Int) (x8 : Int) (x9 : Int) (x10 : Int) (x11 : Int) (kind_0 : Int) (number_0 : Int) (k3 : 0 ≤ x3 ∧ x3 ≤ 127) (k4 : 40 ≤ x4 ∧ x4 ≤ 40) (k6 : 0 ≤ x6 ∧ x6 ≤ 43) (k7 : 3 ≤ x7 ∧ x7 ≤ 3) (k8 : (-1) ≤ x8 ∧ x8 ≤ (-1)) (k9 : 3 ≤ x9 ∧ x9 ≤ 3) (k10 : 1 ≤ x10 ∧ x10 ≤ 1) (k11 : 3 ≤ x11 ∧ x11 ≤ 3) (f0 : x3 ≠ x11) (g1 : x3 = kind_0) (f2 : x3 ≠ x9) (f3 : x6 ≠ x8) (f4 : x3 ≠ x7) (f5 : (kind_0 ≠ 3) ∨ (number_0 ≤ 9999)) (f7 : x3 ≠ x4) (kz_0_6 : 0 ≤ kind_0 ∧ kind_0 ≤ 127) (kz_0_8 : 0 ≤ number_0 ∧ number_0 ≤ 1000000) : (0 ≤ x10) ∧ ((0 ≤ x6) ∧ (((x10 * 65536) + x6) ≤ 851970)) := by
  first
    | omega
  
def o_Sy_compileValue_at_k11_4 : or_T := (108, 12, [(0, (2, 0, 0, [11])), (3, (0, 0, 127, [])), (4, (0, 40, 40, [])), (6, (0, 0, 43, [])), (7, (0, 3, 3, [])), (8, (0, -1, -1, [])), (9, (0, 3, 3, [])), (10, (0, 1, 1, [])), (11, (0, 3, 3, []))], [(7, [3, 11], [1]), (9, [3, 0], [6]), (7, [3, 9], [1]), (7, [6, 8], [1]), (7, [3, 7], [1]), (20, [0], [50, 2, 0, 6, 8, 3, 7, 7, 3, 2, 0, 6, 0, 3, 0, 3, 2, 0, 8, 0, 9999]), (102, [5], [0]), (7, [3, 4], [1])], [], [], [(20, [10, 6], [50, 0, 0, 2, 6, 0, 2, 0, 0, 1, 0, 2, 6, 0, 2, 0, 0, 1, 1, 0, 10, 4, 6, 6, 2, 1, 0, 0, 65536, 1, 1, 0, 851970])], [], [])
theorem oo_Sy_compileValue_at_k11_4 {kA : Nat → ClassId} : or_ok PRD kA GG o_Sy_compileValue_at_k11_4 := by
  refine or_mk fun A ta ws vs hD hth hl => ?_
  intro t0 r0 t3 k3 t4 k4 t6 k6 t7 k7 t8 k8 t9 k9 t10 k10 t11 k11 f0 f1 f2 f3 f4 f5 ta1 w1 le1 s1 f7
  replace f1 := shm_111 f1
  have g1 : v_iv (n_v vs 3) = w_fi ws (n_v vs 0) 6 := congrArg v_iv f1
  have kz_0_6 := fdq_313 hD hth r0
  have kz_0_8 := fdq_314 hD hth r0
  have nf0 : fc_1 PRD (20, [10, 6], [50, 0, 0, 2, 6, 0, 2, 0, 0, 1, 0, 2, 6, 0, 2, 0, 0, 1, 1, 0, 10, 4, 6, 6, 2, 1, 0, 0, 65536, 1, 1, 0, 851970]) ws (vs) := ⟨nf_in hl rfl, sgq_493 (vc_Sy_compileValue_at_k11_4_0 (v_iv (n_v vs 3)) (v_iv (n_v vs 4)) (v_iv (n_v vs 6)) (v_iv (n_v vs 7)) (v_iv (n_v vs 8)) (v_iv (n_v vs 9)) (v_iv (n_v vs 10)) (v_iv (n_v vs 11)) (w_fi ws (n_v vs 0) 6) (w_fi ws (n_v vs 0) 8) k3 k4 k6 k7 k8 k9 k10 k11 (shm_40 f0) g1 (shm_40 f2) (shm_40 f3) (shm_40 f4) (shm_1840 f5) (shm_40 f7) kz_0_6 kz_0_8)⟩
  refine ⟨(fun _ h => (by cases h)), [], trivial, ?_, (fun _ h => (by cases h))⟩
  rw [List.append_nil]
  exact List.forall_mem_cons.mpr ⟨⟨show (20 : Nat) < 100 from by decide, nf0⟩, (fun _ h => (by cases h))⟩
end
