
set_option maxHeartbeats 4000000 in
theorem vc_Gr_tie_at_Gq_0_1 (x1 : Int) (x4 : Int) (x6 : Int) (x8 : Int) (x9 : Int) (x10 : Int) (x12 : Int) (x13 : Int) (x14 : Int) (x25 : Int) (tail_0 : Int → Int) (head_0 : Int → Int) (nodes_0 : Int) (edges_0 : Int) (tail_1 : Int → Int) (head_1 : Int → Int) (nodes_1 : Int) (edges_1 : Int) (head_2 : Int → Int) (near_2 : Int → Int) (tail_2 : Int → Int) (nodes_2 : Int) (edges_2 : Int) (tail_3 : Int → Int) (head_3 : Int → Int) (near_3 : Int → Int) (nodes_3 : Int) (edges_3 : Int) (head_4 : Int → Int) (tail_4 : Int → Int) (near_4 : Int → Int) (nodes_4 : Int) (edges_4 : Int) (link_4 : Int → Int) (link_0 : Int → Int) (link_1 : Int → Int) (link_2 : Int → Int) (link_3 : Int → Int) (k1 : 0 ≤ x1 ∧ x1 ≤ 47) (k4 : 0 ≤ x4 ∧ x4 ≤ 23) (k6 : 0 ≤ x6 ∧ x6 ≤ 552) (k8 : 0 ≤ x8 ∧ x8 ≤ 23) (k9 : 0 ≤ x9 ∧ x9 ≤ 575) (k10 : 0 ≤ x10 ∧ x10 ≤ 23) (k12 : 0 ≤ x12 ∧ x12 ≤ 552) (k13 : 0 ≤ x13 ∧ x13 ≤ 23) (k14 : 0 ≤ x14 ∧ x14 ≤ 575) (k25 : 0 ≤ x25 ∧ x25 ≤ 23) (h10 : x25 = tail_1 (x1)) (f26 : x14 = x12 + x13) (h27 : x13 = tail_3 (x1)) (f28 : x12 = x10 * 24) (h29 : x10 = head_3 (x1)) (f34 : x9 = x6 + x8) (h35 : x8 = head_4 (x1)) (f36 : x6 = x4 * 24) (h37 : x4 = tail_4 (x1)) (f41 : LKQ (tail_4) (head_4) (link_4) (x1)) (fe_0_0_1 : nodes_0 = nodes_1) (fe_0_1_1 : edges_0 = edges_1) (fe_0_0_2 : nodes_1 = nodes_2) (fe_0_1_2 : edges_1 = edges_2) (fe_0_0_3 : nodes_2 = nodes_3) (fe_0_1_3 : edges_2 = edges_3) (fe_0_0_4 : nodes_3 = nodes_4) (fe_0_1_4 : edges_3 = edges_4) (hE_0_7_1 : ∀ j : Int, tail_0 j = tail_1 j) (hE_0_7_2 : ∀ j : Int, tail_1 j = tail_2 j) (hE_0_7_3 : ∀ j : Int, tail_2 j = tail_3 j) (hE_0_7_4 : ∀ j : Int, tail_3 j = tail_4 j) (hE_0_8_1 : ∀ j : Int, head_0 j = head_1 j) (hE_0_8_2 : ∀ j : Int, head_1 j = head_2 j) (hE_0_8_3 : ∀ j : Int, head_2 j = head_3 j) (hE_0_8_4 : ∀ j : Int, head_3 j = head_4 j) (hE_0_14_3 : ∀ j : Int, near_2 j = near_3 j) (hE_0_14_4 : ∀ j : Int, near_3 j = near_4 j) (hE_0_15_1 : ∀ j : Int, link_0 j = link_1 j) (hE_0_15_2 : ∀ j : Int, link_1 j = link_2 j) (hE_0_15_3 : ∀ j : Int, 0 ≤ j → (j = x14 → link_2 j = x1) ∧ (j ≠ x14 → link_2 j = link_3 j)) (hE_0_15_4 : ∀ j : Int, 0 ≤ j → (j = x9 → link_3 j = x1) ∧ (j ≠ x9 → link_3 j = link_4 j)) (kz_0_0 : 0 ≤ nodes_0 ∧ nodes_0 ≤ 24) (kz_0_1 : 0 ≤ edges_0 ∧ edges_0 ≤ 48) : LK1 (tail_0) (head_0) (link_0) (x1) := by
  subst fe_0_0_1
  subst fe_0_1_1
  subst fe_0_0_2
  subst fe_0_1_2
  subst fe_0_0_3
  subst fe_0_1_3
  subst fe_0_0_4
  subst fe_0_1_4
  have e_hE_0_7_1 := funext hE_0_7_1; subst e_hE_0_7_1
  have e_hE_0_7_2 := funext hE_0_7_2; subst e_hE_0_7_2
  have e_hE_0_7_3 := funext hE_0_7_3; subst e_hE_0_7_3
  have e_hE_0_7_4 := funext hE_0_7_4; subst e_hE_0_7_4
  have e_hE_0_8_1 := funext hE_0_8_1; subst e_hE_0_8_1
  have e_hE_0_8_2 := funext hE_0_8_2; subst e_hE_0_8_2
  have e_hE_0_8_3 := funext hE_0_8_3; subst e_hE_0_8_3
  have e_hE_0_8_4 := funext hE_0_8_4; subst e_hE_0_8_4
  have e_hE_0_14_3 := funext hE_0_14_3; subst e_hE_0_14_3
  have e_hE_0_14_4 := funext hE_0_14_4; subst e_hE_0_14_4
  have e_hE_0_15_1 := funext hE_0_15_1; subst e_hE_0_15_1
  have e_hE_0_15_2 := funext hE_0_15_2; subst e_hE_0_15_2
  exact lkq_tie ‹LKQ _ _ _ _› (by omega) (by omega) (by omega) (by assumption) (by assumption) (by omega) (by omega)
def o_Gr_tie_at_Gq_0 : or_T := (88, 28, [(0, (2, 0, 0, [164])), (1, (0, 0, 47, [])), (2, (2, 0, 0, [162])), (4, (0, 0, 23, [])), (5, (0, 24, 24, [])), (6, (0, 0, 552, [])), (8, (0, 0, 23, [])), (9, (0, 0, 575, [])), (10, (0, 0, 23, [])), (11, (0, 24, 24, [])), (12, (0, 0, 552, [])), (13, (0, 0, 23, [])), (14, (0, 0, 575, [])), (15, (2, 0, 0, [161])), (16, (0, 0, 23, [])), (17, (0, 0, 16777215, [])), (18, (0, 1, 1, [])), (19, (0, 0, 23, [])), (20, (0, 1, 8388608, [])), (21, (0, 0, 16777215, [])), (22, (0, 0, 23, [])), (23, (0, 0, 16777215, [])), (24, (0, 1, 1, [])), (25, (0, 0, 23, [])), (26, (0, 1, 8388608, [])), (27, (0, 0, 16777215, []))], [(9, [15, 0], [14]), (9, [7, 0], [8]), (9, [3, 0], [7]), (9, [2, 0], [15]), (20, [1, 0], [50, 1, 0, 1001, 2, 6, 0, 2, 0, 0, 1, 0, 0, 6, 4, 2, 1, 0, 0, 1, 2, 1, 1]), (100, [15, 22, 27], []), (16, [27, 23, 26], [1]), (16, [26, 24, 25], [3]), (10, [25, 3, 1], []), (10, [23, 15, 22], []), (10, [22, 7, 1], []), (100, [15, 16, 21], []), (16, [21, 17, 20], [1]), (16, [20, 18, 19], [3]), (10, [19, 7, 1], []), (10, [17, 15, 16], []), (10, [16, 3, 1], []), (100, [2, 14, 1], []), (1, [14, 12, 13], []), (10, [13, 3, 1], []), (3, [12, 10, 11], []), (10, [10, 7, 1], []), (100, [2, 9, 1], []), (1, [9, 6, 8], []), (10, [8, 7, 1], []), (3, [6, 4, 5], []), (10, [4, 3, 1], []), (20, [0, 1], [60, 1, 3, 747, 0, 14, 7, 8]), (20, [0], [60, 2, 2, 596, 0, 1, 7, 8]), (20, [0, 1], [60, 0, 3, 1086, 7, 8, 15])], [], [], [(20, [0, 1], [60, 1, 3, 748, 0, 14, 7, 8]), (20, [0, 1], [60, 0, 3, 1087, 7, 8, 15])], [], [(14, 13, 0, 552), (14, 12, 0, 23), (9, 8, 0, 552), (9, 6, 0, 23)])
theorem oo_Gr_tie_at_Gq_0 {kA : Nat → ClassId} : or_ok PRD kA GG o_Gr_tie_at_Gq_0 := by
  refine or_mk fun A ta ws vs hD hth hl => ?_
  intro t0 r0 t1 k1 t2 r2 t4 k4 t5 k5 t6 k6 t8 k8 t9 k9 t10 k10 t11 k11 t12 k12 t13 k13 t14 k14 t15 r15 t16 k16 t17 k17 t18 k18 t19 k19 t20 k20 t21 k21 t22 k22 t23 k23 t24 k24 t25 k25 t26 k26 t27 k27 d0 d1 d2 d3 f0 f1 f2 f3 f5 ta1 w1 le1 s1 f8 f9 f10 f11 f12 ta2 w2 le2 s2 f17 f18 f19 f20 f21 ta3 w3 le3 s3 f26 f27 f28 f29 ta4 w4 le4 s4 f34 f35 f36 f37 f38 f39 f41
  replace f0 := shm_115 f0
  replace f1 := shm_293 f1
  replace f2 := shm_198 f2
  replace f3 := shm_177 f3
  have s1 : (∀ b j, w_el ws b j = if b = v_ad (n_v vs 15) ∧ j = (v_iv (n_v vs 22)).toNat then v_iv (n_v vs 27) else w_el w1 b j) ∧ ∀ b k, w_fd ws b k = w_fd w1 b k := s1.2
  replace f10 := shm_107 f10
  replace f11 := shm_107 f11
  replace f12 := shm_107 f12
  have s2 : (∀ b j, w_el w1 b j = if b = v_ad (n_v vs 15) ∧ j = (v_iv (n_v vs 16)).toNat then v_iv (n_v vs 21) else w_el w2 b j) ∧ ∀ b k, w_fd w1 b k = w_fd w2 b k := s2.2
  replace f19 := shm_107 f19
  replace f20 := shm_107 f20
  replace f21 := shm_107 f21
  have s3 : (∀ b j, w_el w2 b j = if b = v_ad (n_v vs 2) ∧ j = (v_iv (n_v vs 14)).toNat then v_iv (n_v vs 1) else w_el w3 b j) ∧ ∀ b k, w_fd w2 b k = w_fd w3 b k := s3.2
  replace f27 := shm_107 f27
  replace f28 := shm_38 f28
  rw [show v_iv (n_v vs 11) = 24 from by omega] at f28
  replace f29 := shm_107 f29
  have s4 : (∀ b j, w_el w3 b j = if b = v_ad (n_v vs 2) ∧ j = (v_iv (n_v vs 9)).toNat then v_iv (n_v vs 1) else w_el w4 b j) ∧ ∀ b k, w_fd w3 b k = w_fd w4 b k := s4.2
  replace f35 := shm_107 f35
  replace f36 := shm_38 f36
  rw [show v_iv (n_v vs 5) = 24 from by omega] at f36
  replace f37 := shm_107 f37
  replace f38 := shm_388 f38
  replace f39 := shm_386 f39
  replace f41 := shm_389 f41
  have ar_0_7_1 : w_ar w1 (n_v vs 0) 7 = w_ar ws (n_v vs 0) 7 := congrArg v_ad (s1.2 _ _).symm
  have ar_0_7_2 : w_ar w2 (n_v vs 0) 7 = w_ar ws (n_v vs 0) 7 := by rw [← ar_0_7_1]; show v_ad (w_fd w2 _ _) = v_ad (w_fd w1 _ _); rw [s2.2]
  have ar_0_7_3 : w_ar w3 (n_v vs 0) 7 = w_ar ws (n_v vs 0) 7 := by rw [← ar_0_7_2]; show v_ad (w_fd w3 _ _) = v_ad (w_fd w2 _ _); rw [s3.2]
  have ar_0_7_4 : w_ar w4 (n_v vs 0) 7 = w_ar ws (n_v vs 0) 7 := by rw [← ar_0_7_3]; show v_ad (w_fd w4 _ _) = v_ad (w_fd w3 _ _); rw [s4.2]
  have cr_0_7 := fdq_70 hD hth r0
  have ar_0_8_1 : w_ar w1 (n_v vs 0) 8 = w_ar ws (n_v vs 0) 8 := congrArg v_ad (s1.2 _ _).symm
  have ar_0_8_2 : w_ar w2 (n_v vs 0) 8 = w_ar ws (n_v vs 0) 8 := by rw [← ar_0_8_1]; show v_ad (w_fd w2 _ _) = v_ad (w_fd w1 _ _); rw [s2.2]
  have ar_0_8_3 : w_ar w3 (n_v vs 0) 8 = w_ar ws (n_v vs 0) 8 := by rw [← ar_0_8_2]; show v_ad (w_fd w3 _ _) = v_ad (w_fd w2 _ _); rw [s3.2]
  have ar_0_8_4 : w_ar w4 (n_v vs 0) 8 = w_ar ws (n_v vs 0) 8 := by rw [← ar_0_8_3]; show v_ad (w_fd w4 _ _) = v_ad (w_fd w3 _ _); rw [s4.2]
  have cr_0_8 := fdq_71 hD hth r0
  have ar_0_14_1 : w_ar w1 (n_v vs 0) 14 = w_ar ws (n_v vs 0) 14 := congrArg v_ad (s1.2 _ _).symm
  have ar_0_14_2 : w_ar w2 (n_v vs 0) 14 = w_ar ws (n_v vs 0) 14 := by rw [← ar_0_14_1]; show v_ad (w_fd w2 _ _) = v_ad (w_fd w1 _ _); rw [s2.2]
  have ar_0_14_3 : w_ar w3 (n_v vs 0) 14 = w_ar ws (n_v vs 0) 14 := by rw [← ar_0_14_2]; show v_ad (w_fd w3 _ _) = v_ad (w_fd w2 _ _); rw [s3.2]
  have ar_0_14_4 : w_ar w4 (n_v vs 0) 14 = w_ar ws (n_v vs 0) 14 := by rw [← ar_0_14_3]; show v_ad (w_fd w4 _ _) = v_ad (w_fd w3 _ _); rw [s4.2]
  have cr_0_14 := fdq_72 hD hth r0
  have ar_0_15_1 : w_ar w1 (n_v vs 0) 15 = w_ar ws (n_v vs 0) 15 := congrArg v_ad (s1.2 _ _).symm
  have ar_0_15_2 : w_ar w2 (n_v vs 0) 15 = w_ar ws (n_v vs 0) 15 := by rw [← ar_0_15_1]; show v_ad (w_fd w2 _ _) = v_ad (w_fd w1 _ _); rw [s2.2]
  have ar_0_15_3 : w_ar w3 (n_v vs 0) 15 = w_ar ws (n_v vs 0) 15 := by rw [← ar_0_15_2]; show v_ad (w_fd w3 _ _) = v_ad (w_fd w2 _ _); rw [s3.2]
  have ar_0_15_4 : w_ar w4 (n_v vs 0) 15 = w_ar ws (n_v vs 0) 15 := by rw [← ar_0_15_3]; show v_ad (w_fd w4 _ _) = v_ad (w_fd w3 _ _); rw [s4.2]
  have cr_0_15 := fdq_65 hD hth r0
  have ad_15 : v_ad (n_v vs 15) = w_ar ws (n_v vs 0) 14 := congrArg v_ad f0
  have ad_7 : v_ad (n_v vs 7) = w_ar ws (n_v vs 0) 8 := congrArg v_ad f1
  have ad_3 : v_ad (n_v vs 3) = w_ar ws (n_v vs 0) 7 := congrArg v_ad f2
  have ad_2 : v_ad (n_v vs 2) = w_ar ws (n_v vs 0) 15 := congrArg v_ad f3
  simp only [ad_3] at f10
  have h10 : v_iv (n_v vs 25) = w_ei w1 (w_ar ws (n_v vs 0) 7) (v_iv (n_v vs 1)) := f10
  simp only [ad_15] at f11
  have h11 : v_iv (n_v vs 23) = w_ei w1 (w_ar ws (n_v vs 0) 14) (v_iv (n_v vs 22)) := f11
  simp only [ad_7] at f12
  have h12 : v_iv (n_v vs 22) = w_ei w1 (w_ar ws (n_v vs 0) 8) (v_iv (n_v vs 1)) := f12
  simp only [ar_0_7_1, ar_0_8_1, ad_7] at f19
  have h19 : v_iv (n_v vs 19) = w_ei w2 (w_ar ws (n_v vs 0) 8) (v_iv (n_v vs 1)) := f19
  simp only [ad_15] at f20
  have h20 : v_iv (n_v vs 17) = w_ei w2 (w_ar ws (n_v vs 0) 14) (v_iv (n_v vs 16)) := f20
  simp only [ad_3] at f21
  have h21 : v_iv (n_v vs 16) = w_ei w2 (w_ar ws (n_v vs 0) 7) (v_iv (n_v vs 1)) := f21
  simp only [ar_0_7_2, ar_0_8_2, ar_0_14_2, ad_3] at f27
  have h27 : v_iv (n_v vs 13) = w_ei w3 (w_ar ws (n_v vs 0) 7) (v_iv (n_v vs 1)) := f27
  simp only [ad_7] at f29
  have h29 : v_iv (n_v vs 10) = w_ei w3 (w_ar ws (n_v vs 0) 8) (v_iv (n_v vs 1)) := f29
  simp only [ar_0_7_3, ar_0_8_3, ar_0_14_3, ad_7] at f35
  have h35 : v_iv (n_v vs 8) = w_ei w4 (w_ar ws (n_v vs 0) 8) (v_iv (n_v vs 1)) := f35
  simp only [ad_3] at f37
  have h37 : v_iv (n_v vs 4) = w_ei w4 (w_ar ws (n_v vs 0) 7) (v_iv (n_v vs 1)) := f37
  simp only [ar_0_7_4, ar_0_8_4, ar_0_14_4, ar_0_15_4] at f38 f39 f41
  have fe_0_0_1 : w_fi ws (n_v vs 0) 0 = w_fi w1 (n_v vs 0) 0 := congrArg v_iv (s1.2 _ _)
  have fe_0_1_1 : w_fi ws (n_v vs 0) 1 = w_fi w1 (n_v vs 0) 1 := congrArg v_iv (s1.2 _ _)
  have fe_0_0_2 : w_fi w1 (n_v vs 0) 0 = w_fi w2 (n_v vs 0) 0 := congrArg v_iv (s2.2 _ _)
  have fe_0_1_2 : w_fi w1 (n_v vs 0) 1 = w_fi w2 (n_v vs 0) 1 := congrArg v_iv (s2.2 _ _)
  have fe_0_0_3 : w_fi w2 (n_v vs 0) 0 = w_fi w3 (n_v vs 0) 0 := congrArg v_iv (s3.2 _ _)
  have fe_0_1_3 : w_fi w2 (n_v vs 0) 1 = w_fi w3 (n_v vs 0) 1 := congrArg v_iv (s3.2 _ _)
  have fe_0_0_4 : w_fi w3 (n_v vs 0) 0 = w_fi w4 (n_v vs 0) 0 := congrArg v_iv (s4.2 _ _)
  have fe_0_1_4 : w_fi w3 (n_v vs 0) 1 = w_fi w4 (n_v vs 0) 1 := congrArg v_iv (s4.2 _ _)
  have hE_0_7_1 : ∀ j : Int, w_ei ws (w_ar ws (n_v vs 0) 7) j = w_ei w1 (w_ar ws (n_v vs 0) 7) j := el_kp s1.1 r15 cr_0_7 (by decide)
  have hE_0_7_2 : ∀ j : Int, w_ei w1 (w_ar ws (n_v vs 0) 7) j = w_ei w2 (w_ar ws (n_v vs 0) 7) j := el_kp s2.1 r15 cr_0_7 (by decide)
  have hE_0_7_3 : ∀ j : Int, w_ei w2 (w_ar ws (n_v vs 0) 7) j = w_ei w3 (w_ar ws (n_v vs 0) 7) j := el_kp s3.1 r2 cr_0_7 (by decide)
  have hE_0_7_4 : ∀ j : Int, w_ei w3 (w_ar ws (n_v vs 0) 7) j = w_ei w4 (w_ar ws (n_v vs 0) 7) j := el_kp s4.1 r2 cr_0_7 (by decide)
  have hE_0_8_1 : ∀ j : Int, w_ei ws (w_ar ws (n_v vs 0) 8) j = w_ei w1 (w_ar ws (n_v vs 0) 8) j := el_kp s1.1 r15 cr_0_8 (by decide)
  have hE_0_8_2 : ∀ j : Int, w_ei w1 (w_ar ws (n_v vs 0) 8) j = w_ei w2 (w_ar ws (n_v vs 0) 8) j := el_kp s2.1 r15 cr_0_8 (by decide)
  have hE_0_8_3 : ∀ j : Int, w_ei w2 (w_ar ws (n_v vs 0) 8) j = w_ei w3 (w_ar ws (n_v vs 0) 8) j := el_kp s3.1 r2 cr_0_8 (by decide)
  have hE_0_8_4 : ∀ j : Int, w_ei w3 (w_ar ws (n_v vs 0) 8) j = w_ei w4 (w_ar ws (n_v vs 0) 8) j := el_kp s4.1 r2 cr_0_8 (by decide)
  have hE_0_14_1 : ∀ j : Int, 0 ≤ j → (j = v_iv (n_v vs 22) → w_ei ws (w_ar ws (n_v vs 0) 14) j = v_iv (n_v vs 27)) ∧ (j ≠ v_iv (n_v vs 22) → w_ei ws (w_ar ws (n_v vs 0) 14) j = w_ei w1 (w_ar ws (n_v vs 0) 14) j) := fun j hj => ⟨fun h => by unfold w_ei; rw [s1.1, if_pos ⟨ad_15.symm, by rw [h]⟩], fun h => by unfold w_ei; rw [s1.1, if_neg (fun e => h (by have := e.2; omega))]⟩
  have hE_0_14_2 : ∀ j : Int, 0 ≤ j → (j = v_iv (n_v vs 16) → w_ei w1 (w_ar ws (n_v vs 0) 14) j = v_iv (n_v vs 21)) ∧ (j ≠ v_iv (n_v vs 16) → w_ei w1 (w_ar ws (n_v vs 0) 14) j = w_ei w2 (w_ar ws (n_v vs 0) 14) j) := fun j hj => ⟨fun h => by unfold w_ei; rw [s2.1, if_pos ⟨ad_15.symm, by rw [h]⟩], fun h => by unfold w_ei; rw [s2.1, if_neg (fun e => h (by have := e.2; omega))]⟩
  have hE_0_14_3 : ∀ j : Int, w_ei w2 (w_ar ws (n_v vs 0) 14) j = w_ei w3 (w_ar ws (n_v vs 0) 14) j := el_kp s3.1 r2 cr_0_14 (by decide)
  have hE_0_14_4 : ∀ j : Int, w_ei w3 (w_ar ws (n_v vs 0) 14) j = w_ei w4 (w_ar ws (n_v vs 0) 14) j := el_kp s4.1 r2 cr_0_14 (by decide)
  have hE_0_15_1 : ∀ j : Int, w_ei ws (w_ar ws (n_v vs 0) 15) j = w_ei w1 (w_ar ws (n_v vs 0) 15) j := el_kp s1.1 r15 cr_0_15 (by decide)
  have hE_0_15_2 : ∀ j : Int, w_ei w1 (w_ar ws (n_v vs 0) 15) j = w_ei w2 (w_ar ws (n_v vs 0) 15) j := el_kp s2.1 r15 cr_0_15 (by decide)
  have hE_0_15_3 : ∀ j : Int, 0 ≤ j → (j = v_iv (n_v vs 14) → w_ei w2 (w_ar ws (n_v vs 0) 15) j = v_iv (n_v vs 1)) ∧ (j ≠ v_iv (n_v vs 14) → w_ei w2 (w_ar ws (n_v vs 0) 15) j = w_ei w3 (w_ar ws (n_v vs 0) 15) j) := fun j hj => ⟨fun h => by unfold w_ei; rw [s3.1, if_pos ⟨ad_2.symm, by rw [h]⟩], fun h => by unfold w_ei; rw [s3.1, if_neg (fun e => h (by have := e.2; omega))]⟩
  have hE_0_15_4 : ∀ j : Int, 0 ≤ j → (j = v_iv (n_v vs 9) → w_ei w3 (w_ar ws (n_v vs 0) 15) j = v_iv (n_v vs 1)) ∧ (j ≠ v_iv (n_v vs 9) → w_ei w3 (w_ar ws (n_v vs 0) 15) j = w_ei w4 (w_ar ws (n_v vs 0) 15) j) := fun j hj => ⟨fun h => by unfold w_ei; rw [s4.1, if_pos ⟨ad_2.symm, by rw [h]⟩], fun h => by unfold w_ei; rw [s4.1, if_neg (fun e => h (by have := e.2; omega))]⟩
  have kz_0_0 := fdq_73 hD hth r0
  have kz_0_1 := fdq_74 hD hth r0
  have nf0 : fc_1 PRD (20, [0, 1], [60, 1, 3, 748, 0, 14, 7, 8]) ws (vs) := ⟨nf_in hl rfl, sgq_390 (vc_Gr_tie_at_Gq_0_0 (v_iv (n_v vs 1)) (v_iv (n_v vs 10)) (v_iv (n_v vs 16)) (v_iv (n_v vs 17)) (v_iv (n_v vs 18)) (v_iv (n_v vs 19)) (v_iv (n_v vs 20)) (v_iv (n_v vs 21)) (v_iv (n_v vs 22)) (v_iv (n_v vs 23)) (v_iv (n_v vs 24)) (v_iv (n_v vs 25)) (v_iv (n_v vs 26)) (v_iv (n_v vs 27)) (w_ei ws (w_ar ws (n_v vs 0) 7)) (w_ei ws (w_ar ws (n_v vs 0) 8)) (w_fi ws (n_v vs 0) 0) (w_fi ws (n_v vs 0) 1) (w_ei w1 (w_ar ws (n_v vs 0) 7)) (w_ei w1 (w_ar ws (n_v vs 0) 14)) (w_ei w1 (w_ar ws (n_v vs 0) 8)) (w_fi w1 (n_v vs 0) 0) (w_fi w1 (n_v vs 0) 1) (w_ei w2 (w_ar ws (n_v vs 0) 8)) (w_ei w2 (w_ar ws (n_v vs 0) 14)) (w_ei w2 (w_ar ws (n_v vs 0) 7)) (w_fi w2 (n_v vs 0) 0) (w_fi w2 (n_v vs 0) 1) (w_ei w3 (w_ar ws (n_v vs 0) 7)) (w_ei w3 (w_ar ws (n_v vs 0) 8)) (w_ei w3 (w_ar ws (n_v vs 0) 14)) (w_fi w3 (n_v vs 0) 0) (w_fi w3 (n_v vs 0) 1) (w_ei w4 (w_ar ws (n_v vs 0) 8)) (w_ei w4 (w_ar ws (n_v vs 0) 7)) (w_ei w4 (w_ar ws (n_v vs 0) 14)) (w_fi w4 (n_v vs 0) 0) (w_fi w4 (n_v vs 0) 1) (w_ei ws (w_ar ws (n_v vs 0) 14)) (w_ei ws (w_ar ws (n_v vs 0) 15)) (w_ei w1 (w_ar ws (n_v vs 0) 15)) (w_ei w2 (w_ar ws (n_v vs 0) 15)) k1 k10 k16 k17 k18 k19 k20 k21 k22 k23 k24 k25 k26 k27 (shm_387 f5) (shm_354 f8) (shm_349 f9) h10 h11 h12 (shm_354 f17) (shm_349 f18) h19 h20 h21 h29 f38 f39 fe_0_0_1 fe_0_1_1 fe_0_0_2 fe_0_1_2 fe_0_0_3 fe_0_1_3 fe_0_0_4 fe_0_1_4 hE_0_7_1 hE_0_7_2 hE_0_7_3 hE_0_7_4 hE_0_8_1 hE_0_8_2 hE_0_8_3 hE_0_8_4 hE_0_14_1 hE_0_14_2 hE_0_14_3 hE_0_14_4 hE_0_15_1 hE_0_15_2 kz_0_0 kz_0_1)⟩
  have nf1 : fc_1 PRD (20, [0, 1], [60, 0, 3, 1087, 7, 8, 15]) ws (vs) := ⟨nf_in hl rfl, sgq_391 (vc_Gr_tie_at_Gq_0_1 (v_iv (n_v vs 1)) (v_iv (n_v vs 4)) (v_iv (n_v vs 6)) (v_iv (n_v vs 8)) (v_iv (n_v vs 9)) (v_iv (n_v vs 10)) (v_iv (n_v vs 12)) (v_iv (n_v vs 13)) (v_iv (n_v vs 14)) (v_iv (n_v vs 25)) (w_ei ws (w_ar ws (n_v vs 0) 7)) (w_ei ws (w_ar ws (n_v vs 0) 8)) (w_fi ws (n_v vs 0) 0) (w_fi ws (n_v vs 0) 1) (w_ei w1 (w_ar ws (n_v vs 0) 7)) (w_ei w1 (w_ar ws (n_v vs 0) 8)) (w_fi w1 (n_v vs 0) 0) (w_fi w1 (n_v vs 0) 1) (w_ei w2 (w_ar ws (n_v vs 0) 8)) (w_ei w2 (w_ar ws (n_v vs 0) 14)) (w_ei w2 (w_ar ws (n_v vs 0) 7)) (w_fi w2 (n_v vs 0) 0) (w_fi w2 (n_v vs 0) 1) (w_ei w3 (w_ar ws (n_v vs 0) 7)) (w_ei w3 (w_ar ws (n_v vs 0) 8)) (w_ei w3 (w_ar ws (n_v vs 0) 14)) (w_fi w3 (n_v vs 0) 0) (w_fi w3 (n_v vs 0) 1) (w_ei w4 (w_ar ws (n_v vs 0) 8)) (w_ei w4 (w_ar ws (n_v vs 0) 7)) (w_ei w4 (w_ar ws (n_v vs 0) 14)) (w_fi w4 (n_v vs 0) 0) (w_fi w4 (n_v vs 0) 1) (w_ei w4 (w_ar ws (n_v vs 0) 15)) (w_ei ws (w_ar ws (n_v vs 0) 15)) (w_ei w1 (w_ar ws (n_v vs 0) 15)) (w_ei w2 (w_ar ws (n_v vs 0) 15)) (w_ei w3 (w_ar ws (n_v vs 0) 15)) k1 k4 k6 k8 k9 k10 k12 k13 k14 k25 h10 (shm_12 f26) h27 f28 h29 (shm_12 f34) h35 f36 h37 f41 fe_0_0_1 fe_0_1_1 fe_0_0_2 fe_0_1_2 fe_0_0_3 fe_0_1_3 fe_0_0_4 fe_0_1_4 hE_0_7_1 hE_0_7_2 hE_0_7_3 hE_0_7_4 hE_0_8_1 hE_0_8_2 hE_0_8_3 hE_0_8_4 hE_0_14_3 hE_0_14_4 hE_0_15_1 hE_0_15_2 hE_0_15_3 hE_0_15_4 kz_0_0 kz_0_1)⟩
  refine ⟨(fun _ h => (by cases h)), [], trivial, ?_, (fun _ h => (by cases h))⟩
  rw [List.append_nil]
  exact List.forall_mem_cons.mpr ⟨⟨show (20 : Nat) < 100 from by decide, nf0⟩, List.forall_mem_cons.mpr ⟨⟨show (20 : Nat) < 100 from by decide, nf1⟩, (fun _ h => (by cases h))⟩⟩
def n_Gr_tie_at_Gq_an : List an_T := []
def t_Gr_tie_at_Gq_ct : ct_L := []
set_option maxRecDepth 100000 in
theorem c_Gr_tie_at_Gq {l : Launch} {D : va_G} {kA : Nat → ClassId} : ct_ok PRD l D kA GG y_Gr_tie_at_Gq z_Gr_tie_at_Gq e_Gr_tie_at_Gq := chk_all_ok (FT := [(35, 3, 7), (38, 3, 8), (56, 3, 14), (59, 3, 15)]) (PT := []) (CT := t_Gr_tie_at_Gq_ct) (KT := []) (NT := []) (AN := n_Gr_tie_at_Gq_an) (OT := [o_Gr_tie_at_Gq_0]) 0 252 (List.forall_mem_cons.mpr ⟨oo_Gr_tie_at_Gq_0, List.forall_mem_nil _⟩) (by decide +kernel) ⟨List.forall_mem_cons.mpr ⟨gf_Gr_35, List.forall_mem_cons.mpr ⟨gf_Gr_38, List.forall_mem_cons.mpr ⟨gf_Gr_56, List.forall_mem_cons.mpr ⟨gf_Gr_59, List.forall_mem_nil _⟩⟩⟩⟩, List.forall_mem_nil _, List.forall_mem_nil _, List.forall_mem_nil _, List.forall_mem_nil _, GG_pl⟩ (by decide +kernel)

set_option maxHeartbeats 4000000 in
theorem vc_Gr_tie_at_Gr_0_0 (x1 : Int) (x4 : Int) (x8 : Int) (x9 : Int) (x10 : Int) (x13 : Int) (x14 : Int) (x16 : Int) (x17 : Int) (x18 : Int) (x19 : Int) (x20 : Int) (x21 : Int) (x22 : Int) (x23 : Int) (x24 : Int) (x25 : Int) (x26 : Int) (x27 : Int) (tail_0 : Int → Int) (head_0 : Int → Int) (nodes_0 : Int) (edges_0 : Int) (tail_1 : Int → Int) (near_1 : Int → Int) (head_1 : Int → Int) (nodes_1 : Int) (edges_1 : Int) (head_2 : Int → Int) (near_2 : Int → Int) (tail_2 : Int → Int) (nodes_2 : Int) (edges_2 : Int) (tail_3 : Int → Int) (head_3 : Int → Int) (near_3 : Int → Int) (nodes_3 : Int) (edges_3 : Int) (head_4 : Int → Int) (tail_4 : Int → Int) (near_4 : Int → Int) (nodes_4 : Int) (edges_4 : Int) (near_0 : Int → Int) (link_0 : Int → Int) (link_1 : Int → Int) (link_2 : Int → Int) (link_3 : Int → Int) (link_4 : Int → Int) (k1 : 0 ≤ x1 ∧ x1 ≤ 47) (k4 : 0 ≤ x4 ∧ x4 ≤ 23) (k8 : 0 ≤ x8 ∧ x8 ≤ 23) (k9 : 0 ≤ x9 ∧ x9 ≤ 575) (k10 : 0 ≤ x10 ∧ x10 ≤ 23) (k13 : 0 ≤ x13 ∧ x13 ≤ 23) (k14 : 0 ≤ x14 ∧ x14 ≤ 575) (k16 : 0 ≤ x16 ∧ x16 ≤ 23) (k17 : 0 ≤ x17 ∧ x17 ≤ 16777215) (k18 : 1 ≤ x18 ∧ x18 ≤ 1) (k19 : 0 ≤ x19 ∧ x19 ≤ 23) (k20 : 1 ≤ x20 ∧ x20 ≤ 8388608) (k21 : 0 ≤ x21 ∧ x21 ≤ 16777215) (k22 : 0 ≤ x22 ∧ x22 ≤ 23) (k23 : 0 ≤ x23 ∧ x23 ≤ 16777215) (k24 : 1 ≤ x24 ∧ x24 ≤ 1) (k25 : 0 ≤ x25 ∧ x25 ≤ 23) (k26 : 1 ≤ x26 ∧ x26 ≤ 8388608) (k27 : 0 ≤ x27 ∧ x27 ≤ 16777215) (d0 : x13 + 0 ≤ x14 ∧ x14 ≤ x13 + 552) (d1 : x8 + 0 ≤ x9 ∧ x9 ≤ x8 + 552) (f4 : GKE (nodes_0) (edges_0) (tail_0) (head_0)) (f5 : (0 ≤ x1) ∧ ((x1 + 1) ≤ edges_0)) (f7 : x27 ≤ x23 + x26 ∧ x23 ≤ x27 ∧ x26 ≤ x27) (f8 : bvp (x27) = bvp (x23) ||| bvp (x26)) (f9 : bvp (x26) = bvp (x24) <<< (x25).toNat) (h10 : x25 = tail_1 (x1)) (h11 : x23 = near_1 (x22)) (h12 : x22 = head_1 (x1)) (f13 : GKE (nodes_1) (edges_1) (tail_1) (head_1)) (f14 : (0 ≤ x1) ∧ ((x1 + 1) ≤ edges_1)) (f16 : x21 ≤ x17 + x20 ∧ x17 ≤ x21 ∧ x20 ≤ x21) (f17 : bvp (x21) = bvp (x17) ||| bvp (x20)) (f18 : bvp (x20) = bvp (x18) <<< (x19).toNat) (h19 : x19 = head_2 (x1)) (h20 : x17 = near_2 (x16)) (h21 : x16 = tail_2 (x1)) (f22 : GNK (nodes_2) (near_2) (tail_2) (head_2) (x1)) (f23 : GKE (nodes_2) (edges_2) (tail_2) (head_2)) (f24 : (0 ≤ x1) ∧ ((x1 + 1) ≤ edges_2)) (h26 : x13 = tail_3 (x1)) (h27 : x10 = head_3 (x1)) (f28 : GNK (nodes_3) (near_3) (tail_3) (head_3) (x1)) (f29 : GKE (nodes_3) (edges_3) (tail_3) (head_3)) (f30 : (0 ≤ x1) ∧ ((x1 + 1) ≤ edges_3)) (h32 : x8 = head_4 (x1)) (h33 : x4 = tail_4 (x1)) (f34 : GNK (nodes_4) (near_4) (tail_4) (head_4) (x1)) (f35 : GKE (nodes_4) (edges_4) (tail_4) (head_4)) (f36 : (0 ≤ x1) ∧ ((x1 + 1) ≤ edges_4)) (fe_0_0_1 : nodes_0 = nodes_1) (fe_0_1_1 : edges_0 = edges_1) (fe_0_0_2 : nodes_1 = nodes_2) (fe_0_1_2 : edges_1 = edges_2) (fe_0_0_3 : nodes_2 = nodes_3) (fe_0_1_3 : edges_2 = edges_3) (fe_0_0_4 : nodes_3 = nodes_4) (fe_0_1_4 : edges_3 = edges_4) (hE_0_7_1 : ∀ j : Int, tail_0 j = tail_1 j) (hE_0_7_2 : ∀ j : Int, tail_1 j = tail_2 j) (hE_0_7_3 : ∀ j : Int, tail_2 j = tail_3 j) (hE_0_7_4 : ∀ j : Int, tail_3 j = tail_4 j) (hK_0_7 : ∀ j : Int, 0 ≤ j → j < 48 → 0 ≤ tail_0 j ∧ tail_0 j ≤ 23) (hE_0_8_1 : ∀ j : Int, head_0 j = head_1 j) (hE_0_8_2 : ∀ j : Int, head_1 j = head_2 j) (hE_0_8_3 : ∀ j : Int, head_2 j = head_3 j) (hE_0_8_4 : ∀ j : Int, head_3 j = head_4 j) (hK_0_8 : ∀ j : Int, 0 ≤ j → j < 48 → 0 ≤ head_0 j ∧ head_0 j ≤ 23) (hE_0_14_1 : ∀ j : Int, 0 ≤ j → (j = x22 → near_0 j = x27) ∧ (j ≠ x22 → near_0 j = near_1 j)) (hE_0_14_2 : ∀ j : Int, 0 ≤ j → (j = x16 → near_1 j = x21) ∧ (j ≠ x16 → near_1 j = near_2 j)) (hE_0_14_3 : ∀ j : Int, near_2 j = near_3 j) (hE_0_14_4 : ∀ j : Int, near_3 j = near_4 j) (hK_0_14 : ∀ j : Int, 0 ≤ j → j < 24 → 0 ≤ near_0 j ∧ near_0 j ≤ 16777215) (hE_0_15_1 : ∀ j : Int, link_0 j = link_1 j) (hE_0_15_2 : ∀ j : Int, link_1 j = link_2 j) (hE_0_15_3 : ∀ j : Int, 0 ≤ j → (j = x14 → link_2 j = x1) ∧ (j ≠ x14 → link_2 j = link_3 j)) (hE_0_15_4 : ∀ j : Int, 0 ≤ j → (j = x9 → link_3 j = x1) ∧ (j ≠ x9 → link_3 j = link_4 j)) (hK_0_15 : ∀ j : Int, 0 ≤ j → j < 576 → (-1) ≤ link_0 j ∧ link_0 j ≤ 47) (kz_0_0 : 0 ≤ nodes_0 ∧ nodes_0 ≤ 24) (kz_0_1 : 0 ≤ edges_0 ∧ edges_0 ≤ 48) : GNL (nodes_0) (near_0) (tail_0) (head_0) (x1) := by
  subst fe_0_0_1
  subst fe_0_1_1
  subst fe_0_0_2
  subst fe_0_1_2
  subst fe_0_0_3
  subst fe_0_1_3
  subst fe_0_0_4
  subst fe_0_1_4
  have e_hE_0_7_1 := funext hE_0_7_1; subst e_hE_0_7_1
  have e_hE_0_7_2 := funext hE_0_7_2; subst e_hE_0_7_2
  have e_hE_0_7_3 := funext hE_0_7_3; subst e_hE_0_7_3
  have e_hE_0_7_4 := funext hE_0_7_4; subst e_hE_0_7_4
  have e_hE_0_8_1 := funext hE_0_8_1; subst e_hE_0_8_1
  have e_hE_0_8_2 := funext hE_0_8_2; subst e_hE_0_8_2
  have e_hE_0_8_3 := funext hE_0_8_3; subst e_hE_0_8_3
  have e_hE_0_8_4 := funext hE_0_8_4; subst e_hE_0_8_4
  have e_hE_0_14_3 := funext hE_0_14_3; subst e_hE_0_14_3
  have e_hE_0_14_4 := funext hE_0_14_4; subst e_hE_0_14_4
  have e_hE_0_15_1 := funext hE_0_15_1; subst e_hE_0_15_1
  have e_hE_0_15_2 := funext hE_0_15_2; subst e_hE_0_15_2
  first
    | (have g := ‹GKE _ _ _ _› x1 (by omega) (by omega); exact gnk_tie (k := x1) (a := x16) (b := x22) (x := x21) (y := x27) (q1 := x20) (q2 := x26) (z1 := x17) (z2 := x23) (o1 := x18) (o2 := x24) (s1 := x19) (s2 := x25) ‹GNK _ _ _ _ _› (fun e a b => by have q := ‹GKE _ _ _ _› e a (by omega); exact ⟨by omega, by omega⟩) (by omega) (by omega) (by omega) (by omega) (by omega) (by omega) (by omega) (by omega) (by omega) (by assumption) (by omega) (by omega) (by assumption) (by assumption) hE_0_14_2 (by assumption) (by omega) (by omega) (by assumption) (by assumption) hE_0_14_1)
  
def o_Gr_tie_at_Gr_0 : or_T := (88, 28, [(0, (2, 0, 0, [3])), (1, (0, 0, 47, [])), (2, (2, 0, 0, [60])), (4, (0, 0, 23, [])), (8, (0, 0, 23, [])), (9, (0, 0, 575, [])), (10, (0, 0, 23, [])), (13, (0, 0, 23, [])), (14, (0, 0, 575, [])), (15, (2, 0, 0, [59])), (16, (0, 0, 23, [])), (17, (0, 0, 16777215, [])), (18, (0, 1, 1, [])), (19, (0, 0, 23, [])), (20, (0, 1, 8388608, [])), (21, (0, 0, 16777215, [])), (22, (0, 0, 23, [])), (23, (0, 0, 16777215, [])), (24, (0, 1, 1, [])), (25, (0, 0, 23, [])), (26, (0, 1, 8388608, [])), (27, (0, 0, 16777215, []))], [(9, [15, 0], [14]), (9, [7, 0], [8]), (9, [3, 0], [7]), (9, [2, 0], [15]), (20, [0], [60, 2, 2, 596, 0, 1, 7, 8]), (20, [1, 0], [50, 1, 0, 1001, 2, 6, 0, 2, 0, 0, 1, 0, 0, 6, 4, 2, 1, 0, 0, 1, 2, 1, 1]), (100, [15, 22, 27], []), (13, [27, 23, 26], []), (16, [27, 23, 26], [1]), (16, [26, 24, 25], [3]), (10, [25, 3, 1], []), (10, [23, 15, 22], []), (10, [22, 7, 1], []), (20, [0], [60, 2, 2, 596, 0, 1, 7, 8]), (20, [1, 0], [50, 1, 0, 1001, 2, 6, 0, 2, 0, 0, 1, 0, 0, 6, 4, 2, 1, 0, 0, 1, 2, 1, 1]), (100, [15, 16, 21], []), (13, [21, 17, 20], []), (16, [21, 17, 20], [1]), (16, [20, 18, 19], [3]), (10, [19, 7, 1], []), (10, [17, 15, 16], []), (10, [16, 3, 1], []), (20, [0, 1], [60, 1, 3, 747, 0, 14, 7, 8]), (20, [0], [60, 2, 2, 596, 0, 1, 7, 8]), (20, [1, 0], [50, 1, 0, 1001, 2, 6, 0, 2, 0, 0, 1, 0, 0, 6, 4, 2, 1, 0, 0, 1, 2, 1, 1]), (100, [2, 14, 1], []), (10, [13, 3, 1], []), (10, [10, 7, 1], []), (20, [0, 1], [60, 1, 3, 747, 0, 14, 7, 8]), (20, [0], [60, 2, 2, 596, 0, 1, 7, 8]), (20, [1, 0], [50, 1, 0, 1001, 2, 6, 0, 2, 0, 0, 1, 0, 0, 6, 4, 2, 1, 0, 0, 1, 2, 1, 1]), (100, [2, 9, 1], []), (10, [8, 7, 1], []), (10, [4, 3, 1], []), (20, [0, 1], [60, 1, 3, 747, 0, 14, 7, 8]), (20, [0], [60, 2, 2, 596, 0, 1, 7, 8]), (20, [1, 0], [50, 1, 0, 1001, 2, 6, 0, 2, 0, 0, 1, 0, 0, 6, 4, 2, 1, 0, 0, 1, 2, 1, 1])], [], [], [(20, [0, 1], [60, 1, 3, 748, 0, 14, 7, 8])], [], [(14, 13, 0, 552), (9, 8, 0, 552)])
theorem oo_Gr_tie_at_Gr_0 {kA : Nat → ClassId} : or_ok PRD kA GG o_Gr_tie_at_Gr_0 := by
  refine or_mk fun A ta ws vs hD hth hl => ?_
  intro t0 r0 t1 k1 t2 r2 t4 k4 t8 k8 t9 k9 t10 k10 t13 k13 t14 k14 t15 r15 t16 k16 t17 k17 t18 k18 t19 k19 t20 k20 t21 k21 t22 k22 t23 k23 t24 k24 t25 k25 t26 k26 t27 k27 d0 d1 f0 f1 f2 f3 f4 f5 ta1 w1 le1 s1 f7 f8 f9 f10 f11 f12 f13 f14 ta2 w2 le2 s2 f16 f17 f18 f19 f20 f21 f22 f23 f24 ta3 w3 le3 s3 f26 f27 f28 f29 f30 ta4 w4 le4 s4 f32 f33 f34 f35 f36
  replace f0 := shm_115 f0
  replace f1 := shm_293 f1
  replace f2 := shm_198 f2
  replace f3 := shm_177 f3
  have s1 : (∀ b j, w_el ws b j = if b = v_ad (n_v vs 15) ∧ j = (v_iv (n_v vs 22)).toNat then v_iv (n_v vs 27) else w_el w1 b j) ∧ ∀ b k, w_fd ws b k = w_fd w1 b k := s1.2
  have f7 : v_iv (n_v vs 27) ≤ v_iv (n_v vs 23) + v_iv (n_v vs 26) ∧ v_iv (n_v vs 23) ≤ v_iv (n_v vs 27) ∧ v_iv (n_v vs 26) ≤ v_iv (n_v vs 27) := (fun (h : v_iv (n_v vs 27) ≤ v_iv (n_v vs 23) + v_iv (n_v vs 26) ∧ v_iv (n_v vs 23) ≤ v_iv (n_v vs 27) ∧ v_iv (n_v vs 26) ≤ v_iv (n_v vs 27) ∧ (v_iv (n_v vs 27)).toNat = (v_iv (n_v vs 23)).toNat ||| (v_iv (n_v vs 26)).toNat) => ⟨h.1, h.2.1, h.2.2.1⟩) f7
  replace f10 := shm_107 f10
  replace f11 := shm_107 f11
  replace f12 := shm_107 f12
  replace f13 := shm_386 f13
  have s2 : (∀ b j, w_el w1 b j = if b = v_ad (n_v vs 15) ∧ j = (v_iv (n_v vs 16)).toNat then v_iv (n_v vs 21) else w_el w2 b j) ∧ ∀ b k, w_fd w1 b k = w_fd w2 b k := s2.2
  have f16 : v_iv (n_v vs 21) ≤ v_iv (n_v vs 17) + v_iv (n_v vs 20) ∧ v_iv (n_v vs 17) ≤ v_iv (n_v vs 21) ∧ v_iv (n_v vs 20) ≤ v_iv (n_v vs 21) := (fun (h : v_iv (n_v vs 21) ≤ v_iv (n_v vs 17) + v_iv (n_v vs 20) ∧ v_iv (n_v vs 17) ≤ v_iv (n_v vs 21) ∧ v_iv (n_v vs 20) ≤ v_iv (n_v vs 21) ∧ (v_iv (n_v vs 21)).toNat = (v_iv (n_v vs 17)).toNat ||| (v_iv (n_v vs 20)).toNat) => ⟨h.1, h.2.1, h.2.2.1⟩) f16
  replace f19 := shm_107 f19
  replace f20 := shm_107 f20
  replace f21 := shm_107 f21
  replace f22 := shm_388 f22
  replace f23 := shm_386 f23
  have s3 : (∀ b j, w_el w2 b j = if b = v_ad (n_v vs 2) ∧ j = (v_iv (n_v vs 14)).toNat then v_iv (n_v vs 1) else w_el w3 b j) ∧ ∀ b k, w_fd w2 b k = w_fd w3 b k := s3.2
  replace f26 := shm_107 f26
  replace f27 := shm_107 f27
  replace f28 := shm_388 f28
  replace f29 := shm_386 f29
  have s4 : (∀ b j, w_el w3 b j = if b = v_ad (n_v vs 2) ∧ j = (v_iv (n_v vs 9)).toNat then v_iv (n_v vs 1) else w_el w4 b j) ∧ ∀ b k, w_fd w3 b k = w_fd w4 b k := s4.2
  replace f32 := shm_107 f32
  replace f33 := shm_107 f33
  replace f34 := shm_388 f34
  replace f35 := shm_386 f35
  have ar_0_7_1 : w_ar w1 (n_v vs 0) 7 = w_ar ws (n_v vs 0) 7 := congrArg v_ad (s1.2 _ _).symm
  have ar_0_7_2 : w_ar w2 (n_v vs 0) 7 = w_ar ws (n_v vs 0) 7 := by rw [← ar_0_7_1]; show v_ad (w_fd w2 _ _) = v_ad (w_fd w1 _ _); rw [s2.2]
  have ar_0_7_3 : w_ar w3 (n_v vs 0) 7 = w_ar ws (n_v vs 0) 7 := by rw [← ar_0_7_2]; show v_ad (w_fd w3 _ _) = v_ad (w_fd w2 _ _); rw [s3.2]
  have ar_0_7_4 : w_ar w4 (n_v vs 0) 7 = w_ar ws (n_v vs 0) 7 := by rw [← ar_0_7_3]; show v_ad (w_fd w4 _ _) = v_ad (w_fd w3 _ _); rw [s4.2]
  have cr_0_7 := fdq_46 hD hth r0
  have ar_0_8_1 : w_ar w1 (n_v vs 0) 8 = w_ar ws (n_v vs 0) 8 := congrArg v_ad (s1.2 _ _).symm
  have ar_0_8_2 : w_ar w2 (n_v vs 0) 8 = w_ar ws (n_v vs 0) 8 := by rw [← ar_0_8_1]; show v_ad (w_fd w2 _ _) = v_ad (w_fd w1 _ _); rw [s2.2]
  have ar_0_8_3 : w_ar w3 (n_v vs 0) 8 = w_ar ws (n_v vs 0) 8 := by rw [← ar_0_8_2]; show v_ad (w_fd w3 _ _) = v_ad (w_fd w2 _ _); rw [s3.2]
  have ar_0_8_4 : w_ar w4 (n_v vs 0) 8 = w_ar ws (n_v vs 0) 8 := by rw [← ar_0_8_3]; show v_ad (w_fd w4 _ _) = v_ad (w_fd w3 _ _); rw [s4.2]
  have cr_0_8 := fdq_47 hD hth r0
  have ar_0_14_1 : w_ar w1 (n_v vs 0) 14 = w_ar ws (n_v vs 0) 14 := congrArg v_ad (s1.2 _ _).symm
  have ar_0_14_2 : w_ar w2 (n_v vs 0) 14 = w_ar ws (n_v vs 0) 14 := by rw [← ar_0_14_1]; show v_ad (w_fd w2 _ _) = v_ad (w_fd w1 _ _); rw [s2.2]
  have ar_0_14_3 : w_ar w3 (n_v vs 0) 14 = w_ar ws (n_v vs 0) 14 := by rw [← ar_0_14_2]; show v_ad (w_fd w3 _ _) = v_ad (w_fd w2 _ _); rw [s3.2]
  have ar_0_14_4 : w_ar w4 (n_v vs 0) 14 = w_ar ws (n_v vs 0) 14 := by rw [← ar_0_14_3]; show v_ad (w_fd w4 _ _) = v_ad (w_fd w3 _ _); rw [s4.2]
  have cr_0_14 := fdq_75 hD hth r0
  have cr_0_15 := fdq_66 hD hth r0
  have ad_15 : v_ad (n_v vs 15) = w_ar ws (n_v vs 0) 14 := congrArg v_ad f0
  have ad_7 : v_ad (n_v vs 7) = w_ar ws (n_v vs 0) 8 := congrArg v_ad f1
  have ad_3 : v_ad (n_v vs 3) = w_ar ws (n_v vs 0) 7 := congrArg v_ad f2
  have ad_2 : v_ad (n_v vs 2) = w_ar ws (n_v vs 0) 15 := congrArg v_ad f3
  simp only [ad_3] at f10
  have h10 : v_iv (n_v vs 25) = w_ei w1 (w_ar ws (n_v vs 0) 7) (v_iv (n_v vs 1)) := f10
  simp only [ad_15] at f11
  have h11 : v_iv (n_v vs 23) = w_ei w1 (w_ar ws (n_v vs 0) 14) (v_iv (n_v vs 22)) := f11
  simp only [ad_7] at f12
  have h12 : v_iv (n_v vs 22) = w_ei w1 (w_ar ws (n_v vs 0) 8) (v_iv (n_v vs 1)) := f12
  simp only [ar_0_7_1, ar_0_8_1, ad_7] at f13 f19
  have h19 : v_iv (n_v vs 19) = w_ei w2 (w_ar ws (n_v vs 0) 8) (v_iv (n_v vs 1)) := f19
  simp only [ad_15] at f20
  have h20 : v_iv (n_v vs 17) = w_ei w2 (w_ar ws (n_v vs 0) 14) (v_iv (n_v vs 16)) := f20
  simp only [ad_3] at f21
  have h21 : v_iv (n_v vs 16) = w_ei w2 (w_ar ws (n_v vs 0) 7) (v_iv (n_v vs 1)) := f21
  simp only [ar_0_7_2, ar_0_8_2, ar_0_14_2, ad_3] at f22 f23 f26
  have h26 : v_iv (n_v vs 13) = w_ei w3 (w_ar ws (n_v vs 0) 7) (v_iv (n_v vs 1)) := f26
  simp only [ad_7] at f27
  have h27 : v_iv (n_v vs 10) = w_ei w3 (w_ar ws (n_v vs 0) 8) (v_iv (n_v vs 1)) := f27
  simp only [ar_0_7_3, ar_0_8_3, ar_0_14_3, ad_7] at f28 f29 f32
  have h32 : v_iv (n_v vs 8) = w_ei w4 (w_ar ws (n_v vs 0) 8) (v_iv (n_v vs 1)) := f32
  simp only [ad_3] at f33
  have h33 : v_iv (n_v vs 4) = w_ei w4 (w_ar ws (n_v vs 0) 7) (v_iv (n_v vs 1)) := f33
  simp only [ar_0_7_4, ar_0_8_4, ar_0_14_4] at f34 f35
  have fe_0_0_1 : w_fi ws (n_v vs 0) 0 = w_fi w1 (n_v vs 0) 0 := congrArg v_iv (s1.2 _ _)
  have fe_0_1_1 : w_fi ws (n_v vs 0) 1 = w_fi w1 (n_v vs 0) 1 := congrArg v_iv (s1.2 _ _)
  have fe_0_0_2 : w_fi w1 (n_v vs 0) 0 = w_fi w2 (n_v vs 0) 0 := congrArg v_iv (s2.2 _ _)
  have fe_0_1_2 : w_fi w1 (n_v vs 0) 1 = w_fi w2 (n_v vs 0) 1 := congrArg v_iv (s2.2 _ _)
  have fe_0_0_3 : w_fi w2 (n_v vs 0) 0 = w_fi w3 (n_v vs 0) 0 := congrArg v_iv (s3.2 _ _)
  have fe_0_1_3 : w_fi w2 (n_v vs 0) 1 = w_fi w3 (n_v vs 0) 1 := congrArg v_iv (s3.2 _ _)
  have fe_0_0_4 : w_fi w3 (n_v vs 0) 0 = w_fi w4 (n_v vs 0) 0 := congrArg v_iv (s4.2 _ _)
  have fe_0_1_4 : w_fi w3 (n_v vs 0) 1 = w_fi w4 (n_v vs 0) 1 := congrArg v_iv (s4.2 _ _)
  have hE_0_7_1 : ∀ j : Int, w_ei ws (w_ar ws (n_v vs 0) 7) j = w_ei w1 (w_ar ws (n_v vs 0) 7) j := el_kp s1.1 r15 cr_0_7 (by decide)
  have hE_0_7_2 : ∀ j : Int, w_ei w1 (w_ar ws (n_v vs 0) 7) j = w_ei w2 (w_ar ws (n_v vs 0) 7) j := el_kp s2.1 r15 cr_0_7 (by decide)
  have hE_0_7_3 : ∀ j : Int, w_ei w2 (w_ar ws (n_v vs 0) 7) j = w_ei w3 (w_ar ws (n_v vs 0) 7) j := el_kp s3.1 r2 cr_0_7 (by decide)
  have hE_0_7_4 : ∀ j : Int, w_ei w3 (w_ar ws (n_v vs 0) 7) j = w_ei w4 (w_ar ws (n_v vs 0) 7) j := el_kp s4.1 r2 cr_0_7 (by decide)
  have hK_0_7 := elq_11 hD hth cr_0_7
  have hE_0_8_1 : ∀ j : Int, w_ei ws (w_ar ws (n_v vs 0) 8) j = w_ei w1 (w_ar ws (n_v vs 0) 8) j := el_kp s1.1 r15 cr_0_8 (by decide)
  have hE_0_8_2 : ∀ j : Int, w_ei w1 (w_ar ws (n_v vs 0) 8) j = w_ei w2 (w_ar ws (n_v vs 0) 8) j := el_kp s2.1 r15 cr_0_8 (by decide)
  have hE_0_8_3 : ∀ j : Int, w_ei w2 (w_ar ws (n_v vs 0) 8) j = w_ei w3 (w_ar ws (n_v vs 0) 8) j := el_kp s3.1 r2 cr_0_8 (by decide)
  have hE_0_8_4 : ∀ j : Int, w_ei w3 (w_ar ws (n_v vs 0) 8) j = w_ei w4 (w_ar ws (n_v vs 0) 8) j := el_kp s4.1 r2 cr_0_8 (by decide)
  have hK_0_8 := elq_12 hD hth cr_0_8
  have hE_0_14_1 : ∀ j : Int, 0 ≤ j → (j = v_iv (n_v vs 22) → w_ei ws (w_ar ws (n_v vs 0) 14) j = v_iv (n_v vs 27)) ∧ (j ≠ v_iv (n_v vs 22) → w_ei ws (w_ar ws (n_v vs 0) 14) j = w_ei w1 (w_ar ws (n_v vs 0) 14) j) := fun j hj => ⟨fun h => by unfold w_ei; rw [s1.1, if_pos ⟨ad_15.symm, by rw [h]⟩], fun h => by unfold w_ei; rw [s1.1, if_neg (fun e => h (by have := e.2; omega))]⟩
  have hE_0_14_2 : ∀ j : Int, 0 ≤ j → (j = v_iv (n_v vs 16) → w_ei w1 (w_ar ws (n_v vs 0) 14) j = v_iv (n_v vs 21)) ∧ (j ≠ v_iv (n_v vs 16) → w_ei w1 (w_ar ws (n_v vs 0) 14) j = w_ei w2 (w_ar ws (n_v vs 0) 14) j) := fun j hj => ⟨fun h => by unfold w_ei; rw [s2.1, if_pos ⟨ad_15.symm, by rw [h]⟩], fun h => by unfold w_ei; rw [s2.1, if_neg (fun e => h (by have := e.2; omega))]⟩
  have hE_0_14_3 : ∀ j : Int, w_ei w2 (w_ar ws (n_v vs 0) 14) j = w_ei w3 (w_ar ws (n_v vs 0) 14) j := el_kp s3.1 r2 cr_0_14 (by decide)
  have hE_0_14_4 : ∀ j : Int, w_ei w3 (w_ar ws (n_v vs 0) 14) j = w_ei w4 (w_ar ws (n_v vs 0) 14) j := el_kp s4.1 r2 cr_0_14 (by decide)
  have hK_0_14 := elq_25 hD hth cr_0_14
  have hE_0_15_1 : ∀ j : Int, w_ei ws (w_ar ws (n_v vs 0) 15) j = w_ei w1 (w_ar ws (n_v vs 0) 15) j := el_kp s1.1 r15 cr_0_15 (by decide)
  have hE_0_15_2 : ∀ j : Int, w_ei w1 (w_ar ws (n_v vs 0) 15) j = w_ei w2 (w_ar ws (n_v vs 0) 15) j := el_kp s2.1 r15 cr_0_15 (by decide)
  have hE_0_15_3 : ∀ j : Int, 0 ≤ j → (j = v_iv (n_v vs 14) → w_ei w2 (w_ar ws (n_v vs 0) 15) j = v_iv (n_v vs 1)) ∧ (j ≠ v_iv (n_v vs 14) → w_ei w2 (w_ar ws (n_v vs 0) 15) j = w_ei w3 (w_ar ws (n_v vs 0) 15) j) := fun j hj => ⟨fun h => by unfold w_ei; rw [s3.1, if_pos ⟨ad_2.symm, by rw [h]⟩], fun h => by unfold w_ei; rw [s3.1, if_neg (fun e => h (by have := e.2; omega))]⟩
  have hE_0_15_4 : ∀ j : Int, 0 ≤ j → (j = v_iv (n_v vs 9) → w_ei w3 (w_ar ws (n_v vs 0) 15) j = v_iv (n_v vs 1)) ∧ (j ≠ v_iv (n_v vs 9) → w_ei w3 (w_ar ws (n_v vs 0) 15) j = w_ei w4 (w_ar ws (n_v vs 0) 15) j) := fun j hj => ⟨fun h => by unfold w_ei; rw [s4.1, if_pos ⟨ad_2.symm, by rw [h]⟩], fun h => by unfold w_ei; rw [s4.1, if_neg (fun e => h (by have := e.2; omega))]⟩
  have hK_0_15 := elq_31 hD hth cr_0_15
  have kz_0_0 := fdq_21 hD hth r0
  have kz_0_1 := fdq_30 hD hth r0
  have nf0 : fc_1 PRD (20, [0, 1], [60, 1, 3, 748, 0, 14, 7, 8]) ws (vs) := ⟨nf_in hl rfl, sgq_390 (vc_Gr_tie_at_Gr_0_0 (v_iv (n_v vs 1)) (v_iv (n_v vs 4)) (v_iv (n_v vs 8)) (v_iv (n_v vs 9)) (v_iv (n_v vs 10)) (v_iv (n_v vs 13)) (v_iv (n_v vs 14)) (v_iv (n_v vs 16)) (v_iv (n_v vs 17)) (v_iv (n_v vs 18)) (v_iv (n_v vs 19)) (v_iv (n_v vs 20)) (v_iv (n_v vs 21)) (v_iv (n_v vs 22)) (v_iv (n_v vs 23)) (v_iv (n_v vs 24)) (v_iv (n_v vs 25)) (v_iv (n_v vs 26)) (v_iv (n_v vs 27)) (w_ei ws (w_ar ws (n_v vs 0) 7)) (w_ei ws (w_ar ws (n_v vs 0) 8)) (w_fi ws (n_v vs 0) 0) (w_fi ws (n_v vs 0) 1) (w_ei w1 (w_ar ws (n_v vs 0) 7)) (w_ei w1 (w_ar ws (n_v vs 0) 14)) (w_ei w1 (w_ar ws (n_v vs 0) 8)) (w_fi w1 (n_v vs 0) 0) (w_fi w1 (n_v vs 0) 1) (w_ei w2 (w_ar ws (n_v vs 0) 8)) (w_ei w2 (w_ar ws (n_v vs 0) 14)) (w_ei w2 (w_ar ws (n_v vs 0) 7)) (w_fi w2 (n_v vs 0) 0) (w_fi w2 (n_v vs 0) 1) (w_ei w3 (w_ar ws (n_v vs 0) 7)) (w_ei w3 (w_ar ws (n_v vs 0) 8)) (w_ei w3 (w_ar ws (n_v vs 0) 14)) (w_fi w3 (n_v vs 0) 0) (w_fi w3 (n_v vs 0) 1) (w_ei w4 (w_ar ws (n_v vs 0) 8)) (w_ei w4 (w_ar ws (n_v vs 0) 7)) (w_ei w4 (w_ar ws (n_v vs 0) 14)) (w_fi w4 (n_v vs 0) 0) (w_fi w4 (n_v vs 0) 1) (w_ei ws (w_ar ws (n_v vs 0) 14)) (w_ei ws (w_ar ws (n_v vs 0) 15)) (w_ei w1 (w_ar ws (n_v vs 0) 15)) (w_ei w2 (w_ar ws (n_v vs 0) 15)) (w_ei w3 (w_ar ws (n_v vs 0) 15)) (w_ei w4 (w_ar ws (n_v vs 0) 15)) k1 k4 k8 k9 k10 k13 k14 k16 k17 k18 k19 k20 k21 k22 k23 k24 k25 k26 k27 d0 d1 (shm_386 f4) (shm_387 f5) f7 (shm_354 f8) (shm_349 f9) h10 h11 h12 f13 (shm_387 f14) f16 (shm_354 f17) (shm_349 f18) h19 h20 h21 f22 f23 (shm_387 f24) h26 h27 f28 f29 (shm_387 f30) h32 h33 f34 f35 (shm_387 f36) fe_0_0_1 fe_0_1_1 fe_0_0_2 fe_0_1_2 fe_0_0_3 fe_0_1_3 fe_0_0_4 fe_0_1_4 hE_0_7_1 hE_0_7_2 hE_0_7_3 hE_0_7_4 hK_0_7 hE_0_8_1 hE_0_8_2 hE_0_8_3 hE_0_8_4 hK_0_8 hE_0_14_1 hE_0_14_2 hE_0_14_3 hE_0_14_4 hK_0_14 hE_0_15_1 hE_0_15_2 hE_0_15_3 hE_0_15_4 hK_0_15 kz_0_0 kz_0_1)⟩
  refine ⟨(fun _ h => (by cases h)), [], trivial, ?_, (fun _ h => (by cases h))⟩
  rw [List.append_nil]
  exact List.forall_mem_cons.mpr ⟨⟨show (20 : Nat) < 100 from by decide, nf0⟩, (fun _ h => (by cases h))⟩
def n_Gr_tie_at_Gr_an : List an_T := []
def t_Gr_tie_at_Gr_ct : ct_L := []
set_option maxRecDepth 100000 in
theorem c_Gr_tie_at_Gr {l : Launch} {D : va_G} {kA : Nat → ClassId} : ct_ok PRD l D kA GG y_Gr_tie_at_Gr z_Gr_tie_at_Gr e_Gr_tie_at_Gr := chk_all_ok (FT := [(35, 3, 7), (38, 3, 8), (56, 3, 14), (59, 3, 15)]) (PT := []) (CT := t_Gr_tie_at_Gr_ct) (KT := []) (NT := []) (AN := n_Gr_tie_at_Gr_an) (OT := [o_Gr_tie_at_Gr_0]) 0 252 (List.forall_mem_cons.mpr ⟨oo_Gr_tie_at_Gr_0, List.forall_mem_nil _⟩) (by decide +kernel) ⟨List.forall_mem_cons.mpr ⟨gf_Gr_35, List.forall_mem_cons.mpr ⟨gf_Gr_38, List.forall_mem_cons.mpr ⟨gf_Gr_56, List.forall_mem_cons.mpr ⟨gf_Gr_59, List.forall_mem_nil _⟩⟩⟩⟩, List.forall_mem_nil _, List.forall_mem_nil _, List.forall_mem_nil _, List.forall_mem_nil _, GG_pl⟩ (by decide +kernel)
set_option maxHeartbeats 4000000 in
theorem vc_La_lowerEnd_0_0 (x2 : Int) (x5 : Int) (x7 : Int) (head_0o3 : Int → Int) (turned_0o1 : Int → Int) (tail_0o3 : Int → Int) (k2 : 0 ≤ x2 ∧ x2 ≤ 47) (k5 : 0 ≤ x5 ∧ x5 ≤ 0) (k7 : 0 ≤ x7 ∧ x7 ≤ 23) (h0 : x7 = head_0o3 (x2)) (f2 : x5 = 0) (h3 : x5 = turned_0o1 (x2)) (hK_1_9 : ∀ j : Int, 0 ≤ j → j < 48 → 0 ≤ turned_0o1 j ∧ turned_0o1 j ≤ 1) (hK_3_7 : ∀ j : Int, 0 ≤ j → j < 48 → 0 ≤ tail_0o3 j ∧ tail_0o3 j ≤ 23) (hK_3_8 : ∀ j : Int, 0 ≤ j → j < 48 → 0 ≤ head_0o3 j ∧ head_0o3 j ≤ 23) : LOX (tail_0o3) (head_0o3) (turned_0o1) (x2) (x7) := by
  first
    | exact lox_t (by assumption) (by omega) (by assumption)
    | exact lox_f (by assumption) (by omega) (by assumption)
  
def o_La_lowerEnd_0 : or_T := (30, 8, [(1, (2, 0, 0, [2])), (2, (0, 0, 47, [])), (3, (2, 0, 0, [3])), (4, (2, 0, 0, [42])), (5, (0, 0, 0, [])), (6, (2, 0, 0, [53])), (7, (0, 0, 23, []))], [(10, [7, 6, 2], []), (9, [6, 3], [8]), (8, [5], [0]), (10, [5, 4, 2], []), (9, [4, 1], [9])], [], [], [(20, [3, 1, 2, 7], [60, 0, 3, 650, 7, 8, 1009])], [], [])
theorem oo_La_lowerEnd_0 {kA : Nat → ClassId} : or_ok PRD kA GG o_La_lowerEnd_0 := by
  refine or_mk fun A ta ws vs hD hth hl => ?_
  intro t1 r1 t2 k2 t3 r3 t4 r4 t5 k5 t6 r6 t7 k7 f0 f1 f2 f3 f4
  replace f0 := shm_107 f0
  replace f1 := shm_293 f1
  replace f3 := shm_107 f3
  replace f4 := shm_119 f4
  have cr_1_9 := fdq_76 hD hth r1
  have cr_3_7 := fdq_46 hD hth r3
  have cr_3_8 := fdq_47 hD hth r3
  have ad_6 : v_ad (n_v vs 6) = w_ar ws (n_v vs 3) 8 := congrArg v_ad f1
  have ad_4 : v_ad (n_v vs 4) = w_ar ws (n_v vs 1) 9 := congrArg v_ad f4
  simp only [ad_6] at f0
  have h0 : v_iv (n_v vs 7) = w_ei ws (w_ar ws (n_v vs 3) 8) (v_iv (n_v vs 2)) := f0
  simp only [ad_4] at f3
  have h3 : v_iv (n_v vs 5) = w_ei ws (w_ar ws (n_v vs 1) 9) (v_iv (n_v vs 2)) := f3
  have hK_1_9 := elq_38 hD hth cr_1_9
  have hK_3_7 := elq_11 hD hth cr_3_7
  have hK_3_8 := elq_12 hD hth cr_3_8
  have nf0 : fc_1 PRD (20, [3, 1, 2, 7], [60, 0, 3, 650, 7, 8, 1009]) ws (vs) := ⟨nf_in hl rfl, sgq_392 (vc_La_lowerEnd_0_0 (v_iv (n_v vs 2)) (v_iv (n_v vs 5)) (v_iv (n_v vs 7)) (w_ei ws (w_ar ws (n_v vs 3) 8)) (w_ei ws (w_ar ws (n_v vs 1) 9)) (w_ei ws (w_ar ws (n_v vs 3) 7)) k2 k5 k7 h0 (shm_192 f2) h3 hK_1_9 hK_3_7 hK_3_8)⟩
  refine ⟨(fun _ h => (by cases h)), [], trivial, ?_, (fun _ h => (by cases h))⟩
  rw [List.append_nil]
  exact List.forall_mem_cons.mpr ⟨⟨show (20 : Nat) < 100 from by decide, nf0⟩, (fun _ h => (by cases h))⟩
set_option maxHeartbeats 4000000 in
theorem vc_La_lowerEnd_1_0 (x2 : Int) (x5 : Int) (x7 : Int) (tail_0o3 : Int → Int) (turned_0o1 : Int → Int) (head_0o3 : Int → Int) (k2 : 0 ≤ x2 ∧ x2 ≤ 47) (k5 : 1 ≤ x5 ∧ x5 ≤ 1) (k7 : 0 ≤ x7 ∧ x7 ≤ 23) (h0 : x7 = tail_0o3 (x2)) (f2 : x5 ≠ 0) (h3 : x5 = turned_0o1 (x2)) (hK_1_9 : ∀ j : Int, 0 ≤ j → j < 48 → 0 ≤ turned_0o1 j ∧ turned_0o1 j ≤ 1) (hK_3_7 : ∀ j : Int, 0 ≤ j → j < 48 → 0 ≤ tail_0o3 j ∧ tail_0o3 j ≤ 23) (hK_3_8 : ∀ j : Int, 0 ≤ j → j < 48 → 0 ≤ head_0o3 j ∧ head_0o3 j ≤ 23) : LOX (tail_0o3) (head_0o3) (turned_0o1) (x2) (x7) := by
  first
    | exact lox_t (by assumption) (by omega) (by assumption)
    | exact lox_f (by assumption) (by omega) (by assumption)
  
def o_La_lowerEnd_1 : or_T := (30, 8, [(1, (2, 0, 0, [2])), (2, (0, 0, 47, [])), (3, (2, 0, 0, [3])), (4, (2, 0, 0, [42])), (5, (0, 1, 1, [])), (6, (2, 0, 0, [52])), (7, (0, 0, 23, []))], [(10, [7, 6, 2], []), (9, [6, 3], [7]), (8, [5], [1]), (10, [5, 4, 2], []), (9, [4, 1], [9])], [], [], [(20, [3, 1, 2, 7], [60, 0, 3, 650, 7, 8, 1009])], [], [])
theorem oo_La_lowerEnd_1 {kA : Nat → ClassId} : or_ok PRD kA GG o_La_lowerEnd_1 := by
  refine or_mk fun A ta ws vs hD hth hl => ?_
  intro t1 r1 t2 k2 t3 r3 t4 r4 t5 k5 t6 r6 t7 k7 f0 f1 f2 f3 f4
  replace f0 := shm_107 f0
  replace f1 := shm_198 f1
  replace f3 := shm_107 f3
  replace f4 := shm_119 f4
  have cr_1_9 := fdq_76 hD hth r1
  have cr_3_7 := fdq_46 hD hth r3
  have cr_3_8 := fdq_47 hD hth r3
  have ad_6 : v_ad (n_v vs 6) = w_ar ws (n_v vs 3) 7 := congrArg v_ad f1
  have ad_4 : v_ad (n_v vs 4) = w_ar ws (n_v vs 1) 9 := congrArg v_ad f4
  simp only [ad_6] at f0
  have h0 : v_iv (n_v vs 7) = w_ei ws (w_ar ws (n_v vs 3) 7) (v_iv (n_v vs 2)) := f0
  simp only [ad_4] at f3
  have h3 : v_iv (n_v vs 5) = w_ei ws (w_ar ws (n_v vs 1) 9) (v_iv (n_v vs 2)) := f3
  have hK_1_9 := elq_38 hD hth cr_1_9
  have hK_3_7 := elq_11 hD hth cr_3_7
  have hK_3_8 := elq_12 hD hth cr_3_8
  have nf0 : fc_1 PRD (20, [3, 1, 2, 7], [60, 0, 3, 650, 7, 8, 1009]) ws (vs) := ⟨nf_in hl rfl, sgq_392 (vc_La_lowerEnd_1_0 (v_iv (n_v vs 2)) (v_iv (n_v vs 5)) (v_iv (n_v vs 7)) (w_ei ws (w_ar ws (n_v vs 3) 7)) (w_ei ws (w_ar ws (n_v vs 1) 9)) (w_ei ws (w_ar ws (n_v vs 3) 8)) k2 k5 k7 h0 (shm_142 f2) h3 hK_1_9 hK_3_7 hK_3_8)⟩
  refine ⟨(fun _ h => (by cases h)), [], trivial, ?_, (fun _ h => (by cases h))⟩
  rw [List.append_nil]
  exact List.forall_mem_cons.mpr ⟨⟨show (20 : Nat) < 100 from by decide, nf0⟩, (fun _ h => (by cases h))⟩
def n_La_lowerEnd_an : List an_T := []
def t_La_lowerEnd_ct : ct_L := []
set_option maxRecDepth 100000 in
theorem c_La_lowerEnd {l : Launch} {D : va_G} {kA : Nat → ClassId} : ct_ok PRD l D kA GG y_La_lowerEnd z_La_lowerEnd e_La_lowerEnd := chk_all_ok (FT := [(18, 4, 1), (125, 2, 9), (131, 3, 8), (136, 3, 7)]) (PT := []) (CT := t_La_lowerEnd_ct) (KT := []) (NT := []) (AN := n_La_lowerEnd_an) (OT := [o_La_lowerEnd_0, o_La_lowerEnd_1]) 0 200 (List.forall_mem_cons.mpr ⟨oo_La_lowerEnd_0, List.forall_mem_cons.mpr ⟨oo_La_lowerEnd_1, List.forall_mem_nil _⟩⟩) (by decide +kernel) ⟨List.forall_mem_cons.mpr ⟨gf_La_18, List.forall_mem_cons.mpr ⟨gf_La_125, List.forall_mem_cons.mpr ⟨gf_La_131, List.forall_mem_cons.mpr ⟨gf_La_136, List.forall_mem_nil _⟩⟩⟩⟩, List.forall_mem_nil _, List.forall_mem_nil _, List.forall_mem_nil _, List.forall_mem_nil _, GG_pl⟩ (by decide +kernel)
set_option maxHeartbeats 4000000 in
theorem vc_La_pairCost_0_r0 (x1 : Int) (x2 : Int) (x4 : Int) (x5 : Int) (x6 : Int) (x7 : Int) (x8 : Int) (x9 : Int) (k1 : 0 ≤ x1 ∧ x1 ≤ 262143) (k2 : 1 ≤ x2 ∧ x2 ≤ 6) (k4 : 0 ≤ x4 ∧ x4 ≤ 5) (k5 : 3 ≤ x5 ∧ x5 ≤ 3) (k6 : 0 ≤ x6 ∧ x6 ≤ 15) (k7 : 0 ≤ x7 ∧ x7 ≤ 262143) (k8 : 7 ≤ x8 ∧ x8 ≤ 7) (k9 : 0 ≤ x9 ∧ x9 ≤ 7) (d0 : x2 + (-4294967296) ≤ x4 ∧ x4 ≤ x2 + (-1)) (d1 : x2 + (-4294967296) ≤ x4 ∧ x4 ≤ x2 + 0) (f0 : x9 = x7 % 8) (f1 : bvp (x9) = bvp (x7) &&& bvp (x8)) (f2 : bvp (x7) = bvp (x1) >>> (x6).toNat) (f3 : x6 = 3 * x4) (f4 : x4 < x2) (f5 : OPD (x1) (x2)) (f6 : x2 ≤ 6) : 0 ≤ x9 ∧ x9 ≤ 5 := by
  first
    | omega
    | (have q := opd_dig (p := x1) (n := x2) (s := x6) (q := x7) (d := x9) (i := x4) (sv := x8) ‹OPD _ _› (by omega) (by omega) (by assumption) (by omega) (by assumption) (by omega) (by omega) (by omega) (by omega) (by omega); omega)
    | (have q := opd_dig (p := x1) (n := x2) (s := x9) (q := x10) (d := x12) (i := x6) (sv := x11) ‹OPD _ _› (by omega) (by omega) (by assumption) (by omega) (by assumption) (by omega) (by omega) (by omega) (by omega) (by omega); omega)
  
def o_La_pairCost_0 : or_T := (20, 10, [(1, (0, 0, 262143, [])), (2, (0, 1, 6, [])), (4, (0, 0, 5, [])), (5, (0, 3, 3, [])), (6, (0, 0, 15, [])), (7, (0, 0, 262143, [])), (8, (0, 7, 7, [])), (9, (0, 0, 7, []))], [(12, [9, 7], [8]), (16, [9, 7, 8], [0]), (16, [7, 1, 6], [4]), (3, [6, 5, 4], []), (7, [4, 2], [2]), (20, [1, 2], [61, 0, 687]), (20, [2], [50, 0, 0, 0, 2, 1, 0, 0, 6])], [(9, (0, 0, 5, []))], [], [], [], [(4, 2, -4294967296, -1), (4, 2, -4294967296, 0)])
theorem oo_La_pairCost_0 {kA : Nat → ClassId} : or_ok PRD kA GG o_La_pairCost_0 := by
  refine or_mk fun A ta ws vs hD hth hl => ?_
  intro t1 k1 t2 k2 t4 k4 t5 k5 t6 k6 t7 k7 t8 k8 t9 k9 d0 d1 f0 f1 f2 f3 f4 f5 f6
  replace f3 := shm_38 f3
  rw [show v_iv (n_v vs 5) = 3 from by omega] at f3
  have hrf0 : 0 ≤ v_iv (n_v vs 9) ∧ v_iv (n_v vs 9) ≤ 5 := vc_La_pairCost_0_r0 (v_iv (n_v vs 1)) (v_iv (n_v vs 2)) (v_iv (n_v vs 4)) (v_iv (n_v vs 5)) (v_iv (n_v vs 6)) (v_iv (n_v vs 7)) (v_iv (n_v vs 8)) (v_iv (n_v vs 9)) k1 k2 k4 k5 k6 k7 k8 k9 d0 d1 (shm_393 f0) (shm_11 f1) (shm_13 f2) f3 (shm_6 f4) (shm_394 f5) (shm_395 f6)
  have rf9 : tv_ok ta (0, 0, 5, []) (n_v vs 9) := tv_in t9 (by first | omega | grind) (by first | omega | grind)
  refine ⟨List.forall_mem_cons.mpr ⟨rf9, (fun _ h => (by cases h))⟩, [], trivial, ?_, (fun _ h => (by cases h))⟩
  rw [List.append_nil]
  exact (fun _ h => (by cases h))
set_option maxHeartbeats 4000000 in
theorem vc_La_pairCost_1_0 (x1 : Int) (x2 : Int) (x4 : Int) (x5 : Int) (x6 : Int) (x7 : Int) (x8 : Int) (x9 : Int) (x12 : Int) (x13 : Int) (k1 : 0 ≤ x1 ∧ x1 ≤ 262143) (k2 : 1 ≤ x2 ∧ x2 ≤ 6) (k4 : 0 ≤ x4 ∧ x4 ≤ 5) (k5 : 3 ≤ x5 ∧ x5 ≤ 3) (k6 : 0 ≤ x6 ∧ x6 ≤ 15) (k7 : 0 ≤ x7 ∧ x7 ≤ 262143) (k8 : 7 ≤ x8 ∧ x8 ≤ 7) (k9 : 0 ≤ x9 ∧ x9 ≤ 5) (k12 : 1 ≤ x12 ∧ x12 ≤ 1) (k13 : 1 ≤ x13 ∧ x13 ≤ 6) (d0 : x4 + 1 ≤ x13 ∧ x13 ≤ x4 + 1) (d1 : x2 + (-4294967296) ≤ x13 ∧ x13 ≤ x2 + 0) (d2 : x2 + (-4294967296) ≤ x13 ∧ x13 ≤ x2 + 1) (d3 : x2 + (-4294967296) ≤ x4 ∧ x4 ≤ x2 + (-1)) (d4 : x2 + (-4294967296) ≤ x4 ∧ x4 ≤ x2 + 0) (f0 : x13 = x4 + x12) (f1 : x9 = x7 % 8) (f2 : bvp (x9) = bvp (x7) &&& bvp (x8)) (f3 : bvp (x7) = bvp (x1) >>> (x6).toNat) (f4 : x6 = 3 * x4) (f5 : x4 < x2) (f6 : OPD (x1) (x2)) (f7 : x2 ≤ 6) : (x4 + 1) ≤ x13 := by
  first
    | omega
    | (have q := opd_dig (p := x1) (n := x2) (s := x6) (q := x7) (d := x9) (i := x4) (sv := x8) ‹OPD _ _› (by omega) (by omega) (by assumption) (by omega) (by assumption) (by omega) (by omega) (by omega) (by omega) (by omega); omega)
    | (have q := opd_dig (p := x1) (n := x2) (s := x9) (q := x10) (d := x12) (i := x6) (sv := x11) ‹OPD _ _› (by omega) (by omega) (by assumption) (by omega) (by assumption) (by omega) (by omega) (by omega) (by omega) (by omega); omega)
  
def o_La_pairCost_1 : or_T := (31, 14, [(1, (0, 0, 262143, [])), (2, (0, 1, 6, [])), (4, (0, 0, 5, [])), (5, (0, 3, 3, [])), (6, (0, 0, 15, [])), (7, (0, 0, 262143, [])), (8, (0, 7, 7, [])), (9, (0, 0, 5, [])), (12, (0, 1, 1, [])), (13, (0, 1, 6, []))], [(1, [13, 4, 12], []), (12, [9, 7], [8]), (16, [9, 7, 8], [0]), (16, [7, 1, 6], [4]), (3, [6, 5, 4], []), (7, [4, 2], [2]), (20, [1, 2], [61, 0, 687]), (20, [2], [50, 0, 0, 0, 2, 1, 0, 0, 6])], [], [], [(20, [4, 13], [50, 0, 0, 0, 6, 4, 2, 1, 0, 0, 1, 1, 1])], [], [(13, 4, 1, 1), (13, 2, -4294967296, 0), (13, 2, -4294967296, 1), (4, 2, -4294967296, -1), (4, 2, -4294967296, 0)])
theorem oo_La_pairCost_1 {kA : Nat → ClassId} : or_ok PRD kA GG o_La_pairCost_1 := by
  refine or_mk fun A ta ws vs hD hth hl => ?_
  intro t1 k1 t2 k2 t4 k4 t5 k5 t6 k6 t7 k7 t8 k8 t9 k9 t12 k12 t13 k13 d0 d1 d2 d3 d4 f0 f1 f2 f3 f4 f5 f6 f7
  replace f4 := shm_38 f4
  rw [show v_iv (n_v vs 5) = 3 from by omega] at f4
  have nf0 : fc_1 PRD (20, [4, 13], [50, 0, 0, 0, 6, 4, 2, 1, 0, 0, 1, 1, 1]) ws (vs) := ⟨nf_in hl rfl, sgq_396 (vc_La_pairCost_1_0 (v_iv (n_v vs 1)) (v_iv (n_v vs 2)) (v_iv (n_v vs 4)) (v_iv (n_v vs 5)) (v_iv (n_v vs 6)) (v_iv (n_v vs 7)) (v_iv (n_v vs 8)) (v_iv (n_v vs 9)) (v_iv (n_v vs 12)) (v_iv (n_v vs 13)) k1 k2 k4 k5 k6 k7 k8 k9 k12 k13 d0 d1 d2 d3 d4 (shm_12 f0) (shm_393 f1) (shm_11 f2) (shm_13 f3) f4 (shm_6 f5) (shm_394 f6) (shm_395 f7))⟩
  refine ⟨(fun _ h => (by cases h)), [], trivial, ?_, (fun _ h => (by cases h))⟩
  rw [List.append_nil]
  exact List.forall_mem_cons.mpr ⟨⟨show (20 : Nat) < 100 from by decide, nf0⟩, (fun _ h => (by cases h))⟩
set_option maxHeartbeats 4000000 in
theorem vc_La_pairCost_2_r0 (x1 : Int) (x2 : Int) (x4 : Int) (x6 : Int) (x8 : Int) (x9 : Int) (x10 : Int) (x11 : Int) (x12 : Int) (k1 : 0 ≤ x1 ∧ x1 ≤ 262143) (k2 : 2 ≤ x2 ∧ x2 ≤ 6) (k4 : 0 ≤ x4 ∧ x4 ≤ 4) (k6 : 1 ≤ x6 ∧ x6 ≤ 5) (k8 : 3 ≤ x8 ∧ x8 ≤ 3) (k9 : 3 ≤ x9 ∧ x9 ≤ 15) (k10 : 0 ≤ x10 ∧ x10 ≤ 32767) (k11 : 7 ≤ x11 ∧ x11 ≤ 7) (k12 : 0 ≤ x12 ∧ x12 ≤ 7) (d0 : x2 + (-4294967296) ≤ x6 ∧ x6 ≤ x2 + (-1)) (d1 : x2 + (-4294967296) ≤ x4 ∧ x4 ≤ x2 + (-1)) (d2 : x6 + (-4294967296) ≤ x4 ∧ x4 ≤ x6 + (-1)) (d3 : x2 + (-4294967296) ≤ x6 ∧ x6 ≤ x2 + 0) (f0 : x12 = x10 % 8) (f1 : bvp (x12) = bvp (x10) &&& bvp (x11)) (f2 : bvp (x10) = bvp (x1) >>> (x9).toNat) (f3 : x9 = 3 * x6) (f4 : x6 < x2) (f5 : OPD (x1) (x2)) (f6 : x2 ≤ 6) (f7 : (x4 + 1) ≤ x6) : 0 ≤ x12 ∧ x12 ≤ 5 := by
  first
    | omega
    | (have q := opd_dig (p := x1) (n := x2) (s := x6) (q := x7) (d := x9) (i := x4) (sv := x8) ‹OPD _ _› (by omega) (by omega) (by assumption) (by omega) (by assumption) (by omega) (by omega) (by omega) (by omega) (by omega); omega)
    | (have q := opd_dig (p := x1) (n := x2) (s := x9) (q := x10) (d := x12) (i := x6) (sv := x11) ‹OPD _ _› (by omega) (by omega) (by assumption) (by omega) (by assumption) (by omega) (by omega) (by omega) (by omega) (by omega); omega)
  
def o_La_pairCost_2 : or_T := (53, 13, [(1, (0, 0, 262143, [])), (2, (0, 2, 6, [])), (4, (0, 0, 4, [])), (6, (0, 1, 5, [])), (8, (0, 3, 3, [])), (9, (0, 3, 15, [])), (10, (0, 0, 32767, [])), (11, (0, 7, 7, [])), (12, (0, 0, 7, []))], [(12, [12, 10], [8]), (16, [12, 10, 11], [0]), (16, [10, 1, 9], [4]), (3, [9, 8, 6], []), (7, [6, 2], [2]), (20, [1, 2], [61, 0, 687]), (20, [2], [50, 0, 0, 0, 2, 1, 0, 0, 6]), (20, [4, 6], [50, 0, 0, 0, 6, 4, 2, 1, 0, 0, 1, 1, 1])], [(12, (0, 0, 5, []))], [], [], [], [(6, 2, -4294967296, -1), (4, 2, -4294967296, -1), (4, 6, -4294967296, -1), (6, 2, -4294967296, 0)])
theorem oo_La_pairCost_2 {kA : Nat → ClassId} : or_ok PRD kA GG o_La_pairCost_2 := by
  refine or_mk fun A ta ws vs hD hth hl => ?_
  intro t1 k1 t2 k2 t4 k4 t6 k6 t8 k8 t9 k9 t10 k10 t11 k11 t12 k12 d0 d1 d2 d3 f0 f1 f2 f3 f4 f5 f6 f7
  replace f3 := shm_38 f3
  rw [show v_iv (n_v vs 8) = 3 from by omega] at f3
  have hrf0 : 0 ≤ v_iv (n_v vs 12) ∧ v_iv (n_v vs 12) ≤ 5 := vc_La_pairCost_2_r0 (v_iv (n_v vs 1)) (v_iv (n_v vs 2)) (v_iv (n_v vs 4)) (v_iv (n_v vs 6)) (v_iv (n_v vs 8)) (v_iv (n_v vs 9)) (v_iv (n_v vs 10)) (v_iv (n_v vs 11)) (v_iv (n_v vs 12)) k1 k2 k4 k6 k8 k9 k10 k11 k12 d0 d1 d2 d3 (shm_393 f0) (shm_11 f1) (shm_13 f2) f3 (shm_6 f4) (shm_394 f5) (shm_395 f6) (shm_396 f7)
  have rf12 : tv_ok ta (0, 0, 5, []) (n_v vs 12) := tv_in t12 (by first | omega | grind) (by first | omega | grind)
  refine ⟨List.forall_mem_cons.mpr ⟨rf12, (fun _ h => (by cases h))⟩, [], trivial, ?_, (fun _ h => (by cases h))⟩
  rw [List.append_nil]
  exact (fun _ h => (by cases h))
set_option maxHeartbeats 4000000 in
theorem vc_La_pairCost_3_0 (x1 : Int) (x2 : Int) (x4 : Int) (x6 : Int) (x8 : Int) (x9 : Int) (x10 : Int) (x11 : Int) (x12 : Int) (x16 : Int) (k1 : 0 ≤ x1 ∧ x1 ≤ 262143) (k2 : 2 ≤ x2 ∧ x2 ≤ 6) (k4 : 0 ≤ x4 ∧ x4 ≤ 4) (k6 : 1 ≤ x6 ∧ x6 ≤ 5) (k8 : 3 ≤ x8 ∧ x8 ≤ 3) (k9 : 3 ≤ x9 ∧ x9 ≤ 15) (k10 : 0 ≤ x10 ∧ x10 ≤ 32767) (k11 : 7 ≤ x11 ∧ x11 ≤ 7) (k12 : 0 ≤ x12 ∧ x12 ≤ 5) (k16 : 2 ≤ x16 ∧ x16 ≤ 6) (d0 : x6 + 1 ≤ x16 ∧ x16 ≤ x6 + 1) (d1 : x2 + (-4294967296) ≤ x16 ∧ x16 ≤ x2 + 0) (d2 : x2 + (-4294967296) ≤ x16 ∧ x16 ≤ x2 + 1) (d3 : x2 + (-4294967296) ≤ x6 ∧ x6 ≤ x2 + (-1)) (d4 : x2 + (-4294967296) ≤ x4 ∧ x4 ≤ x2 + (-1)) (d5 : x6 + (-4294967296) ≤ x4 ∧ x4 ≤ x6 + (-1)) (d6 : x2 + (-4294967296) ≤ x6 ∧ x6 ≤ x2 + 0) (f0 : x16 = x6 + 1) (f1 : x12 = x10 % 8) (f2 : bvp (x12) = bvp (x10) &&& bvp (x11)) (f3 : bvp (x10) = bvp (x1) >>> (x9).toNat) (f4 : x9 = 3 * x6) (f5 : x6 < x2) (f6 : OPD (x1) (x2)) (f7 : x2 ≤ 6) (f8 : (x4 + 1) ≤ x6) : (x4 + 1) ≤ x16 := by
  first
    | omega
    | (have q := opd_dig (p := x1) (n := x2) (s := x6) (q := x7) (d := x9) (i := x4) (sv := x8) ‹OPD _ _› (by omega) (by omega) (by assumption) (by omega) (by assumption) (by omega) (by omega) (by omega) (by omega) (by omega); omega)
    | (have q := opd_dig (p := x1) (n := x2) (s := x9) (q := x10) (d := x12) (i := x6) (sv := x11) ‹OPD _ _› (by omega) (by omega) (by assumption) (by omega) (by assumption) (by omega) (by omega) (by omega) (by omega) (by omega); omega)
  
def o_La_pairCost_3 : or_T := (31, 17, [(1, (0, 0, 262143, [])), (2, (0, 2, 6, [])), (4, (0, 0, 4, [])), (6, (0, 1, 5, [])), (8, (0, 3, 3, [])), (9, (0, 3, 15, [])), (10, (0, 0, 32767, [])), (11, (0, 7, 7, [])), (12, (0, 0, 5, [])), (16, (0, 2, 6, []))], [(6, [16, 6], [1]), (12, [12, 10], [8]), (16, [12, 10, 11], [0]), (16, [10, 1, 9], [4]), (3, [9, 8, 6], []), (7, [6, 2], [2]), (20, [1, 2], [61, 0, 687]), (20, [2], [50, 0, 0, 0, 2, 1, 0, 0, 6]), (20, [4, 6], [50, 0, 0, 0, 6, 4, 2, 1, 0, 0, 1, 1, 1])], [], [], [(20, [4, 16], [50, 0, 0, 0, 6, 4, 2, 1, 0, 0, 1, 1, 1])], [], [(16, 6, 1, 1), (16, 2, -4294967296, 0), (16, 2, -4294967296, 1), (6, 2, -4294967296, -1), (4, 2, -4294967296, -1), (4, 6, -4294967296, -1), (6, 2, -4294967296, 0)])
theorem oo_La_pairCost_3 {kA : Nat → ClassId} : or_ok PRD kA GG o_La_pairCost_3 := by
  refine or_mk fun A ta ws vs hD hth hl => ?_
  intro t1 k1 t2 k2 t4 k4 t6 k6 t8 k8 t9 k9 t10 k10 t11 k11 t12 k12 t16 k16 d0 d1 d2 d3 d4 d5 d6 f0 f1 f2 f3 f4 f5 f6 f7 f8
  replace f4 := shm_38 f4
  rw [show v_iv (n_v vs 8) = 3 from by omega] at f4
  have nf0 : fc_1 PRD (20, [4, 16], [50, 0, 0, 0, 6, 4, 2, 1, 0, 0, 1, 1, 1]) ws (vs) := ⟨nf_in hl rfl, sgq_396 (vc_La_pairCost_3_0 (v_iv (n_v vs 1)) (v_iv (n_v vs 2)) (v_iv (n_v vs 4)) (v_iv (n_v vs 6)) (v_iv (n_v vs 8)) (v_iv (n_v vs 9)) (v_iv (n_v vs 10)) (v_iv (n_v vs 11)) (v_iv (n_v vs 12)) (v_iv (n_v vs 16)) k1 k2 k4 k6 k8 k9 k10 k11 k12 k16 d0 d1 d2 d3 d4 d5 d6 (shm_4 f0) (shm_393 f1) (shm_11 f2) (shm_13 f3) f4 (shm_6 f5) (shm_394 f6) (shm_395 f7) (shm_396 f8))⟩
  refine ⟨(fun _ h => (by cases h)), [], trivial, ?_, (fun _ h => (by cases h))⟩
  rw [List.append_nil]
  exact List.forall_mem_cons.mpr ⟨⟨show (20 : Nat) < 100 from by decide, nf0⟩, (fun _ h => (by cases h))⟩
def n_La_pairCost_an : List an_T := [(5, [(0, (2, 0, 0, [4])), (1, (0, 0, 262143, [])), (2, (0, 0, 6, [])), (3, (0, (Int.negSucc 2147483647), 2147483647, [])), (4, (0, 0, 6, []))], [], (0, 0), [(0, 0, 99995), (1, 4, 6), (0, 0, 100000), (0, 0, 0), (0, 0, 0)], [(3, 2, (Int.negSucc 999999999999), 2147483645), (3, 4, (Int.negSucc 999999999999), 2147483646), (4, 2, (Int.negSucc 999999999999), 0)], [], [], 0, [], [(20, [1, 2], [61, 0, 687]), (20, [2], [50, 0, 0, 0, 2, 1, 0, 0, 6])]), (31, [(0, (2, 0, 0, [4])), (1, (0, 0, 262143, [])), (2, (0, 1, 6, [])), (3, (0, (Int.negSucc 2147483647), 2147483647, [])), (4, (0, 0, 5, [])), (5, (0, 0, 30, [])), (6, (0, 1, 6, []))], [], (0, 0), [(0, 0, 99995), (1, 4, 6), (0, 0, 99969), (1, 6, 6), (0, 0, 100000)], [(3, 2, (Int.negSucc 999999999999), 2147483645), (3, 6, (Int.negSucc 999999999999), 2147483645), (4, 2, (Int.negSucc 999999999999), (Int.negSucc 0)), (4, 6, (Int.negSucc 999999999999), (Int.negSucc 0)), (6, 2, (Int.negSucc 999999999999), 0)], [], [], 0, [], [(20, [1, 2], [61, 0, 687]), (20, [2], [50, 0, 0, 0, 2, 1, 0, 0, 6]), (20, [4, 6], [50, 0, 0, 0, 6, 4, 2, 1, 0, 0, 1, 1, 1])])]
def t_La_pairCost_ct : ct_L := []
set_option maxRecDepth 100000 in
theorem c_La_pairCost {l : Launch} {D : va_G} {kA : Nat → ClassId} : ct_ok PRD l D kA GG y_La_pairCost z_La_pairCost e_La_pairCost := chk_all_ok (FT := [(78, 4, 20)]) (PT := []) (CT := t_La_pairCost_ct) (KT := []) (NT := []) (AN := n_La_pairCost_an) (OT := [o_La_pairCost_0, o_La_pairCost_1, o_La_pairCost_2, o_La_pairCost_3]) 5 200 (List.forall_mem_cons.mpr ⟨oo_La_pairCost_0, List.forall_mem_cons.mpr ⟨oo_La_pairCost_1, List.forall_mem_cons.mpr ⟨oo_La_pairCost_2, List.forall_mem_cons.mpr ⟨oo_La_pairCost_3, List.forall_mem_nil _⟩⟩⟩⟩) (by decide +kernel) ⟨List.forall_mem_cons.mpr ⟨gf_La_78, List.forall_mem_nil _⟩, List.forall_mem_nil _, List.forall_mem_nil _, List.forall_mem_nil _, List.forall_mem_nil _, GG_pl⟩ (by decide +kernel)
set_option maxHeartbeats 4000000 in
theorem vc_La_sizeOf_0_r0 (x1 : Int) (x3 : Int) (x4 : Int) (layerStart_0 : Int → Int) (layerCount_0 : Int) (k1 : (-1) ≤ x1 ∧ x1 ≤ 23) (k3 : 1 ≤ x3 ∧ x3 ≤ 1) (k4 : 0 ≤ x4 ∧ x4 ≤ 24) (d0 : x1 + 1 ≤ x4 ∧ x4 ≤ x1 + 1) (f0 : x4 = x1 + x3) (f2 : LS6 (layerCount_0) (layerStart_0)) (f3 : (0 ≤ x1) ∧ ((x1 + 1) ≤ layerCount_0)) (hK_0_10 : ∀ j : Int, 0 ≤ j → j < 26 → 0 ≤ layerStart_0 j ∧ layerStart_0 j ≤ 72) (kz_0_2 : 0 ≤ layerCount_0 ∧ layerCount_0 ≤ 24) : 1 ≤ x4 ∧ x4 ≤ 24 := by
  first
    | omega
    | exact ls6_size (l := x1) (a := x5) (b := x6) (d := x4) ‹LS6 _ _› (by omega) (by omega) (by assumption) (by omega) (by assumption) (by omega)
    | (rw [show x1 + 1 = x4 by omega]; omega)
  
def o_La_sizeOf_0 : or_T := (7, 5, [(0, (2, 0, 0, [4])), (1, (0, -1, 23, [])), (2, (2, 0, 0, [68])), (3, (0, 1, 1, [])), (4, (0, 0, 24, []))], [(1, [4, 1, 3], []), (9, [2, 0], [10]), (20, [0], [60, 1, 1, 636, 2, 10]), (20, [1, 0], [50, 1, 0, 1002, 2, 6, 0, 2, 0, 0, 1, 0, 0, 6, 4, 2, 1, 0, 0, 1, 2, 1, 2])], [(4, (0, 1, 24, []))], [], [], [], [(4, 1, 1, 1)])
theorem oo_La_sizeOf_0 {kA : Nat → ClassId} : or_ok PRD kA GG o_La_sizeOf_0 := by
  refine or_mk fun A ta ws vs hD hth hl => ?_
  intro t0 r0 t1 k1 t2 r2 t3 k3 t4 k4 d0 f0 f1 f2 f3
  have cr_0_10 := fdq_5 hD hth r0
  have hK_0_10 := elq_39 hD hth cr_0_10
  have kz_0_2 := fdq_77 hD hth r0
  have hrf0 : 1 ≤ v_iv (n_v vs 4) ∧ v_iv (n_v vs 4) ≤ 24 := vc_La_sizeOf_0_r0 (v_iv (n_v vs 1)) (v_iv (n_v vs 3)) (v_iv (n_v vs 4)) (w_ei ws (w_ar ws (n_v vs 0) 10)) (w_fi ws (n_v vs 0) 2) k1 k3 k4 d0 (shm_12 f0) (shm_397 f2) (shm_398 f3) hK_0_10 kz_0_2
  have rf4 : tv_ok ta (0, 1, 24, []) (n_v vs 4) := tv_in t4 (by first | omega | grind) (by first | omega | grind)
  refine ⟨List.forall_mem_cons.mpr ⟨rf4, (fun _ h => (by cases h))⟩, [], trivial, ?_, (fun _ h => (by cases h))⟩
  rw [List.append_nil]
  exact (fun _ h => (by cases h))
set_option maxHeartbeats 4000000 in
theorem vc_La_sizeOf_1_r0 (x1 : Int) (x3 : Int) (x4 : Int) (x5 : Int) (layerStart_0 : Int → Int) (layerCount_0 : Int) (k1 : (-1) ≤ x1 ∧ x1 ≤ 23) (k3 : 1 ≤ x3 ∧ x3 ≤ 1) (k4 : 1 ≤ x4 ∧ x4 ≤ 24) (k5 : 0 ≤ x5 ∧ x5 ≤ 72) (d0 : x1 + 1 ≤ x4 ∧ x4 ≤ x1 + 1) (h1 : x5 = layerStart_0 (x4)) (f2 : x4 = x1 + x3) (f3 : LS6 (layerCount_0) (layerStart_0)) (f4 : (0 ≤ x1) ∧ ((x1 + 1) ≤ layerCount_0)) (hK_0_10 : ∀ j : Int, 0 ≤ j → j < 26 → 0 ≤ layerStart_0 j ∧ layerStart_0 j ≤ 72) (kz_0_2 : 0 ≤ layerCount_0 ∧ layerCount_0 ≤ 24) : 0 ≤ x1 ∧ x1 ≤ 23 := by
  first
    | omega
    | exact ls6_size (l := x1) (a := x5) (b := x6) (d := x4) ‹LS6 _ _› (by omega) (by omega) (by assumption) (by omega) (by assumption) (by omega)
    | (rw [show x1 + 1 = x4 by omega]; omega)
  
def o_La_sizeOf_1 : or_T := (13, 6, [(0, (2, 0, 0, [4])), (1, (0, -1, 23, [])), (2, (2, 0, 0, [68])), (3, (0, 1, 1, [])), (4, (0, 1, 24, [])), (5, (0, 0, 72, []))], [(9, [2, 0], [10]), (10, [5, 2, 4], []), (1, [4, 1, 3], []), (20, [0], [60, 1, 1, 636, 2, 10]), (20, [1, 0], [50, 1, 0, 1002, 2, 6, 0, 2, 0, 0, 1, 0, 0, 6, 4, 2, 1, 0, 0, 1, 2, 1, 2])], [(1, (0, 0, 23, []))], [], [], [], [(4, 1, 1, 1)])
theorem oo_La_sizeOf_1 {kA : Nat → ClassId} : or_ok PRD kA GG o_La_sizeOf_1 := by
  refine or_mk fun A ta ws vs hD hth hl => ?_
  intro t0 r0 t1 k1 t2 r2 t3 k3 t4 k4 t5 k5 d0 f0 f1 f2 f3 f4
  replace f0 := shm_106 f0
  replace f1 := shm_107 f1
  have cr_0_10 := fdq_5 hD hth r0
  have ad_2 : v_ad (n_v vs 2) = w_ar ws (n_v vs 0) 10 := congrArg v_ad f0
  simp only [ad_2] at f1
  have h1 : v_iv (n_v vs 5) = w_ei ws (w_ar ws (n_v vs 0) 10) (v_iv (n_v vs 4)) := f1
  have hK_0_10 := elq_39 hD hth cr_0_10
  have kz_0_2 := fdq_77 hD hth r0
  have hrf0 : 0 ≤ v_iv (n_v vs 1) ∧ v_iv (n_v vs 1) ≤ 23 := vc_La_sizeOf_1_r0 (v_iv (n_v vs 1)) (v_iv (n_v vs 3)) (v_iv (n_v vs 4)) (v_iv (n_v vs 5)) (w_ei ws (w_ar ws (n_v vs 0) 10)) (w_fi ws (n_v vs 0) 2) k1 k3 k4 k5 d0 h1 (shm_12 f2) (shm_397 f3) (shm_398 f4) hK_0_10 kz_0_2
  have rf1 : tv_ok ta (0, 0, 23, []) (n_v vs 1) := tv_in t1 (by first | omega | grind) (by first | omega | grind)
  refine ⟨List.forall_mem_cons.mpr ⟨rf1, (fun _ h => (by cases h))⟩, [], trivial, ?_, (fun _ h => (by cases h))⟩
  rw [List.append_nil]
  exact (fun _ h => (by cases h))
set_option maxHeartbeats 4000000 in
theorem vc_La_sizeOf_2_r0 (x1 : Int) (x3 : Int) (x4 : Int) (x5 : Int) (x6 : Int) (x7 : Int) (layerStart_0 : Int → Int) (layerCount_0 : Int) (k1 : 0 ≤ x1 ∧ x1 ≤ 23) (k3 : 1 ≤ x3 ∧ x3 ≤ 1) (k4 : 1 ≤ x4 ∧ x4 ≤ 24) (k5 : 0 ≤ x5 ∧ x5 ≤ 72) (k6 : 0 ≤ x6 ∧ x6 ≤ 72) (k7 : (-72) ≤ x7 ∧ x7 ≤ 72) (d0 : x5 + (-72) ≤ x7 ∧ x7 ≤ x5 + 0) (d1 : x1 + 1 ≤ x4 ∧ x4 ≤ x1 + 1) (f0 : x7 = x5 - x6) (h1 : x6 = layerStart_0 (x1)) (h3 : x5 = layerStart_0 (x4)) (f4 : x4 = x1 + x3) (f5 : LS6 (layerCount_0) (layerStart_0)) (f6 : (0 ≤ x1) ∧ ((x1 + 1) ≤ layerCount_0)) (hK_0_10 : ∀ j : Int, 0 ≤ j → j < 26 → 0 ≤ layerStart_0 j ∧ layerStart_0 j ≤ 72) (kz_0_2 : 0 ≤ layerCount_0 ∧ layerCount_0 ≤ 24) : 0 ≤ x7 ∧ x7 ≤ 6 := by
  first
    | omega
    | exact ls6_size (l := x1) (a := x5) (b := x6) (d := x4) ‹LS6 _ _› (by omega) (by omega) (by assumption) (by omega) (by assumption) (by omega)
    | (rw [show x1 + 1 = x4 by omega]; omega)
  
set_option maxHeartbeats 4000000 in
theorem vc_La_sizeOf_2_0 (x1 : Int) (x3 : Int) (x4 : Int) (x5 : Int) (x6 : Int) (x7 : Int) (layerStart_0 : Int → Int) (layerCount_0 : Int) (k1 : 0 ≤ x1 ∧ x1 ≤ 23) (k3 : 1 ≤ x3 ∧ x3 ≤ 1) (k4 : 1 ≤ x4 ∧ x4 ≤ 24) (k5 : 0 ≤ x5 ∧ x5 ≤ 72) (k6 : 0 ≤ x6 ∧ x6 ≤ 72) (k7 : (-72) ≤ x7 ∧ x7 ≤ 72) (d0 : x5 + (-72) ≤ x7 ∧ x7 ≤ x5 + 0) (d1 : x1 + 1 ≤ x4 ∧ x4 ≤ x1 + 1) (f0 : x7 = x5 - x6) (h1 : x6 = layerStart_0 (x1)) (h3 : x5 = layerStart_0 (x4)) (f4 : x4 = x1 + x3) (f5 : LS6 (layerCount_0) (layerStart_0)) (f6 : (0 ≤ x1) ∧ ((x1 + 1) ≤ layerCount_0)) (hK_0_10 : ∀ j : Int, 0 ≤ j → j < 26 → 0 ≤ layerStart_0 j ∧ layerStart_0 j ≤ 72) (kz_0_2 : 0 ≤ layerCount_0 ∧ layerCount_0 ≤ 24) : x7 = (layerStart_0 ((x1 + 1)) - layerStart_0 (x1)) := by
  first
    | omega
    | exact ls6_size (l := x1) (a := x5) (b := x6) (d := x4) ‹LS6 _ _› (by omega) (by omega) (by assumption) (by omega) (by assumption) (by omega)
    | (rw [show x1 + 1 = x4 by omega]; omega)
  
def o_La_sizeOf_2 : or_T := (15, 8, [(0, (2, 0, 0, [4])), (1, (0, 0, 23, [])), (2, (2, 0, 0, [68])), (3, (0, 1, 1, [])), (4, (0, 1, 24, [])), (5, (0, 0, 72, [])), (6, (0, 0, 72, [])), (7, (0, -72, 72, []))], [(2, [7, 5, 6], []), (10, [6, 2, 1], []), (9, [2, 0], [10]), (10, [5, 2, 4], []), (1, [4, 1, 3], []), (20, [0], [60, 1, 1, 636, 2, 10]), (20, [1, 0], [50, 1, 0, 1002, 2, 6, 0, 2, 0, 0, 1, 0, 0, 6, 4, 2, 1, 0, 0, 1, 2, 1, 2])], [(7, (0, 0, 6, []))], [], [(20, [7, 0, 1], [50, 0, 1, 1010, 1, 2, 1, 0, 5, 9, 3, 1, 10, 4, 2, 1, 2, 0, 1, 3, 1, 10, 1, 2])], [], [(7, 5, -72, 0), (4, 1, 1, 1)])
theorem oo_La_sizeOf_2 {kA : Nat → ClassId} : or_ok PRD kA GG o_La_sizeOf_2 := by
  refine or_mk fun A ta ws vs hD hth hl => ?_
  intro t0 r0 t1 k1 t2 r2 t3 k3 t4 k4 t5 k5 t6 k6 t7 k7 d0 d1 f0 f1 f2 f3 f4 f5 f6
  replace f1 := shm_107 f1
  replace f2 := shm_106 f2
  replace f3 := shm_107 f3
  have cr_0_10 := fdq_5 hD hth r0
  have ad_2 : v_ad (n_v vs 2) = w_ar ws (n_v vs 0) 10 := congrArg v_ad f2
  simp only [ad_2] at f1
  have h1 : v_iv (n_v vs 6) = w_ei ws (w_ar ws (n_v vs 0) 10) (v_iv (n_v vs 1)) := f1
  simp only [ad_2] at f3
  have h3 : v_iv (n_v vs 5) = w_ei ws (w_ar ws (n_v vs 0) 10) (v_iv (n_v vs 4)) := f3
  have hK_0_10 := elq_39 hD hth cr_0_10
  have kz_0_2 := fdq_77 hD hth r0
  have hrf0 : 0 ≤ v_iv (n_v vs 7) ∧ v_iv (n_v vs 7) ≤ 6 := vc_La_sizeOf_2_r0 (v_iv (n_v vs 1)) (v_iv (n_v vs 3)) (v_iv (n_v vs 4)) (v_iv (n_v vs 5)) (v_iv (n_v vs 6)) (v_iv (n_v vs 7)) (w_ei ws (w_ar ws (n_v vs 0) 10)) (w_fi ws (n_v vs 0) 2) k1 k3 k4 k5 k6 k7 d0 d1 (shm_14 f0) h1 h3 (shm_12 f4) (shm_397 f5) (shm_398 f6) hK_0_10 kz_0_2
  have nf0 : fc_1 PRD (20, [7, 0, 1], [50, 0, 1, 1010, 1, 2, 1, 0, 5, 9, 3, 1, 10, 4, 2, 1, 2, 0, 1, 3, 1, 10, 1, 2]) ws (vs) := ⟨nf_in hl rfl, sgq_399 (vc_La_sizeOf_2_0 (v_iv (n_v vs 1)) (v_iv (n_v vs 3)) (v_iv (n_v vs 4)) (v_iv (n_v vs 5)) (v_iv (n_v vs 6)) (v_iv (n_v vs 7)) (w_ei ws (w_ar ws (n_v vs 0) 10)) (w_fi ws (n_v vs 0) 2) k1 k3 k4 k5 k6 k7 d0 d1 (shm_14 f0) h1 h3 (shm_12 f4) (shm_397 f5) (shm_398 f6) hK_0_10 kz_0_2)⟩
  have rf7 : tv_ok ta (0, 0, 6, []) (n_v vs 7) := tv_in t7 (by first | omega | grind) (by first | omega | grind)
  refine ⟨List.forall_mem_cons.mpr ⟨rf7, (fun _ h => (by cases h))⟩, [], trivial, ?_, (fun _ h => (by cases h))⟩
  rw [List.append_nil]
  exact List.forall_mem_cons.mpr ⟨⟨show (20 : Nat) < 100 from by decide, nf0⟩, (fun _ h => (by cases h))⟩
def n_La_sizeOf_an : List an_T := []
def t_La_sizeOf_ct : ct_L := []
set_option maxRecDepth 100000 in
theorem c_La_sizeOf {l : Launch} {D : va_G} {kA : Nat → ClassId} : ct_ok PRD l D kA GG y_La_sizeOf z_La_sizeOf e_La_sizeOf := chk_all_ok (FT := [(48, 4, 10)]) (PT := []) (CT := t_La_sizeOf_ct) (KT := []) (NT := []) (AN := n_La_sizeOf_an) (OT := [o_La_sizeOf_0, o_La_sizeOf_1, o_La_sizeOf_2]) 0 200 (List.forall_mem_cons.mpr ⟨oo_La_sizeOf_0, List.forall_mem_cons.mpr ⟨oo_La_sizeOf_1, List.forall_mem_cons.mpr ⟨oo_La_sizeOf_2, List.forall_mem_nil _⟩⟩⟩) (by decide +kernel) ⟨List.forall_mem_cons.mpr ⟨gf_La_48, List.forall_mem_nil _⟩, List.forall_mem_nil _, List.forall_mem_nil _, List.forall_mem_nil _, List.forall_mem_nil _, GG_pl⟩ (by decide +kernel)
set_option maxHeartbeats 4000000 in
theorem vc_La_swap_0_0 (x1 : Int) (x2 : Int) (x3 : Int) (x4 : Int) (x5 : Int) (a0_2 : Int → Int) (a0_0 : Int → Int) (a0_1 : Int → Int) (k1 : 0 ≤ x1 ∧ x1 ≤ 5) (k2 : 0 ≤ x2 ∧ x2 ≤ 5) (k3 : 1 ≤ x3 ∧ x3 ≤ 6) (k4 : 0 ≤ x4 ∧ x4 ≤ 7) (k5 : 0 ≤ x5 ∧ x5 ≤ 7) (f0 : (0 ≤ x1) ∧ ((x1 + 1) ≤ x3)) (f1 : (0 ≤ x2) ∧ ((x2 + 1) ≤ x3)) (f3 : (0 ≤ x1) ∧ ((x1 + 1) ≤ x3)) (f4 : (0 ≤ x2) ∧ ((x2 + 1) ≤ x3)) (h6 : x5 = a0_2 (x2)) (h7 : x4 = a0_2 (x1)) (f8 : DGS (a0_2) (x3)) (f9 : (0 ≤ x1) ∧ ((x1 + 1) ≤ x3)) (f10 : (0 ≤ x2) ∧ ((x2 + 1) ≤ x3)) (hE_0_999_1 : ∀ j : Int, 0 ≤ j → (j = x2 → a0_0 j = x4) ∧ (j ≠ x2 → a0_0 j = a0_1 j)) (hE_0_999_2 : ∀ j : Int, 0 ≤ j → (j = x1 → a0_1 j = x5) ∧ (j ≠ x1 → a0_1 j = a0_2 j)) (hK_0_999 : ∀ j : Int, 0 ≤ j → j < 6 → 0 ≤ a0_0 j ∧ a0_0 j ≤ 7) : DGS (a0_0) (x3) := by
  first
    | assumption
    | exact dgs_swap (i := x1) (j := x2) (a := x4) (b := x5) ‹DGS _ _› (by omega) (by omega) (by omega) (by omega) (by assumption) (by assumption) hE_0_999_2 hE_0_999_1
  
def o_La_swap_0 : or_T := (14, 6, [(0, (2, 0, 0, [298])), (1, (0, 0, 5, [])), (2, (0, 0, 5, [])), (3, (0, 1, 6, [])), (4, (0, 0, 7, [])), (5, (0, 0, 7, []))], [(20, [1, 3], [50, 0, 0, 2, 6, 0, 2, 0, 0, 1, 0, 0, 6, 4, 2, 1, 0, 0, 1, 1, 1]), (20, [2, 3], [50, 0, 0, 2, 6, 0, 2, 0, 0, 1, 0, 0, 6, 4, 2, 1, 0, 0, 1, 1, 1]), (100, [0, 2, 4], []), (20, [1, 3], [50, 0, 0, 2, 6, 0, 2, 0, 0, 1, 0, 0, 6, 4, 2, 1, 0, 0, 1, 1, 1]), (20, [2, 3], [50, 0, 0, 2, 6, 0, 2, 0, 0, 1, 0, 0, 6, 4, 2, 1, 0, 0, 1, 1, 1]), (100, [0, 1, 5], []), (10, [5, 0, 2], []), (10, [4, 0, 1], []), (20, [0, 3], [61, 1, 735]), (20, [1, 3], [50, 0, 0, 2, 6, 0, 2, 0, 0, 1, 0, 0, 6, 4, 2, 1, 0, 0, 1, 1, 1]), (20, [2, 3], [50, 0, 0, 2, 6, 0, 2, 0, 0, 1, 0, 0, 6, 4, 2, 1, 0, 0, 1, 1, 1])], [], [], [(20, [0, 3], [61, 1, 735])], [], [])
theorem oo_La_swap_0 {kA : Nat → ClassId} : or_ok PRD kA GG o_La_swap_0 := by
  refine or_mk fun A ta ws vs hD hth hl => ?_
  intro t0 r0 t1 k1 t2 k2 t3 k3 t4 k4 t5 k5 f0 f1 ta1 w1 le1 s1 f3 f4 ta2 w2 le2 s2 f6 f7 f8 f9 f10
  have s1 : (∀ b j, w_el ws b j = if b = v_ad (n_v vs 0) ∧ j = (v_iv (n_v vs 2)).toNat then v_iv (n_v vs 4) else w_el w1 b j) ∧ ∀ b k, w_fd ws b k = w_fd w1 b k := s1.2
  have s2 : (∀ b j, w_el w1 b j = if b = v_ad (n_v vs 0) ∧ j = (v_iv (n_v vs 1)).toNat then v_iv (n_v vs 5) else w_el w2 b j) ∧ ∀ b k, w_fd w1 b k = w_fd w2 b k := s2.2
  replace f6 := shm_107 f6
  replace f7 := shm_107 f7
  have cr_0_999 : ta (v_ad (n_v vs 0)) = some 298 := r0
  have ad_0 : v_ad (n_v vs 0) = v_ad (n_v vs 0) := rfl
  have h6 : v_iv (n_v vs 5) = w_ei w2 (v_ad (n_v vs 0)) (v_iv (n_v vs 2)) := f6
  have h7 : v_iv (n_v vs 4) = w_ei w2 (v_ad (n_v vs 0)) (v_iv (n_v vs 1)) := f7
  have hE_0_999_1 : ∀ j : Int, 0 ≤ j → (j = v_iv (n_v vs 2) → w_ei ws (v_ad (n_v vs 0)) j = v_iv (n_v vs 4)) ∧ (j ≠ v_iv (n_v vs 2) → w_ei ws (v_ad (n_v vs 0)) j = w_ei w1 (v_ad (n_v vs 0)) j) := fun j hj => ⟨fun h => by unfold w_ei; rw [s1.1, if_pos ⟨ad_0.symm, by rw [h]⟩], fun h => by unfold w_ei; rw [s1.1, if_neg (fun e => h (by have := e.2; omega))]⟩
  have hE_0_999_2 : ∀ j : Int, 0 ≤ j → (j = v_iv (n_v vs 1) → w_ei w1 (v_ad (n_v vs 0)) j = v_iv (n_v vs 5)) ∧ (j ≠ v_iv (n_v vs 1) → w_ei w1 (v_ad (n_v vs 0)) j = w_ei w2 (v_ad (n_v vs 0)) j) := fun j hj => ⟨fun h => by unfold w_ei; rw [s2.1, if_pos ⟨ad_0.symm, by rw [h]⟩], fun h => by unfold w_ei; rw [s2.1, if_neg (fun e => h (by have := e.2; omega))]⟩
  have hK_0_999 := elq_40 hD hth cr_0_999
  have nf0 : fc_1 PRD (20, [0, 3], [61, 1, 735]) ws (vs) := ⟨nf_in hl rfl, sgq_401 (vc_La_swap_0_0 (v_iv (n_v vs 1)) (v_iv (n_v vs 2)) (v_iv (n_v vs 3)) (v_iv (n_v vs 4)) (v_iv (n_v vs 5)) (w_ei w2 (v_ad (n_v vs 0))) (w_ei ws (v_ad (n_v vs 0))) (w_ei w1 (v_ad (n_v vs 0))) k1 k2 k3 k4 k5 (shm_400 f0) (shm_400 f1) (shm_400 f3) (shm_400 f4) h6 h7 (shm_401 f8) (shm_400 f9) (shm_400 f10) hE_0_999_1 hE_0_999_2 hK_0_999)⟩
  refine ⟨(fun _ h => (by cases h)), [], trivial, ?_, (fun _ h => (by cases h))⟩
  rw [List.append_nil]
  exact List.forall_mem_cons.mpr ⟨⟨show (20 : Nat) < 100 from by decide, nf0⟩, (fun _ h => (by cases h))⟩
def n_La_swap_an : List an_T := []
def t_La_swap_ct : ct_L := []
set_option maxRecDepth 100000 in
theorem c_La_swap {l : Launch} {D : va_G} {kA : Nat → ClassId} : ct_ok PRD l D kA GG y_La_swap z_La_swap e_La_swap := chk_all_ok (FT := []) (PT := []) (CT := t_La_swap_ct) (KT := []) (NT := []) (AN := n_La_swap_an) (OT := [o_La_swap_0]) 0 200 (List.forall_mem_cons.mpr ⟨oo_La_swap_0, List.forall_mem_nil _⟩) (by decide +kernel) ⟨List.forall_mem_nil _, List.forall_mem_nil _, List.forall_mem_nil _, List.forall_mem_nil _, List.forall_mem_nil _, GG_pl⟩ (by decide +kernel)
set_option maxHeartbeats 4000000 in
theorem vc_La_upperEnd_0_0 (x2 : Int) (x5 : Int) (x7 : Int) (tail_0o3 : Int → Int) (turned_0o1 : Int → Int) (head_0o3 : Int → Int) (k2 : 0 ≤ x2 ∧ x2 ≤ 47) (k5 : 0 ≤ x5 ∧ x5 ≤ 0) (k7 : 0 ≤ x7 ∧ x7 ≤ 23) (h0 : x7 = tail_0o3 (x2)) (f2 : x5 = 0) (h3 : x5 = turned_0o1 (x2)) (hK_1_9 : ∀ j : Int, 0 ≤ j → j < 48 → 0 ≤ turned_0o1 j ∧ turned_0o1 j ≤ 1) (hK_3_7 : ∀ j : Int, 0 ≤ j → j < 48 → 0 ≤ tail_0o3 j ∧ tail_0o3 j ≤ 23) (hK_3_8 : ∀ j : Int, 0 ≤ j → j < 48 → 0 ≤ head_0o3 j ∧ head_0o3 j ≤ 23) : UPX (tail_0o3) (head_0o3) (turned_0o1) (x2) (x7) := by
  first
    | exact upx_t (by assumption) (by omega) (by assumption)
    | exact upx_f (by assumption) (by omega) (by assumption)
  
def o_La_upperEnd_0 : or_T := (30, 8, [(1, (2, 0, 0, [2])), (2, (0, 0, 47, [])), (3, (2, 0, 0, [3])), (4, (2, 0, 0, [42])), (5, (0, 0, 0, [])), (6, (2, 0, 0, [52])), (7, (0, 0, 23, []))], [(10, [7, 6, 2], []), (9, [6, 3], [7]), (8, [5], [0]), (10, [5, 4, 2], []), (9, [4, 1], [9])], [], [], [(20, [3, 1, 2, 7], [60, 0, 3, 649, 7, 8, 1009])], [], [])
theorem oo_La_upperEnd_0 {kA : Nat → ClassId} : or_ok PRD kA GG o_La_upperEnd_0 := by
  refine or_mk fun A ta ws vs hD hth hl => ?_
  intro t1 r1 t2 k2 t3 r3 t4 r4 t5 k5 t6 r6 t7 k7 f0 f1 f2 f3 f4
  replace f0 := shm_107 f0
  replace f1 := shm_198 f1
  replace f3 := shm_107 f3
  replace f4 := shm_119 f4
  have cr_1_9 := fdq_76 hD hth r1
  have cr_3_7 := fdq_46 hD hth r3
  have cr_3_8 := fdq_47 hD hth r3
  have ad_6 : v_ad (n_v vs 6) = w_ar ws (n_v vs 3) 7 := congrArg v_ad f1
  have ad_4 : v_ad (n_v vs 4) = w_ar ws (n_v vs 1) 9 := congrArg v_ad f4
  simp only [ad_6] at f0
  have h0 : v_iv (n_v vs 7) = w_ei ws (w_ar ws (n_v vs 3) 7) (v_iv (n_v vs 2)) := f0
  simp only [ad_4] at f3
  have h3 : v_iv (n_v vs 5) = w_ei ws (w_ar ws (n_v vs 1) 9) (v_iv (n_v vs 2)) := f3
  have hK_1_9 := elq_38 hD hth cr_1_9
  have hK_3_7 := elq_11 hD hth cr_3_7
  have hK_3_8 := elq_12 hD hth cr_3_8
  have nf0 : fc_1 PRD (20, [3, 1, 2, 7], [60, 0, 3, 649, 7, 8, 1009]) ws (vs) := ⟨nf_in hl rfl, sgq_402 (vc_La_upperEnd_0_0 (v_iv (n_v vs 2)) (v_iv (n_v vs 5)) (v_iv (n_v vs 7)) (w_ei ws (w_ar ws (n_v vs 3) 7)) (w_ei ws (w_ar ws (n_v vs 1) 9)) (w_ei ws (w_ar ws (n_v vs 3) 8)) k2 k5 k7 h0 (shm_192 f2) h3 hK_1_9 hK_3_7 hK_3_8)⟩
  refine ⟨(fun _ h => (by cases h)), [], trivial, ?_, (fun _ h => (by cases h))⟩
  rw [List.append_nil]
  exact List.forall_mem_cons.mpr ⟨⟨show (20 : Nat) < 100 from by decide, nf0⟩, (fun _ h => (by cases h))⟩
set_option maxHeartbeats 4000000 in
theorem vc_La_upperEnd_1_0 (x2 : Int) (x5 : Int) (x7 : Int) (head_0o3 : Int → Int) (turned_0o1 : Int → Int) (tail_0o3 : Int → Int) (k2 : 0 ≤ x2 ∧ x2 ≤ 47) (k5 : 1 ≤ x5 ∧ x5 ≤ 1) (k7 : 0 ≤ x7 ∧ x7 ≤ 23) (h0 : x7 = head_0o3 (x2)) (f2 : x5 ≠ 0) (h3 : x5 = turned_0o1 (x2)) (hK_1_9 : ∀ j : Int, 0 ≤ j → j < 48 → 0 ≤ turned_0o1 j ∧ turned_0o1 j ≤ 1) (hK_3_7 : ∀ j : Int, 0 ≤ j → j < 48 → 0 ≤ tail_0o3 j ∧ tail_0o3 j ≤ 23) (hK_3_8 : ∀ j : Int, 0 ≤ j → j < 48 → 0 ≤ head_0o3 j ∧ head_0o3 j ≤ 23) : UPX (tail_0o3) (head_0o3) (turned_0o1) (x2) (x7) := by
  first
    | exact upx_t (by assumption) (by omega) (by assumption)
    | exact upx_f (by assumption) (by omega) (by assumption)
  
def o_La_upperEnd_1 : or_T := (30, 8, [(1, (2, 0, 0, [2])), (2, (0, 0, 47, [])), (3, (2, 0, 0, [3])), (4, (2, 0, 0, [42])), (5, (0, 1, 1, [])), (6, (2, 0, 0, [53])), (7, (0, 0, 23, []))], [(10, [7, 6, 2], []), (9, [6, 3], [8]), (8, [5], [1]), (10, [5, 4, 2], []), (9, [4, 1], [9])], [], [], [(20, [3, 1, 2, 7], [60, 0, 3, 649, 7, 8, 1009])], [], [])
theorem oo_La_upperEnd_1 {kA : Nat → ClassId} : or_ok PRD kA GG o_La_upperEnd_1 := by
  refine or_mk fun A ta ws vs hD hth hl => ?_
  intro t1 r1 t2 k2 t3 r3 t4 r4 t5 k5 t6 r6 t7 k7 f0 f1 f2 f3 f4
  replace f0 := shm_107 f0
  replace f1 := shm_293 f1
  replace f3 := shm_107 f3
  replace f4 := shm_119 f4
  have cr_1_9 := fdq_76 hD hth r1
  have cr_3_7 := fdq_46 hD hth r3
  have cr_3_8 := fdq_47 hD hth r3
  have ad_6 : v_ad (n_v vs 6) = w_ar ws (n_v vs 3) 8 := congrArg v_ad f1
  have ad_4 : v_ad (n_v vs 4) = w_ar ws (n_v vs 1) 9 := congrArg v_ad f4
  simp only [ad_6] at f0
  have h0 : v_iv (n_v vs 7) = w_ei ws (w_ar ws (n_v vs 3) 8) (v_iv (n_v vs 2)) := f0
  simp only [ad_4] at f3
  have h3 : v_iv (n_v vs 5) = w_ei ws (w_ar ws (n_v vs 1) 9) (v_iv (n_v vs 2)) := f3
  have hK_1_9 := elq_38 hD hth cr_1_9
  have hK_3_7 := elq_11 hD hth cr_3_7
  have hK_3_8 := elq_12 hD hth cr_3_8
  have nf0 : fc_1 PRD (20, [3, 1, 2, 7], [60, 0, 3, 649, 7, 8, 1009]) ws (vs) := ⟨nf_in hl rfl, sgq_402 (vc_La_upperEnd_1_0 (v_iv (n_v vs 2)) (v_iv (n_v vs 5)) (v_iv (n_v vs 7)) (w_ei ws (w_ar ws (n_v vs 3) 8)) (w_ei ws (w_ar ws (n_v vs 1) 9)) (w_ei ws (w_ar ws (n_v vs 3) 7)) k2 k5 k7 h0 (shm_142 f2) h3 hK_1_9 hK_3_7 hK_3_8)⟩
  refine ⟨(fun _ h => (by cases h)), [], trivial, ?_, (fun _ h => (by cases h))⟩
  rw [List.append_nil]
  exact List.forall_mem_cons.mpr ⟨⟨show (20 : Nat) < 100 from by decide, nf0⟩, (fun _ h => (by cases h))⟩
def n_La_upperEnd_an : List an_T := []
def t_La_upperEnd_ct : ct_L := []
set_option maxRecDepth 100000 in
theorem c_La_upperEnd {l : Launch} {D : va_G} {kA : Nat → ClassId} : ct_ok PRD l D kA GG y_La_upperEnd z_La_upperEnd e_La_upperEnd := chk_all_ok (FT := [(18, 4, 1), (125, 2, 9), (131, 3, 8), (136, 3, 7)]) (PT := []) (CT := t_La_upperEnd_ct) (KT := []) (NT := []) (AN := n_La_upperEnd_an) (OT := [o_La_upperEnd_0, o_La_upperEnd_1]) 0 200 (List.forall_mem_cons.mpr ⟨oo_La_upperEnd_0, List.forall_mem_cons.mpr ⟨oo_La_upperEnd_1, List.forall_mem_nil _⟩⟩) (by decide +kernel) ⟨List.forall_mem_cons.mpr ⟨gf_La_18, List.forall_mem_cons.mpr ⟨gf_La_125, List.forall_mem_cons.mpr ⟨gf_La_131, List.forall_mem_cons.mpr ⟨gf_La_136, List.forall_mem_nil _⟩⟩⟩⟩, List.forall_mem_nil _, List.forall_mem_nil _, List.forall_mem_nil _, List.forall_mem_nil _, GG_pl⟩ (by decide +kernel)
set_option maxHeartbeats 4000000 in
theorem vc_Ne_forget_0_0 (x1 : Int) (x4 : Int) (barredEdges_0 : Int) (planar_0 : Int) (planar_1 : Int) (planar_2 : Int) (barredEdges_1 : Int) (barredEdges_2 : Int) (planar_3 : Int) (barredEdges_3 : Int) (barredEdges_4 : Int) (k1 : (-1) ≤ x1 ∧ x1 ≤ (-1)) (k4 : 0 ≤ x4 ∧ x4 ≤ 0) (g0 : x4 = barredEdges_0) (g1 : x1 = planar_0) (fe_0_0_1 : planar_0 = planar_1) (fe_0_3_1 : barredEdges_0 = x4) (fe_0_0_2 : planar_1 = planar_2) (fe_0_3_2 : barredEdges_1 = barredEdges_2) (fe_0_0_3 : planar_2 = planar_3) (fe_0_3_3 : barredEdges_2 = barredEdges_3) (fe_0_0_4 : planar_3 = x1) (fe_0_3_4 : barredEdges_3 = barredEdges_4) (kz_0_0 : (-1) ≤ planar_0 ∧ planar_0 ≤ 1) (kz_0_3 : 0 ≤ barredEdges_0 ∧ barredEdges_0 ≤ 48) : planar_0 = (-1) := by
  subst fe_0_0_1
  subst fe_0_0_2
  subst fe_0_3_2
  subst fe_0_0_3
  subst fe_0_3_3
  subst fe_0_3_4
  first
    | omega
  
set_option maxHeartbeats 4000000 in
theorem vc_Ne_forget_0_1 (x1 : Int) (x4 : Int) (barredEdges_0 : Int) (planar_0 : Int) (planar_1 : Int) (planar_2 : Int) (barredEdges_1 : Int) (barredEdges_2 : Int) (planar_3 : Int) (barredEdges_3 : Int) (barredEdges_4 : Int) (k1 : (-1) ≤ x1 ∧ x1 ≤ (-1)) (k4 : 0 ≤ x4 ∧ x4 ≤ 0) (g0 : x4 = barredEdges_0) (g1 : x1 = planar_0) (fe_0_0_1 : planar_0 = planar_1) (fe_0_3_1 : barredEdges_0 = x4) (fe_0_0_2 : planar_1 = planar_2) (fe_0_3_2 : barredEdges_1 = barredEdges_2) (fe_0_0_3 : planar_2 = planar_3) (fe_0_3_3 : barredEdges_2 = barredEdges_3) (fe_0_0_4 : planar_3 = x1) (fe_0_3_4 : barredEdges_3 = barredEdges_4) (kz_0_0 : (-1) ≤ planar_0 ∧ planar_0 ≤ 1) (kz_0_3 : 0 ≤ barredEdges_0 ∧ barredEdges_0 ≤ 48) : barredEdges_0 = 0 := by
  subst fe_0_0_1
  subst fe_0_0_2
  subst fe_0_3_2
  subst fe_0_0_3
  subst fe_0_3_3
  subst fe_0_3_4
  first
    | omega
  
def o_Ne_forget_0 : or_T := (20, 5, [(0, (2, 0, 0, [5])), (1, (0, -1, -1, [])), (4, (0, 0, 0, []))], [(9, [4, 0], [3]), (9, [1, 0], [0]), (101, [0, 4], [3]), (101, [0, 3], [2]), (101, [0, 2], [1]), (101, [0, 1], [0])], [], [], [(20, [0], [50, 1, 0, 0, 1, 3, 2, 0, 0, 0, -1]), (20, [0], [50, 1, 0, 3, 1, 3, 2, 0, 3, 0, 0])], [], [])
theorem oo_Ne_forget_0 {kA : Nat → ClassId} : or_ok PRD kA GG o_Ne_forget_0 := by
  refine or_mk fun A ta ws vs hD hth hl => ?_
  intro t0 r0 t1 k1 t4 k4 f0 f1 ta1 w1 le1 s1 ta2 w2 le2 s2 ta3 w3 le3 s3 ta4 w4 le4 s4
  replace f0 := shm_137 f0
  replace f1 := shm_163 f1
  have s1 : (∀ b j, w_el ws b j = w_el w1 b j) ∧ ∀ b j, w_fd ws b j = if b = v_ad (n_v vs 0) ∧ j = 3 then n_v vs 4 else w_fd w1 b j := s1.2
  have s2 : (∀ b j, w_el w1 b j = w_el w2 b j) ∧ ∀ b j, w_fd w1 b j = if b = v_ad (n_v vs 0) ∧ j = 2 then n_v vs 3 else w_fd w2 b j := s2.2
  have s3 : (∀ b j, w_el w2 b j = w_el w3 b j) ∧ ∀ b j, w_fd w2 b j = if b = v_ad (n_v vs 0) ∧ j = 1 then n_v vs 2 else w_fd w3 b j := s3.2
  have s4 : (∀ b j, w_el w3 b j = w_el w4 b j) ∧ ∀ b j, w_fd w3 b j = if b = v_ad (n_v vs 0) ∧ j = 0 then n_v vs 1 else w_fd w4 b j := s4.2
  have g0 : v_iv (n_v vs 4) = w_fi ws (n_v vs 0) 3 := congrArg v_iv f0
  have g1 : v_iv (n_v vs 1) = w_fi ws (n_v vs 0) 0 := congrArg v_iv f1
  have fe_0_0_1 : w_fi ws (n_v vs 0) 0 = w_fi w1 (n_v vs 0) 0 := by show v_iv (w_fd _ _ _) = v_iv (w_fd _ _ _); rw [s1.2, if_neg (fun e => absurd e.2 (by decide))]
  have fe_0_3_1 : w_fi ws (n_v vs 0) 3 = v_iv (n_v vs 4) := by show v_iv (w_fd _ _ _) = _; rw [s1.2, if_pos ⟨rfl, rfl⟩]
  have fe_0_0_2 : w_fi w1 (n_v vs 0) 0 = w_fi w2 (n_v vs 0) 0 := by show v_iv (w_fd _ _ _) = v_iv (w_fd _ _ _); rw [s2.2, if_neg (fun e => absurd e.2 (by decide))]
  have fe_0_3_2 : w_fi w1 (n_v vs 0) 3 = w_fi w2 (n_v vs 0) 3 := by show v_iv (w_fd _ _ _) = v_iv (w_fd _ _ _); rw [s2.2, if_neg (fun e => absurd e.2 (by decide))]
  have fe_0_0_3 : w_fi w2 (n_v vs 0) 0 = w_fi w3 (n_v vs 0) 0 := by show v_iv (w_fd _ _ _) = v_iv (w_fd _ _ _); rw [s3.2, if_neg (fun e => absurd e.2 (by decide))]
  have fe_0_3_3 : w_fi w2 (n_v vs 0) 3 = w_fi w3 (n_v vs 0) 3 := by show v_iv (w_fd _ _ _) = v_iv (w_fd _ _ _); rw [s3.2, if_neg (fun e => absurd e.2 (by decide))]
  have fe_0_0_4 : w_fi w3 (n_v vs 0) 0 = v_iv (n_v vs 1) := by show v_iv (w_fd _ _ _) = _; rw [s4.2, if_pos ⟨rfl, rfl⟩]
  have fe_0_3_4 : w_fi w3 (n_v vs 0) 3 = w_fi w4 (n_v vs 0) 3 := by show v_iv (w_fd _ _ _) = v_iv (w_fd _ _ _); rw [s4.2, if_neg (fun e => absurd e.2 (by decide))]
  have kz_0_0 := fdq_78 hD hth r0
  have kz_0_3 := fdq_79 hD hth r0
  have nf0 : fc_1 PRD (20, [0], [50, 1, 0, 0, 1, 3, 2, 0, 0, 0, -1]) ws (vs) := ⟨nf_in hl rfl, sgq_403 (vc_Ne_forget_0_0 (v_iv (n_v vs 1)) (v_iv (n_v vs 4)) (w_fi ws (n_v vs 0) 3) (w_fi ws (n_v vs 0) 0) (w_fi w1 (n_v vs 0) 0) (w_fi w2 (n_v vs 0) 0) (w_fi w1 (n_v vs 0) 3) (w_fi w2 (n_v vs 0) 3) (w_fi w3 (n_v vs 0) 0) (w_fi w3 (n_v vs 0) 3) (w_fi w4 (n_v vs 0) 3) k1 k4 g0 g1 fe_0_0_1 fe_0_3_1 fe_0_0_2 fe_0_3_2 fe_0_0_3 fe_0_3_3 fe_0_0_4 fe_0_3_4 kz_0_0 kz_0_3)⟩
  have nf1 : fc_1 PRD (20, [0], [50, 1, 0, 3, 1, 3, 2, 0, 3, 0, 0]) ws (vs) := ⟨nf_in hl rfl, sgq_404 (vc_Ne_forget_0_1 (v_iv (n_v vs 1)) (v_iv (n_v vs 4)) (w_fi ws (n_v vs 0) 3) (w_fi ws (n_v vs 0) 0) (w_fi w1 (n_v vs 0) 0) (w_fi w2 (n_v vs 0) 0) (w_fi w1 (n_v vs 0) 3) (w_fi w2 (n_v vs 0) 3) (w_fi w3 (n_v vs 0) 0) (w_fi w3 (n_v vs 0) 3) (w_fi w4 (n_v vs 0) 3) k1 k4 g0 g1 fe_0_0_1 fe_0_3_1 fe_0_0_2 fe_0_3_2 fe_0_0_3 fe_0_3_3 fe_0_0_4 fe_0_3_4 kz_0_0 kz_0_3)⟩
  refine ⟨(fun _ h => (by cases h)), [], trivial, ?_, (fun _ h => (by cases h))⟩
  rw [List.append_nil]
  exact List.forall_mem_cons.mpr ⟨⟨show (20 : Nat) < 100 from by decide, nf0⟩, List.forall_mem_cons.mpr ⟨⟨show (20 : Nat) < 100 from by decide, nf1⟩, (fun _ h => (by cases h))⟩⟩
def n_Ne_forget_an : List an_T := []
def t_Ne_forget_ct : ct_L := []
set_option maxRecDepth 100000 in
theorem c_Ne_forget {l : Launch} {D : va_G} {kA : Nat → ClassId} : ct_ok PRD l D kA GG y_Ne_forget z_Ne_forget e_Ne_forget := chk_all_ok (FT := []) (PT := [(9, 5, 0, .int), (15, 5, 1, .int), (18, 5, 2, .int), (21, 5, 3, .int)]) (CT := t_Ne_forget_ct) (KT := []) (NT := []) (AN := n_Ne_forget_an) (OT := [o_Ne_forget_0]) 0 200 (List.forall_mem_cons.mpr ⟨oo_Ne_forget_0, List.forall_mem_nil _⟩) (by decide +kernel) ⟨List.forall_mem_nil _, List.forall_mem_cons.mpr ⟨pf_Ne_9, List.forall_mem_cons.mpr ⟨pf_Ne_15, List.forall_mem_cons.mpr ⟨pf_Ne_18, List.forall_mem_cons.mpr ⟨pf_Ne_21, List.forall_mem_nil _⟩⟩⟩⟩, List.forall_mem_nil _, List.forall_mem_nil _, List.forall_mem_nil _, GG_pl⟩ (by decide +kernel)
set_option maxHeartbeats 4000000 in
theorem vc_Ne_join_at_Ne_gk_0_0 (x1 : Int) (x2 : Int) (x3 : Int) (x4 : Int) (x5 : Int) (x11 : Int) (x14 : Int) (x16 : Int) (x17 : Int) (x18 : Int) (x19 : Int) (x20 : Int) (x21 : Int) (x22 : Int) (x23 : Int) (x24 : Int) (x25 : Int) (edges_0 : Int) (nodes_0 : Int) (edges_1 : Int) (nodes_1 : Int) (near_2 : Int → Int) (nodes_2 : Int) (edges_2 : Int) (near_3 : Int → Int) (nodes_3 : Int) (edges_3 : Int) (nodes_4 : Int) (edges_4 : Int) (nodes_5 : Int) (edges_5 : Int) (nodes_6 : Int) (edges_6 : Int) (tail_7 : Int → Int) (head_7 : Int → Int) (near_7 : Int → Int) (nodes_7 : Int) (edges_7 : Int) (tail_0 : Int → Int) (tail_1 : Int → Int) (tail_2 : Int → Int) (tail_3 : Int → Int) (tail_4 : Int → Int) (tail_5 : Int → Int) (tail_6 : Int → Int) (head_0 : Int → Int) (head_1 : Int → Int) (head_2 : Int → Int) (head_3 : Int → Int) (head_4 : Int → Int) (head_5 : Int → Int) (head_6 : Int → Int) (near_0 : Int → Int) (near_1 : Int → Int) (near_4 : Int → Int) (near_5 : Int → Int) (near_6 : Int → Int) (link_0 : Int → Int) (link_1 : Int → Int) (link_2 : Int → Int) (link_3 : Int → Int) (link_4 : Int → Int) (link_5 : Int → Int) (link_6 : Int → Int) (link_7 : Int → Int) (k1 : 0 ≤ x1 ∧ x1 ≤ 23) (k2 : 0 ≤ x2 ∧ x2 ≤ 23) (k3 : 0 ≤ x3 ∧ x3 ≤ 72) (k4 : 0 ≤ x4 ∧ x4 ≤ 71) (k5 : 72 ≤ x5 ∧ x5 ≤ 72) (k11 : 0 ≤ x11 ∧ x11 ≤ 598) (k14 : 0 ≤ x14 ∧ x14 ≤ 598) (k16 : 0 ≤ x16 ∧ x16 ≤ 16777215) (k17 : 1 ≤ x17 ∧ x17 ≤ 1) (k18 : 1 ≤ x18 ∧ x18 ≤ 8388608) (k19 : 0 ≤ x19 ∧ x19 ≤ 16777215) (k20 : 0 ≤ x20 ∧ x20 ≤ 16777215) (k21 : 1 ≤ x21 ∧ x21 ≤ 1) (k22 : 1 ≤ x22 ∧ x22 ≤ 8388608) (k23 : 0 ≤ x23 ∧ x23 ≤ 16777215) (k24 : 1 ≤ x24 ∧ x24 ≤ 1) (k25 : 1 ≤ x25 ∧ x25 ≤ 72) (d0 : x4 + 1 ≤ x25 ∧ x25 ≤ x4 + 1) (d1 : x1 + 0 ≤ x14 ∧ x14 ≤ x1 + 575) (d2 : x2 + 0 ≤ x11 ∧ x11 ≤ x2 + 575) (g0 : x25 = edges_0) (f5 : (0 ≤ x1) ∧ ((x1 + 1) ≤ nodes_0)) (f6 : (0 ≤ x2) ∧ ((x2 + 1) ≤ nodes_0)) (f7 : x1 ≠ x2) (f9 : x25 = x4 + x24) (g10 : x4 = edges_1) (f11 : (0 ≤ x1) ∧ ((x1 + 1) ≤ nodes_1)) (f12 : (0 ≤ x2) ∧ ((x2 + 1) ≤ nodes_1)) (f13 : x1 ≠ x2) (f14 : edges_1 = x3) (f16 : x23 ≤ x20 + x22 ∧ x20 ≤ x23 ∧ x22 ≤ x23) (f17 : bvp (x23) = bvp (x20) ||| bvp (x22)) (f18 : bvp (x22) = bvp (x21) <<< (x1).toNat) (h19 : x20 = near_2 (x2)) (f20 : (0 ≤ x1) ∧ ((x1 + 1) ≤ nodes_2)) (f21 : (0 ≤ x2) ∧ ((x2 + 1) ≤ nodes_2)) (f22 : x1 ≠ x2) (f23 : edges_2 = x3) (f25 : x19 ≤ x16 + x18 ∧ x16 ≤ x19 ∧ x18 ≤ x19) (f26 : bvp (x19) = bvp (x16) ||| bvp (x18)) (f27 : bvp (x18) = bvp (x17) <<< (x2).toNat) (h28 : x16 = near_3 (x1)) (f29 : (0 ≤ x1) ∧ ((x1 + 1) ≤ nodes_3)) (f30 : (0 ≤ x2) ∧ ((x2 + 1) ≤ nodes_3)) (f31 : x1 ≠ x2) (f32 : edges_3 = x3) (f34 : (0 ≤ x1) ∧ ((x1 + 1) ≤ nodes_4)) (f35 : (0 ≤ x2) ∧ ((x2 + 1) ≤ nodes_4)) (f36 : x1 ≠ x2) (f37 : edges_4 = x3) (f39 : (0 ≤ x1) ∧ ((x1 + 1) ≤ nodes_5)) (f40 : (0 ≤ x2) ∧ ((x2 + 1) ≤ nodes_5)) (f41 : x1 ≠ x2) (f42 : edges_5 = x3) (f44 : (0 ≤ x1) ∧ ((x1 + 1) ≤ nodes_6)) (f45 : (0 ≤ x2) ∧ ((x2 + 1) ≤ nodes_6)) (f46 : x1 ≠ x2) (f47 : edges_6 = x3) (f49 : x4 < x5) (f50 : NOK (nodes_7) (edges_7) (tail_7) (head_7) (near_7)) (f51 : (0 ≤ x1) ∧ ((x1 + 1) ≤ nodes_7)) (f52 : (0 ≤ x2) ∧ ((x2 + 1) ≤ nodes_7)) (f53 : x1 ≠ x2) (f54 : edges_7 = x3) (fe_0_5_1 : nodes_0 = nodes_1) (fe_0_6_1 : edges_0 = x25) (fe_0_5_2 : nodes_1 = nodes_2) (fe_0_6_2 : edges_1 = edges_2) (fe_0_5_3 : nodes_2 = nodes_3) (fe_0_6_3 : edges_2 = edges_3) (fe_0_5_4 : nodes_3 = nodes_4) (fe_0_6_4 : edges_3 = edges_4) (fe_0_5_5 : nodes_4 = nodes_5) (fe_0_6_5 : edges_4 = edges_5) (fe_0_5_6 : nodes_5 = nodes_6) (fe_0_6_6 : edges_5 = edges_6) (fe_0_5_7 : nodes_6 = nodes_7) (fe_0_6_7 : edges_6 = edges_7) (hE_0_7_1 : ∀ j : Int, tail_0 j = tail_1 j) (hE_0_7_2 : ∀ j : Int, tail_1 j = tail_2 j) (hE_0_7_3 : ∀ j : Int, tail_2 j = tail_3 j) (hE_0_7_4 : ∀ j : Int, tail_3 j = tail_4 j) (hE_0_7_5 : ∀ j : Int, tail_4 j = tail_5 j) (hE_0_7_6 : ∀ j : Int, tail_5 j = tail_6 j) (hE_0_7_7 : ∀ j : Int, 0 ≤ j → (j = x4 → tail_6 j = x1) ∧ (j ≠ x4 → tail_6 j = tail_7 j)) (hK_0_7 : ∀ j : Int, 0 ≤ j → j < 72 → 0 ≤ tail_0 j ∧ tail_0 j ≤ 23) (hE_0_8_1 : ∀ j : Int, head_0 j = head_1 j) (hE_0_8_2 : ∀ j : Int, head_1 j = head_2 j) (hE_0_8_3 : ∀ j : Int, head_2 j = head_3 j) (hE_0_8_4 : ∀ j : Int, head_3 j = head_4 j) (hE_0_8_5 : ∀ j : Int, head_4 j = head_5 j) (hE_0_8_6 : ∀ j : Int, 0 ≤ j → (j = x4 → head_5 j = x2) ∧ (j ≠ x4 → head_5 j = head_6 j)) (hE_0_8_7 : ∀ j : Int, head_6 j = head_7 j) (hK_0_8 : ∀ j : Int, 0 ≤ j → j < 72 → 0 ≤ head_0 j ∧ head_0 j ≤ 23) (hE_0_9_1 : ∀ j : Int, near_0 j = near_1 j) (hE_0_9_2 : ∀ j : Int, 0 ≤ j → (j = x2 → near_1 j = x23) ∧ (j ≠ x2 → near_1 j = near_2 j)) (hE_0_9_3 : ∀ j : Int, 0 ≤ j → (j = x1 → near_2 j = x19) ∧ (j ≠ x1 → near_2 j = near_3 j)) (hE_0_9_4 : ∀ j : Int, near_3 j = near_4 j) (hE_0_9_5 : ∀ j : Int, near_4 j = near_5 j) (hE_0_9_6 : ∀ j : Int, near_5 j = near_6 j) (hE_0_9_7 : ∀ j : Int, near_6 j = near_7 j) (hK_0_9 : ∀ j : Int, 0 ≤ j → j < 25 → 0 ≤ near_0 j ∧ near_0 j ≤ 16777215) (hE_0_10_1 : ∀ j : Int, link_0 j = link_1 j) (hE_0_10_2 : ∀ j : Int, link_1 j = link_2 j) (hE_0_10_3 : ∀ j : Int, link_2 j = link_3 j) (hE_0_10_4 : ∀ j : Int, 0 ≤ j → (j = x14 → link_3 j = x4) ∧ (j ≠ x14 → link_3 j = link_4 j)) (hE_0_10_5 : ∀ j : Int, 0 ≤ j → (j = x11 → link_4 j = x4) ∧ (j ≠ x11 → link_4 j = link_5 j)) (hE_0_10_6 : ∀ j : Int, link_5 j = link_6 j) (hE_0_10_7 : ∀ j : Int, link_6 j = link_7 j) (hK_0_10 : ∀ j : Int, 0 ≤ j → j < 625 → (-1) ≤ link_0 j ∧ link_0 j ≤ 71) (kz_0_5 : 0 ≤ nodes_0 ∧ nodes_0 ≤ 24) (kz_0_6 : 0 ≤ edges_0 ∧ edges_0 ≤ 72) : NOK (nodes_0) (edges_0) (tail_0) (head_0) (near_0) := by
  subst fe_0_5_1
  subst fe_0_5_2
  subst fe_0_6_2
  subst fe_0_5_3
  subst fe_0_6_3
  subst fe_0_5_4
  subst fe_0_6_4
  subst fe_0_5_5
  subst fe_0_6_5
  subst fe_0_5_6
  subst fe_0_6_6
  subst fe_0_5_7
  subst fe_0_6_7
  have e_hE_0_7_1 := funext hE_0_7_1; subst e_hE_0_7_1
  have e_hE_0_7_2 := funext hE_0_7_2; subst e_hE_0_7_2
  have e_hE_0_7_3 := funext hE_0_7_3; subst e_hE_0_7_3
  have e_hE_0_7_4 := funext hE_0_7_4; subst e_hE_0_7_4
  have e_hE_0_7_5 := funext hE_0_7_5; subst e_hE_0_7_5
  have e_hE_0_7_6 := funext hE_0_7_6; subst e_hE_0_7_6
  have e_hE_0_8_1 := funext hE_0_8_1; subst e_hE_0_8_1
  have e_hE_0_8_2 := funext hE_0_8_2; subst e_hE_0_8_2
  have e_hE_0_8_3 := funext hE_0_8_3; subst e_hE_0_8_3
  have e_hE_0_8_4 := funext hE_0_8_4; subst e_hE_0_8_4
  have e_hE_0_8_5 := funext hE_0_8_5; subst e_hE_0_8_5
  have e_hE_0_8_7 := funext hE_0_8_7; subst e_hE_0_8_7
  have e_hE_0_9_1 := funext hE_0_9_1; subst e_hE_0_9_1
  have e_hE_0_9_4 := funext hE_0_9_4; subst e_hE_0_9_4
  have e_hE_0_9_5 := funext hE_0_9_5; subst e_hE_0_9_5
  have e_hE_0_9_6 := funext hE_0_9_6; subst e_hE_0_9_6
  have e_hE_0_9_7 := funext hE_0_9_7; subst e_hE_0_9_7
  have e_hE_0_10_1 := funext hE_0_10_1; subst e_hE_0_10_1
  have e_hE_0_10_2 := funext hE_0_10_2; subst e_hE_0_10_2
  have e_hE_0_10_3 := funext hE_0_10_3; subst e_hE_0_10_3
  have e_hE_0_10_6 := funext hE_0_10_6; subst e_hE_0_10_6
  have e_hE_0_10_7 := funext hE_0_10_7; subst e_hE_0_10_7
  first
    | assumption
    | (have o1 : x20 = 1 := by omega
       have o2 : x16 = 1 := by omega
       subst o1 o2
       exact nok_join (a := x1) (b := x2) (p1 := x3) (p2 := x3) (a1 := x1) (b1 := x2) (x1 := x15) (q1 := x17) (y1 := x18) (x2 := x19) (q2 := x21) (y2 := x22) (pa := x1) (pb := x2) ‹NOK _ _ _ _ _› (by omega) (by omega) (by omega) (by omega) (by omega) (by omega) (by omega) (by assumption) (by omega) rfl (by assumption) (by omega) rfl (by assumption) (by assumption) (by assumption) (by assumption) rfl (by assumption) (by assumption) (by assumption) (by assumption) rfl (by omega))
    | (have o1 : x21 = 1 := by omega
       have o2 : x17 = 1 := by omega
       subst o1 o2
       exact nok_join (a := x1) (b := x2) (p1 := x4) (p2 := x4) (a1 := x1) (b1 := x2) (x1 := x16) (q1 := x18) (y1 := x19) (x2 := x20) (q2 := x22) (y2 := x23) (pa := x1) (pb := x2) ‹NOK _ _ _ _ _› (by omega) (by omega) (by omega) (by omega) (by omega) (by omega) (by omega) (by assumption) (by omega) rfl (by assumption) (by omega) rfl (by assumption) (by assumption) (by assumption) (by assumption) rfl (by assumption) (by assumption) (by assumption) (by assumption) rfl (by omega))
    | exact nok_join ‹NOK _ _ _ _ _› (by omega) (by omega) (by omega) (by omega) (by omega) (by omega) (by omega) (by assumption) (by omega) rfl (by assumption) (by omega) rfl (by assumption) (by assumption) (by assumption) (by assumption) rfl (by assumption) (by assumption) (by assumption) (by assumption) rfl (by omega)
  
set_option maxHeartbeats 4000000 in
theorem vc_Ne_join_at_Ne_gk_0_1 (x1 : Int) (x2 : Int) (x3 : Int) (x4 : Int) (x5 : Int) (x11 : Int) (x14 : Int) (x16 : Int) (x17 : Int) (x18 : Int) (x19 : Int) (x20 : Int) (x21 : Int) (x22 : Int) (x23 : Int) (x24 : Int) (x25 : Int) (edges_0 : Int) (nodes_0 : Int) (edges_1 : Int) (nodes_1 : Int) (near_2 : Int → Int) (nodes_2 : Int) (edges_2 : Int) (near_3 : Int → Int) (nodes_3 : Int) (edges_3 : Int) (nodes_4 : Int) (edges_4 : Int) (nodes_5 : Int) (edges_5 : Int) (nodes_6 : Int) (edges_6 : Int) (tail_7 : Int → Int) (head_7 : Int → Int) (near_7 : Int → Int) (nodes_7 : Int) (edges_7 : Int) (tail_0 : Int → Int) (tail_1 : Int → Int) (tail_2 : Int → Int) (tail_3 : Int → Int) (tail_4 : Int → Int) (tail_5 : Int → Int) (tail_6 : Int → Int) (head_0 : Int → Int) (head_1 : Int → Int) (head_2 : Int → Int) (head_3 : Int → Int) (head_4 : Int → Int) (head_5 : Int → Int) (head_6 : Int → Int) (near_0 : Int → Int) (near_1 : Int → Int) (near_4 : Int → Int) (near_5 : Int → Int) (near_6 : Int → Int) (link_0 : Int → Int) (link_1 : Int → Int) (link_2 : Int → Int) (link_3 : Int → Int) (link_4 : Int → Int) (link_5 : Int → Int) (link_6 : Int → Int) (link_7 : Int → Int) (k1 : 0 ≤ x1 ∧ x1 ≤ 23) (k2 : 0 ≤ x2 ∧ x2 ≤ 23) (k3 : 0 ≤ x3 ∧ x3 ≤ 72) (k4 : 0 ≤ x4 ∧ x4 ≤ 71) (k5 : 72 ≤ x5 ∧ x5 ≤ 72) (k11 : 0 ≤ x11 ∧ x11 ≤ 598) (k14 : 0 ≤ x14 ∧ x14 ≤ 598) (k16 : 0 ≤ x16 ∧ x16 ≤ 16777215) (k17 : 1 ≤ x17 ∧ x17 ≤ 1) (k18 : 1 ≤ x18 ∧ x18 ≤ 8388608) (k19 : 0 ≤ x19 ∧ x19 ≤ 16777215) (k20 : 0 ≤ x20 ∧ x20 ≤ 16777215) (k21 : 1 ≤ x21 ∧ x21 ≤ 1) (k22 : 1 ≤ x22 ∧ x22 ≤ 8388608) (k23 : 0 ≤ x23 ∧ x23 ≤ 16777215) (k24 : 1 ≤ x24 ∧ x24 ≤ 1) (k25 : 1 ≤ x25 ∧ x25 ≤ 72) (d0 : x4 + 1 ≤ x25 ∧ x25 ≤ x4 + 1) (d1 : x1 + 0 ≤ x14 ∧ x14 ≤ x1 + 575) (d2 : x2 + 0 ≤ x11 ∧ x11 ≤ x2 + 575) (g0 : x25 = edges_0) (f5 : (0 ≤ x1) ∧ ((x1 + 1) ≤ nodes_0)) (f6 : (0 ≤ x2) ∧ ((x2 + 1) ≤ nodes_0)) (f7 : x1 ≠ x2) (f9 : x25 = x4 + x24) (g10 : x4 = edges_1) (f11 : (0 ≤ x1) ∧ ((x1 + 1) ≤ nodes_1)) (f12 : (0 ≤ x2) ∧ ((x2 + 1) ≤ nodes_1)) (f13 : x1 ≠ x2) (f14 : edges_1 = x3) (f16 : x23 ≤ x20 + x22 ∧ x20 ≤ x23 ∧ x22 ≤ x23) (f17 : bvp (x23) = bvp (x20) ||| bvp (x22)) (f18 : bvp (x22) = bvp (x21) <<< (x1).toNat) (h19 : x20 = near_2 (x2)) (f20 : (0 ≤ x1) ∧ ((x1 + 1) ≤ nodes_2)) (f21 : (0 ≤ x2) ∧ ((x2 + 1) ≤ nodes_2)) (f22 : x1 ≠ x2) (f23 : edges_2 = x3) (f25 : x19 ≤ x16 + x18 ∧ x16 ≤ x19 ∧ x18 ≤ x19) (f26 : bvp (x19) = bvp (x16) ||| bvp (x18)) (f27 : bvp (x18) = bvp (x17) <<< (x2).toNat) (h28 : x16 = near_3 (x1)) (f29 : (0 ≤ x1) ∧ ((x1 + 1) ≤ nodes_3)) (f30 : (0 ≤ x2) ∧ ((x2 + 1) ≤ nodes_3)) (f31 : x1 ≠ x2) (f32 : edges_3 = x3) (f34 : (0 ≤ x1) ∧ ((x1 + 1) ≤ nodes_4)) (f35 : (0 ≤ x2) ∧ ((x2 + 1) ≤ nodes_4)) (f36 : x1 ≠ x2) (f37 : edges_4 = x3) (f39 : (0 ≤ x1) ∧ ((x1 + 1) ≤ nodes_5)) (f40 : (0 ≤ x2) ∧ ((x2 + 1) ≤ nodes_5)) (f41 : x1 ≠ x2) (f42 : edges_5 = x3) (f44 : (0 ≤ x1) ∧ ((x1 + 1) ≤ nodes_6)) (f45 : (0 ≤ x2) ∧ ((x2 + 1) ≤ nodes_6)) (f46 : x1 ≠ x2) (f47 : edges_6 = x3) (f49 : x4 < x5) (f50 : NOK (nodes_7) (edges_7) (tail_7) (head_7) (near_7)) (f51 : (0 ≤ x1) ∧ ((x1 + 1) ≤ nodes_7)) (f52 : (0 ≤ x2) ∧ ((x2 + 1) ≤ nodes_7)) (f53 : x1 ≠ x2) (f54 : edges_7 = x3) (fe_0_5_1 : nodes_0 = nodes_1) (fe_0_6_1 : edges_0 = x25) (fe_0_5_2 : nodes_1 = nodes_2) (fe_0_6_2 : edges_1 = edges_2) (fe_0_5_3 : nodes_2 = nodes_3) (fe_0_6_3 : edges_2 = edges_3) (fe_0_5_4 : nodes_3 = nodes_4) (fe_0_6_4 : edges_3 = edges_4) (fe_0_5_5 : nodes_4 = nodes_5) (fe_0_6_5 : edges_4 = edges_5) (fe_0_5_6 : nodes_5 = nodes_6) (fe_0_6_6 : edges_5 = edges_6) (fe_0_5_7 : nodes_6 = nodes_7) (fe_0_6_7 : edges_6 = edges_7) (hE_0_7_1 : ∀ j : Int, tail_0 j = tail_1 j) (hE_0_7_2 : ∀ j : Int, tail_1 j = tail_2 j) (hE_0_7_3 : ∀ j : Int, tail_2 j = tail_3 j) (hE_0_7_4 : ∀ j : Int, tail_3 j = tail_4 j) (hE_0_7_5 : ∀ j : Int, tail_4 j = tail_5 j) (hE_0_7_6 : ∀ j : Int, tail_5 j = tail_6 j) (hE_0_7_7 : ∀ j : Int, 0 ≤ j → (j = x4 → tail_6 j = x1) ∧ (j ≠ x4 → tail_6 j = tail_7 j)) (hK_0_7 : ∀ j : Int, 0 ≤ j → j < 72 → 0 ≤ tail_0 j ∧ tail_0 j ≤ 23) (hE_0_8_1 : ∀ j : Int, head_0 j = head_1 j) (hE_0_8_2 : ∀ j : Int, head_1 j = head_2 j) (hE_0_8_3 : ∀ j : Int, head_2 j = head_3 j) (hE_0_8_4 : ∀ j : Int, head_3 j = head_4 j) (hE_0_8_5 : ∀ j : Int, head_4 j = head_5 j) (hE_0_8_6 : ∀ j : Int, 0 ≤ j → (j = x4 → head_5 j = x2) ∧ (j ≠ x4 → head_5 j = head_6 j)) (hE_0_8_7 : ∀ j : Int, head_6 j = head_7 j) (hK_0_8 : ∀ j : Int, 0 ≤ j → j < 72 → 0 ≤ head_0 j ∧ head_0 j ≤ 23) (hE_0_9_1 : ∀ j : Int, near_0 j = near_1 j) (hE_0_9_2 : ∀ j : Int, 0 ≤ j → (j = x2 → near_1 j = x23) ∧ (j ≠ x2 → near_1 j = near_2 j)) (hE_0_9_3 : ∀ j : Int, 0 ≤ j → (j = x1 → near_2 j = x19) ∧ (j ≠ x1 → near_2 j = near_3 j)) (hE_0_9_4 : ∀ j : Int, near_3 j = near_4 j) (hE_0_9_5 : ∀ j : Int, near_4 j = near_5 j) (hE_0_9_6 : ∀ j : Int, near_5 j = near_6 j) (hE_0_9_7 : ∀ j : Int, near_6 j = near_7 j) (hK_0_9 : ∀ j : Int, 0 ≤ j → j < 25 → 0 ≤ near_0 j ∧ near_0 j ≤ 16777215) (hE_0_10_1 : ∀ j : Int, link_0 j = link_1 j) (hE_0_10_2 : ∀ j : Int, link_1 j = link_2 j) (hE_0_10_3 : ∀ j : Int, link_2 j = link_3 j) (hE_0_10_4 : ∀ j : Int, 0 ≤ j → (j = x14 → link_3 j = x4) ∧ (j ≠ x14 → link_3 j = link_4 j)) (hE_0_10_5 : ∀ j : Int, 0 ≤ j → (j = x11 → link_4 j = x4) ∧ (j ≠ x11 → link_4 j = link_5 j)) (hE_0_10_6 : ∀ j : Int, link_5 j = link_6 j) (hE_0_10_7 : ∀ j : Int, link_6 j = link_7 j) (hK_0_10 : ∀ j : Int, 0 ≤ j → j < 625 → (-1) ≤ link_0 j ∧ link_0 j ≤ 71) (kz_0_5 : 0 ≤ nodes_0 ∧ nodes_0 ≤ 24) (kz_0_6 : 0 ≤ edges_0 ∧ edges_0 ≤ 72) : (72 ≤ x3) ∨ (edges_0 = (x3 + 1)) := by
  subst fe_0_5_1
  subst fe_0_5_2
  subst fe_0_6_2
  subst fe_0_5_3
  subst fe_0_6_3
  subst fe_0_5_4
  subst fe_0_6_4
  subst fe_0_5_5
  subst fe_0_6_5
  subst fe_0_5_6
  subst fe_0_6_6
  subst fe_0_5_7
  subst fe_0_6_7
  have e_hE_0_7_1 := funext hE_0_7_1; subst e_hE_0_7_1
  have e_hE_0_7_2 := funext hE_0_7_2; subst e_hE_0_7_2
  have e_hE_0_7_3 := funext hE_0_7_3; subst e_hE_0_7_3
  have e_hE_0_7_4 := funext hE_0_7_4; subst e_hE_0_7_4
  have e_hE_0_7_5 := funext hE_0_7_5; subst e_hE_0_7_5
  have e_hE_0_7_6 := funext hE_0_7_6; subst e_hE_0_7_6
  have e_hE_0_8_1 := funext hE_0_8_1; subst e_hE_0_8_1
  have e_hE_0_8_2 := funext hE_0_8_2; subst e_hE_0_8_2
  have e_hE_0_8_3 := funext hE_0_8_3; subst e_hE_0_8_3
  have e_hE_0_8_4 := funext hE_0_8_4; subst e_hE_0_8_4
  have e_hE_0_8_5 := funext hE_0_8_5; subst e_hE_0_8_5
  have e_hE_0_8_7 := funext hE_0_8_7; subst e_hE_0_8_7
  have e_hE_0_9_1 := funext hE_0_9_1; subst e_hE_0_9_1
  have e_hE_0_9_4 := funext hE_0_9_4; subst e_hE_0_9_4
  have e_hE_0_9_5 := funext hE_0_9_5; subst e_hE_0_9_5
  have e_hE_0_9_6 := funext hE_0_9_6; subst e_hE_0_9_6
  have e_hE_0_9_7 := funext hE_0_9_7; subst e_hE_0_9_7
  have e_hE_0_10_1 := funext hE_0_10_1; subst e_hE_0_10_1
  have e_hE_0_10_2 := funext hE_0_10_2; subst e_hE_0_10_2
  have e_hE_0_10_3 := funext hE_0_10_3; subst e_hE_0_10_3
  have e_hE_0_10_6 := funext hE_0_10_6; subst e_hE_0_10_6
  have e_hE_0_10_7 := funext hE_0_10_7; subst e_hE_0_10_7
  first
    | omega
  
def o_Ne_join_at_Ne_gk_0 : or_T := (89, 26, [(0, (2, 0, 0, [5])), (1, (0, 0, 23, [])), (2, (0, 0, 23, [])), (3, (0, 0, 72, [])), (4, (0, 0, 71, [])), (5, (0, 72, 72, [])), (6, (2, 0, 0, [80])), (7, (2, 0, 0, [81])), (8, (2, 0, 0, [83])), (11, (0, 0, 598, [])), (14, (0, 0, 598, [])), (15, (2, 0, 0, [82])), (16, (0, 0, 16777215, [])), (17, (0, 1, 1, [])), (18, (0, 1, 8388608, [])), (19, (0, 0, 16777215, [])), (20, (0, 0, 16777215, [])), (21, (0, 1, 1, [])), (22, (0, 1, 8388608, [])), (23, (0, 0, 16777215, [])), (24, (0, 1, 1, [])), (25, (0, 1, 72, []))], [(9, [25, 0], [6]), (9, [15, 0], [9]), (9, [8, 0], [10]), (9, [7, 0], [8]), (9, [6, 0], [7]), (20, [1, 0], [50, 1, 0, 1005, 2, 6, 0, 2, 0, 0, 1, 0, 0, 6, 4, 2, 1, 0, 0, 1, 2, 1, 5]), (20, [2, 0], [50, 1, 0, 1005, 2, 6, 0, 2, 0, 0, 1, 0, 0, 6, 4, 2, 1, 0, 0, 1, 2, 1, 5]), (20, [1, 2], [50, 0, 0, 7, 2, 1, 0, 1, 1]), (101, [0, 25], [6]), (1, [25, 4, 24], []), (9, [4, 0], [6]), (20, [1, 0], [50, 1, 0, 1005, 2, 6, 0, 2, 0, 0, 1, 0, 0, 6, 4, 2, 1, 0, 0, 1, 2, 1, 5]), (20, [2, 0], [50, 1, 0, 1005, 2, 6, 0, 2, 0, 0, 1, 0, 0, 6, 4, 2, 1, 0, 0, 1, 2, 1, 5]), (20, [1, 2], [50, 0, 0, 7, 2, 1, 0, 1, 1]), (20, [0, 3], [50, 1, 0, 6, 1, 3, 2, 0, 6, 1, 1]), (100, [15, 2, 23], []), (13, [23, 20, 22], []), (16, [23, 20, 22], [1]), (16, [22, 21, 1], [3]), (10, [20, 15, 2], []), (20, [1, 0], [50, 1, 0, 1005, 2, 6, 0, 2, 0, 0, 1, 0, 0, 6, 4, 2, 1, 0, 0, 1, 2, 1, 5]), (20, [2, 0], [50, 1, 0, 1005, 2, 6, 0, 2, 0, 0, 1, 0, 0, 6, 4, 2, 1, 0, 0, 1, 2, 1, 5]), (20, [1, 2], [50, 0, 0, 7, 2, 1, 0, 1, 1]), (20, [0, 3], [50, 1, 0, 6, 1, 3, 2, 0, 6, 1, 1]), (100, [15, 1, 19], []), (13, [19, 16, 18], []), (16, [19, 16, 18], [1]), (16, [18, 17, 2], [3]), (10, [16, 15, 1], []), (20, [1, 0], [50, 1, 0, 1005, 2, 6, 0, 2, 0, 0, 1, 0, 0, 6, 4, 2, 1, 0, 0, 1, 2, 1, 5]), (20, [2, 0], [50, 1, 0, 1005, 2, 6, 0, 2, 0, 0, 1, 0, 0, 6, 4, 2, 1, 0, 0, 1, 2, 1, 5]), (20, [1, 2], [50, 0, 0, 7, 2, 1, 0, 1, 1]), (20, [0, 3], [50, 1, 0, 6, 1, 3, 2, 0, 6, 1, 1]), (100, [8, 14, 4], []), (20, [1, 0], [50, 1, 0, 1005, 2, 6, 0, 2, 0, 0, 1, 0, 0, 6, 4, 2, 1, 0, 0, 1, 2, 1, 5]), (20, [2, 0], [50, 1, 0, 1005, 2, 6, 0, 2, 0, 0, 1, 0, 0, 6, 4, 2, 1, 0, 0, 1, 2, 1, 5]), (20, [1, 2], [50, 0, 0, 7, 2, 1, 0, 1, 1]), (20, [0, 3], [50, 1, 0, 6, 1, 3, 2, 0, 6, 1, 1]), (100, [8, 11, 4], []), (20, [1, 0], [50, 1, 0, 1005, 2, 6, 0, 2, 0, 0, 1, 0, 0, 6, 4, 2, 1, 0, 0, 1, 2, 1, 5]), (20, [2, 0], [50, 1, 0, 1005, 2, 6, 0, 2, 0, 0, 1, 0, 0, 6, 4, 2, 1, 0, 0, 1, 2, 1, 5]), (20, [1, 2], [50, 0, 0, 7, 2, 1, 0, 1, 1]), (20, [0, 3], [50, 1, 0, 6, 1, 3, 2, 0, 6, 1, 1]), (100, [7, 4, 2], []), (20, [1, 0], [50, 1, 0, 1005, 2, 6, 0, 2, 0, 0, 1, 0, 0, 6, 4, 2, 1, 0, 0, 1, 2, 1, 5]), (20, [2, 0], [50, 1, 0, 1005, 2, 6, 0, 2, 0, 0, 1, 0, 0, 6, 4, 2, 1, 0, 0, 1, 2, 1, 5]), (20, [1, 2], [50, 0, 0, 7, 2, 1, 0, 1, 1]), (20, [0, 3], [50, 1, 0, 6, 1, 3, 2, 0, 6, 1, 1]), (100, [6, 4, 1], []), (7, [4, 5], [2]), (20, [0], [60, 2, 3, 595, 5, 6, 7, 8, 9]), (20, [1, 0], [50, 1, 0, 1005, 2, 6, 0, 2, 0, 0, 1, 0, 0, 6, 4, 2, 1, 0, 0, 1, 2, 1, 5]), (20, [2, 0], [50, 1, 0, 1005, 2, 6, 0, 2, 0, 0, 1, 0, 0, 6, 4, 2, 1, 0, 0, 1, 2, 1, 5]), (20, [1, 2], [50, 0, 0, 7, 2, 1, 0, 1, 1]), (20, [0, 3], [50, 1, 0, 6, 1, 3, 2, 0, 6, 1, 1])], [], [], [(20, [0], [60, 2, 3, 595, 5, 6, 7, 8, 9]), (20, [3, 0], [50, 1, 0, 1006, 3, 6, 0, 2, 0, 72, 1, 0, 1, 3, 2, 1, 6, 4, 2, 1, 0, 0, 1])], [], [(25, 4, 1, 1), (14, 1, 0, 575), (11, 2, 0, 575)])
theorem oo_Ne_join_at_Ne_gk_0 {kA : Nat → ClassId} : or_ok PRD kA GG o_Ne_join_at_Ne_gk_0 := by
  refine or_mk fun A ta ws vs hD hth hl => ?_
  intro t0 r0 t1 k1 t2 k2 t3 k3 t4 k4 t5 k5 t6 r6 t7 r7 t8 r8 t11 k11 t14 k14 t15 r15 t16 k16 t17 k17 t18 k18 t19 k19 t20 k20 t21 k21 t22 k22 t23 k23 t24 k24 t25 k25 d0 d1 d2 f0 f1 f2 f3 f4 f5 f6 f7 ta1 w1 le1 s1 f9 f10 f11 f12 f13 f14 ta2 w2 le2 s2 f16 f17 f18 f19 f20 f21 f22 f23 ta3 w3 le3 s3 f25 f26 f27 f28 f29 f30 f31 f32 ta4 w4 le4 s4 f34 f35 f36 f37 ta5 w5 le5 s5 f39 f40 f41 f42 ta6 w6 le6 s6 f44 f45 f46 f47 ta7 w7 le7 s7 f49 f50 f51 f52 f53 f54
  replace f0 := shm_111 f0
  replace f1 := shm_119 f1
  replace f2 := shm_106 f2
  replace f3 := shm_293 f3
  replace f4 := shm_198 f4
  have s1 : (∀ b j, w_el ws b j = w_el w1 b j) ∧ ∀ b j, w_fd ws b j = if b = v_ad (n_v vs 0) ∧ j = 6 then n_v vs 25 else w_fd w1 b j := s1.2
  replace f10 := shm_111 f10
  have s2 : (∀ b j, w_el w1 b j = if b = v_ad (n_v vs 15) ∧ j = (v_iv (n_v vs 2)).toNat then v_iv (n_v vs 23) else w_el w2 b j) ∧ ∀ b k, w_fd w1 b k = w_fd w2 b k := s2.2
  have f16 : v_iv (n_v vs 23) ≤ v_iv (n_v vs 20) + v_iv (n_v vs 22) ∧ v_iv (n_v vs 20) ≤ v_iv (n_v vs 23) ∧ v_iv (n_v vs 22) ≤ v_iv (n_v vs 23) := (fun (h : v_iv (n_v vs 23) ≤ v_iv (n_v vs 20) + v_iv (n_v vs 22) ∧ v_iv (n_v vs 20) ≤ v_iv (n_v vs 23) ∧ v_iv (n_v vs 22) ≤ v_iv (n_v vs 23) ∧ (v_iv (n_v vs 23)).toNat = (v_iv (n_v vs 20)).toNat ||| (v_iv (n_v vs 22)).toNat) => ⟨h.1, h.2.1, h.2.2.1⟩) f16
  replace f19 := shm_107 f19
  have s3 : (∀ b j, w_el w2 b j = if b = v_ad (n_v vs 15) ∧ j = (v_iv (n_v vs 1)).toNat then v_iv (n_v vs 19) else w_el w3 b j) ∧ ∀ b k, w_fd w2 b k = w_fd w3 b k := s3.2
  have f25 : v_iv (n_v vs 19) ≤ v_iv (n_v vs 16) + v_iv (n_v vs 18) ∧ v_iv (n_v vs 16) ≤ v_iv (n_v vs 19) ∧ v_iv (n_v vs 18) ≤ v_iv (n_v vs 19) := (fun (h : v_iv (n_v vs 19) ≤ v_iv (n_v vs 16) + v_iv (n_v vs 18) ∧ v_iv (n_v vs 16) ≤ v_iv (n_v vs 19) ∧ v_iv (n_v vs 18) ≤ v_iv (n_v vs 19) ∧ (v_iv (n_v vs 19)).toNat = (v_iv (n_v vs 16)).toNat ||| (v_iv (n_v vs 18)).toNat) => ⟨h.1, h.2.1, h.2.2.1⟩) f25
  replace f28 := shm_107 f28
  have s4 : (∀ b j, w_el w3 b j = if b = v_ad (n_v vs 8) ∧ j = (v_iv (n_v vs 14)).toNat then v_iv (n_v vs 4) else w_el w4 b j) ∧ ∀ b k, w_fd w3 b k = w_fd w4 b k := s4.2
  have s5 : (∀ b j, w_el w4 b j = if b = v_ad (n_v vs 8) ∧ j = (v_iv (n_v vs 11)).toNat then v_iv (n_v vs 4) else w_el w5 b j) ∧ ∀ b k, w_fd w4 b k = w_fd w5 b k := s5.2
  have s6 : (∀ b j, w_el w5 b j = if b = v_ad (n_v vs 7) ∧ j = (v_iv (n_v vs 4)).toNat then v_iv (n_v vs 2) else w_el w6 b j) ∧ ∀ b k, w_fd w5 b k = w_fd w6 b k := s6.2
  have s7 : (∀ b j, w_el w6 b j = if b = v_ad (n_v vs 6) ∧ j = (v_iv (n_v vs 4)).toNat then v_iv (n_v vs 1) else w_el w7 b j) ∧ ∀ b k, w_fd w6 b k = w_fd w7 b k := s7.2
  replace f50 := shm_408 f50
  have ar_0_7_1 : w_ar w1 (n_v vs 0) 7 = w_ar ws (n_v vs 0) 7 := by show v_ad (w_fd w1 _ _) = v_ad (w_fd ws _ _); rw [s1.2, if_neg (fun e => absurd e.2 (by decide))]
  have ar_0_7_2 : w_ar w2 (n_v vs 0) 7 = w_ar ws (n_v vs 0) 7 := by rw [← ar_0_7_1]; show v_ad (w_fd w2 _ _) = v_ad (w_fd w1 _ _); rw [s2.2]
  have ar_0_7_3 : w_ar w3 (n_v vs 0) 7 = w_ar ws (n_v vs 0) 7 := by rw [← ar_0_7_2]; show v_ad (w_fd w3 _ _) = v_ad (w_fd w2 _ _); rw [s3.2]
  have ar_0_7_4 : w_ar w4 (n_v vs 0) 7 = w_ar ws (n_v vs 0) 7 := by rw [← ar_0_7_3]; show v_ad (w_fd w4 _ _) = v_ad (w_fd w3 _ _); rw [s4.2]
  have ar_0_7_5 : w_ar w5 (n_v vs 0) 7 = w_ar ws (n_v vs 0) 7 := by rw [← ar_0_7_4]; show v_ad (w_fd w5 _ _) = v_ad (w_fd w4 _ _); rw [s5.2]
  have ar_0_7_6 : w_ar w6 (n_v vs 0) 7 = w_ar ws (n_v vs 0) 7 := by rw [← ar_0_7_5]; show v_ad (w_fd w6 _ _) = v_ad (w_fd w5 _ _); rw [s6.2]
  have ar_0_7_7 : w_ar w7 (n_v vs 0) 7 = w_ar ws (n_v vs 0) 7 := by rw [← ar_0_7_6]; show v_ad (w_fd w7 _ _) = v_ad (w_fd w6 _ _); rw [s7.2]
  have cr_0_7 := fdq_57 hD hth r0
  have ar_0_8_1 : w_ar w1 (n_v vs 0) 8 = w_ar ws (n_v vs 0) 8 := by show v_ad (w_fd w1 _ _) = v_ad (w_fd ws _ _); rw [s1.2, if_neg (fun e => absurd e.2 (by decide))]
  have ar_0_8_2 : w_ar w2 (n_v vs 0) 8 = w_ar ws (n_v vs 0) 8 := by rw [← ar_0_8_1]; show v_ad (w_fd w2 _ _) = v_ad (w_fd w1 _ _); rw [s2.2]
  have ar_0_8_3 : w_ar w3 (n_v vs 0) 8 = w_ar ws (n_v vs 0) 8 := by rw [← ar_0_8_2]; show v_ad (w_fd w3 _ _) = v_ad (w_fd w2 _ _); rw [s3.2]
  have ar_0_8_4 : w_ar w4 (n_v vs 0) 8 = w_ar ws (n_v vs 0) 8 := by rw [← ar_0_8_3]; show v_ad (w_fd w4 _ _) = v_ad (w_fd w3 _ _); rw [s4.2]
  have ar_0_8_5 : w_ar w5 (n_v vs 0) 8 = w_ar ws (n_v vs 0) 8 := by rw [← ar_0_8_4]; show v_ad (w_fd w5 _ _) = v_ad (w_fd w4 _ _); rw [s5.2]
  have ar_0_8_6 : w_ar w6 (n_v vs 0) 8 = w_ar ws (n_v vs 0) 8 := by rw [← ar_0_8_5]; show v_ad (w_fd w6 _ _) = v_ad (w_fd w5 _ _); rw [s6.2]
  have ar_0_8_7 : w_ar w7 (n_v vs 0) 8 = w_ar ws (n_v vs 0) 8 := by rw [← ar_0_8_6]; show v_ad (w_fd w7 _ _) = v_ad (w_fd w6 _ _); rw [s7.2]
  have cr_0_8 := fdq_58 hD hth r0
  have ar_0_9_1 : w_ar w1 (n_v vs 0) 9 = w_ar ws (n_v vs 0) 9 := by show v_ad (w_fd w1 _ _) = v_ad (w_fd ws _ _); rw [s1.2, if_neg (fun e => absurd e.2 (by decide))]
  have ar_0_9_2 : w_ar w2 (n_v vs 0) 9 = w_ar ws (n_v vs 0) 9 := by rw [← ar_0_9_1]; show v_ad (w_fd w2 _ _) = v_ad (w_fd w1 _ _); rw [s2.2]
  have ar_0_9_3 : w_ar w3 (n_v vs 0) 9 = w_ar ws (n_v vs 0) 9 := by rw [← ar_0_9_2]; show v_ad (w_fd w3 _ _) = v_ad (w_fd w2 _ _); rw [s3.2]
  have ar_0_9_4 : w_ar w4 (n_v vs 0) 9 = w_ar ws (n_v vs 0) 9 := by rw [← ar_0_9_3]; show v_ad (w_fd w4 _ _) = v_ad (w_fd w3 _ _); rw [s4.2]
  have ar_0_9_5 : w_ar w5 (n_v vs 0) 9 = w_ar ws (n_v vs 0) 9 := by rw [← ar_0_9_4]; show v_ad (w_fd w5 _ _) = v_ad (w_fd w4 _ _); rw [s5.2]
  have ar_0_9_6 : w_ar w6 (n_v vs 0) 9 = w_ar ws (n_v vs 0) 9 := by rw [← ar_0_9_5]; show v_ad (w_fd w6 _ _) = v_ad (w_fd w5 _ _); rw [s6.2]
  have ar_0_9_7 : w_ar w7 (n_v vs 0) 9 = w_ar ws (n_v vs 0) 9 := by rw [← ar_0_9_6]; show v_ad (w_fd w7 _ _) = v_ad (w_fd w6 _ _); rw [s7.2]
  have cr_0_9 := fdq_80 hD hth r0
  have cr_0_10 := fdq_81 hD hth r0
  have ad_15 : v_ad (n_v vs 15) = w_ar ws (n_v vs 0) 9 := congrArg v_ad f1
  have ad_8 : v_ad (n_v vs 8) = w_ar ws (n_v vs 0) 10 := congrArg v_ad f2
  have ad_7 : v_ad (n_v vs 7) = w_ar ws (n_v vs 0) 8 := congrArg v_ad f3
  have ad_6 : v_ad (n_v vs 6) = w_ar ws (n_v vs 0) 7 := congrArg v_ad f4
  have g0 : v_iv (n_v vs 25) = w_fi ws (n_v vs 0) 6 := congrArg v_iv f0
  have g10 : v_iv (n_v vs 4) = w_fi w1 (n_v vs 0) 6 := congrArg v_iv f10
  simp only [ad_15] at f19
  have h19 : v_iv (n_v vs 20) = w_ei w2 (w_ar ws (n_v vs 0) 9) (v_iv (n_v vs 2)) := f19
  simp only [ad_15] at f28
  have h28 : v_iv (n_v vs 16) = w_ei w3 (w_ar ws (n_v vs 0) 9) (v_iv (n_v vs 1)) := f28
  simp only [ar_0_7_7, ar_0_8_7, ar_0_9_7] at f50
  have fe_0_5_1 : w_fi ws (n_v vs 0) 5 = w_fi w1 (n_v vs 0) 5 := by show v_iv (w_fd _ _ _) = v_iv (w_fd _ _ _); rw [s1.2, if_neg (fun e => absurd e.2 (by decide))]
  have fe_0_6_1 : w_fi ws (n_v vs 0) 6 = v_iv (n_v vs 25) := by show v_iv (w_fd _ _ _) = _; rw [s1.2, if_pos ⟨rfl, rfl⟩]
  have fe_0_5_2 : w_fi w1 (n_v vs 0) 5 = w_fi w2 (n_v vs 0) 5 := congrArg v_iv (s2.2 _ _)
  have fe_0_6_2 : w_fi w1 (n_v vs 0) 6 = w_fi w2 (n_v vs 0) 6 := congrArg v_iv (s2.2 _ _)
  have fe_0_5_3 : w_fi w2 (n_v vs 0) 5 = w_fi w3 (n_v vs 0) 5 := congrArg v_iv (s3.2 _ _)
  have fe_0_6_3 : w_fi w2 (n_v vs 0) 6 = w_fi w3 (n_v vs 0) 6 := congrArg v_iv (s3.2 _ _)
  have fe_0_5_4 : w_fi w3 (n_v vs 0) 5 = w_fi w4 (n_v vs 0) 5 := congrArg v_iv (s4.2 _ _)
  have fe_0_6_4 : w_fi w3 (n_v vs 0) 6 = w_fi w4 (n_v vs 0) 6 := congrArg v_iv (s4.2 _ _)
  have fe_0_5_5 : w_fi w4 (n_v vs 0) 5 = w_fi w5 (n_v vs 0) 5 := congrArg v_iv (s5.2 _ _)
  have fe_0_6_5 : w_fi w4 (n_v vs 0) 6 = w_fi w5 (n_v vs 0) 6 := congrArg v_iv (s5.2 _ _)
  have fe_0_5_6 : w_fi w5 (n_v vs 0) 5 = w_fi w6 (n_v vs 0) 5 := congrArg v_iv (s6.2 _ _)
  have fe_0_6_6 : w_fi w5 (n_v vs 0) 6 = w_fi w6 (n_v vs 0) 6 := congrArg v_iv (s6.2 _ _)
  have fe_0_5_7 : w_fi w6 (n_v vs 0) 5 = w_fi w7 (n_v vs 0) 5 := congrArg v_iv (s7.2 _ _)
  have fe_0_6_7 : w_fi w6 (n_v vs 0) 6 = w_fi w7 (n_v vs 0) 6 := congrArg v_iv (s7.2 _ _)
  have hE_0_7_1 : ∀ j : Int, w_ei ws (w_ar ws (n_v vs 0) 7) j = w_ei w1 (w_ar ws (n_v vs 0) 7) j := fun j => s1.1 _ _
  have hE_0_7_2 : ∀ j : Int, w_ei w1 (w_ar ws (n_v vs 0) 7) j = w_ei w2 (w_ar ws (n_v vs 0) 7) j := el_kp s2.1 r15 cr_0_7 (by decide)
  have hE_0_7_3 : ∀ j : Int, w_ei w2 (w_ar ws (n_v vs 0) 7) j = w_ei w3 (w_ar ws (n_v vs 0) 7) j := el_kp s3.1 r15 cr_0_7 (by decide)
  have hE_0_7_4 : ∀ j : Int, w_ei w3 (w_ar ws (n_v vs 0) 7) j = w_ei w4 (w_ar ws (n_v vs 0) 7) j := el_kp s4.1 r8 cr_0_7 (by decide)
  have hE_0_7_5 : ∀ j : Int, w_ei w4 (w_ar ws (n_v vs 0) 7) j = w_ei w5 (w_ar ws (n_v vs 0) 7) j := el_kp s5.1 r8 cr_0_7 (by decide)
  have hE_0_7_6 : ∀ j : Int, w_ei w5 (w_ar ws (n_v vs 0) 7) j = w_ei w6 (w_ar ws (n_v vs 0) 7) j := el_kp s6.1 r7 cr_0_7 (by decide)
  have hE_0_7_7 : ∀ j : Int, 0 ≤ j → (j = v_iv (n_v vs 4) → w_ei w6 (w_ar ws (n_v vs 0) 7) j = v_iv (n_v vs 1)) ∧ (j ≠ v_iv (n_v vs 4) → w_ei w6 (w_ar ws (n_v vs 0) 7) j = w_ei w7 (w_ar ws (n_v vs 0) 7) j) := fun j hj => ⟨fun h => by unfold w_ei; rw [s7.1, if_pos ⟨ad_6.symm, by rw [h]⟩], fun h => by unfold w_ei; rw [s7.1, if_neg (fun e => h (by have := e.2; omega))]⟩
  have hK_0_7 := elq_19 hD hth cr_0_7
  have hE_0_8_1 : ∀ j : Int, w_ei ws (w_ar ws (n_v vs 0) 8) j = w_ei w1 (w_ar ws (n_v vs 0) 8) j := fun j => s1.1 _ _
  have hE_0_8_2 : ∀ j : Int, w_ei w1 (w_ar ws (n_v vs 0) 8) j = w_ei w2 (w_ar ws (n_v vs 0) 8) j := el_kp s2.1 r15 cr_0_8 (by decide)
  have hE_0_8_3 : ∀ j : Int, w_ei w2 (w_ar ws (n_v vs 0) 8) j = w_ei w3 (w_ar ws (n_v vs 0) 8) j := el_kp s3.1 r15 cr_0_8 (by decide)
  have hE_0_8_4 : ∀ j : Int, w_ei w3 (w_ar ws (n_v vs 0) 8) j = w_ei w4 (w_ar ws (n_v vs 0) 8) j := el_kp s4.1 r8 cr_0_8 (by decide)
  have hE_0_8_5 : ∀ j : Int, w_ei w4 (w_ar ws (n_v vs 0) 8) j = w_ei w5 (w_ar ws (n_v vs 0) 8) j := el_kp s5.1 r8 cr_0_8 (by decide)
  have hE_0_8_6 : ∀ j : Int, 0 ≤ j → (j = v_iv (n_v vs 4) → w_ei w5 (w_ar ws (n_v vs 0) 8) j = v_iv (n_v vs 2)) ∧ (j ≠ v_iv (n_v vs 4) → w_ei w5 (w_ar ws (n_v vs 0) 8) j = w_ei w6 (w_ar ws (n_v vs 0) 8) j) := fun j hj => ⟨fun h => by unfold w_ei; rw [s6.1, if_pos ⟨ad_7.symm, by rw [h]⟩], fun h => by unfold w_ei; rw [s6.1, if_neg (fun e => h (by have := e.2; omega))]⟩
  have hE_0_8_7 : ∀ j : Int, w_ei w6 (w_ar ws (n_v vs 0) 8) j = w_ei w7 (w_ar ws (n_v vs 0) 8) j := el_kp s7.1 r6 cr_0_8 (by decide)
  have hK_0_8 := elq_20 hD hth cr_0_8
  have hE_0_9_1 : ∀ j : Int, w_ei ws (w_ar ws (n_v vs 0) 9) j = w_ei w1 (w_ar ws (n_v vs 0) 9) j := fun j => s1.1 _ _
  have hE_0_9_2 : ∀ j : Int, 0 ≤ j → (j = v_iv (n_v vs 2) → w_ei w1 (w_ar ws (n_v vs 0) 9) j = v_iv (n_v vs 23)) ∧ (j ≠ v_iv (n_v vs 2) → w_ei w1 (w_ar ws (n_v vs 0) 9) j = w_ei w2 (w_ar ws (n_v vs 0) 9) j) := fun j hj => ⟨fun h => by unfold w_ei; rw [s2.1, if_pos ⟨ad_15.symm, by rw [h]⟩], fun h => by unfold w_ei; rw [s2.1, if_neg (fun e => h (by have := e.2; omega))]⟩
  have hE_0_9_3 : ∀ j : Int, 0 ≤ j → (j = v_iv (n_v vs 1) → w_ei w2 (w_ar ws (n_v vs 0) 9) j = v_iv (n_v vs 19)) ∧ (j ≠ v_iv (n_v vs 1) → w_ei w2 (w_ar ws (n_v vs 0) 9) j = w_ei w3 (w_ar ws (n_v vs 0) 9) j) := fun j hj => ⟨fun h => by unfold w_ei; rw [s3.1, if_pos ⟨ad_15.symm, by rw [h]⟩], fun h => by unfold w_ei; rw [s3.1, if_neg (fun e => h (by have := e.2; omega))]⟩
  have hE_0_9_4 : ∀ j : Int, w_ei w3 (w_ar ws (n_v vs 0) 9) j = w_ei w4 (w_ar ws (n_v vs 0) 9) j := el_kp s4.1 r8 cr_0_9 (by decide)
  have hE_0_9_5 : ∀ j : Int, w_ei w4 (w_ar ws (n_v vs 0) 9) j = w_ei w5 (w_ar ws (n_v vs 0) 9) j := el_kp s5.1 r8 cr_0_9 (by decide)
  have hE_0_9_6 : ∀ j : Int, w_ei w5 (w_ar ws (n_v vs 0) 9) j = w_ei w6 (w_ar ws (n_v vs 0) 9) j := el_kp s6.1 r7 cr_0_9 (by decide)
  have hE_0_9_7 : ∀ j : Int, w_ei w6 (w_ar ws (n_v vs 0) 9) j = w_ei w7 (w_ar ws (n_v vs 0) 9) j := el_kp s7.1 r6 cr_0_9 (by decide)
  have hK_0_9 := elq_26 hD hth cr_0_9
  have hE_0_10_1 : ∀ j : Int, w_ei ws (w_ar ws (n_v vs 0) 10) j = w_ei w1 (w_ar ws (n_v vs 0) 10) j := fun j => s1.1 _ _
  have hE_0_10_2 : ∀ j : Int, w_ei w1 (w_ar ws (n_v vs 0) 10) j = w_ei w2 (w_ar ws (n_v vs 0) 10) j := el_kp s2.1 r15 cr_0_10 (by decide)
  have hE_0_10_3 : ∀ j : Int, w_ei w2 (w_ar ws (n_v vs 0) 10) j = w_ei w3 (w_ar ws (n_v vs 0) 10) j := el_kp s3.1 r15 cr_0_10 (by decide)
  have hE_0_10_4 : ∀ j : Int, 0 ≤ j → (j = v_iv (n_v vs 14) → w_ei w3 (w_ar ws (n_v vs 0) 10) j = v_iv (n_v vs 4)) ∧ (j ≠ v_iv (n_v vs 14) → w_ei w3 (w_ar ws (n_v vs 0) 10) j = w_ei w4 (w_ar ws (n_v vs 0) 10) j) := fun j hj => ⟨fun h => by unfold w_ei; rw [s4.1, if_pos ⟨ad_8.symm, by rw [h]⟩], fun h => by unfold w_ei; rw [s4.1, if_neg (fun e => h (by have := e.2; omega))]⟩
  have hE_0_10_5 : ∀ j : Int, 0 ≤ j → (j = v_iv (n_v vs 11) → w_ei w4 (w_ar ws (n_v vs 0) 10) j = v_iv (n_v vs 4)) ∧ (j ≠ v_iv (n_v vs 11) → w_ei w4 (w_ar ws (n_v vs 0) 10) j = w_ei w5 (w_ar ws (n_v vs 0) 10) j) := fun j hj => ⟨fun h => by unfold w_ei; rw [s5.1, if_pos ⟨ad_8.symm, by rw [h]⟩], fun h => by unfold w_ei; rw [s5.1, if_neg (fun e => h (by have := e.2; omega))]⟩
  have hE_0_10_6 : ∀ j : Int, w_ei w5 (w_ar ws (n_v vs 0) 10) j = w_ei w6 (w_ar ws (n_v vs 0) 10) j := el_kp s6.1 r7 cr_0_10 (by decide)
  have hE_0_10_7 : ∀ j : Int, w_ei w6 (w_ar ws (n_v vs 0) 10) j = w_ei w7 (w_ar ws (n_v vs 0) 10) j := el_kp s7.1 r6 cr_0_10 (by decide)
  have hK_0_10 := elq_41 hD hth cr_0_10
  have kz_0_5 := fdq_82 hD hth r0
  have kz_0_6 := fdq_59 hD hth r0
  have nf0 : fc_1 PRD (20, [0], [60, 2, 3, 595, 5, 6, 7, 8, 9]) ws (vs) := ⟨nf_in hl rfl, sgq_408 (vc_Ne_join_at_Ne_gk_0_0 (v_iv (n_v vs 1)) (v_iv (n_v vs 2)) (v_iv (n_v vs 3)) (v_iv (n_v vs 4)) (v_iv (n_v vs 5)) (v_iv (n_v vs 11)) (v_iv (n_v vs 14)) (v_iv (n_v vs 16)) (v_iv (n_v vs 17)) (v_iv (n_v vs 18)) (v_iv (n_v vs 19)) (v_iv (n_v vs 20)) (v_iv (n_v vs 21)) (v_iv (n_v vs 22)) (v_iv (n_v vs 23)) (v_iv (n_v vs 24)) (v_iv (n_v vs 25)) (w_fi ws (n_v vs 0) 6) (w_fi ws (n_v vs 0) 5) (w_fi w1 (n_v vs 0) 6) (w_fi w1 (n_v vs 0) 5) (w_ei w2 (w_ar ws (n_v vs 0) 9)) (w_fi w2 (n_v vs 0) 5) (w_fi w2 (n_v vs 0) 6) (w_ei w3 (w_ar ws (n_v vs 0) 9)) (w_fi w3 (n_v vs 0) 5) (w_fi w3 (n_v vs 0) 6) (w_fi w4 (n_v vs 0) 5) (w_fi w4 (n_v vs 0) 6) (w_fi w5 (n_v vs 0) 5) (w_fi w5 (n_v vs 0) 6) (w_fi w6 (n_v vs 0) 5) (w_fi w6 (n_v vs 0) 6) (w_ei w7 (w_ar ws (n_v vs 0) 7)) (w_ei w7 (w_ar ws (n_v vs 0) 8)) (w_ei w7 (w_ar ws (n_v vs 0) 9)) (w_fi w7 (n_v vs 0) 5) (w_fi w7 (n_v vs 0) 6) (w_ei ws (w_ar ws (n_v vs 0) 7)) (w_ei w1 (w_ar ws (n_v vs 0) 7)) (w_ei w2 (w_ar ws (n_v vs 0) 7)) (w_ei w3 (w_ar ws (n_v vs 0) 7)) (w_ei w4 (w_ar ws (n_v vs 0) 7)) (w_ei w5 (w_ar ws (n_v vs 0) 7)) (w_ei w6 (w_ar ws (n_v vs 0) 7)) (w_ei ws (w_ar ws (n_v vs 0) 8)) (w_ei w1 (w_ar ws (n_v vs 0) 8)) (w_ei w2 (w_ar ws (n_v vs 0) 8)) (w_ei w3 (w_ar ws (n_v vs 0) 8)) (w_ei w4 (w_ar ws (n_v vs 0) 8)) (w_ei w5 (w_ar ws (n_v vs 0) 8)) (w_ei w6 (w_ar ws (n_v vs 0) 8)) (w_ei ws (w_ar ws (n_v vs 0) 9)) (w_ei w1 (w_ar ws (n_v vs 0) 9)) (w_ei w4 (w_ar ws (n_v vs 0) 9)) (w_ei w5 (w_ar ws (n_v vs 0) 9)) (w_ei w6 (w_ar ws (n_v vs 0) 9)) (w_ei ws (w_ar ws (n_v vs 0) 10)) (w_ei w1 (w_ar ws (n_v vs 0) 10)) (w_ei w2 (w_ar ws (n_v vs 0) 10)) (w_ei w3 (w_ar ws (n_v vs 0) 10)) (w_ei w4 (w_ar ws (n_v vs 0) 10)) (w_ei w5 (w_ar ws (n_v vs 0) 10)) (w_ei w6 (w_ar ws (n_v vs 0) 10)) (w_ei w7 (w_ar ws (n_v vs 0) 10)) k1 k2 k3 k4 k5 k11 k14 k16 k17 k18 k19 k20 k21 k22 k23 k24 k25 d0 d1 d2 g0 (shm_405 f5) (shm_405 f6) (shm_406 f7) (shm_12 f9) g10 (shm_405 f11) (shm_405 f12) (shm_406 f13) (shm_407 f14) f16 (shm_354 f17) (shm_349 f18) h19 (shm_405 f20) (shm_405 f21) (shm_406 f22) (shm_407 f23) f25 (shm_354 f26) (shm_349 f27) h28 (shm_405 f29) (shm_405 f30) (shm_406 f31) (shm_407 f32) (shm_405 f34) (shm_405 f35) (shm_406 f36) (shm_407 f37) (shm_405 f39) (shm_405 f40) (shm_406 f41) (shm_407 f42) (shm_405 f44) (shm_405 f45) (shm_406 f46) (shm_407 f47) (shm_6 f49) f50 (shm_405 f51) (shm_405 f52) (shm_406 f53) (shm_407 f54) fe_0_5_1 fe_0_6_1 fe_0_5_2 fe_0_6_2 fe_0_5_3 fe_0_6_3 fe_0_5_4 fe_0_6_4 fe_0_5_5 fe_0_6_5 fe_0_5_6 fe_0_6_6 fe_0_5_7 fe_0_6_7 hE_0_7_1 hE_0_7_2 hE_0_7_3 hE_0_7_4 hE_0_7_5 hE_0_7_6 hE_0_7_7 hK_0_7 hE_0_8_1 hE_0_8_2 hE_0_8_3 hE_0_8_4 hE_0_8_5 hE_0_8_6 hE_0_8_7 hK_0_8 hE_0_9_1 hE_0_9_2 hE_0_9_3 hE_0_9_4 hE_0_9_5 hE_0_9_6 hE_0_9_7 hK_0_9 hE_0_10_1 hE_0_10_2 hE_0_10_3 hE_0_10_4 hE_0_10_5 hE_0_10_6 hE_0_10_7 hK_0_10 kz_0_5 kz_0_6)⟩
  have nf1 : fc_1 PRD (20, [3, 0], [50, 1, 0, 1006, 3, 6, 0, 2, 0, 72, 1, 0, 1, 3, 2, 1, 6, 4, 2, 1, 0, 0, 1]) ws (vs) := ⟨nf_in hl rfl, sgq_409 (vc_Ne_join_at_Ne_gk_0_1 (v_iv (n_v vs 1)) (v_iv (n_v vs 2)) (v_iv (n_v vs 3)) (v_iv (n_v vs 4)) (v_iv (n_v vs 5)) (v_iv (n_v vs 11)) (v_iv (n_v vs 14)) (v_iv (n_v vs 16)) (v_iv (n_v vs 17)) (v_iv (n_v vs 18)) (v_iv (n_v vs 19)) (v_iv (n_v vs 20)) (v_iv (n_v vs 21)) (v_iv (n_v vs 22)) (v_iv (n_v vs 23)) (v_iv (n_v vs 24)) (v_iv (n_v vs 25)) (w_fi ws (n_v vs 0) 6) (w_fi ws (n_v vs 0) 5) (w_fi w1 (n_v vs 0) 6) (w_fi w1 (n_v vs 0) 5) (w_ei w2 (w_ar ws (n_v vs 0) 9)) (w_fi w2 (n_v vs 0) 5) (w_fi w2 (n_v vs 0) 6) (w_ei w3 (w_ar ws (n_v vs 0) 9)) (w_fi w3 (n_v vs 0) 5) (w_fi w3 (n_v vs 0) 6) (w_fi w4 (n_v vs 0) 5) (w_fi w4 (n_v vs 0) 6) (w_fi w5 (n_v vs 0) 5) (w_fi w5 (n_v vs 0) 6) (w_fi w6 (n_v vs 0) 5) (w_fi w6 (n_v vs 0) 6) (w_ei w7 (w_ar ws (n_v vs 0) 7)) (w_ei w7 (w_ar ws (n_v vs 0) 8)) (w_ei w7 (w_ar ws (n_v vs 0) 9)) (w_fi w7 (n_v vs 0) 5) (w_fi w7 (n_v vs 0) 6) (w_ei ws (w_ar ws (n_v vs 0) 7)) (w_ei w1 (w_ar ws (n_v vs 0) 7)) (w_ei w2 (w_ar ws (n_v vs 0) 7)) (w_ei w3 (w_ar ws (n_v vs 0) 7)) (w_ei w4 (w_ar ws (n_v vs 0) 7)) (w_ei w5 (w_ar ws (n_v vs 0) 7)) (w_ei w6 (w_ar ws (n_v vs 0) 7)) (w_ei ws (w_ar ws (n_v vs 0) 8)) (w_ei w1 (w_ar ws (n_v vs 0) 8)) (w_ei w2 (w_ar ws (n_v vs 0) 8)) (w_ei w3 (w_ar ws (n_v vs 0) 8)) (w_ei w4 (w_ar ws (n_v vs 0) 8)) (w_ei w5 (w_ar ws (n_v vs 0) 8)) (w_ei w6 (w_ar ws (n_v vs 0) 8)) (w_ei ws (w_ar ws (n_v vs 0) 9)) (w_ei w1 (w_ar ws (n_v vs 0) 9)) (w_ei w4 (w_ar ws (n_v vs 0) 9)) (w_ei w5 (w_ar ws (n_v vs 0) 9)) (w_ei w6 (w_ar ws (n_v vs 0) 9)) (w_ei ws (w_ar ws (n_v vs 0) 10)) (w_ei w1 (w_ar ws (n_v vs 0) 10)) (w_ei w2 (w_ar ws (n_v vs 0) 10)) (w_ei w3 (w_ar ws (n_v vs 0) 10)) (w_ei w4 (w_ar ws (n_v vs 0) 10)) (w_ei w5 (w_ar ws (n_v vs 0) 10)) (w_ei w6 (w_ar ws (n_v vs 0) 10)) (w_ei w7 (w_ar ws (n_v vs 0) 10)) k1 k2 k3 k4 k5 k11 k14 k16 k17 k18 k19 k20 k21 k22 k23 k24 k25 d0 d1 d2 g0 (shm_405 f5) (shm_405 f6) (shm_406 f7) (shm_12 f9) g10 (shm_405 f11) (shm_405 f12) (shm_406 f13) (shm_407 f14) f16 (shm_354 f17) (shm_349 f18) h19 (shm_405 f20) (shm_405 f21) (shm_406 f22) (shm_407 f23) f25 (shm_354 f26) (shm_349 f27) h28 (shm_405 f29) (shm_405 f30) (shm_406 f31) (shm_407 f32) (shm_405 f34) (shm_405 f35) (shm_406 f36) (shm_407 f37) (shm_405 f39) (shm_405 f40) (shm_406 f41) (shm_407 f42) (shm_405 f44) (shm_405 f45) (shm_406 f46) (shm_407 f47) (shm_6 f49) f50 (shm_405 f51) (shm_405 f52) (shm_406 f53) (shm_407 f54) fe_0_5_1 fe_0_6_1 fe_0_5_2 fe_0_6_2 fe_0_5_3 fe_0_6_3 fe_0_5_4 fe_0_6_4 fe_0_5_5 fe_0_6_5 fe_0_5_6 fe_0_6_6 fe_0_5_7 fe_0_6_7 hE_0_7_1 hE_0_7_2 hE_0_7_3 hE_0_7_4 hE_0_7_5 hE_0_7_6 hE_0_7_7 hK_0_7 hE_0_8_1 hE_0_8_2 hE_0_8_3 hE_0_8_4 hE_0_8_5 hE_0_8_6 hE_0_8_7 hK_0_8 hE_0_9_1 hE_0_9_2 hE_0_9_3 hE_0_9_4 hE_0_9_5 hE_0_9_6 hE_0_9_7 hK_0_9 hE_0_10_1 hE_0_10_2 hE_0_10_3 hE_0_10_4 hE_0_10_5 hE_0_10_6 hE_0_10_7 hK_0_10 kz_0_5 kz_0_6)⟩
  refine ⟨(fun _ h => (by cases h)), [], trivial, ?_, (fun _ h => (by cases h))⟩
  rw [List.append_nil]
  exact List.forall_mem_cons.mpr ⟨⟨show (20 : Nat) < 100 from by decide, nf0⟩, List.forall_mem_cons.mpr ⟨⟨show (20 : Nat) < 100 from by decide, nf1⟩, (fun _ h => (by cases h))⟩⟩
set_option maxHeartbeats 4000000 in
theorem vc_Ne_join_at_Ne_gk_1_0 (x1 : Int) (x2 : Int) (x3 : Int) (x4 : Int) (x5 : Int) (edges_0 : Int) (tail_0 : Int → Int) (head_0 : Int → Int) (near_0 : Int → Int) (nodes_0 : Int) (k1 : 0 ≤ x1 ∧ x1 ≤ 23) (k2 : 0 ≤ x2 ∧ x2 ≤ 23) (k3 : 0 ≤ x3 ∧ x3 ≤ 72) (k4 : 72 ≤ x4 ∧ x4 ≤ 72) (k5 : 72 ≤ x5 ∧ x5 ≤ 72) (f0 : x5 ≤ x4) (g1 : x4 = edges_0) (f2 : NOK (nodes_0) (edges_0) (tail_0) (head_0) (near_0)) (f3 : (0 ≤ x1) ∧ ((x1 + 1) ≤ nodes_0)) (f4 : (0 ≤ x2) ∧ ((x2 + 1) ≤ nodes_0)) (f5 : x1 ≠ x2) (f6 : edges_0 = x3) (hK_0_7 : ∀ j : Int, 0 ≤ j → j < 72 → 0 ≤ tail_0 j ∧ tail_0 j ≤ 23) (hK_0_8 : ∀ j : Int, 0 ≤ j → j < 72 → 0 ≤ head_0 j ∧ head_0 j ≤ 23) (hK_0_9 : ∀ j : Int, 0 ≤ j → j < 25 → 0 ≤ near_0 j ∧ near_0 j ≤ 16777215) (kz_0_5 : 0 ≤ nodes_0 ∧ nodes_0 ≤ 24) (kz_0_6 : 0 ≤ edges_0 ∧ edges_0 ≤ 72) : (72 ≤ x3) ∨ (edges_0 = (x3 + 1)) := by
  first
    | omega
  
def o_Ne_join_at_Ne_gk_1 : or_T := (10, 7, [(0, (2, 0, 0, [5])), (1, (0, 0, 23, [])), (2, (0, 0, 23, [])), (3, (0, 0, 72, [])), (4, (0, 72, 72, [])), (5, (0, 72, 72, []))], [(7, [4, 5], [3]), (9, [4, 0], [6]), (20, [0], [60, 2, 3, 595, 5, 6, 7, 8, 9]), (20, [1, 0], [50, 1, 0, 1005, 2, 6, 0, 2, 0, 0, 1, 0, 0, 6, 4, 2, 1, 0, 0, 1, 2, 1, 5]), (20, [2, 0], [50, 1, 0, 1005, 2, 6, 0, 2, 0, 0, 1, 0, 0, 6, 4, 2, 1, 0, 0, 1, 2, 1, 5]), (20, [1, 2], [50, 0, 0, 7, 2, 1, 0, 1, 1]), (20, [0, 3], [50, 1, 0, 6, 1, 3, 2, 0, 6, 1, 1])], [], [], [(20, [3, 0], [50, 1, 0, 1006, 3, 6, 0, 2, 0, 72, 1, 0, 1, 3, 2, 1, 6, 4, 2, 1, 0, 0, 1])], [], [])
theorem oo_Ne_join_at_Ne_gk_1 {kA : Nat → ClassId} : or_ok PRD kA GG o_Ne_join_at_Ne_gk_1 := by
  refine or_mk fun A ta ws vs hD hth hl => ?_
  intro t0 r0 t1 k1 t2 k2 t3 k3 t4 k4 t5 k5 f0 f1 f2 f3 f4 f5 f6
  replace f1 := shm_111 f1
  have cr_0_7 := fdq_57 hD hth r0
  have cr_0_8 := fdq_58 hD hth r0
  have cr_0_9 := fdq_80 hD hth r0
  have g1 : v_iv (n_v vs 4) = w_fi ws (n_v vs 0) 6 := congrArg v_iv f1
  have hK_0_7 := elq_19 hD hth cr_0_7
  have hK_0_8 := elq_20 hD hth cr_0_8
  have hK_0_9 := elq_26 hD hth cr_0_9
  have kz_0_5 := fdq_82 hD hth r0
  have kz_0_6 := fdq_59 hD hth r0
  have nf0 : fc_1 PRD (20, [3, 0], [50, 1, 0, 1006, 3, 6, 0, 2, 0, 72, 1, 0, 1, 3, 2, 1, 6, 4, 2, 1, 0, 0, 1]) ws (vs) := ⟨nf_in hl rfl, sgq_409 (vc_Ne_join_at_Ne_gk_1_0 (v_iv (n_v vs 1)) (v_iv (n_v vs 2)) (v_iv (n_v vs 3)) (v_iv (n_v vs 4)) (v_iv (n_v vs 5)) (w_fi ws (n_v vs 0) 6) (w_ei ws (w_ar ws (n_v vs 0) 7)) (w_ei ws (w_ar ws (n_v vs 0) 8)) (w_ei ws (w_ar ws (n_v vs 0) 9)) (w_fi ws (n_v vs 0) 5) k1 k2 k3 k4 k5 (shm_2 f0) g1 (shm_408 f2) (shm_405 f3) (shm_405 f4) (shm_406 f5) (shm_407 f6) hK_0_7 hK_0_8 hK_0_9 kz_0_5 kz_0_6)⟩
  refine ⟨(fun _ h => (by cases h)), [], trivial, ?_, (fun _ h => (by cases h))⟩
  rw [List.append_nil]
  exact List.forall_mem_cons.mpr ⟨⟨show (20 : Nat) < 100 from by decide, nf0⟩, (fun _ h => (by cases h))⟩
def n_Ne_join_at_Ne_gk_an : List an_T := []
def t_Ne_join_at_Ne_gk_ct : ct_L := []
set_option maxRecDepth 100000 in
theorem c_Ne_join_at_Ne_gk {l : Launch} {D : va_G} {kA : Nat → ClassId} : ct_ok PRD l D kA GG y_Ne_join_at_Ne_gk z_Ne_join_at_Ne_gk e_Ne_join_at_Ne_gk := chk_all_ok (FT := [(31, 5, 6), (34, 5, 7), (37, 5, 8), (40, 5, 9), (43, 5, 10)]) (PT := [(31, 5, 6, .int)]) (CT := t_Ne_join_at_Ne_gk_ct) (KT := []) (NT := []) (AN := n_Ne_join_at_Ne_gk_an) (OT := [o_Ne_join_at_Ne_gk_0, o_Ne_join_at_Ne_gk_1]) 0 260 (List.forall_mem_cons.mpr ⟨oo_Ne_join_at_Ne_gk_0, List.forall_mem_cons.mpr ⟨oo_Ne_join_at_Ne_gk_1, List.forall_mem_nil _⟩⟩) (by decide +kernel) ⟨List.forall_mem_cons.mpr ⟨gf_Ne_31, List.forall_mem_cons.mpr ⟨gf_Ne_34, List.forall_mem_cons.mpr ⟨gf_Ne_37, List.forall_mem_cons.mpr ⟨gf_Ne_40, List.forall_mem_cons.mpr ⟨gf_Ne_43, List.forall_mem_nil _⟩⟩⟩⟩⟩, List.forall_mem_cons.mpr ⟨pf_Ne_31, List.forall_mem_nil _⟩, List.forall_mem_nil _, List.forall_mem_nil _, List.forall_mem_nil _, GG_pl⟩ (by decide +kernel)
set_option maxHeartbeats 4000000 in
theorem vc_Ne_join_at_Np_gk_0_0 (x1 : Int) (x2 : Int) (x3 : Int) (x4 : Int) (x5 : Int) (x11 : Int) (x14 : Int) (x16 : Int) (x17 : Int) (x18 : Int) (x19 : Int) (x20 : Int) (x21 : Int) (x22 : Int) (x23 : Int) (x24 : Int) (x25 : Int) (edges_0 : Int) (nodes_0 : Int) (edges_1 : Int) (nodes_1 : Int) (near_2 : Int → Int) (nodes_2 : Int) (edges_2 : Int) (near_3 : Int → Int) (nodes_3 : Int) (edges_3 : Int) (nodes_4 : Int) (edges_4 : Int) (nodes_5 : Int) (edges_5 : Int) (nodes_6 : Int) (edges_6 : Int) (tail_7 : Int → Int) (head_7 : Int → Int) (near_7 : Int → Int) (nodes_7 : Int) (edges_7 : Int) (tail_0 : Int → Int) (tail_1 : Int → Int) (tail_2 : Int → Int) (tail_3 : Int → Int) (tail_4 : Int → Int) (tail_5 : Int → Int) (tail_6 : Int → Int) (head_0 : Int → Int) (head_1 : Int → Int) (head_2 : Int → Int) (head_3 : Int → Int) (head_4 : Int → Int) (head_5 : Int → Int) (head_6 : Int → Int) (near_0 : Int → Int) (near_1 : Int → Int) (near_4 : Int → Int) (near_5 : Int → Int) (near_6 : Int → Int) (link_0 : Int → Int) (link_1 : Int → Int) (link_2 : Int → Int) (link_3 : Int → Int) (link_4 : Int → Int) (link_5 : Int → Int) (link_6 : Int → Int) (link_7 : Int → Int) (k1 : 0 ≤ x1 ∧ x1 ≤ 23) (k2 : 0 ≤ x2 ∧ x2 ≤ 24) (k3 : 0 ≤ x3 ∧ x3 ≤ 72) (k4 : 0 ≤ x4 ∧ x4 ≤ 71) (k5 : 72 ≤ x5 ∧ x5 ≤ 72) (k11 : 0 ≤ x11 ∧ x11 ≤ 599) (k14 : 0 ≤ x14 ∧ x14 ≤ 623) (k16 : 0 ≤ x16 ∧ x16 ≤ 33554431) (k17 : 1 ≤ x17 ∧ x17 ≤ 1) (k18 : 1 ≤ x18 ∧ x18 ≤ 16777216) (k19 : 0 ≤ x19 ∧ x19 ≤ 33554431) (k20 : 0 ≤ x20 ∧ x20 ≤ 33554431) (k21 : 1 ≤ x21 ∧ x21 ≤ 1) (k22 : 1 ≤ x22 ∧ x22 ≤ 8388608) (k23 : 0 ≤ x23 ∧ x23 ≤ 33554431) (k24 : 1 ≤ x24 ∧ x24 ≤ 1) (k25 : 1 ≤ x25 ∧ x25 ≤ 72) (d0 : x4 + 1 ≤ x25 ∧ x25 ≤ x4 + 1) (d1 : x1 + 0 ≤ x14 ∧ x14 ≤ x1 + 600) (d2 : x2 + 0 ≤ x11 ∧ x11 ≤ x2 + 575) (g0 : x25 = edges_0) (f5 : (0 ≤ x1) ∧ ((x1 + 1) ≤ nodes_0)) (f6 : (0 ≤ x2) ∧ ((x2 + 1) ≤ nodes_0)) (f7 : x1 ≠ x2) (f9 : x25 = x4 + x24) (g10 : x4 = edges_1) (f11 : (0 ≤ x1) ∧ ((x1 + 1) ≤ nodes_1)) (f12 : (0 ≤ x2) ∧ ((x2 + 1) ≤ nodes_1)) (f13 : x1 ≠ x2) (f14 : edges_1 = x3) (f16 : x23 ≤ x20 + x22 ∧ x20 ≤ x23 ∧ x22 ≤ x23) (f17 : bvp (x23) = bvp (x20) ||| bvp (x22)) (f18 : bvp (x22) = bvp (x21) <<< (x1).toNat) (h19 : x20 = near_2 (x2)) (f20 : (0 ≤ x1) ∧ ((x1 + 1) ≤ nodes_2)) (f21 : (0 ≤ x2) ∧ ((x2 + 1) ≤ nodes_2)) (f22 : x1 ≠ x2) (f23 : edges_2 = x3) (f25 : x19 ≤ x16 + x18 ∧ x16 ≤ x19 ∧ x18 ≤ x19) (f26 : bvp (x19) = bvp (x16) ||| bvp (x18)) (f27 : bvp (x18) = bvp (x17) <<< (x2).toNat) (h28 : x16 = near_3 (x1)) (f29 : (0 ≤ x1) ∧ ((x1 + 1) ≤ nodes_3)) (f30 : (0 ≤ x2) ∧ ((x2 + 1) ≤ nodes_3)) (f31 : x1 ≠ x2) (f32 : edges_3 = x3) (f34 : (0 ≤ x1) ∧ ((x1 + 1) ≤ nodes_4)) (f35 : (0 ≤ x2) ∧ ((x2 + 1) ≤ nodes_4)) (f36 : x1 ≠ x2) (f37 : edges_4 = x3) (f39 : (0 ≤ x1) ∧ ((x1 + 1) ≤ nodes_5)) (f40 : (0 ≤ x2) ∧ ((x2 + 1) ≤ nodes_5)) (f41 : x1 ≠ x2) (f42 : edges_5 = x3) (f44 : (0 ≤ x1) ∧ ((x1 + 1) ≤ nodes_6)) (f45 : (0 ≤ x2) ∧ ((x2 + 1) ≤ nodes_6)) (f46 : x1 ≠ x2) (f47 : edges_6 = x3) (f49 : x4 < x5) (f50 : NOK (nodes_7) (edges_7) (tail_7) (head_7) (near_7)) (f51 : (0 ≤ x1) ∧ ((x1 + 1) ≤ nodes_7)) (f52 : (0 ≤ x2) ∧ ((x2 + 1) ≤ nodes_7)) (f53 : x1 ≠ x2) (f54 : edges_7 = x3) (fe_0_5_1 : nodes_0 = nodes_1) (fe_0_6_1 : edges_0 = x25) (fe_0_5_2 : nodes_1 = nodes_2) (fe_0_6_2 : edges_1 = edges_2) (fe_0_5_3 : nodes_2 = nodes_3) (fe_0_6_3 : edges_2 = edges_3) (fe_0_5_4 : nodes_3 = nodes_4) (fe_0_6_4 : edges_3 = edges_4) (fe_0_5_5 : nodes_4 = nodes_5) (fe_0_6_5 : edges_4 = edges_5) (fe_0_5_6 : nodes_5 = nodes_6) (fe_0_6_6 : edges_5 = edges_6) (fe_0_5_7 : nodes_6 = nodes_7) (fe_0_6_7 : edges_6 = edges_7) (hE_0_7_1 : ∀ j : Int, tail_0 j = tail_1 j) (hE_0_7_2 : ∀ j : Int, tail_1 j = tail_2 j) (hE_0_7_3 : ∀ j : Int, tail_2 j = tail_3 j) (hE_0_7_4 : ∀ j : Int, tail_3 j = tail_4 j) (hE_0_7_5 : ∀ j : Int, tail_4 j = tail_5 j) (hE_0_7_6 : ∀ j : Int, tail_5 j = tail_6 j) (hE_0_7_7 : ∀ j : Int, 0 ≤ j → (j = x4 → tail_6 j = x1) ∧ (j ≠ x4 → tail_6 j = tail_7 j)) (hK_0_7 : ∀ j : Int, 0 ≤ j → j < 72 → 0 ≤ tail_0 j ∧ tail_0 j ≤ 24) (hE_0_8_1 : ∀ j : Int, head_0 j = head_1 j) (hE_0_8_2 : ∀ j : Int, head_1 j = head_2 j) (hE_0_8_3 : ∀ j : Int, head_2 j = head_3 j) (hE_0_8_4 : ∀ j : Int, head_3 j = head_4 j) (hE_0_8_5 : ∀ j : Int, head_4 j = head_5 j) (hE_0_8_6 : ∀ j : Int, 0 ≤ j → (j = x4 → head_5 j = x2) ∧ (j ≠ x4 → head_5 j = head_6 j)) (hE_0_8_7 : ∀ j : Int, head_6 j = head_7 j) (hK_0_8 : ∀ j : Int, 0 ≤ j → j < 72 → 0 ≤ head_0 j ∧ head_0 j ≤ 24) (hE_0_9_1 : ∀ j : Int, near_0 j = near_1 j) (hE_0_9_2 : ∀ j : Int, 0 ≤ j → (j = x2 → near_1 j = x23) ∧ (j ≠ x2 → near_1 j = near_2 j)) (hE_0_9_3 : ∀ j : Int, 0 ≤ j → (j = x1 → near_2 j = x19) ∧ (j ≠ x1 → near_2 j = near_3 j)) (hE_0_9_4 : ∀ j : Int, near_3 j = near_4 j) (hE_0_9_5 : ∀ j : Int, near_4 j = near_5 j) (hE_0_9_6 : ∀ j : Int, near_5 j = near_6 j) (hE_0_9_7 : ∀ j : Int, near_6 j = near_7 j) (hK_0_9 : ∀ j : Int, 0 ≤ j → j < 25 → 0 ≤ near_0 j ∧ near_0 j ≤ 33554431) (hE_0_10_1 : ∀ j : Int, link_0 j = link_1 j) (hE_0_10_2 : ∀ j : Int, link_1 j = link_2 j) (hE_0_10_3 : ∀ j : Int, link_2 j = link_3 j) (hE_0_10_4 : ∀ j : Int, 0 ≤ j → (j = x14 → link_3 j = x4) ∧ (j ≠ x14 → link_3 j = link_4 j)) (hE_0_10_5 : ∀ j : Int, 0 ≤ j → (j = x11 → link_4 j = x4) ∧ (j ≠ x11 → link_4 j = link_5 j)) (hE_0_10_6 : ∀ j : Int, link_5 j = link_6 j) (hE_0_10_7 : ∀ j : Int, link_6 j = link_7 j) (hK_0_10 : ∀ j : Int, 0 ≤ j → j < 625 → (-1) ≤ link_0 j ∧ link_0 j ≤ 71) (kz_0_5 : 0 ≤ nodes_0 ∧ nodes_0 ≤ 25) (kz_0_6 : 0 ≤ edges_0 ∧ edges_0 ≤ 72) : NOK (nodes_0) (edges_0) (tail_0) (head_0) (near_0) := by
  subst fe_0_5_1
  subst fe_0_5_2
  subst fe_0_6_2
  subst fe_0_5_3
  subst fe_0_6_3
  subst fe_0_5_4
  subst fe_0_6_4
  subst fe_0_5_5
  subst fe_0_6_5
  subst fe_0_5_6
  subst fe_0_6_6
  subst fe_0_5_7
  subst fe_0_6_7
  have e_hE_0_7_1 := funext hE_0_7_1; subst e_hE_0_7_1
  have e_hE_0_7_2 := funext hE_0_7_2; subst e_hE_0_7_2
  have e_hE_0_7_3 := funext hE_0_7_3; subst e_hE_0_7_3
  have e_hE_0_7_4 := funext hE_0_7_4; subst e_hE_0_7_4
  have e_hE_0_7_5 := funext hE_0_7_5; subst e_hE_0_7_5
  have e_hE_0_7_6 := funext hE_0_7_6; subst e_hE_0_7_6
  have e_hE_0_8_1 := funext hE_0_8_1; subst e_hE_0_8_1
  have e_hE_0_8_2 := funext hE_0_8_2; subst e_hE_0_8_2
  have e_hE_0_8_3 := funext hE_0_8_3; subst e_hE_0_8_3
  have e_hE_0_8_4 := funext hE_0_8_4; subst e_hE_0_8_4
  have e_hE_0_8_5 := funext hE_0_8_5; subst e_hE_0_8_5
  have e_hE_0_8_7 := funext hE_0_8_7; subst e_hE_0_8_7
  have e_hE_0_9_1 := funext hE_0_9_1; subst e_hE_0_9_1
  have e_hE_0_9_4 := funext hE_0_9_4; subst e_hE_0_9_4
  have e_hE_0_9_5 := funext hE_0_9_5; subst e_hE_0_9_5
  have e_hE_0_9_6 := funext hE_0_9_6; subst e_hE_0_9_6
  have e_hE_0_9_7 := funext hE_0_9_7; subst e_hE_0_9_7
  have e_hE_0_10_1 := funext hE_0_10_1; subst e_hE_0_10_1
  have e_hE_0_10_2 := funext hE_0_10_2; subst e_hE_0_10_2
  have e_hE_0_10_3 := funext hE_0_10_3; subst e_hE_0_10_3
  have e_hE_0_10_6 := funext hE_0_10_6; subst e_hE_0_10_6
  have e_hE_0_10_7 := funext hE_0_10_7; subst e_hE_0_10_7
  first
    | assumption
    | (have o1 : x20 = 1 := by omega
       have o2 : x16 = 1 := by omega
       subst o1 o2
       exact nok_join (a := x1) (b := x2) (p1 := x3) (p2 := x3) (a1 := x1) (b1 := x2) (x1 := x15) (q1 := x17) (y1 := x18) (x2 := x19) (q2 := x21) (y2 := x22) (pa := x1) (pb := x2) ‹NOK _ _ _ _ _› (by omega) (by omega) (by omega) (by omega) (by omega) (by omega) (by omega) (by assumption) (by omega) rfl (by assumption) (by omega) rfl (by assumption) (by assumption) (by assumption) (by assumption) rfl (by assumption) (by assumption) (by assumption) (by assumption) rfl (by omega))
    | (have o1 : x21 = 1 := by omega
       have o2 : x17 = 1 := by omega
       subst o1 o2
       exact nok_join (a := x1) (b := x2) (p1 := x4) (p2 := x4) (a1 := x1) (b1 := x2) (x1 := x16) (q1 := x18) (y1 := x19) (x2 := x20) (q2 := x22) (y2 := x23) (pa := x1) (pb := x2) ‹NOK _ _ _ _ _› (by omega) (by omega) (by omega) (by omega) (by omega) (by omega) (by omega) (by assumption) (by omega) rfl (by assumption) (by omega) rfl (by assumption) (by assumption) (by assumption) (by assumption) rfl (by assumption) (by assumption) (by assumption) (by assumption) rfl (by omega))
    | exact nok_join ‹NOK _ _ _ _ _› (by omega) (by omega) (by omega) (by omega) (by omega) (by omega) (by omega) (by assumption) (by omega) rfl (by assumption) (by omega) rfl (by assumption) (by assumption) (by assumption) (by assumption) rfl (by assumption) (by assumption) (by assumption) (by assumption) rfl (by omega)
  
set_option maxHeartbeats 4000000 in
theorem vc_Ne_join_at_Np_gk_0_1 (x1 : Int) (x2 : Int) (x3 : Int) (x4 : Int) (x5 : Int) (x11 : Int) (x14 : Int) (x16 : Int) (x17 : Int) (x18 : Int) (x19 : Int) (x20 : Int) (x21 : Int) (x22 : Int) (x23 : Int) (x24 : Int) (x25 : Int) (edges_0 : Int) (nodes_0 : Int) (edges_1 : Int) (nodes_1 : Int) (near_2 : Int → Int) (nodes_2 : Int) (edges_2 : Int) (near_3 : Int → Int) (nodes_3 : Int) (edges_3 : Int) (nodes_4 : Int) (edges_4 : Int) (nodes_5 : Int) (edges_5 : Int) (nodes_6 : Int) (edges_6 : Int) (tail_7 : Int → Int) (head_7 : Int → Int) (near_7 : Int → Int) (nodes_7 : Int) (edges_7 : Int) (tail_0 : Int → Int) (tail_1 : Int → Int) (tail_2 : Int → Int) (tail_3 : Int → Int) (tail_4 : Int → Int) (tail_5 : Int → Int) (tail_6 : Int → Int) (head_0 : Int → Int) (head_1 : Int → Int) (head_2 : Int → Int) (head_3 : Int → Int) (head_4 : Int → Int) (head_5 : Int → Int) (head_6 : Int → Int) (near_0 : Int → Int) (near_1 : Int → Int) (near_4 : Int → Int) (near_5 : Int → Int) (near_6 : Int → Int) (link_0 : Int → Int) (link_1 : Int → Int) (link_2 : Int → Int) (link_3 : Int → Int) (link_4 : Int → Int) (link_5 : Int → Int) (link_6 : Int → Int) (link_7 : Int → Int) (k1 : 0 ≤ x1 ∧ x1 ≤ 23) (k2 : 0 ≤ x2 ∧ x2 ≤ 24) (k3 : 0 ≤ x3 ∧ x3 ≤ 72) (k4 : 0 ≤ x4 ∧ x4 ≤ 71) (k5 : 72 ≤ x5 ∧ x5 ≤ 72) (k11 : 0 ≤ x11 ∧ x11 ≤ 599) (k14 : 0 ≤ x14 ∧ x14 ≤ 623) (k16 : 0 ≤ x16 ∧ x16 ≤ 33554431) (k17 : 1 ≤ x17 ∧ x17 ≤ 1) (k18 : 1 ≤ x18 ∧ x18 ≤ 16777216) (k19 : 0 ≤ x19 ∧ x19 ≤ 33554431) (k20 : 0 ≤ x20 ∧ x20 ≤ 33554431) (k21 : 1 ≤ x21 ∧ x21 ≤ 1) (k22 : 1 ≤ x22 ∧ x22 ≤ 8388608) (k23 : 0 ≤ x23 ∧ x23 ≤ 33554431) (k24 : 1 ≤ x24 ∧ x24 ≤ 1) (k25 : 1 ≤ x25 ∧ x25 ≤ 72) (d0 : x4 + 1 ≤ x25 ∧ x25 ≤ x4 + 1) (d1 : x1 + 0 ≤ x14 ∧ x14 ≤ x1 + 600) (d2 : x2 + 0 ≤ x11 ∧ x11 ≤ x2 + 575) (g0 : x25 = edges_0) (f5 : (0 ≤ x1) ∧ ((x1 + 1) ≤ nodes_0)) (f6 : (0 ≤ x2) ∧ ((x2 + 1) ≤ nodes_0)) (f7 : x1 ≠ x2) (f9 : x25 = x4 + x24) (g10 : x4 = edges_1) (f11 : (0 ≤ x1) ∧ ((x1 + 1) ≤ nodes_1)) (f12 : (0 ≤ x2) ∧ ((x2 + 1) ≤ nodes_1)) (f13 : x1 ≠ x2) (f14 : edges_1 = x3) (f16 : x23 ≤ x20 + x22 ∧ x20 ≤ x23 ∧ x22 ≤ x23) (f17 : bvp (x23) = bvp (x20) ||| bvp (x22)) (f18 : bvp (x22) = bvp (x21) <<< (x1).toNat) (h19 : x20 = near_2 (x2)) (f20 : (0 ≤ x1) ∧ ((x1 + 1) ≤ nodes_2)) (f21 : (0 ≤ x2) ∧ ((x2 + 1) ≤ nodes_2)) (f22 : x1 ≠ x2) (f23 : edges_2 = x3) (f25 : x19 ≤ x16 + x18 ∧ x16 ≤ x19 ∧ x18 ≤ x19) (f26 : bvp (x19) = bvp (x16) ||| bvp (x18)) (f27 : bvp (x18) = bvp (x17) <<< (x2).toNat) (h28 : x16 = near_3 (x1)) (f29 : (0 ≤ x1) ∧ ((x1 + 1) ≤ nodes_3)) (f30 : (0 ≤ x2) ∧ ((x2 + 1) ≤ nodes_3)) (f31 : x1 ≠ x2) (f32 : edges_3 = x3) (f34 : (0 ≤ x1) ∧ ((x1 + 1) ≤ nodes_4)) (f35 : (0 ≤ x2) ∧ ((x2 + 1) ≤ nodes_4)) (f36 : x1 ≠ x2) (f37 : edges_4 = x3) (f39 : (0 ≤ x1) ∧ ((x1 + 1) ≤ nodes_5)) (f40 : (0 ≤ x2) ∧ ((x2 + 1) ≤ nodes_5)) (f41 : x1 ≠ x2) (f42 : edges_5 = x3) (f44 : (0 ≤ x1) ∧ ((x1 + 1) ≤ nodes_6)) (f45 : (0 ≤ x2) ∧ ((x2 + 1) ≤ nodes_6)) (f46 : x1 ≠ x2) (f47 : edges_6 = x3) (f49 : x4 < x5) (f50 : NOK (nodes_7) (edges_7) (tail_7) (head_7) (near_7)) (f51 : (0 ≤ x1) ∧ ((x1 + 1) ≤ nodes_7)) (f52 : (0 ≤ x2) ∧ ((x2 + 1) ≤ nodes_7)) (f53 : x1 ≠ x2) (f54 : edges_7 = x3) (fe_0_5_1 : nodes_0 = nodes_1) (fe_0_6_1 : edges_0 = x25) (fe_0_5_2 : nodes_1 = nodes_2) (fe_0_6_2 : edges_1 = edges_2) (fe_0_5_3 : nodes_2 = nodes_3) (fe_0_6_3 : edges_2 = edges_3) (fe_0_5_4 : nodes_3 = nodes_4) (fe_0_6_4 : edges_3 = edges_4) (fe_0_5_5 : nodes_4 = nodes_5) (fe_0_6_5 : edges_4 = edges_5) (fe_0_5_6 : nodes_5 = nodes_6) (fe_0_6_6 : edges_5 = edges_6) (fe_0_5_7 : nodes_6 = nodes_7) (fe_0_6_7 : edges_6 = edges_7) (hE_0_7_1 : ∀ j : Int, tail_0 j = tail_1 j) (hE_0_7_2 : ∀ j : Int, tail_1 j = tail_2 j) (hE_0_7_3 : ∀ j : Int, tail_2 j = tail_3 j) (hE_0_7_4 : ∀ j : Int, tail_3 j = tail_4 j) (hE_0_7_5 : ∀ j : Int, tail_4 j = tail_5 j) (hE_0_7_6 : ∀ j : Int, tail_5 j = tail_6 j) (hE_0_7_7 : ∀ j : Int, 0 ≤ j → (j = x4 → tail_6 j = x1) ∧ (j ≠ x4 → tail_6 j = tail_7 j)) (hK_0_7 : ∀ j : Int, 0 ≤ j → j < 72 → 0 ≤ tail_0 j ∧ tail_0 j ≤ 24) (hE_0_8_1 : ∀ j : Int, head_0 j = head_1 j) (hE_0_8_2 : ∀ j : Int, head_1 j = head_2 j) (hE_0_8_3 : ∀ j : Int, head_2 j = head_3 j) (hE_0_8_4 : ∀ j : Int, head_3 j = head_4 j) (hE_0_8_5 : ∀ j : Int, head_4 j = head_5 j) (hE_0_8_6 : ∀ j : Int, 0 ≤ j → (j = x4 → head_5 j = x2) ∧ (j ≠ x4 → head_5 j = head_6 j)) (hE_0_8_7 : ∀ j : Int, head_6 j = head_7 j) (hK_0_8 : ∀ j : Int, 0 ≤ j → j < 72 → 0 ≤ head_0 j ∧ head_0 j ≤ 24) (hE_0_9_1 : ∀ j : Int, near_0 j = near_1 j) (hE_0_9_2 : ∀ j : Int, 0 ≤ j → (j = x2 → near_1 j = x23) ∧ (j ≠ x2 → near_1 j = near_2 j)) (hE_0_9_3 : ∀ j : Int, 0 ≤ j → (j = x1 → near_2 j = x19) ∧ (j ≠ x1 → near_2 j = near_3 j)) (hE_0_9_4 : ∀ j : Int, near_3 j = near_4 j) (hE_0_9_5 : ∀ j : Int, near_4 j = near_5 j) (hE_0_9_6 : ∀ j : Int, near_5 j = near_6 j) (hE_0_9_7 : ∀ j : Int, near_6 j = near_7 j) (hK_0_9 : ∀ j : Int, 0 ≤ j → j < 25 → 0 ≤ near_0 j ∧ near_0 j ≤ 33554431) (hE_0_10_1 : ∀ j : Int, link_0 j = link_1 j) (hE_0_10_2 : ∀ j : Int, link_1 j = link_2 j) (hE_0_10_3 : ∀ j : Int, link_2 j = link_3 j) (hE_0_10_4 : ∀ j : Int, 0 ≤ j → (j = x14 → link_3 j = x4) ∧ (j ≠ x14 → link_3 j = link_4 j)) (hE_0_10_5 : ∀ j : Int, 0 ≤ j → (j = x11 → link_4 j = x4) ∧ (j ≠ x11 → link_4 j = link_5 j)) (hE_0_10_6 : ∀ j : Int, link_5 j = link_6 j) (hE_0_10_7 : ∀ j : Int, link_6 j = link_7 j) (hK_0_10 : ∀ j : Int, 0 ≤ j → j < 625 → (-1) ≤ link_0 j ∧ link_0 j ≤ 71) (kz_0_5 : 0 ≤ nodes_0 ∧ nodes_0 ≤ 25) (kz_0_6 : 0 ≤ edges_0 ∧ edges_0 ≤ 72) : (72 ≤ x3) ∨ (edges_0 = (x3 + 1)) := by
  subst fe_0_5_1
  subst fe_0_5_2
  subst fe_0_6_2
  subst fe_0_5_3
  subst fe_0_6_3
  subst fe_0_5_4
  subst fe_0_6_4
  subst fe_0_5_5
  subst fe_0_6_5
  subst fe_0_5_6
  subst fe_0_6_6
  subst fe_0_5_7
  subst fe_0_6_7
  have e_hE_0_7_1 := funext hE_0_7_1; subst e_hE_0_7_1
  have e_hE_0_7_2 := funext hE_0_7_2; subst e_hE_0_7_2
  have e_hE_0_7_3 := funext hE_0_7_3; subst e_hE_0_7_3
  have e_hE_0_7_4 := funext hE_0_7_4; subst e_hE_0_7_4
  have e_hE_0_7_5 := funext hE_0_7_5; subst e_hE_0_7_5
  have e_hE_0_7_6 := funext hE_0_7_6; subst e_hE_0_7_6
  have e_hE_0_8_1 := funext hE_0_8_1; subst e_hE_0_8_1
  have e_hE_0_8_2 := funext hE_0_8_2; subst e_hE_0_8_2
  have e_hE_0_8_3 := funext hE_0_8_3; subst e_hE_0_8_3
  have e_hE_0_8_4 := funext hE_0_8_4; subst e_hE_0_8_4
  have e_hE_0_8_5 := funext hE_0_8_5; subst e_hE_0_8_5
  have e_hE_0_8_7 := funext hE_0_8_7; subst e_hE_0_8_7
  have e_hE_0_9_1 := funext hE_0_9_1; subst e_hE_0_9_1
  have e_hE_0_9_4 := funext hE_0_9_4; subst e_hE_0_9_4
  have e_hE_0_9_5 := funext hE_0_9_5; subst e_hE_0_9_5
  have e_hE_0_9_6 := funext hE_0_9_6; subst e_hE_0_9_6
  have e_hE_0_9_7 := funext hE_0_9_7; subst e_hE_0_9_7
  have e_hE_0_10_1 := funext hE_0_10_1; subst e_hE_0_10_1
  have e_hE_0_10_2 := funext hE_0_10_2; subst e_hE_0_10_2
  have e_hE_0_10_3 := funext hE_0_10_3; subst e_hE_0_10_3
  have e_hE_0_10_6 := funext hE_0_10_6; subst e_hE_0_10_6
  have e_hE_0_10_7 := funext hE_0_10_7; subst e_hE_0_10_7
  first
    | omega
  
def o_Ne_join_at_Np_gk_0 : or_T := (89, 26, [(0, (2, 0, 0, [149])), (1, (0, 0, 23, [])), (2, (0, 0, 24, [])), (3, (0, 0, 72, [])), (4, (0, 0, 71, [])), (5, (0, 72, 72, [])), (6, (2, 0, 0, [140])), (7, (2, 0, 0, [141])), (8, (2, 0, 0, [143])), (11, (0, 0, 599, [])), (14, (0, 0, 623, [])), (15, (2, 0, 0, [142])), (16, (0, 0, 33554431, [])), (17, (0, 1, 1, [])), (18, (0, 1, 16777216, [])), (19, (0, 0, 33554431, [])), (20, (0, 0, 33554431, [])), (21, (0, 1, 1, [])), (22, (0, 1, 8388608, [])), (23, (0, 0, 33554431, [])), (24, (0, 1, 1, [])), (25, (0, 1, 72, []))], [(9, [25, 0], [6]), (9, [15, 0], [9]), (9, [8, 0], [10]), (9, [7, 0], [8]), (9, [6, 0], [7]), (20, [1, 0], [50, 1, 0, 1005, 2, 6, 0, 2, 0, 0, 1, 0, 0, 6, 4, 2, 1, 0, 0, 1, 2, 1, 5]), (20, [2, 0], [50, 1, 0, 1005, 2, 6, 0, 2, 0, 0, 1, 0, 0, 6, 4, 2, 1, 0, 0, 1, 2, 1, 5]), (20, [1, 2], [50, 0, 0, 7, 2, 1, 0, 1, 1]), (101, [0, 25], [6]), (1, [25, 4, 24], []), (9, [4, 0], [6]), (20, [1, 0], [50, 1, 0, 1005, 2, 6, 0, 2, 0, 0, 1, 0, 0, 6, 4, 2, 1, 0, 0, 1, 2, 1, 5]), (20, [2, 0], [50, 1, 0, 1005, 2, 6, 0, 2, 0, 0, 1, 0, 0, 6, 4, 2, 1, 0, 0, 1, 2, 1, 5]), (20, [1, 2], [50, 0, 0, 7, 2, 1, 0, 1, 1]), (20, [0, 3], [50, 1, 0, 6, 1, 3, 2, 0, 6, 1, 1]), (100, [15, 2, 23], []), (13, [23, 20, 22], []), (16, [23, 20, 22], [1]), (16, [22, 21, 1], [3]), (10, [20, 15, 2], []), (20, [1, 0], [50, 1, 0, 1005, 2, 6, 0, 2, 0, 0, 1, 0, 0, 6, 4, 2, 1, 0, 0, 1, 2, 1, 5]), (20, [2, 0], [50, 1, 0, 1005, 2, 6, 0, 2, 0, 0, 1, 0, 0, 6, 4, 2, 1, 0, 0, 1, 2, 1, 5]), (20, [1, 2], [50, 0, 0, 7, 2, 1, 0, 1, 1]), (20, [0, 3], [50, 1, 0, 6, 1, 3, 2, 0, 6, 1, 1]), (100, [15, 1, 19], []), (13, [19, 16, 18], []), (16, [19, 16, 18], [1]), (16, [18, 17, 2], [3]), (10, [16, 15, 1], []), (20, [1, 0], [50, 1, 0, 1005, 2, 6, 0, 2, 0, 0, 1, 0, 0, 6, 4, 2, 1, 0, 0, 1, 2, 1, 5]), (20, [2, 0], [50, 1, 0, 1005, 2, 6, 0, 2, 0, 0, 1, 0, 0, 6, 4, 2, 1, 0, 0, 1, 2, 1, 5]), (20, [1, 2], [50, 0, 0, 7, 2, 1, 0, 1, 1]), (20, [0, 3], [50, 1, 0, 6, 1, 3, 2, 0, 6, 1, 1]), (100, [8, 14, 4], []), (20, [1, 0], [50, 1, 0, 1005, 2, 6, 0, 2, 0, 0, 1, 0, 0, 6, 4, 2, 1, 0, 0, 1, 2, 1, 5]), (20, [2, 0], [50, 1, 0, 1005, 2, 6, 0, 2, 0, 0, 1, 0, 0, 6, 4, 2, 1, 0, 0, 1, 2, 1, 5]), (20, [1, 2], [50, 0, 0, 7, 2, 1, 0, 1, 1]), (20, [0, 3], [50, 1, 0, 6, 1, 3, 2, 0, 6, 1, 1]), (100, [8, 11, 4], []), (20, [1, 0], [50, 1, 0, 1005, 2, 6, 0, 2, 0, 0, 1, 0, 0, 6, 4, 2, 1, 0, 0, 1, 2, 1, 5]), (20, [2, 0], [50, 1, 0, 1005, 2, 6, 0, 2, 0, 0, 1, 0, 0, 6, 4, 2, 1, 0, 0, 1, 2, 1, 5]), (20, [1, 2], [50, 0, 0, 7, 2, 1, 0, 1, 1]), (20, [0, 3], [50, 1, 0, 6, 1, 3, 2, 0, 6, 1, 1]), (100, [7, 4, 2], []), (20, [1, 0], [50, 1, 0, 1005, 2, 6, 0, 2, 0, 0, 1, 0, 0, 6, 4, 2, 1, 0, 0, 1, 2, 1, 5]), (20, [2, 0], [50, 1, 0, 1005, 2, 6, 0, 2, 0, 0, 1, 0, 0, 6, 4, 2, 1, 0, 0, 1, 2, 1, 5]), (20, [1, 2], [50, 0, 0, 7, 2, 1, 0, 1, 1]), (20, [0, 3], [50, 1, 0, 6, 1, 3, 2, 0, 6, 1, 1]), (100, [6, 4, 1], []), (7, [4, 5], [2]), (20, [0], [60, 2, 3, 595, 5, 6, 7, 8, 9]), (20, [1, 0], [50, 1, 0, 1005, 2, 6, 0, 2, 0, 0, 1, 0, 0, 6, 4, 2, 1, 0, 0, 1, 2, 1, 5]), (20, [2, 0], [50, 1, 0, 1005, 2, 6, 0, 2, 0, 0, 1, 0, 0, 6, 4, 2, 1, 0, 0, 1, 2, 1, 5]), (20, [1, 2], [50, 0, 0, 7, 2, 1, 0, 1, 1]), (20, [0, 3], [50, 1, 0, 6, 1, 3, 2, 0, 6, 1, 1])], [], [], [(20, [0], [60, 2, 3, 595, 5, 6, 7, 8, 9]), (20, [3, 0], [50, 1, 0, 1006, 3, 6, 0, 2, 0, 72, 1, 0, 1, 3, 2, 1, 6, 4, 2, 1, 0, 0, 1])], [], [(25, 4, 1, 1), (14, 1, 0, 600), (11, 2, 0, 575)])
theorem oo_Ne_join_at_Np_gk_0 {kA : Nat → ClassId} : or_ok PRD kA GG o_Ne_join_at_Np_gk_0 := by
  refine or_mk fun A ta ws vs hD hth hl => ?_
  intro t0 r0 t1 k1 t2 k2 t3 k3 t4 k4 t5 k5 t6 r6 t7 r7 t8 r8 t11 k11 t14 k14 t15 r15 t16 k16 t17 k17 t18 k18 t19 k19 t20 k20 t21 k21 t22 k22 t23 k23 t24 k24 t25 k25 d0 d1 d2 f0 f1 f2 f3 f4 f5 f6 f7 ta1 w1 le1 s1 f9 f10 f11 f12 f13 f14 ta2 w2 le2 s2 f16 f17 f18 f19 f20 f21 f22 f23 ta3 w3 le3 s3 f25 f26 f27 f28 f29 f30 f31 f32 ta4 w4 le4 s4 f34 f35 f36 f37 ta5 w5 le5 s5 f39 f40 f41 f42 ta6 w6 le6 s6 f44 f45 f46 f47 ta7 w7 le7 s7 f49 f50 f51 f52 f53 f54
  replace f0 := shm_111 f0
  replace f1 := shm_119 f1
  replace f2 := shm_106 f2
  replace f3 := shm_293 f3
  replace f4 := shm_198 f4
  have s1 : (∀ b j, w_el ws b j = w_el w1 b j) ∧ ∀ b j, w_fd ws b j = if b = v_ad (n_v vs 0) ∧ j = 6 then n_v vs 25 else w_fd w1 b j := s1.2
  replace f10 := shm_111 f10
  have s2 : (∀ b j, w_el w1 b j = if b = v_ad (n_v vs 15) ∧ j = (v_iv (n_v vs 2)).toNat then v_iv (n_v vs 23) else w_el w2 b j) ∧ ∀ b k, w_fd w1 b k = w_fd w2 b k := s2.2
  have f16 : v_iv (n_v vs 23) ≤ v_iv (n_v vs 20) + v_iv (n_v vs 22) ∧ v_iv (n_v vs 20) ≤ v_iv (n_v vs 23) ∧ v_iv (n_v vs 22) ≤ v_iv (n_v vs 23) := (fun (h : v_iv (n_v vs 23) ≤ v_iv (n_v vs 20) + v_iv (n_v vs 22) ∧ v_iv (n_v vs 20) ≤ v_iv (n_v vs 23) ∧ v_iv (n_v vs 22) ≤ v_iv (n_v vs 23) ∧ (v_iv (n_v vs 23)).toNat = (v_iv (n_v vs 20)).toNat ||| (v_iv (n_v vs 22)).toNat) => ⟨h.1, h.2.1, h.2.2.1⟩) f16
  replace f19 := shm_107 f19
  have s3 : (∀ b j, w_el w2 b j = if b = v_ad (n_v vs 15) ∧ j = (v_iv (n_v vs 1)).toNat then v_iv (n_v vs 19) else w_el w3 b j) ∧ ∀ b k, w_fd w2 b k = w_fd w3 b k := s3.2
  have f25 : v_iv (n_v vs 19) ≤ v_iv (n_v vs 16) + v_iv (n_v vs 18) ∧ v_iv (n_v vs 16) ≤ v_iv (n_v vs 19) ∧ v_iv (n_v vs 18) ≤ v_iv (n_v vs 19) := (fun (h : v_iv (n_v vs 19) ≤ v_iv (n_v vs 16) + v_iv (n_v vs 18) ∧ v_iv (n_v vs 16) ≤ v_iv (n_v vs 19) ∧ v_iv (n_v vs 18) ≤ v_iv (n_v vs 19) ∧ (v_iv (n_v vs 19)).toNat = (v_iv (n_v vs 16)).toNat ||| (v_iv (n_v vs 18)).toNat) => ⟨h.1, h.2.1, h.2.2.1⟩) f25
  replace f28 := shm_107 f28
  have s4 : (∀ b j, w_el w3 b j = if b = v_ad (n_v vs 8) ∧ j = (v_iv (n_v vs 14)).toNat then v_iv (n_v vs 4) else w_el w4 b j) ∧ ∀ b k, w_fd w3 b k = w_fd w4 b k := s4.2
  have s5 : (∀ b j, w_el w4 b j = if b = v_ad (n_v vs 8) ∧ j = (v_iv (n_v vs 11)).toNat then v_iv (n_v vs 4) else w_el w5 b j) ∧ ∀ b k, w_fd w4 b k = w_fd w5 b k := s5.2
  have s6 : (∀ b j, w_el w5 b j = if b = v_ad (n_v vs 7) ∧ j = (v_iv (n_v vs 4)).toNat then v_iv (n_v vs 2) else w_el w6 b j) ∧ ∀ b k, w_fd w5 b k = w_fd w6 b k := s6.2
  have s7 : (∀ b j, w_el w6 b j = if b = v_ad (n_v vs 6) ∧ j = (v_iv (n_v vs 4)).toNat then v_iv (n_v vs 1) else w_el w7 b j) ∧ ∀ b k, w_fd w6 b k = w_fd w7 b k := s7.2
  replace f50 := shm_408 f50
  have ar_0_7_1 : w_ar w1 (n_v vs 0) 7 = w_ar ws (n_v vs 0) 7 := by show v_ad (w_fd w1 _ _) = v_ad (w_fd ws _ _); rw [s1.2, if_neg (fun e => absurd e.2 (by decide))]
  have ar_0_7_2 : w_ar w2 (n_v vs 0) 7 = w_ar ws (n_v vs 0) 7 := by rw [← ar_0_7_1]; show v_ad (w_fd w2 _ _) = v_ad (w_fd w1 _ _); rw [s2.2]
  have ar_0_7_3 : w_ar w3 (n_v vs 0) 7 = w_ar ws (n_v vs 0) 7 := by rw [← ar_0_7_2]; show v_ad (w_fd w3 _ _) = v_ad (w_fd w2 _ _); rw [s3.2]
  have ar_0_7_4 : w_ar w4 (n_v vs 0) 7 = w_ar ws (n_v vs 0) 7 := by rw [← ar_0_7_3]; show v_ad (w_fd w4 _ _) = v_ad (w_fd w3 _ _); rw [s4.2]
  have ar_0_7_5 : w_ar w5 (n_v vs 0) 7 = w_ar ws (n_v vs 0) 7 := by rw [← ar_0_7_4]; show v_ad (w_fd w5 _ _) = v_ad (w_fd w4 _ _); rw [s5.2]
  have ar_0_7_6 : w_ar w6 (n_v vs 0) 7 = w_ar ws (n_v vs 0) 7 := by rw [← ar_0_7_5]; show v_ad (w_fd w6 _ _) = v_ad (w_fd w5 _ _); rw [s6.2]
  have ar_0_7_7 : w_ar w7 (n_v vs 0) 7 = w_ar ws (n_v vs 0) 7 := by rw [← ar_0_7_6]; show v_ad (w_fd w7 _ _) = v_ad (w_fd w6 _ _); rw [s7.2]
  have cr_0_7 := fdq_60 hD hth r0
  have ar_0_8_1 : w_ar w1 (n_v vs 0) 8 = w_ar ws (n_v vs 0) 8 := by show v_ad (w_fd w1 _ _) = v_ad (w_fd ws _ _); rw [s1.2, if_neg (fun e => absurd e.2 (by decide))]
  have ar_0_8_2 : w_ar w2 (n_v vs 0) 8 = w_ar ws (n_v vs 0) 8 := by rw [← ar_0_8_1]; show v_ad (w_fd w2 _ _) = v_ad (w_fd w1 _ _); rw [s2.2]
  have ar_0_8_3 : w_ar w3 (n_v vs 0) 8 = w_ar ws (n_v vs 0) 8 := by rw [← ar_0_8_2]; show v_ad (w_fd w3 _ _) = v_ad (w_fd w2 _ _); rw [s3.2]
  have ar_0_8_4 : w_ar w4 (n_v vs 0) 8 = w_ar ws (n_v vs 0) 8 := by rw [← ar_0_8_3]; show v_ad (w_fd w4 _ _) = v_ad (w_fd w3 _ _); rw [s4.2]
  have ar_0_8_5 : w_ar w5 (n_v vs 0) 8 = w_ar ws (n_v vs 0) 8 := by rw [← ar_0_8_4]; show v_ad (w_fd w5 _ _) = v_ad (w_fd w4 _ _); rw [s5.2]
  have ar_0_8_6 : w_ar w6 (n_v vs 0) 8 = w_ar ws (n_v vs 0) 8 := by rw [← ar_0_8_5]; show v_ad (w_fd w6 _ _) = v_ad (w_fd w5 _ _); rw [s6.2]
  have ar_0_8_7 : w_ar w7 (n_v vs 0) 8 = w_ar ws (n_v vs 0) 8 := by rw [← ar_0_8_6]; show v_ad (w_fd w7 _ _) = v_ad (w_fd w6 _ _); rw [s7.2]
  have cr_0_8 := fdq_61 hD hth r0
  have ar_0_9_1 : w_ar w1 (n_v vs 0) 9 = w_ar ws (n_v vs 0) 9 := by show v_ad (w_fd w1 _ _) = v_ad (w_fd ws _ _); rw [s1.2, if_neg (fun e => absurd e.2 (by decide))]
  have ar_0_9_2 : w_ar w2 (n_v vs 0) 9 = w_ar ws (n_v vs 0) 9 := by rw [← ar_0_9_1]; show v_ad (w_fd w2 _ _) = v_ad (w_fd w1 _ _); rw [s2.2]
  have ar_0_9_3 : w_ar w3 (n_v vs 0) 9 = w_ar ws (n_v vs 0) 9 := by rw [← ar_0_9_2]; show v_ad (w_fd w3 _ _) = v_ad (w_fd w2 _ _); rw [s3.2]
  have ar_0_9_4 : w_ar w4 (n_v vs 0) 9 = w_ar ws (n_v vs 0) 9 := by rw [← ar_0_9_3]; show v_ad (w_fd w4 _ _) = v_ad (w_fd w3 _ _); rw [s4.2]
  have ar_0_9_5 : w_ar w5 (n_v vs 0) 9 = w_ar ws (n_v vs 0) 9 := by rw [← ar_0_9_4]; show v_ad (w_fd w5 _ _) = v_ad (w_fd w4 _ _); rw [s5.2]
  have ar_0_9_6 : w_ar w6 (n_v vs 0) 9 = w_ar ws (n_v vs 0) 9 := by rw [← ar_0_9_5]; show v_ad (w_fd w6 _ _) = v_ad (w_fd w5 _ _); rw [s6.2]
  have ar_0_9_7 : w_ar w7 (n_v vs 0) 9 = w_ar ws (n_v vs 0) 9 := by rw [← ar_0_9_6]; show v_ad (w_fd w7 _ _) = v_ad (w_fd w6 _ _); rw [s7.2]
  have cr_0_9 := fdq_83 hD hth r0
  have cr_0_10 := fdq_84 hD hth r0
  have ad_15 : v_ad (n_v vs 15) = w_ar ws (n_v vs 0) 9 := congrArg v_ad f1
  have ad_8 : v_ad (n_v vs 8) = w_ar ws (n_v vs 0) 10 := congrArg v_ad f2
  have ad_7 : v_ad (n_v vs 7) = w_ar ws (n_v vs 0) 8 := congrArg v_ad f3
  have ad_6 : v_ad (n_v vs 6) = w_ar ws (n_v vs 0) 7 := congrArg v_ad f4
  have g0 : v_iv (n_v vs 25) = w_fi ws (n_v vs 0) 6 := congrArg v_iv f0
  have g10 : v_iv (n_v vs 4) = w_fi w1 (n_v vs 0) 6 := congrArg v_iv f10
  simp only [ad_15] at f19
  have h19 : v_iv (n_v vs 20) = w_ei w2 (w_ar ws (n_v vs 0) 9) (v_iv (n_v vs 2)) := f19
  simp only [ad_15] at f28
  have h28 : v_iv (n_v vs 16) = w_ei w3 (w_ar ws (n_v vs 0) 9) (v_iv (n_v vs 1)) := f28
  simp only [ar_0_7_7, ar_0_8_7, ar_0_9_7] at f50
  have fe_0_5_1 : w_fi ws (n_v vs 0) 5 = w_fi w1 (n_v vs 0) 5 := by show v_iv (w_fd _ _ _) = v_iv (w_fd _ _ _); rw [s1.2, if_neg (fun e => absurd e.2 (by decide))]
  have fe_0_6_1 : w_fi ws (n_v vs 0) 6 = v_iv (n_v vs 25) := by show v_iv (w_fd _ _ _) = _; rw [s1.2, if_pos ⟨rfl, rfl⟩]
  have fe_0_5_2 : w_fi w1 (n_v vs 0) 5 = w_fi w2 (n_v vs 0) 5 := congrArg v_iv (s2.2 _ _)
  have fe_0_6_2 : w_fi w1 (n_v vs 0) 6 = w_fi w2 (n_v vs 0) 6 := congrArg v_iv (s2.2 _ _)
  have fe_0_5_3 : w_fi w2 (n_v vs 0) 5 = w_fi w3 (n_v vs 0) 5 := congrArg v_iv (s3.2 _ _)
  have fe_0_6_3 : w_fi w2 (n_v vs 0) 6 = w_fi w3 (n_v vs 0) 6 := congrArg v_iv (s3.2 _ _)
  have fe_0_5_4 : w_fi w3 (n_v vs 0) 5 = w_fi w4 (n_v vs 0) 5 := congrArg v_iv (s4.2 _ _)
  have fe_0_6_4 : w_fi w3 (n_v vs 0) 6 = w_fi w4 (n_v vs 0) 6 := congrArg v_iv (s4.2 _ _)
  have fe_0_5_5 : w_fi w4 (n_v vs 0) 5 = w_fi w5 (n_v vs 0) 5 := congrArg v_iv (s5.2 _ _)
  have fe_0_6_5 : w_fi w4 (n_v vs 0) 6 = w_fi w5 (n_v vs 0) 6 := congrArg v_iv (s5.2 _ _)
  have fe_0_5_6 : w_fi w5 (n_v vs 0) 5 = w_fi w6 (n_v vs 0) 5 := congrArg v_iv (s6.2 _ _)
  have fe_0_6_6 : w_fi w5 (n_v vs 0) 6 = w_fi w6 (n_v vs 0) 6 := congrArg v_iv (s6.2 _ _)
  have fe_0_5_7 : w_fi w6 (n_v vs 0) 5 = w_fi w7 (n_v vs 0) 5 := congrArg v_iv (s7.2 _ _)
  have fe_0_6_7 : w_fi w6 (n_v vs 0) 6 = w_fi w7 (n_v vs 0) 6 := congrArg v_iv (s7.2 _ _)
  have hE_0_7_1 : ∀ j : Int, w_ei ws (w_ar ws (n_v vs 0) 7) j = w_ei w1 (w_ar ws (n_v vs 0) 7) j := fun j => s1.1 _ _
  have hE_0_7_2 : ∀ j : Int, w_ei w1 (w_ar ws (n_v vs 0) 7) j = w_ei w2 (w_ar ws (n_v vs 0) 7) j := el_kp s2.1 r15 cr_0_7 (by decide)
  have hE_0_7_3 : ∀ j : Int, w_ei w2 (w_ar ws (n_v vs 0) 7) j = w_ei w3 (w_ar ws (n_v vs 0) 7) j := el_kp s3.1 r15 cr_0_7 (by decide)
  have hE_0_7_4 : ∀ j : Int, w_ei w3 (w_ar ws (n_v vs 0) 7) j = w_ei w4 (w_ar ws (n_v vs 0) 7) j := el_kp s4.1 r8 cr_0_7 (by decide)
  have hE_0_7_5 : ∀ j : Int, w_ei w4 (w_ar ws (n_v vs 0) 7) j = w_ei w5 (w_ar ws (n_v vs 0) 7) j := el_kp s5.1 r8 cr_0_7 (by decide)
  have hE_0_7_6 : ∀ j : Int, w_ei w5 (w_ar ws (n_v vs 0) 7) j = w_ei w6 (w_ar ws (n_v vs 0) 7) j := el_kp s6.1 r7 cr_0_7 (by decide)
  have hE_0_7_7 : ∀ j : Int, 0 ≤ j → (j = v_iv (n_v vs 4) → w_ei w6 (w_ar ws (n_v vs 0) 7) j = v_iv (n_v vs 1)) ∧ (j ≠ v_iv (n_v vs 4) → w_ei w6 (w_ar ws (n_v vs 0) 7) j = w_ei w7 (w_ar ws (n_v vs 0) 7) j) := fun j hj => ⟨fun h => by unfold w_ei; rw [s7.1, if_pos ⟨ad_6.symm, by rw [h]⟩], fun h => by unfold w_ei; rw [s7.1, if_neg (fun e => h (by have := e.2; omega))]⟩
  have hK_0_7 := elq_21 hD hth cr_0_7
  have hE_0_8_1 : ∀ j : Int, w_ei ws (w_ar ws (n_v vs 0) 8) j = w_ei w1 (w_ar ws (n_v vs 0) 8) j := fun j => s1.1 _ _
  have hE_0_8_2 : ∀ j : Int, w_ei w1 (w_ar ws (n_v vs 0) 8) j = w_ei w2 (w_ar ws (n_v vs 0) 8) j := el_kp s2.1 r15 cr_0_8 (by decide)
  have hE_0_8_3 : ∀ j : Int, w_ei w2 (w_ar ws (n_v vs 0) 8) j = w_ei w3 (w_ar ws (n_v vs 0) 8) j := el_kp s3.1 r15 cr_0_8 (by decide)
  have hE_0_8_4 : ∀ j : Int, w_ei w3 (w_ar ws (n_v vs 0) 8) j = w_ei w4 (w_ar ws (n_v vs 0) 8) j := el_kp s4.1 r8 cr_0_8 (by decide)
  have hE_0_8_5 : ∀ j : Int, w_ei w4 (w_ar ws (n_v vs 0) 8) j = w_ei w5 (w_ar ws (n_v vs 0) 8) j := el_kp s5.1 r8 cr_0_8 (by decide)
  have hE_0_8_6 : ∀ j : Int, 0 ≤ j → (j = v_iv (n_v vs 4) → w_ei w5 (w_ar ws (n_v vs 0) 8) j = v_iv (n_v vs 2)) ∧ (j ≠ v_iv (n_v vs 4) → w_ei w5 (w_ar ws (n_v vs 0) 8) j = w_ei w6 (w_ar ws (n_v vs 0) 8) j) := fun j hj => ⟨fun h => by unfold w_ei; rw [s6.1, if_pos ⟨ad_7.symm, by rw [h]⟩], fun h => by unfold w_ei; rw [s6.1, if_neg (fun e => h (by have := e.2; omega))]⟩
  have hE_0_8_7 : ∀ j : Int, w_ei w6 (w_ar ws (n_v vs 0) 8) j = w_ei w7 (w_ar ws (n_v vs 0) 8) j := el_kp s7.1 r6 cr_0_8 (by decide)
  have hK_0_8 := elq_22 hD hth cr_0_8
  have hE_0_9_1 : ∀ j : Int, w_ei ws (w_ar ws (n_v vs 0) 9) j = w_ei w1 (w_ar ws (n_v vs 0) 9) j := fun j => s1.1 _ _
  have hE_0_9_2 : ∀ j : Int, 0 ≤ j → (j = v_iv (n_v vs 2) → w_ei w1 (w_ar ws (n_v vs 0) 9) j = v_iv (n_v vs 23)) ∧ (j ≠ v_iv (n_v vs 2) → w_ei w1 (w_ar ws (n_v vs 0) 9) j = w_ei w2 (w_ar ws (n_v vs 0) 9) j) := fun j hj => ⟨fun h => by unfold w_ei; rw [s2.1, if_pos ⟨ad_15.symm, by rw [h]⟩], fun h => by unfold w_ei; rw [s2.1, if_neg (fun e => h (by have := e.2; omega))]⟩
  have hE_0_9_3 : ∀ j : Int, 0 ≤ j → (j = v_iv (n_v vs 1) → w_ei w2 (w_ar ws (n_v vs 0) 9) j = v_iv (n_v vs 19)) ∧ (j ≠ v_iv (n_v vs 1) → w_ei w2 (w_ar ws (n_v vs 0) 9) j = w_ei w3 (w_ar ws (n_v vs 0) 9) j) := fun j hj => ⟨fun h => by unfold w_ei; rw [s3.1, if_pos ⟨ad_15.symm, by rw [h]⟩], fun h => by unfold w_ei; rw [s3.1, if_neg (fun e => h (by have := e.2; omega))]⟩
  have hE_0_9_4 : ∀ j : Int, w_ei w3 (w_ar ws (n_v vs 0) 9) j = w_ei w4 (w_ar ws (n_v vs 0) 9) j := el_kp s4.1 r8 cr_0_9 (by decide)
  have hE_0_9_5 : ∀ j : Int, w_ei w4 (w_ar ws (n_v vs 0) 9) j = w_ei w5 (w_ar ws (n_v vs 0) 9) j := el_kp s5.1 r8 cr_0_9 (by decide)
  have hE_0_9_6 : ∀ j : Int, w_ei w5 (w_ar ws (n_v vs 0) 9) j = w_ei w6 (w_ar ws (n_v vs 0) 9) j := el_kp s6.1 r7 cr_0_9 (by decide)
  have hE_0_9_7 : ∀ j : Int, w_ei w6 (w_ar ws (n_v vs 0) 9) j = w_ei w7 (w_ar ws (n_v vs 0) 9) j := el_kp s7.1 r6 cr_0_9 (by decide)
  have hK_0_9 := elq_27 hD hth cr_0_9
  have hE_0_10_1 : ∀ j : Int, w_ei ws (w_ar ws (n_v vs 0) 10) j = w_ei w1 (w_ar ws (n_v vs 0) 10) j := fun j => s1.1 _ _
  have hE_0_10_2 : ∀ j : Int, w_ei w1 (w_ar ws (n_v vs 0) 10) j = w_ei w2 (w_ar ws (n_v vs 0) 10) j := el_kp s2.1 r15 cr_0_10 (by decide)
  have hE_0_10_3 : ∀ j : Int, w_ei w2 (w_ar ws (n_v vs 0) 10) j = w_ei w3 (w_ar ws (n_v vs 0) 10) j := el_kp s3.1 r15 cr_0_10 (by decide)
  have hE_0_10_4 : ∀ j : Int, 0 ≤ j → (j = v_iv (n_v vs 14) → w_ei w3 (w_ar ws (n_v vs 0) 10) j = v_iv (n_v vs 4)) ∧ (j ≠ v_iv (n_v vs 14) → w_ei w3 (w_ar ws (n_v vs 0) 10) j = w_ei w4 (w_ar ws (n_v vs 0) 10) j) := fun j hj => ⟨fun h => by unfold w_ei; rw [s4.1, if_pos ⟨ad_8.symm, by rw [h]⟩], fun h => by unfold w_ei; rw [s4.1, if_neg (fun e => h (by have := e.2; omega))]⟩
  have hE_0_10_5 : ∀ j : Int, 0 ≤ j → (j = v_iv (n_v vs 11) → w_ei w4 (w_ar ws (n_v vs 0) 10) j = v_iv (n_v vs 4)) ∧ (j ≠ v_iv (n_v vs 11) → w_ei w4 (w_ar ws (n_v vs 0) 10) j = w_ei w5 (w_ar ws (n_v vs 0) 10) j) := fun j hj => ⟨fun h => by unfold w_ei; rw [s5.1, if_pos ⟨ad_8.symm, by rw [h]⟩], fun h => by unfold w_ei; rw [s5.1, if_neg (fun e => h (by have := e.2; omega))]⟩
  have hE_0_10_6 : ∀ j : Int, w_ei w5 (w_ar ws (n_v vs 0) 10) j = w_ei w6 (w_ar ws (n_v vs 0) 10) j := el_kp s6.1 r7 cr_0_10 (by decide)
  have hE_0_10_7 : ∀ j : Int, w_ei w6 (w_ar ws (n_v vs 0) 10) j = w_ei w7 (w_ar ws (n_v vs 0) 10) j := el_kp s7.1 r6 cr_0_10 (by decide)
  have hK_0_10 := elq_42 hD hth cr_0_10
  have kz_0_5 := fdq_85 hD hth r0
  have kz_0_6 := fdq_62 hD hth r0
  have nf0 : fc_1 PRD (20, [0], [60, 2, 3, 595, 5, 6, 7, 8, 9]) ws (vs) := ⟨nf_in hl rfl, sgq_408 (vc_Ne_join_at_Np_gk_0_0 (v_iv (n_v vs 1)) (v_iv (n_v vs 2)) (v_iv (n_v vs 3)) (v_iv (n_v vs 4)) (v_iv (n_v vs 5)) (v_iv (n_v vs 11)) (v_iv (n_v vs 14)) (v_iv (n_v vs 16)) (v_iv (n_v vs 17)) (v_iv (n_v vs 18)) (v_iv (n_v vs 19)) (v_iv (n_v vs 20)) (v_iv (n_v vs 21)) (v_iv (n_v vs 22)) (v_iv (n_v vs 23)) (v_iv (n_v vs 24)) (v_iv (n_v vs 25)) (w_fi ws (n_v vs 0) 6) (w_fi ws (n_v vs 0) 5) (w_fi w1 (n_v vs 0) 6) (w_fi w1 (n_v vs 0) 5) (w_ei w2 (w_ar ws (n_v vs 0) 9)) (w_fi w2 (n_v vs 0) 5) (w_fi w2 (n_v vs 0) 6) (w_ei w3 (w_ar ws (n_v vs 0) 9)) (w_fi w3 (n_v vs 0) 5) (w_fi w3 (n_v vs 0) 6) (w_fi w4 (n_v vs 0) 5) (w_fi w4 (n_v vs 0) 6) (w_fi w5 (n_v vs 0) 5) (w_fi w5 (n_v vs 0) 6) (w_fi w6 (n_v vs 0) 5) (w_fi w6 (n_v vs 0) 6) (w_ei w7 (w_ar ws (n_v vs 0) 7)) (w_ei w7 (w_ar ws (n_v vs 0) 8)) (w_ei w7 (w_ar ws (n_v vs 0) 9)) (w_fi w7 (n_v vs 0) 5) (w_fi w7 (n_v vs 0) 6) (w_ei ws (w_ar ws (n_v vs 0) 7)) (w_ei w1 (w_ar ws (n_v vs 0) 7)) (w_ei w2 (w_ar ws (n_v vs 0) 7)) (w_ei w3 (w_ar ws (n_v vs 0) 7)) (w_ei w4 (w_ar ws (n_v vs 0) 7)) (w_ei w5 (w_ar ws (n_v vs 0) 7)) (w_ei w6 (w_ar ws (n_v vs 0) 7)) (w_ei ws (w_ar ws (n_v vs 0) 8)) (w_ei w1 (w_ar ws (n_v vs 0) 8)) (w_ei w2 (w_ar ws (n_v vs 0) 8)) (w_ei w3 (w_ar ws (n_v vs 0) 8)) (w_ei w4 (w_ar ws (n_v vs 0) 8)) (w_ei w5 (w_ar ws (n_v vs 0) 8)) (w_ei w6 (w_ar ws (n_v vs 0) 8)) (w_ei ws (w_ar ws (n_v vs 0) 9)) (w_ei w1 (w_ar ws (n_v vs 0) 9)) (w_ei w4 (w_ar ws (n_v vs 0) 9)) (w_ei w5 (w_ar ws (n_v vs 0) 9)) (w_ei w6 (w_ar ws (n_v vs 0) 9)) (w_ei ws (w_ar ws (n_v vs 0) 10)) (w_ei w1 (w_ar ws (n_v vs 0) 10)) (w_ei w2 (w_ar ws (n_v vs 0) 10)) (w_ei w3 (w_ar ws (n_v vs 0) 10)) (w_ei w4 (w_ar ws (n_v vs 0) 10)) (w_ei w5 (w_ar ws (n_v vs 0) 10)) (w_ei w6 (w_ar ws (n_v vs 0) 10)) (w_ei w7 (w_ar ws (n_v vs 0) 10)) k1 k2 k3 k4 k5 k11 k14 k16 k17 k18 k19 k20 k21 k22 k23 k24 k25 d0 d1 d2 g0 (shm_405 f5) (shm_405 f6) (shm_406 f7) (shm_12 f9) g10 (shm_405 f11) (shm_405 f12) (shm_406 f13) (shm_407 f14) f16 (shm_354 f17) (shm_349 f18) h19 (shm_405 f20) (shm_405 f21) (shm_406 f22) (shm_407 f23) f25 (shm_354 f26) (shm_349 f27) h28 (shm_405 f29) (shm_405 f30) (shm_406 f31) (shm_407 f32) (shm_405 f34) (shm_405 f35) (shm_406 f36) (shm_407 f37) (shm_405 f39) (shm_405 f40) (shm_406 f41) (shm_407 f42) (shm_405 f44) (shm_405 f45) (shm_406 f46) (shm_407 f47) (shm_6 f49) f50 (shm_405 f51) (shm_405 f52) (shm_406 f53) (shm_407 f54) fe_0_5_1 fe_0_6_1 fe_0_5_2 fe_0_6_2 fe_0_5_3 fe_0_6_3 fe_0_5_4 fe_0_6_4 fe_0_5_5 fe_0_6_5 fe_0_5_6 fe_0_6_6 fe_0_5_7 fe_0_6_7 hE_0_7_1 hE_0_7_2 hE_0_7_3 hE_0_7_4 hE_0_7_5 hE_0_7_6 hE_0_7_7 hK_0_7 hE_0_8_1 hE_0_8_2 hE_0_8_3 hE_0_8_4 hE_0_8_5 hE_0_8_6 hE_0_8_7 hK_0_8 hE_0_9_1 hE_0_9_2 hE_0_9_3 hE_0_9_4 hE_0_9_5 hE_0_9_6 hE_0_9_7 hK_0_9 hE_0_10_1 hE_0_10_2 hE_0_10_3 hE_0_10_4 hE_0_10_5 hE_0_10_6 hE_0_10_7 hK_0_10 kz_0_5 kz_0_6)⟩
  have nf1 : fc_1 PRD (20, [3, 0], [50, 1, 0, 1006, 3, 6, 0, 2, 0, 72, 1, 0, 1, 3, 2, 1, 6, 4, 2, 1, 0, 0, 1]) ws (vs) := ⟨nf_in hl rfl, sgq_409 (vc_Ne_join_at_Np_gk_0_1 (v_iv (n_v vs 1)) (v_iv (n_v vs 2)) (v_iv (n_v vs 3)) (v_iv (n_v vs 4)) (v_iv (n_v vs 5)) (v_iv (n_v vs 11)) (v_iv (n_v vs 14)) (v_iv (n_v vs 16)) (v_iv (n_v vs 17)) (v_iv (n_v vs 18)) (v_iv (n_v vs 19)) (v_iv (n_v vs 20)) (v_iv (n_v vs 21)) (v_iv (n_v vs 22)) (v_iv (n_v vs 23)) (v_iv (n_v vs 24)) (v_iv (n_v vs 25)) (w_fi ws (n_v vs 0) 6) (w_fi ws (n_v vs 0) 5) (w_fi w1 (n_v vs 0) 6) (w_fi w1 (n_v vs 0) 5) (w_ei w2 (w_ar ws (n_v vs 0) 9)) (w_fi w2 (n_v vs 0) 5) (w_fi w2 (n_v vs 0) 6) (w_ei w3 (w_ar ws (n_v vs 0) 9)) (w_fi w3 (n_v vs 0) 5) (w_fi w3 (n_v vs 0) 6) (w_fi w4 (n_v vs 0) 5) (w_fi w4 (n_v vs 0) 6) (w_fi w5 (n_v vs 0) 5) (w_fi w5 (n_v vs 0) 6) (w_fi w6 (n_v vs 0) 5) (w_fi w6 (n_v vs 0) 6) (w_ei w7 (w_ar ws (n_v vs 0) 7)) (w_ei w7 (w_ar ws (n_v vs 0) 8)) (w_ei w7 (w_ar ws (n_v vs 0) 9)) (w_fi w7 (n_v vs 0) 5) (w_fi w7 (n_v vs 0) 6) (w_ei ws (w_ar ws (n_v vs 0) 7)) (w_ei w1 (w_ar ws (n_v vs 0) 7)) (w_ei w2 (w_ar ws (n_v vs 0) 7)) (w_ei w3 (w_ar ws (n_v vs 0) 7)) (w_ei w4 (w_ar ws (n_v vs 0) 7)) (w_ei w5 (w_ar ws (n_v vs 0) 7)) (w_ei w6 (w_ar ws (n_v vs 0) 7)) (w_ei ws (w_ar ws (n_v vs 0) 8)) (w_ei w1 (w_ar ws (n_v vs 0) 8)) (w_ei w2 (w_ar ws (n_v vs 0) 8)) (w_ei w3 (w_ar ws (n_v vs 0) 8)) (w_ei w4 (w_ar ws (n_v vs 0) 8)) (w_ei w5 (w_ar ws (n_v vs 0) 8)) (w_ei w6 (w_ar ws (n_v vs 0) 8)) (w_ei ws (w_ar ws (n_v vs 0) 9)) (w_ei w1 (w_ar ws (n_v vs 0) 9)) (w_ei w4 (w_ar ws (n_v vs 0) 9)) (w_ei w5 (w_ar ws (n_v vs 0) 9)) (w_ei w6 (w_ar ws (n_v vs 0) 9)) (w_ei ws (w_ar ws (n_v vs 0) 10)) (w_ei w1 (w_ar ws (n_v vs 0) 10)) (w_ei w2 (w_ar ws (n_v vs 0) 10)) (w_ei w3 (w_ar ws (n_v vs 0) 10)) (w_ei w4 (w_ar ws (n_v vs 0) 10)) (w_ei w5 (w_ar ws (n_v vs 0) 10)) (w_ei w6 (w_ar ws (n_v vs 0) 10)) (w_ei w7 (w_ar ws (n_v vs 0) 10)) k1 k2 k3 k4 k5 k11 k14 k16 k17 k18 k19 k20 k21 k22 k23 k24 k25 d0 d1 d2 g0 (shm_405 f5) (shm_405 f6) (shm_406 f7) (shm_12 f9) g10 (shm_405 f11) (shm_405 f12) (shm_406 f13) (shm_407 f14) f16 (shm_354 f17) (shm_349 f18) h19 (shm_405 f20) (shm_405 f21) (shm_406 f22) (shm_407 f23) f25 (shm_354 f26) (shm_349 f27) h28 (shm_405 f29) (shm_405 f30) (shm_406 f31) (shm_407 f32) (shm_405 f34) (shm_405 f35) (shm_406 f36) (shm_407 f37) (shm_405 f39) (shm_405 f40) (shm_406 f41) (shm_407 f42) (shm_405 f44) (shm_405 f45) (shm_406 f46) (shm_407 f47) (shm_6 f49) f50 (shm_405 f51) (shm_405 f52) (shm_406 f53) (shm_407 f54) fe_0_5_1 fe_0_6_1 fe_0_5_2 fe_0_6_2 fe_0_5_3 fe_0_6_3 fe_0_5_4 fe_0_6_4 fe_0_5_5 fe_0_6_5 fe_0_5_6 fe_0_6_6 fe_0_5_7 fe_0_6_7 hE_0_7_1 hE_0_7_2 hE_0_7_3 hE_0_7_4 hE_0_7_5 hE_0_7_6 hE_0_7_7 hK_0_7 hE_0_8_1 hE_0_8_2 hE_0_8_3 hE_0_8_4 hE_0_8_5 hE_0_8_6 hE_0_8_7 hK_0_8 hE_0_9_1 hE_0_9_2 hE_0_9_3 hE_0_9_4 hE_0_9_5 hE_0_9_6 hE_0_9_7 hK_0_9 hE_0_10_1 hE_0_10_2 hE_0_10_3 hE_0_10_4 hE_0_10_5 hE_0_10_6 hE_0_10_7 hK_0_10 kz_0_5 kz_0_6)⟩
  refine ⟨(fun _ h => (by cases h)), [], trivial, ?_, (fun _ h => (by cases h))⟩
  rw [List.append_nil]
  exact List.forall_mem_cons.mpr ⟨⟨show (20 : Nat) < 100 from by decide, nf0⟩, List.forall_mem_cons.mpr ⟨⟨show (20 : Nat) < 100 from by decide, nf1⟩, (fun _ h => (by cases h))⟩⟩
set_option maxHeartbeats 4000000 in
theorem vc_Ne_join_at_Np_gk_1_0 (x1 : Int) (x2 : Int) (x3 : Int) (x4 : Int) (x5 : Int) (edges_0 : Int) (tail_0 : Int → Int) (head_0 : Int → Int) (near_0 : Int → Int) (nodes_0 : Int) (k1 : 0 ≤ x1 ∧ x1 ≤ 23) (k2 : 0 ≤ x2 ∧ x2 ≤ 24) (k3 : 0 ≤ x3 ∧ x3 ≤ 72) (k4 : 72 ≤ x4 ∧ x4 ≤ 72) (k5 : 72 ≤ x5 ∧ x5 ≤ 72) (f0 : x5 ≤ x4) (g1 : x4 = edges_0) (f2 : NOK (nodes_0) (edges_0) (tail_0) (head_0) (near_0)) (f3 : (0 ≤ x1) ∧ ((x1 + 1) ≤ nodes_0)) (f4 : (0 ≤ x2) ∧ ((x2 + 1) ≤ nodes_0)) (f5 : x1 ≠ x2) (f6 : edges_0 = x3) (hK_0_7 : ∀ j : Int, 0 ≤ j → j < 72 → 0 ≤ tail_0 j ∧ tail_0 j ≤ 24) (hK_0_8 : ∀ j : Int, 0 ≤ j → j < 72 → 0 ≤ head_0 j ∧ head_0 j ≤ 24) (hK_0_9 : ∀ j : Int, 0 ≤ j → j < 25 → 0 ≤ near_0 j ∧ near_0 j ≤ 33554431) (kz_0_5 : 0 ≤ nodes_0 ∧ nodes_0 ≤ 25) (kz_0_6 : 0 ≤ edges_0 ∧ edges_0 ≤ 72) : (72 ≤ x3) ∨ (edges_0 = (x3 + 1)) := by
  first
    | omega
  
def o_Ne_join_at_Np_gk_1 : or_T := (10, 7, [(0, (2, 0, 0, [149])), (1, (0, 0, 23, [])), (2, (0, 0, 24, [])), (3, (0, 0, 72, [])), (4, (0, 72, 72, [])), (5, (0, 72, 72, []))], [(7, [4, 5], [3]), (9, [4, 0], [6]), (20, [0], [60, 2, 3, 595, 5, 6, 7, 8, 9]), (20, [1, 0], [50, 1, 0, 1005, 2, 6, 0, 2, 0, 0, 1, 0, 0, 6, 4, 2, 1, 0, 0, 1, 2, 1, 5]), (20, [2, 0], [50, 1, 0, 1005, 2, 6, 0, 2, 0, 0, 1, 0, 0, 6, 4, 2, 1, 0, 0, 1, 2, 1, 5]), (20, [1, 2], [50, 0, 0, 7, 2, 1, 0, 1, 1]), (20, [0, 3], [50, 1, 0, 6, 1, 3, 2, 0, 6, 1, 1])], [], [], [(20, [3, 0], [50, 1, 0, 1006, 3, 6, 0, 2, 0, 72, 1, 0, 1, 3, 2, 1, 6, 4, 2, 1, 0, 0, 1])], [], [])
theorem oo_Ne_join_at_Np_gk_1 {kA : Nat → ClassId} : or_ok PRD kA GG o_Ne_join_at_Np_gk_1 := by
  refine or_mk fun A ta ws vs hD hth hl => ?_
  intro t0 r0 t1 k1 t2 k2 t3 k3 t4 k4 t5 k5 f0 f1 f2 f3 f4 f5 f6
  replace f1 := shm_111 f1
  have cr_0_7 := fdq_60 hD hth r0
  have cr_0_8 := fdq_61 hD hth r0
  have cr_0_9 := fdq_83 hD hth r0
  have g1 : v_iv (n_v vs 4) = w_fi ws (n_v vs 0) 6 := congrArg v_iv f1
  have hK_0_7 := elq_21 hD hth cr_0_7
  have hK_0_8 := elq_22 hD hth cr_0_8
  have hK_0_9 := elq_27 hD hth cr_0_9
  have kz_0_5 := fdq_85 hD hth r0
  have kz_0_6 := fdq_62 hD hth r0
  have nf0 : fc_1 PRD (20, [3, 0], [50, 1, 0, 1006, 3, 6, 0, 2, 0, 72, 1, 0, 1, 3, 2, 1, 6, 4, 2, 1, 0, 0, 1]) ws (vs) := ⟨nf_in hl rfl, sgq_409 (vc_Ne_join_at_Np_gk_1_0 (v_iv (n_v vs 1)) (v_iv (n_v vs 2)) (v_iv (n_v vs 3)) (v_iv (n_v vs 4)) (v_iv (n_v vs 5)) (w_fi ws (n_v vs 0) 6) (w_ei ws (w_ar ws (n_v vs 0) 7)) (w_ei ws (w_ar ws (n_v vs 0) 8)) (w_ei ws (w_ar ws (n_v vs 0) 9)) (w_fi ws (n_v vs 0) 5) k1 k2 k3 k4 k5 (shm_2 f0) g1 (shm_408 f2) (shm_405 f3) (shm_405 f4) (shm_406 f5) (shm_407 f6) hK_0_7 hK_0_8 hK_0_9 kz_0_5 kz_0_6)⟩
  refine ⟨(fun _ h => (by cases h)), [], trivial, ?_, (fun _ h => (by cases h))⟩
  rw [List.append_nil]
  exact List.forall_mem_cons.mpr ⟨⟨show (20 : Nat) < 100 from by decide, nf0⟩, (fun _ h => (by cases h))⟩
def n_Ne_join_at_Np_gk_an : List an_T := []
def t_Ne_join_at_Np_gk_ct : ct_L := []
set_option maxRecDepth 100000 in
theorem c_Ne_join_at_Np_gk {l : Launch} {D : va_G} {kA : Nat → ClassId} : ct_ok PRD l D kA GG y_Ne_join_at_Np_gk z_Ne_join_at_Np_gk e_Ne_join_at_Np_gk := chk_all_ok (FT := [(31, 5, 6), (34, 5, 7), (37, 5, 8), (40, 5, 9), (43, 5, 10)]) (PT := [(31, 5, 6, .int)]) (CT := t_Ne_join_at_Np_gk_ct) (KT := []) (NT := []) (AN := n_Ne_join_at_Np_gk_an) (OT := [o_Ne_join_at_Np_gk_0, o_Ne_join_at_Np_gk_1]) 0 260 (List.forall_mem_cons.mpr ⟨oo_Ne_join_at_Np_gk_0, List.forall_mem_cons.mpr ⟨oo_Ne_join_at_Np_gk_1, List.forall_mem_nil _⟩⟩) (by decide +kernel) ⟨List.forall_mem_cons.mpr ⟨gf_Ne_31, List.forall_mem_cons.mpr ⟨gf_Ne_34, List.forall_mem_cons.mpr ⟨gf_Ne_37, List.forall_mem_cons.mpr ⟨gf_Ne_40, List.forall_mem_cons.mpr ⟨gf_Ne_43, List.forall_mem_nil _⟩⟩⟩⟩⟩, List.forall_mem_cons.mpr ⟨pf_Ne_31, List.forall_mem_nil _⟩, List.forall_mem_nil _, List.forall_mem_nil _, List.forall_mem_nil _, GG_pl⟩ (by decide +kernel)
set_option maxHeartbeats 4000000 in
theorem vc_Pl_edgeOfLevel_0_0 (x1 : Int) (x2 : Int) (x6 : Int) (x7 : Int) (level_0 : Int → Int) (x_0o5 : Int → Int) (nodes_0o4 : Int) (k1 : 0 ≤ x1 ∧ x1 ≤ 16777215) (k2 : 0 ≤ x2 ∧ x2 ≤ 23) (k6 : (-2147483648) ≤ x6 ∧ x6 ≤ (-2147483648)) (k7 : 0 ≤ x7 ∧ x7 ≤ 0) (hK_0_4 : ∀ j : Int, 0 ≤ j → j < 24 → 0 ≤ level_0 j ∧ level_0 j ≤ 23) (hK_5_2 : ∀ j : Int, 0 ≤ j → j < 24 → (-40000000) ≤ x_0o5 j ∧ x_0o5 j ≤ 690000000) (kz_4_0 : 0 ≤ nodes_0o4 ∧ nodes_0o4 ≤ 24) : TQF (level_0) (x_0o5) (x1) (x2) (x6) (x7) := by
  first
    | exact tqf_start (by omega) (by omega)
    | (have q := bit_one (s := x1) (t := x15) (c := x17) (v := x11) (one := x16) (by assumption) (by assumption) (by omega) (by omega) (by omega) (by omega)
       first
         | exact tqf_skip ‹TQF _ _ _ _ _ _› (Or.inl (fun z => by have := q.mp z; omega)) (by omega)
         | exact tqf_skip ‹TQF _ _ _ _ _ _› (Or.inr (by omega)) (by omega)
         | exact tqf_keep ‹TQF _ _ _ _ _ _› (by omega) (by omega)
         | exact tqf_take (v := x11) (by omega) (q.mpr (by omega)) (by omega) (by omega) (by omega))
  
set_option maxHeartbeats 4000000 in
theorem vc_Pl_edgeOfLevel_0_3 (x1 : Int) (x2 : Int) (x6 : Int) (x7 : Int) (level_0 : Int → Int) (x_0o5 : Int → Int) (nodes_0o4 : Int) (k1 : 0 ≤ x1 ∧ x1 ≤ 16777215) (k2 : 0 ≤ x2 ∧ x2 ≤ 23) (k6 : (-2147483648) ≤ x6 ∧ x6 ≤ (-2147483648)) (k7 : 0 ≤ x7 ∧ x7 ≤ 0) (hK_0_4 : ∀ j : Int, 0 ≤ j → j < 24 → 0 ≤ level_0 j ∧ level_0 j ≤ 23) (hK_5_2 : ∀ j : Int, 0 ≤ j → j < 24 → (-40000000) ≤ x_0o5 j ∧ x_0o5 j ≤ 690000000) (kz_4_0 : 0 ≤ nodes_0o4 ∧ nodes_0o4 ≤ 24) : x7 ≤ nodes_0o4 := by
  first
    | omega
  
def o_Pl_edgeOfLevel_0 : or_T := (7, 8, [(0, (2, 0, 0, [6])), (1, (0, 0, 16777215, [])), (2, (0, 0, 23, [])), (4, (2, 0, 0, [3])), (5, (2, 0, 0, [0])), (6, (0, -2147483648, -2147483648, [])), (7, (0, 0, 0, []))], [], [], [], [(20, [0, 5, 1, 2, 6, 7], [60, 0, 2, 867, 4, 1002]), (24, [4, 4], []), (24, [5, 5], []), (20, [7, 4], [50, 1, 0, 1000, 0, 2, 1, 0, 2, 1, 0]), (24, [1, 1], []), (24, [2, 2], []), (24, [0, 0], []), (24, [1, 1], []), (24, [2, 2], [])], [], [])
theorem oo_Pl_edgeOfLevel_0 {kA : Nat → ClassId} : or_ok PRD kA GG o_Pl_edgeOfLevel_0 := by
  refine or_mk fun A ta ws vs hD hth hl => ?_
  intro t0 r0 t1 k1 t2 k2 t4 r4 t5 r5 t6 k6 t7 k7
  have cr_0_4 := fdq_86 hD hth r0
  have cr_5_2 := fdq_45 hD hth r5
  have hK_0_4 := elq_43 hD hth cr_0_4
  have hK_5_2 := elq_10 hD hth cr_5_2
  have kz_4_0 := fdq_21 hD hth r4
  have nf0 : fc_1 PRD (20, [0, 5, 1, 2, 6, 7], [60, 0, 2, 867, 4, 1002]) ws (vs) := ⟨nf_in hl rfl, sgq_410 (vc_Pl_edgeOfLevel_0_0 (v_iv (n_v vs 1)) (v_iv (n_v vs 2)) (v_iv (n_v vs 6)) (v_iv (n_v vs 7)) (w_ei ws (w_ar ws (n_v vs 0) 4)) (w_ei ws (w_ar ws (n_v vs 5) 2)) (w_fi ws (n_v vs 4) 0) k1 k2 k6 k7 hK_0_4 hK_5_2 kz_4_0)⟩
  have nf1 : fc_1 PRD (24, [4, 4], []) ws (vs) := by
    refine ⟨nf_in hl rfl, sgq_1 ?_⟩
    · show n_v vs 4 = n_v vs 4
      first | rfl | simp only [true_and]
  have nf2 : fc_1 PRD (24, [5, 5], []) ws (vs) := by
    refine ⟨nf_in hl rfl, sgq_1 ?_⟩
    · show n_v vs 5 = n_v vs 5
      first | rfl | simp only [true_and]
  have nf3 : fc_1 PRD (20, [7, 4], [50, 1, 0, 1000, 0, 2, 1, 0, 2, 1, 0]) ws (vs) := ⟨nf_in hl rfl, sgq_411 (vc_Pl_edgeOfLevel_0_3 (v_iv (n_v vs 1)) (v_iv (n_v vs 2)) (v_iv (n_v vs 6)) (v_iv (n_v vs 7)) (w_ei ws (w_ar ws (n_v vs 0) 4)) (w_ei ws (w_ar ws (n_v vs 5) 2)) (w_fi ws (n_v vs 4) 0) k1 k2 k6 k7 hK_0_4 hK_5_2 kz_4_0)⟩
  have nf4 : fc_1 PRD (24, [1, 1], []) ws (vs) := by
    refine ⟨nf_in hl rfl, sgq_1 ?_⟩
    · show n_v vs 1 = n_v vs 1
      first | rfl | simp only [true_and]
  have nf5 : fc_1 PRD (24, [2, 2], []) ws (vs) := by
    refine ⟨nf_in hl rfl, sgq_1 ?_⟩
    · show n_v vs 2 = n_v vs 2
      first | rfl | simp only [true_and]
  have nf6 : fc_1 PRD (24, [0, 0], []) ws (vs) := by
    refine ⟨nf_in hl rfl, sgq_1 ?_⟩
    · show n_v vs 0 = n_v vs 0
      first | rfl | simp only [true_and]
  have nf7 : fc_1 PRD (24, [1, 1], []) ws (vs) := by
    refine ⟨nf_in hl rfl, sgq_1 ?_⟩
    · show n_v vs 1 = n_v vs 1
      first | rfl | simp only [true_and]
  have nf8 : fc_1 PRD (24, [2, 2], []) ws (vs) := by
    refine ⟨nf_in hl rfl, sgq_1 ?_⟩
    · show n_v vs 2 = n_v vs 2
      first | rfl | simp only [true_and]
  refine ⟨(fun _ h => (by cases h)), [], trivial, ?_, (fun _ h => (by cases h))⟩
  rw [List.append_nil]
  exact List.forall_mem_cons.mpr ⟨⟨show (20 : Nat) < 100 from by decide, nf0⟩, List.forall_mem_cons.mpr ⟨⟨show (24 : Nat) < 100 from by decide, nf1⟩, List.forall_mem_cons.mpr ⟨⟨show (24 : Nat) < 100 from by decide, nf2⟩, List.forall_mem_cons.mpr ⟨⟨show (20 : Nat) < 100 from by decide, nf3⟩, List.forall_mem_cons.mpr ⟨⟨show (24 : Nat) < 100 from by decide, nf4⟩, List.forall_mem_cons.mpr ⟨⟨show (24 : Nat) < 100 from by decide, nf5⟩, List.forall_mem_cons.mpr ⟨⟨show (24 : Nat) < 100 from by decide, nf6⟩, List.forall_mem_cons.mpr ⟨⟨show (24 : Nat) < 100 from by decide, nf7⟩, List.forall_mem_cons.mpr ⟨⟨show (24 : Nat) < 100 from by decide, nf8⟩, (fun _ h => (by cases h))⟩⟩⟩⟩⟩⟩⟩⟩⟩
set_option maxHeartbeats 4000000 in
theorem vc_Pl_edgeOfLevel_1_0 (x1 : Int) (x2 : Int) (x7 : Int) (x8 : Int) (x10 : Int) (x11 : Int) (x14 : Int) (nodes_0o4 : Int) (level_0 : Int → Int) (x_0o5 : Int → Int) (k1 : 0 ≤ x1 ∧ x1 ≤ 16777215) (k2 : 0 ≤ x2 ∧ x2 ≤ 23) (k7 : 0 ≤ x7 ∧ x7 ≤ 16777215) (k8 : 0 ≤ x8 ∧ x8 ≤ 23) (k10 : (-2147483648) ≤ x10 ∧ x10 ≤ 690000000) (k11 : 0 ≤ x11 ∧ x11 ≤ 24) (k14 : 0 ≤ x14 ∧ x14 ≤ 24) (d0 : x14 + 0 ≤ x11 ∧ x11 ≤ x14 + 4294967296) (d1 : x7 + (-4294967296) ≤ x1 ∧ x1 ≤ x7 + 0) (d2 : x8 + (-4294967296) ≤ x2 ∧ x2 ≤ x8 + 0) (d3 : x1 + (-4294967296) ≤ x7 ∧ x7 ≤ x1 + 0) (d4 : x2 + (-4294967296) ≤ x8 ∧ x8 ≤ x2 + 0) (f0 : x14 ≤ x11) (g1 : x14 = nodes_0o4) (f2 : TQF (level_0) (x_0o5) (x1) (x2) (x10) (x11)) (f5 : x11 ≤ nodes_0o4) (hK_0_4 : ∀ j : Int, 0 ≤ j → j < 24 → 0 ≤ level_0 j ∧ level_0 j ≤ 23) (hK_5_2 : ∀ j : Int, 0 ≤ j → j < 24 → (-40000000) ≤ x_0o5 j ∧ x_0o5 j ≤ 690000000) (kz_4_0 : 0 ≤ nodes_0o4 ∧ nodes_0o4 ≤ 24) : TQE (nodes_0o4) (level_0) (x_0o5) (x1) (x2) (x10) := by
  first
    | exact tqe_of ‹TQF _ _ _ _ _ _› (by omega)
  
def o_Pl_edgeOfLevel_1 : or_T := (91, 15, [(0, (2, 0, 0, [6])), (1, (0, 0, 16777215, [])), (2, (0, 0, 23, [])), (4, (2, 0, 0, [3])), (5, (2, 0, 0, [0])), (7, (0, 0, 16777215, [])), (8, (0, 0, 23, [])), (10, (0, -2147483648, 690000000, [])), (11, (0, 0, 24, [])), (14, (0, 0, 24, []))], [(7, [11, 14], [3]), (9, [14, 12], [0]), (20, [6, 13, 7, 8, 10, 11], [60, 0, 2, 867, 4, 1002]), (24, [4, 12], []), (24, [5, 13], []), (20, [11, 12], [50, 1, 0, 1000, 0, 2, 1, 0, 2, 1, 0]), (24, [1, 7], []), (24, [2, 8], []), (24, [0, 6], [])], [], [], [(20, [0, 4, 5, 1, 2, 10], [60, 1, 2, 868, 1000, 4, 2002])], [], [(11, 14, 0, 4294967296), (1, 7, -4294967296, 0), (2, 8, -4294967296, 0), (7, 1, -4294967296, 0), (8, 2, -4294967296, 0)])
theorem oo_Pl_edgeOfLevel_1 {kA : Nat → ClassId} : or_ok PRD kA GG o_Pl_edgeOfLevel_1 := by
  refine or_mk fun A ta ws vs hD hth hl => ?_
  intro t0 r0 t1 k1 t2 k2 t4 r4 t5 r5 t7 k7 t8 k8 t10 k10 t11 k11 t14 k14 d0 d1 d2 d3 d4 f0 f1 f2 f3 f4 f5 f6 f7 f8
  replace f1 := shm_163 f1
  replace f2 := shm_410 f2
  replace f3 := shm_5 f3
  replace f4 := shm_5 f4
  replace f5 := shm_411 f5
  replace f6 := shm_5 f6
  replace f7 := shm_5 f7
  replace f8 := shm_5 f8
  have q12 : n_v vs 12 = n_v vs 4 := f3.symm
  have q13 : n_v vs 13 = n_v vs 5 := f4.symm
  have q7 : n_v vs 7 = n_v vs 1 := f6.symm
  have q8 : n_v vs 8 = n_v vs 2 := f7.symm
  have q6 : n_v vs 6 = n_v vs 0 := f8.symm
  simp only [q12, q13, q7, q8, q6] at f1 f2 f5
  have cr_0_4 := fdq_86 hD hth r0
  have cr_5_2 := fdq_45 hD hth r5
  have g1 : v_iv (n_v vs 14) = w_fi ws (n_v vs 4) 0 := congrArg v_iv f1
  have hK_0_4 := elq_43 hD hth cr_0_4
  have hK_5_2 := elq_10 hD hth cr_5_2
  have kz_4_0 := fdq_21 hD hth r4
  have nf0 : fc_1 PRD (20, [0, 4, 5, 1, 2, 10], [60, 1, 2, 868, 1000, 4, 2002]) ws (vs) := ⟨nf_in hl rfl, sgq_412 (vc_Pl_edgeOfLevel_1_0 (v_iv (n_v vs 1)) (v_iv (n_v vs 2)) (v_iv (n_v vs 7)) (v_iv (n_v vs 8)) (v_iv (n_v vs 10)) (v_iv (n_v vs 11)) (v_iv (n_v vs 14)) (w_fi ws (n_v vs 4) 0) (w_ei ws (w_ar ws (n_v vs 0) 4)) (w_ei ws (w_ar ws (n_v vs 5) 2)) k1 k2 k7 k8 k10 k11 k14 d0 d1 d2 d3 d4 (shm_2 f0) g1 f2 f5 hK_0_4 hK_5_2 kz_4_0)⟩
  refine ⟨(fun _ h => (by cases h)), [], trivial, ?_, (fun _ h => (by cases h))⟩
  rw [List.append_nil]
  exact List.forall_mem_cons.mpr ⟨⟨show (20 : Nat) < 100 from by decide, nf0⟩, (fun _ h => (by cases h))⟩
set_option maxHeartbeats 4000000 in
theorem vc_Pl_edgeOfLevel_2_0 (x1 : Int) (x2 : Int) (x7 : Int) (x8 : Int) (x10 : Int) (x11 : Int) (x14 : Int) (x15 : Int) (x16 : Int) (x17 : Int) (x18 : Int) (nodes_0o4 : Int) (level_0 : Int → Int) (x_0o5 : Int → Int) (k1 : 0 ≤ x1 ∧ x1 ≤ 16777215) (k2 : 0 ≤ x2 ∧ x2 ≤ 23) (k7 : 0 ≤ x7 ∧ x7 ≤ 16777215) (k8 : 0 ≤ x8 ∧ x8 ≤ 23) (k10 : (-2147483648) ≤ x10 ∧ x10 ≤ 690000000) (k11 : 0 ≤ x11 ∧ x11 ≤ 23) (k14 : 1 ≤ x14 ∧ x14 ≤ 24) (k15 : 0 ≤ x15 ∧ x15 ≤ 16777215) (k16 : 1 ≤ x16 ∧ x16 ≤ 1) (k17 : 0 ≤ x17 ∧ x17 ≤ 0) (k18 : 1 ≤ x18 ∧ x18 ≤ 24) (d0 : x11 + 1 ≤ x18 ∧ x18 ≤ x11 + 1) (d1 : x14 + (-4294967296) ≤ x18 ∧ x18 ≤ x14 + 0) (d2 : x14 + (-4294967296) ≤ x11 ∧ x11 ≤ x14 + (-1)) (d3 : x7 + (-4294967296) ≤ x1 ∧ x1 ≤ x7 + 0) (d4 : x8 + (-4294967296) ≤ x2 ∧ x2 ≤ x8 + 0) (d5 : x1 + (-4294967296) ≤ x7 ∧ x7 ≤ x1 + 0) (d6 : x2 + (-4294967296) ≤ x8 ∧ x8 ≤ x2 + 0) (f0 : x18 = x11 + 1) (f1 : x17 = 0) (f2 : x17 = x15 % 2) (f3 : bvp (x17) = bvp (x15) &&& bvp (x16)) (f4 : bvp (x15) = bvp (x1) >>> (x11).toNat) (f5 : x11 < x14) (g6 : x14 = nodes_0o4) (f7 : TQF (level_0) (x_0o5) (x1) (x2) (x10) (x11)) (f10 : x11 ≤ nodes_0o4) (hK_0_4 : ∀ j : Int, 0 ≤ j → j < 24 → 0 ≤ level_0 j ∧ level_0 j ≤ 23) (hK_5_2 : ∀ j : Int, 0 ≤ j → j < 24 → (-40000000) ≤ x_0o5 j ∧ x_0o5 j ≤ 690000000) (kz_4_0 : 0 ≤ nodes_0o4 ∧ nodes_0o4 ≤ 24) : TQF (level_0) (x_0o5) (x1) (x2) (x10) (x18) := by
  first
    | exact tqf_start (by omega) (by omega)
    | (have q := bit_one (s := x1) (t := x15) (c := x17) (v := x11) (one := x16) (by assumption) (by assumption) (by omega) (by omega) (by omega) (by omega)
       first
         | exact tqf_skip ‹TQF _ _ _ _ _ _› (Or.inl (fun z => by have := q.mp z; omega)) (by omega)
         | exact tqf_skip ‹TQF _ _ _ _ _ _› (Or.inr (by omega)) (by omega)
         | exact tqf_keep ‹TQF _ _ _ _ _ _› (by omega) (by omega)
         | exact tqf_take (v := x11) (by omega) (q.mpr (by omega)) (by omega) (by omega) (by omega))
  
set_option maxHeartbeats 4000000 in
theorem vc_Pl_edgeOfLevel_2_1 (x1 : Int) (x2 : Int) (x7 : Int) (x8 : Int) (x10 : Int) (x11 : Int) (x14 : Int) (x15 : Int) (x16 : Int) (x17 : Int) (x18 : Int) (nodes_0o4 : Int) (level_0 : Int → Int) (x_0o5 : Int → Int) (k1 : 0 ≤ x1 ∧ x1 ≤ 16777215) (k2 : 0 ≤ x2 ∧ x2 ≤ 23) (k7 : 0 ≤ x7 ∧ x7 ≤ 16777215) (k8 : 0 ≤ x8 ∧ x8 ≤ 23) (k10 : (-2147483648) ≤ x10 ∧ x10 ≤ 690000000) (k11 : 0 ≤ x11 ∧ x11 ≤ 23) (k14 : 1 ≤ x14 ∧ x14 ≤ 24) (k15 : 0 ≤ x15 ∧ x15 ≤ 16777215) (k16 : 1 ≤ x16 ∧ x16 ≤ 1) (k17 : 0 ≤ x17 ∧ x17 ≤ 0) (k18 : 1 ≤ x18 ∧ x18 ≤ 24) (d0 : x11 + 1 ≤ x18 ∧ x18 ≤ x11 + 1) (d1 : x14 + (-4294967296) ≤ x18 ∧ x18 ≤ x14 + 0) (d2 : x14 + (-4294967296) ≤ x11 ∧ x11 ≤ x14 + (-1)) (d3 : x7 + (-4294967296) ≤ x1 ∧ x1 ≤ x7 + 0) (d4 : x8 + (-4294967296) ≤ x2 ∧ x2 ≤ x8 + 0) (d5 : x1 + (-4294967296) ≤ x7 ∧ x7 ≤ x1 + 0) (d6 : x2 + (-4294967296) ≤ x8 ∧ x8 ≤ x2 + 0) (f0 : x18 = x11 + 1) (f1 : x17 = 0) (f2 : x17 = x15 % 2) (f3 : bvp (x17) = bvp (x15) &&& bvp (x16)) (f4 : bvp (x15) = bvp (x1) >>> (x11).toNat) (f5 : x11 < x14) (g6 : x14 = nodes_0o4) (f7 : TQF (level_0) (x_0o5) (x1) (x2) (x10) (x11)) (f10 : x11 ≤ nodes_0o4) (hK_0_4 : ∀ j : Int, 0 ≤ j → j < 24 → 0 ≤ level_0 j ∧ level_0 j ≤ 23) (hK_5_2 : ∀ j : Int, 0 ≤ j → j < 24 → (-40000000) ≤ x_0o5 j ∧ x_0o5 j ≤ 690000000) (kz_4_0 : 0 ≤ nodes_0o4 ∧ nodes_0o4 ≤ 24) : x18 ≤ nodes_0o4 := by
  first
    | omega
  
def o_Pl_edgeOfLevel_2 : or_T := (7, 19, [(0, (2, 0, 0, [6])), (1, (0, 0, 16777215, [])), (2, (0, 0, 23, [])), (4, (2, 0, 0, [3])), (5, (2, 0, 0, [0])), (7, (0, 0, 16777215, [])), (8, (0, 0, 23, [])), (10, (0, -2147483648, 690000000, [])), (11, (0, 0, 23, [])), (14, (0, 1, 24, [])), (15, (0, 0, 16777215, [])), (16, (0, 1, 1, [])), (17, (0, 0, 0, [])), (18, (0, 1, 24, []))], [(6, [18, 11], [1]), (8, [17], [0]), (12, [17, 15], [2]), (16, [17, 15, 16], [0]), (16, [15, 7, 11], [4]), (7, [11, 14], [2]), (9, [14, 12], [0]), (20, [6, 13, 7, 8, 10, 11], [60, 0, 2, 867, 4, 1002]), (24, [4, 12], []), (24, [5, 13], []), (20, [11, 12], [50, 1, 0, 1000, 0, 2, 1, 0, 2, 1, 0]), (24, [1, 7], []), (24, [2, 8], []), (24, [0, 6], [])], [], [], [(20, [6, 13, 7, 8, 10, 18], [60, 0, 2, 867, 4, 1002]), (20, [18, 12], [50, 1, 0, 1000, 0, 2, 1, 0, 2, 1, 0])], [], [(18, 11, 1, 1), (18, 14, -4294967296, 0), (11, 14, -4294967296, -1), (1, 7, -4294967296, 0), (2, 8, -4294967296, 0), (7, 1, -4294967296, 0), (8, 2, -4294967296, 0)])
theorem oo_Pl_edgeOfLevel_2 {kA : Nat → ClassId} : or_ok PRD kA GG o_Pl_edgeOfLevel_2 := by
  refine or_mk fun A ta ws vs hD hth hl => ?_
  intro t0 r0 t1 k1 t2 k2 t4 r4 t5 r5 t7 k7 t8 k8 t10 k10 t11 k11 t14 k14 t15 k15 t16 k16 t17 k17 t18 k18 d0 d1 d2 d3 d4 d5 d6 f0 f1 f2 f3 f4 f5 f6 f7 f8 f9 f10 f11 f12 f13
  replace f0 := shm_4 f0
  replace f1 := shm_192 f1
  replace f2 := shm_364 f2
  replace f3 := shm_11 f3
  replace f4 := shm_13 f4
  replace f5 := shm_6 f5
  replace f6 := shm_163 f6
  replace f7 := shm_410 f7
  replace f8 := shm_5 f8
  replace f9 := shm_5 f9
  replace f10 := shm_411 f10
  replace f11 := shm_5 f11
  replace f12 := shm_5 f12
  replace f13 := shm_5 f13
  have q12 : n_v vs 12 = n_v vs 4 := f8.symm
  have q13 : n_v vs 13 = n_v vs 5 := f9.symm
  have q7 : n_v vs 7 = n_v vs 1 := f11.symm
  have q8 : n_v vs 8 = n_v vs 2 := f12.symm
  have q6 : n_v vs 6 = n_v vs 0 := f13.symm
  simp only [q7, q12, q13, q8, q6] at f4 f6 f7 f10
  have cr_0_4 := fdq_86 hD hth r0
  have cr_5_2 := fdq_45 hD hth r5
  have g6 : v_iv (n_v vs 14) = w_fi ws (n_v vs 4) 0 := congrArg v_iv f6
  have hK_0_4 := elq_43 hD hth cr_0_4
  have hK_5_2 := elq_10 hD hth cr_5_2
  have kz_4_0 := fdq_21 hD hth r4
  have nf0 : fc_1 PRD (20, [6, 13, 7, 8, 10, 18], [60, 0, 2, 867, 4, 1002]) ws (vs) := by
    refine ⟨nf_in hl rfl, sgq_410 ?_⟩
    · show TQF (w_ei ws (w_ar ws (n_v vs 6) 4)) (w_ei ws (w_ar ws (n_v vs 13) 2)) (v_iv (n_v vs 7)) (v_iv (n_v vs 8)) (v_iv (n_v vs 10)) (v_iv (n_v vs 18))
      simp only [q13, q7, q8, q6]
      exact vc_Pl_edgeOfLevel_2_0 (v_iv (n_v vs 1)) (v_iv (n_v vs 2)) (v_iv (n_v vs 7)) (v_iv (n_v vs 8)) (v_iv (n_v vs 10)) (v_iv (n_v vs 11)) (v_iv (n_v vs 14)) (v_iv (n_v vs 15)) (v_iv (n_v vs 16)) (v_iv (n_v vs 17)) (v_iv (n_v vs 18)) (w_fi ws (n_v vs 4) 0) (w_ei ws (w_ar ws (n_v vs 0) 4)) (w_ei ws (w_ar ws (n_v vs 5) 2)) k1 k2 k7 k8 k10 k11 k14 k15 k16 k17 k18 d0 d1 d2 d3 d4 d5 d6 f0 f1 f2 f3 f4 f5 g6 f7 f10 hK_0_4 hK_5_2 kz_4_0
  have nf1 : fc_1 PRD (20, [18, 12], [50, 1, 0, 1000, 0, 2, 1, 0, 2, 1, 0]) ws (vs) := by
    refine ⟨nf_in hl rfl, sgq_411 ?_⟩
    · show v_iv (n_v vs 18) ≤ w_fi ws (n_v vs 12) 0
      rw [q12]
      exact vc_Pl_edgeOfLevel_2_1 (v_iv (n_v vs 1)) (v_iv (n_v vs 2)) (v_iv (n_v vs 7)) (v_iv (n_v vs 8)) (v_iv (n_v vs 10)) (v_iv (n_v vs 11)) (v_iv (n_v vs 14)) (v_iv (n_v vs 15)) (v_iv (n_v vs 16)) (v_iv (n_v vs 17)) (v_iv (n_v vs 18)) (w_fi ws (n_v vs 4) 0) (w_ei ws (w_ar ws (n_v vs 0) 4)) (w_ei ws (w_ar ws (n_v vs 5) 2)) k1 k2 k7 k8 k10 k11 k14 k15 k16 k17 k18 d0 d1 d2 d3 d4 d5 d6 f0 f1 f2 f3 f4 f5 g6 f7 f10 hK_0_4 hK_5_2 kz_4_0
  refine ⟨(fun _ h => (by cases h)), [], trivial, ?_, (fun _ h => (by cases h))⟩
  rw [List.append_nil]
  exact List.forall_mem_cons.mpr ⟨⟨show (20 : Nat) < 100 from by decide, nf0⟩, List.forall_mem_cons.mpr ⟨⟨show (20 : Nat) < 100 from by decide, nf1⟩, (fun _ h => (by cases h))⟩⟩
set_option maxHeartbeats 4000000 in
theorem vc_Pl_edgeOfLevel_3_0 (x1 : Int) (x2 : Int) (x7 : Int) (x8 : Int) (x10 : Int) (x11 : Int) (x14 : Int) (x15 : Int) (x16 : Int) (x17 : Int) (x19 : Int) (x20 : Int) (level_0 : Int → Int) (nodes_0o4 : Int) (x_0o5 : Int → Int) (k1 : 0 ≤ x1 ∧ x1 ≤ 16777215) (k2 : 0 ≤ x2 ∧ x2 ≤ 23) (k7 : 0 ≤ x7 ∧ x7 ≤ 16777215) (k8 : 0 ≤ x8 ∧ x8 ≤ 23) (k10 : (-2147483648) ≤ x10 ∧ x10 ≤ 690000000) (k11 : 0 ≤ x11 ∧ x11 ≤ 23) (k14 : 1 ≤ x14 ∧ x14 ≤ 24) (k15 : 0 ≤ x15 ∧ x15 ≤ 16777215) (k16 : 1 ≤ x16 ∧ x16 ≤ 1) (k17 : 1 ≤ x17 ∧ x17 ≤ 1) (k19 : 0 ≤ x19 ∧ x19 ≤ 23) (k20 : 1 ≤ x20 ∧ x20 ≤ 24) (d0 : x11 + 1 ≤ x20 ∧ x20 ≤ x11 + 1) (d1 : x14 + (-4294967296) ≤ x20 ∧ x20 ≤ x14 + 0) (d2 : x14 + (-4294967296) ≤ x11 ∧ x11 ≤ x14 + (-1)) (d3 : x7 + (-4294967296) ≤ x1 ∧ x1 ≤ x7 + 0) (d4 : x8 + (-4294967296) ≤ x2 ∧ x2 ≤ x8 + 0) (d5 : x1 + (-4294967296) ≤ x7 ∧ x7 ≤ x1 + 0) (d6 : x2 + (-4294967296) ≤ x8 ∧ x8 ≤ x2 + 0) (f0 : x20 = x11 + 1) (f1 : x19 ≠ x2) (h2 : x19 = level_0 (x11)) (f4 : x17 ≠ 0) (f5 : x17 = x15 % 2) (f6 : bvp (x17) = bvp (x15) &&& bvp (x16)) (f7 : bvp (x15) = bvp (x1) >>> (x11).toNat) (f8 : x11 < x14) (g9 : x14 = nodes_0o4) (f10 : TQF (level_0) (x_0o5) (x1) (x2) (x10) (x11)) (f13 : x11 ≤ nodes_0o4) (hK_0_4 : ∀ j : Int, 0 ≤ j → j < 24 → 0 ≤ level_0 j ∧ level_0 j ≤ 23) (hK_5_2 : ∀ j : Int, 0 ≤ j → j < 24 → (-40000000) ≤ x_0o5 j ∧ x_0o5 j ≤ 690000000) (kz_4_0 : 0 ≤ nodes_0o4 ∧ nodes_0o4 ≤ 24) : TQF (level_0) (x_0o5) (x1) (x2) (x10) (x20) := by
  first
    | exact tqf_start (by omega) (by omega)
    | (have q := bit_one (s := x1) (t := x15) (c := x17) (v := x11) (one := x16) (by assumption) (by assumption) (by omega) (by omega) (by omega) (by omega)
       first
         | exact tqf_skip ‹TQF _ _ _ _ _ _› (Or.inl (fun z => by have := q.mp z; omega)) (by omega)
         | exact tqf_skip ‹TQF _ _ _ _ _ _› (Or.inr (by omega)) (by omega)
         | exact tqf_keep ‹TQF _ _ _ _ _ _› (by omega) (by omega)
         | exact tqf_take (v := x11) (by omega) (q.mpr (by omega)) (by omega) (by omega) (by omega))
  
set_option maxHeartbeats 4000000 in
theorem vc_Pl_edgeOfLevel_3_1 (x1 : Int) (x2 : Int) (x7 : Int) (x8 : Int) (x10 : Int) (x11 : Int) (x14 : Int) (x15 : Int) (x16 : Int) (x17 : Int) (x19 : Int) (x20 : Int) (level_0 : Int → Int) (nodes_0o4 : Int) (x_0o5 : Int → Int) (k1 : 0 ≤ x1 ∧ x1 ≤ 16777215) (k2 : 0 ≤ x2 ∧ x2 ≤ 23) (k7 : 0 ≤ x7 ∧ x7 ≤ 16777215) (k8 : 0 ≤ x8 ∧ x8 ≤ 23) (k10 : (-2147483648) ≤ x10 ∧ x10 ≤ 690000000) (k11 : 0 ≤ x11 ∧ x11 ≤ 23) (k14 : 1 ≤ x14 ∧ x14 ≤ 24) (k15 : 0 ≤ x15 ∧ x15 ≤ 16777215) (k16 : 1 ≤ x16 ∧ x16 ≤ 1) (k17 : 1 ≤ x17 ∧ x17 ≤ 1) (k19 : 0 ≤ x19 ∧ x19 ≤ 23) (k20 : 1 ≤ x20 ∧ x20 ≤ 24) (d0 : x11 + 1 ≤ x20 ∧ x20 ≤ x11 + 1) (d1 : x14 + (-4294967296) ≤ x20 ∧ x20 ≤ x14 + 0) (d2 : x14 + (-4294967296) ≤ x11 ∧ x11 ≤ x14 + (-1)) (d3 : x7 + (-4294967296) ≤ x1 ∧ x1 ≤ x7 + 0) (d4 : x8 + (-4294967296) ≤ x2 ∧ x2 ≤ x8 + 0) (d5 : x1 + (-4294967296) ≤ x7 ∧ x7 ≤ x1 + 0) (d6 : x2 + (-4294967296) ≤ x8 ∧ x8 ≤ x2 + 0) (f0 : x20 = x11 + 1) (f1 : x19 ≠ x2) (h2 : x19 = level_0 (x11)) (f4 : x17 ≠ 0) (f5 : x17 = x15 % 2) (f6 : bvp (x17) = bvp (x15) &&& bvp (x16)) (f7 : bvp (x15) = bvp (x1) >>> (x11).toNat) (f8 : x11 < x14) (g9 : x14 = nodes_0o4) (f10 : TQF (level_0) (x_0o5) (x1) (x2) (x10) (x11)) (f13 : x11 ≤ nodes_0o4) (hK_0_4 : ∀ j : Int, 0 ≤ j → j < 24 → 0 ≤ level_0 j ∧ level_0 j ≤ 23) (hK_5_2 : ∀ j : Int, 0 ≤ j → j < 24 → (-40000000) ≤ x_0o5 j ∧ x_0o5 j ≤ 690000000) (kz_4_0 : 0 ≤ nodes_0o4 ∧ nodes_0o4 ≤ 24) : x20 ≤ nodes_0o4 := by
  first
    | omega
  
def o_Pl_edgeOfLevel_3 : or_T := (7, 21, [(0, (2, 0, 0, [6])), (1, (0, 0, 16777215, [])), (2, (0, 0, 23, [])), (4, (2, 0, 0, [3])), (5, (2, 0, 0, [0])), (7, (0, 0, 16777215, [])), (8, (0, 0, 23, [])), (10, (0, -2147483648, 690000000, [])), (11, (0, 0, 23, [])), (14, (0, 1, 24, [])), (15, (0, 0, 16777215, [])), (16, (0, 1, 1, [])), (17, (0, 1, 1, [])), (19, (0, 0, 23, [])), (20, (0, 1, 24, []))], [(6, [20, 11], [1]), (7, [19, 8], [1]), (10, [19, 18, 11], []), (9, [18, 6], [4]), (8, [17], [1]), (12, [17, 15], [2]), (16, [17, 15, 16], [0]), (16, [15, 7, 11], [4]), (7, [11, 14], [2]), (9, [14, 12], [0]), (20, [6, 13, 7, 8, 10, 11], [60, 0, 2, 867, 4, 1002]), (24, [4, 12], []), (24, [5, 13], []), (20, [11, 12], [50, 1, 0, 1000, 0, 2, 1, 0, 2, 1, 0]), (24, [1, 7], []), (24, [2, 8], []), (24, [0, 6], [])], [], [], [(20, [6, 13, 7, 8, 10, 20], [60, 0, 2, 867, 4, 1002]), (20, [20, 12], [50, 1, 0, 1000, 0, 2, 1, 0, 2, 1, 0])], [], [(20, 11, 1, 1), (20, 14, -4294967296, 0), (11, 14, -4294967296, -1), (1, 7, -4294967296, 0), (2, 8, -4294967296, 0), (7, 1, -4294967296, 0), (8, 2, -4294967296, 0)])
theorem oo_Pl_edgeOfLevel_3 {kA : Nat → ClassId} : or_ok PRD kA GG o_Pl_edgeOfLevel_3 := by
  refine or_mk fun A ta ws vs hD hth hl => ?_
  intro t0 r0 t1 k1 t2 k2 t4 r4 t5 r5 t7 k7 t8 k8 t10 k10 t11 k11 t14 k14 t15 k15 t16 k16 t17 k17 t19 k19 t20 k20 d0 d1 d2 d3 d4 d5 d6 f0 f1 f2 f3 f4 f5 f6 f7 f8 f9 f10 f11 f12 f13 f14 f15 f16
  replace f0 := shm_4 f0
  replace f1 := shm_40 f1
  replace f2 := shm_107 f2
  replace f3 := shm_108 f3
  replace f4 := shm_142 f4
  replace f5 := shm_364 f5
  replace f6 := shm_11 f6
  replace f7 := shm_13 f7
  replace f8 := shm_6 f8
  replace f9 := shm_163 f9
  replace f10 := shm_410 f10
  replace f11 := shm_5 f11
  replace f12 := shm_5 f12
  replace f13 := shm_411 f13
  replace f14 := shm_5 f14
  replace f15 := shm_5 f15
  replace f16 := shm_5 f16
  have q12 : n_v vs 12 = n_v vs 4 := f11.symm
  have q13 : n_v vs 13 = n_v vs 5 := f12.symm
  have q7 : n_v vs 7 = n_v vs 1 := f14.symm
  have q8 : n_v vs 8 = n_v vs 2 := f15.symm
  have q6 : n_v vs 6 = n_v vs 0 := f16.symm
  simp only [q8, q6, q7, q12, q13] at f1 f3 f7 f9 f10 f13
  have cr_0_4 := fdq_86 hD hth r0
  have cr_5_2 := fdq_45 hD hth r5
  have ad_18 : v_ad (n_v vs 18) = w_ar ws (n_v vs 0) 4 := congrArg v_ad f3
  simp only [ad_18] at f2
  have h2 : v_iv (n_v vs 19) = w_ei ws (w_ar ws (n_v vs 0) 4) (v_iv (n_v vs 11)) := f2
  have g9 : v_iv (n_v vs 14) = w_fi ws (n_v vs 4) 0 := congrArg v_iv f9
  have hK_0_4 := elq_43 hD hth cr_0_4
  have hK_5_2 := elq_10 hD hth cr_5_2
  have kz_4_0 := fdq_21 hD hth r4
  have nf0 : fc_1 PRD (20, [6, 13, 7, 8, 10, 20], [60, 0, 2, 867, 4, 1002]) ws (vs) := by
    refine ⟨nf_in hl rfl, sgq_410 ?_⟩
    · show TQF (w_ei ws (w_ar ws (n_v vs 6) 4)) (w_ei ws (w_ar ws (n_v vs 13) 2)) (v_iv (n_v vs 7)) (v_iv (n_v vs 8)) (v_iv (n_v vs 10)) (v_iv (n_v vs 20))
      simp only [q13, q7, q8, q6]
      exact vc_Pl_edgeOfLevel_3_0 (v_iv (n_v vs 1)) (v_iv (n_v vs 2)) (v_iv (n_v vs 7)) (v_iv (n_v vs 8)) (v_iv (n_v vs 10)) (v_iv (n_v vs 11)) (v_iv (n_v vs 14)) (v_iv (n_v vs 15)) (v_iv (n_v vs 16)) (v_iv (n_v vs 17)) (v_iv (n_v vs 19)) (v_iv (n_v vs 20)) (w_ei ws (w_ar ws (n_v vs 0) 4)) (w_fi ws (n_v vs 4) 0) (w_ei ws (w_ar ws (n_v vs 5) 2)) k1 k2 k7 k8 k10 k11 k14 k15 k16 k17 k19 k20 d0 d1 d2 d3 d4 d5 d6 f0 f1 h2 f4 f5 f6 f7 f8 g9 f10 f13 hK_0_4 hK_5_2 kz_4_0
  have nf1 : fc_1 PRD (20, [20, 12], [50, 1, 0, 1000, 0, 2, 1, 0, 2, 1, 0]) ws (vs) := by
    refine ⟨nf_in hl rfl, sgq_411 ?_⟩
    · show v_iv (n_v vs 20) ≤ w_fi ws (n_v vs 12) 0
      rw [q12]
      exact vc_Pl_edgeOfLevel_3_1 (v_iv (n_v vs 1)) (v_iv (n_v vs 2)) (v_iv (n_v vs 7)) (v_iv (n_v vs 8)) (v_iv (n_v vs 10)) (v_iv (n_v vs 11)) (v_iv (n_v vs 14)) (v_iv (n_v vs 15)) (v_iv (n_v vs 16)) (v_iv (n_v vs 17)) (v_iv (n_v vs 19)) (v_iv (n_v vs 20)) (w_ei ws (w_ar ws (n_v vs 0) 4)) (w_fi ws (n_v vs 4) 0) (w_ei ws (w_ar ws (n_v vs 5) 2)) k1 k2 k7 k8 k10 k11 k14 k15 k16 k17 k19 k20 d0 d1 d2 d3 d4 d5 d6 f0 f1 h2 f4 f5 f6 f7 f8 g9 f10 f13 hK_0_4 hK_5_2 kz_4_0
  refine ⟨(fun _ h => (by cases h)), [], trivial, ?_, (fun _ h => (by cases h))⟩
  rw [List.append_nil]
  exact List.forall_mem_cons.mpr ⟨⟨show (20 : Nat) < 100 from by decide, nf0⟩, List.forall_mem_cons.mpr ⟨⟨show (20 : Nat) < 100 from by decide, nf1⟩, (fun _ h => (by cases h))⟩⟩
set_option maxHeartbeats 4000000 in
theorem vc_Pl_edgeOfLevel_4_0 (x1 : Int) (x2 : Int) (x7 : Int) (x8 : Int) (x10 : Int) (x11 : Int) (x14 : Int) (x15 : Int) (x16 : Int) (x17 : Int) (x19 : Int) (x21 : Int) (x22 : Int) (x23 : Int) (x_0o5 : Int → Int) (level_0 : Int → Int) (nodes_0o4 : Int) (k1 : 0 ≤ x1 ∧ x1 ≤ 16777215) (k2 : 0 ≤ x2 ∧ x2 ≤ 23) (k7 : 0 ≤ x7 ∧ x7 ≤ 16777215) (k8 : 0 ≤ x8 ∧ x8 ≤ 23) (k10 : (-2147483648) ≤ x10 ∧ x10 ≤ (-2147483648)) (k11 : 0 ≤ x11 ∧ x11 ≤ 23) (k14 : 1 ≤ x14 ∧ x14 ≤ 24) (k15 : 0 ≤ x15 ∧ x15 ≤ 16777215) (k16 : 1 ≤ x16 ∧ x16 ≤ 1) (k17 : 1 ≤ x17 ∧ x17 ≤ 1) (k19 : 0 ≤ x19 ∧ x19 ≤ 23) (k21 : (-40000000) ≤ x21 ∧ x21 ≤ 690000000) (k22 : (-2147483648) ≤ x22 ∧ x22 ≤ (-2147483648)) (k23 : 1 ≤ x23 ∧ x23 ≤ 24) (d0 : x11 + 1 ≤ x23 ∧ x23 ≤ x11 + 1) (d1 : x14 + (-4294967296) ≤ x23 ∧ x23 ≤ x14 + 0) (d2 : x8 + 0 ≤ x19 ∧ x19 ≤ x8 + 0) (d3 : x14 + (-4294967296) ≤ x11 ∧ x11 ≤ x14 + (-1)) (d4 : x7 + (-4294967296) ≤ x1 ∧ x1 ≤ x7 + 0) (d5 : x8 + (-4294967296) ≤ x2 ∧ x2 ≤ x8 + 0) (d6 : x1 + (-4294967296) ≤ x7 ∧ x7 ≤ x1 + 0) (d7 : x2 + (-4294967296) ≤ x8 ∧ x8 ≤ x2 + 0) (f0 : x23 = x11 + 1) (f1 : x10 = x22) (h2 : x21 = x_0o5 (x11)) (f4 : x19 = x2) (h5 : x19 = level_0 (x11)) (f7 : x17 ≠ 0) (f8 : x17 = x15 % 2) (f9 : bvp (x17) = bvp (x15) &&& bvp (x16)) (f10 : bvp (x15) = bvp (x1) >>> (x11).toNat) (f11 : x11 < x14) (g12 : x14 = nodes_0o4) (f13 : TQF (level_0) (x_0o5) (x1) (x2) (x10) (x11)) (f16 : x11 ≤ nodes_0o4) (hK_0_4 : ∀ j : Int, 0 ≤ j → j < 24 → 0 ≤ level_0 j ∧ level_0 j ≤ 23) (hK_5_2 : ∀ j : Int, 0 ≤ j → j < 24 → (-40000000) ≤ x_0o5 j ∧ x_0o5 j ≤ 690000000) (kz_4_0 : 0 ≤ nodes_0o4 ∧ nodes_0o4 ≤ 24) : TQF (level_0) (x_0o5) (x1) (x2) (x21) (x23) := by
  first
    | exact tqf_start (by omega) (by omega)
    | (have q := bit_one (s := x1) (t := x15) (c := x17) (v := x11) (one := x16) (by assumption) (by assumption) (by omega) (by omega) (by omega) (by omega)
       first
         | exact tqf_skip ‹TQF _ _ _ _ _ _› (Or.inl (fun z => by have := q.mp z; omega)) (by omega)
         | exact tqf_skip ‹TQF _ _ _ _ _ _› (Or.inr (by omega)) (by omega)
         | exact tqf_keep ‹TQF _ _ _ _ _ _› (by omega) (by omega)
         | exact tqf_take (v := x11) (by omega) (q.mpr (by omega)) (by omega) (by omega) (by omega))
  
set_option maxHeartbeats 4000000 in
theorem vc_Pl_edgeOfLevel_4_1 (x1 : Int) (x2 : Int) (x7 : Int) (x8 : Int) (x10 : Int) (x11 : Int) (x14 : Int) (x15 : Int) (x16 : Int) (x17 : Int) (x19 : Int) (x21 : Int) (x22 : Int) (x23 : Int) (x_0o5 : Int → Int) (level_0 : Int → Int) (nodes_0o4 : Int) (k1 : 0 ≤ x1 ∧ x1 ≤ 16777215) (k2 : 0 ≤ x2 ∧ x2 ≤ 23) (k7 : 0 ≤ x7 ∧ x7 ≤ 16777215) (k8 : 0 ≤ x8 ∧ x8 ≤ 23) (k10 : (-2147483648) ≤ x10 ∧ x10 ≤ (-2147483648)) (k11 : 0 ≤ x11 ∧ x11 ≤ 23) (k14 : 1 ≤ x14 ∧ x14 ≤ 24) (k15 : 0 ≤ x15 ∧ x15 ≤ 16777215) (k16 : 1 ≤ x16 ∧ x16 ≤ 1) (k17 : 1 ≤ x17 ∧ x17 ≤ 1) (k19 : 0 ≤ x19 ∧ x19 ≤ 23) (k21 : (-40000000) ≤ x21 ∧ x21 ≤ 690000000) (k22 : (-2147483648) ≤ x22 ∧ x22 ≤ (-2147483648)) (k23 : 1 ≤ x23 ∧ x23 ≤ 24) (d0 : x11 + 1 ≤ x23 ∧ x23 ≤ x11 + 1) (d1 : x14 + (-4294967296) ≤ x23 ∧ x23 ≤ x14 + 0) (d2 : x8 + 0 ≤ x19 ∧ x19 ≤ x8 + 0) (d3 : x14 + (-4294967296) ≤ x11 ∧ x11 ≤ x14 + (-1)) (d4 : x7 + (-4294967296) ≤ x1 ∧ x1 ≤ x7 + 0) (d5 : x8 + (-4294967296) ≤ x2 ∧ x2 ≤ x8 + 0) (d6 : x1 + (-4294967296) ≤ x7 ∧ x7 ≤ x1 + 0) (d7 : x2 + (-4294967296) ≤ x8 ∧ x8 ≤ x2 + 0) (f0 : x23 = x11 + 1) (f1 : x10 = x22) (h2 : x21 = x_0o5 (x11)) (f4 : x19 = x2) (h5 : x19 = level_0 (x11)) (f7 : x17 ≠ 0) (f8 : x17 = x15 % 2) (f9 : bvp (x17) = bvp (x15) &&& bvp (x16)) (f10 : bvp (x15) = bvp (x1) >>> (x11).toNat) (f11 : x11 < x14) (g12 : x14 = nodes_0o4) (f13 : TQF (level_0) (x_0o5) (x1) (x2) (x10) (x11)) (f16 : x11 ≤ nodes_0o4) (hK_0_4 : ∀ j : Int, 0 ≤ j → j < 24 → 0 ≤ level_0 j ∧ level_0 j ≤ 23) (hK_5_2 : ∀ j : Int, 0 ≤ j → j < 24 → (-40000000) ≤ x_0o5 j ∧ x_0o5 j ≤ 690000000) (kz_4_0 : 0 ≤ nodes_0o4 ∧ nodes_0o4 ≤ 24) : x23 ≤ nodes_0o4 := by
  first
    | omega
  
def o_Pl_edgeOfLevel_4 : or_T := (7, 24, [(0, (2, 0, 0, [6])), (1, (0, 0, 16777215, [])), (2, (0, 0, 23, [])), (4, (2, 0, 0, [3])), (5, (2, 0, 0, [0])), (6, (2, 0, 0, [6])), (7, (0, 0, 16777215, [])), (8, (0, 0, 23, [])), (10, (0, -2147483648, -2147483648, [])), (11, (0, 0, 23, [])), (12, (2, 0, 0, [3])), (13, (2, 0, 0, [0])), (14, (0, 1, 24, [])), (15, (0, 0, 16777215, [])), (16, (0, 1, 1, [])), (17, (0, 1, 1, [])), (18, (2, 0, 0, [91])), (19, (0, 0, 23, [])), (20, (2, 0, 0, [14])), (21, (0, -40000000, 690000000, [])), (22, (0, -2147483648, -2147483648, [])), (23, (0, 1, 24, []))], [(6, [23, 11], [1]), (7, [10, 22], [0]), (10, [21, 20, 11], []), (9, [20, 13], [2]), (7, [19, 8], [0]), (10, [19, 18, 11], []), (9, [18, 6], [4]), (8, [17], [1]), (12, [17, 15], [2]), (16, [17, 15, 16], [0]), (16, [15, 7, 11], [4]), (7, [11, 14], [2]), (9, [14, 12], [0]), (20, [6, 13, 7, 8, 10, 11], [60, 0, 2, 867, 4, 1002]), (24, [4, 12], []), (24, [5, 13], []), (20, [11, 12], [50, 1, 0, 1000, 0, 2, 1, 0, 2, 1, 0]), (24, [1, 7], []), (24, [2, 8], []), (24, [0, 6], [])], [], [], [(20, [6, 13, 7, 8, 21, 23], [60, 0, 2, 867, 4, 1002]), (20, [23, 12], [50, 1, 0, 1000, 0, 2, 1, 0, 2, 1, 0])], [], [(23, 11, 1, 1), (23, 14, -4294967296, 0), (19, 8, 0, 0), (11, 14, -4294967296, -1), (1, 7, -4294967296, 0), (2, 8, -4294967296, 0), (7, 1, -4294967296, 0), (8, 2, -4294967296, 0)])
theorem oo_Pl_edgeOfLevel_4 {kA : Nat → ClassId} : or_ok PRD kA GG o_Pl_edgeOfLevel_4 := by
  refine or_mk fun A ta ws vs hD hth hl => ?_
  intro t0 r0 t1 k1 t2 k2 t4 r4 t5 r5 t6 r6 t7 k7 t8 k8 t10 k10 t11 k11 t12 r12 t13 r13 t14 k14 t15 k15 t16 k16 t17 k17 t18 r18 t19 k19 t20 r20 t21 k21 t22 k22 t23 k23 d0 d1 d2 d3 d4 d5 d6 d7 f0 f1 f2 f3 f4 f5 f6 f7 f8 f9 f10 f11 f12 f13 f14 f15 f16 f17 f18 f19
  replace f0 := shm_4 f0
  replace f1 := shm_37 f1
  replace f2 := shm_107 f2
  replace f3 := shm_120 f3
  replace f4 := shm_37 f4
  replace f5 := shm_107 f5
  replace f6 := shm_108 f6
  replace f7 := shm_142 f7
  replace f8 := shm_364 f8
  replace f9 := shm_11 f9
  replace f10 := shm_13 f10
  replace f11 := shm_6 f11
  replace f12 := shm_163 f12
  replace f13 := shm_410 f13
  replace f14 := shm_5 f14
  replace f15 := shm_5 f15
  replace f16 := shm_411 f16
  replace f17 := shm_5 f17
  replace f18 := shm_5 f18
  replace f19 := shm_5 f19
  have q12 : n_v vs 12 = n_v vs 4 := f14.symm
  have q13 : n_v vs 13 = n_v vs 5 := f15.symm
  have q7 : n_v vs 7 = n_v vs 1 := f17.symm
  have q8 : n_v vs 8 = n_v vs 2 := f18.symm
  have q6 : n_v vs 6 = n_v vs 0 := f19.symm
  simp only [q13, q8, q6, q7, q12] at f3 f4 f6 f10 f12 f13 f16
  have cr_0_4 := fdq_86 hD hth r0
  have cr_5_2 := fdq_45 hD hth r5
  have ad_20 : v_ad (n_v vs 20) = w_ar ws (n_v vs 5) 2 := congrArg v_ad f3
  have ad_18 : v_ad (n_v vs 18) = w_ar ws (n_v vs 0) 4 := congrArg v_ad f6
  simp only [ad_20] at f2
  have h2 : v_iv (n_v vs 21) = w_ei ws (w_ar ws (n_v vs 5) 2) (v_iv (n_v vs 11)) := f2
  simp only [ad_18] at f5
  have h5 : v_iv (n_v vs 19) = w_ei ws (w_ar ws (n_v vs 0) 4) (v_iv (n_v vs 11)) := f5
  have g12 : v_iv (n_v vs 14) = w_fi ws (n_v vs 4) 0 := congrArg v_iv f12
  have hK_0_4 := elq_43 hD hth cr_0_4
  have hK_5_2 := elq_10 hD hth cr_5_2
  have kz_4_0 := fdq_21 hD hth r4
  have nf0 : fc_1 PRD (20, [6, 13, 7, 8, 21, 23], [60, 0, 2, 867, 4, 1002]) ws (vs) := by
    refine ⟨nf_in hl rfl, sgq_410 ?_⟩
    · show TQF (w_ei ws (w_ar ws (n_v vs 6) 4)) (w_ei ws (w_ar ws (n_v vs 13) 2)) (v_iv (n_v vs 7)) (v_iv (n_v vs 8)) (v_iv (n_v vs 21)) (v_iv (n_v vs 23))
      simp only [q13, q7, q8, q6]
      exact vc_Pl_edgeOfLevel_4_0 (v_iv (n_v vs 1)) (v_iv (n_v vs 2)) (v_iv (n_v vs 7)) (v_iv (n_v vs 8)) (v_iv (n_v vs 10)) (v_iv (n_v vs 11)) (v_iv (n_v vs 14)) (v_iv (n_v vs 15)) (v_iv (n_v vs 16)) (v_iv (n_v vs 17)) (v_iv (n_v vs 19)) (v_iv (n_v vs 21)) (v_iv (n_v vs 22)) (v_iv (n_v vs 23)) (w_ei ws (w_ar ws (n_v vs 5) 2)) (w_ei ws (w_ar ws (n_v vs 0) 4)) (w_fi ws (n_v vs 4) 0) k1 k2 k7 k8 k10 k11 k14 k15 k16 k17 k19 k21 k22 k23 d0 d1 d2 d3 d4 d5 d6 d7 f0 f1 h2 f4 h5 f7 f8 f9 f10 f11 g12 f13 f16 hK_0_4 hK_5_2 kz_4_0
  have nf1 : fc_1 PRD (20, [23, 12], [50, 1, 0, 1000, 0, 2, 1, 0, 2, 1, 0]) ws (vs) := by
    refine ⟨nf_in hl rfl, sgq_411 ?_⟩
    · show v_iv (n_v vs 23) ≤ w_fi ws (n_v vs 12) 0
      rw [q12]
      exact vc_Pl_edgeOfLevel_4_1 (v_iv (n_v vs 1)) (v_iv (n_v vs 2)) (v_iv (n_v vs 7)) (v_iv (n_v vs 8)) (v_iv (n_v vs 10)) (v_iv (n_v vs 11)) (v_iv (n_v vs 14)) (v_iv (n_v vs 15)) (v_iv (n_v vs 16)) (v_iv (n_v vs 17)) (v_iv (n_v vs 19)) (v_iv (n_v vs 21)) (v_iv (n_v vs 22)) (v_iv (n_v vs 23)) (w_ei ws (w_ar ws (n_v vs 5) 2)) (w_ei ws (w_ar ws (n_v vs 0) 4)) (w_fi ws (n_v vs 4) 0) k1 k2 k7 k8 k10 k11 k14 k15 k16 k17 k19 k21 k22 k23 d0 d1 d2 d3 d4 d5 d6 d7 f0 f1 h2 f4 h5 f7 f8 f9 f10 f11 g12 f13 f16 hK_0_4 hK_5_2 kz_4_0
  refine ⟨(fun _ h => (by cases h)), [], trivial, ?_, (fun _ h => (by cases h))⟩
  rw [List.append_nil]
  exact List.forall_mem_cons.mpr ⟨⟨show (20 : Nat) < 100 from by decide, nf0⟩, List.forall_mem_cons.mpr ⟨⟨show (20 : Nat) < 100 from by decide, nf1⟩, (fun _ h => (by cases h))⟩⟩
set_option maxHeartbeats 4000000 in
theorem vc_Pl_edgeOfLevel_5_0 (x1 : Int) (x2 : Int) (x7 : Int) (x8 : Int) (x10 : Int) (x11 : Int) (x14 : Int) (x15 : Int) (x16 : Int) (x17 : Int) (x19 : Int) (x21 : Int) (x22 : Int) (x23 : Int) (x_0o5 : Int → Int) (level_0 : Int → Int) (nodes_0o4 : Int) (k1 : 0 ≤ x1 ∧ x1 ≤ 16777215) (k2 : 0 ≤ x2 ∧ x2 ≤ 23) (k7 : 0 ≤ x7 ∧ x7 ≤ 16777215) (k8 : 0 ≤ x8 ∧ x8 ≤ 23) (k10 : (-2147483647) ≤ x10 ∧ x10 ≤ 690000000) (k11 : 0 ≤ x11 ∧ x11 ≤ 23) (k14 : 1 ≤ x14 ∧ x14 ≤ 24) (k15 : 0 ≤ x15 ∧ x15 ≤ 16777215) (k16 : 1 ≤ x16 ∧ x16 ≤ 1) (k17 : 1 ≤ x17 ∧ x17 ≤ 1) (k19 : 0 ≤ x19 ∧ x19 ≤ 23) (k21 : (-40000000) ≤ x21 ∧ x21 ≤ 690000000) (k22 : (-2147483648) ≤ x22 ∧ x22 ≤ (-2147483648)) (k23 : 1 ≤ x23 ∧ x23 ≤ 24) (d0 : x11 + 1 ≤ x23 ∧ x23 ≤ x11 + 1) (d1 : x14 + (-4294967296) ≤ x23 ∧ x23 ≤ x14 + 0) (d2 : x10 + 0 ≤ x21 ∧ x21 ≤ x10 + 4294967296) (d3 : x8 + 0 ≤ x19 ∧ x19 ≤ x8 + 0) (d4 : x14 + (-4294967296) ≤ x11 ∧ x11 ≤ x14 + (-1)) (d5 : x7 + (-4294967296) ≤ x1 ∧ x1 ≤ x7 + 0) (d6 : x8 + (-4294967296) ≤ x2 ∧ x2 ≤ x8 + 0) (d7 : x1 + (-4294967296) ≤ x7 ∧ x7 ≤ x1 + 0) (d8 : x2 + (-4294967296) ≤ x8 ∧ x8 ≤ x2 + 0) (f0 : x23 = x11 + 1) (f1 : x10 ≤ x21) (f2 : x10 ≠ x22) (h3 : x21 = x_0o5 (x11)) (f5 : x19 = x2) (h6 : x19 = level_0 (x11)) (f8 : x17 ≠ 0) (f9 : x17 = x15 % 2) (f10 : bvp (x17) = bvp (x15) &&& bvp (x16)) (f11 : bvp (x15) = bvp (x1) >>> (x11).toNat) (f12 : x11 < x14) (g13 : x14 = nodes_0o4) (f14 : TQF (level_0) (x_0o5) (x1) (x2) (x10) (x11)) (f17 : x11 ≤ nodes_0o4) (hK_0_4 : ∀ j : Int, 0 ≤ j → j < 24 → 0 ≤ level_0 j ∧ level_0 j ≤ 23) (hK_5_2 : ∀ j : Int, 0 ≤ j → j < 24 → (-40000000) ≤ x_0o5 j ∧ x_0o5 j ≤ 690000000) (kz_4_0 : 0 ≤ nodes_0o4 ∧ nodes_0o4 ≤ 24) : TQF (level_0) (x_0o5) (x1) (x2) (x10) (x23) := by
  first
    | exact tqf_start (by omega) (by omega)
    | (have q := bit_one (s := x1) (t := x15) (c := x17) (v := x11) (one := x16) (by assumption) (by assumption) (by omega) (by omega) (by omega) (by omega)
       first
         | exact tqf_skip ‹TQF _ _ _ _ _ _› (Or.inl (fun z => by have := q.mp z; omega)) (by omega)
         | exact tqf_skip ‹TQF _ _ _ _ _ _› (Or.inr (by omega)) (by omega)
         | exact tqf_keep ‹TQF _ _ _ _ _ _› (by omega) (by omega)
         | exact tqf_take (v := x11) (by omega) (q.mpr (by omega)) (by omega) (by omega) (by omega))
  
set_option maxHeartbeats 4000000 in
theorem vc_Pl_edgeOfLevel_5_1 (x1 : Int) (x2 : Int) (x7 : Int) (x8 : Int) (x10 : Int) (x11 : Int) (x14 : Int) (x15 : Int) (x16 : Int) (x17 : Int) (x19 : Int) (x21 : Int) (x22 : Int) (x23 : Int) (x_0o5 : Int → Int) (level_0 : Int → Int) (nodes_0o4 : Int) (k1 : 0 ≤ x1 ∧ x1 ≤ 16777215) (k2 : 0 ≤ x2 ∧ x2 ≤ 23) (k7 : 0 ≤ x7 ∧ x7 ≤ 16777215) (k8 : 0 ≤ x8 ∧ x8 ≤ 23) (k10 : (-2147483647) ≤ x10 ∧ x10 ≤ 690000000) (k11 : 0 ≤ x11 ∧ x11 ≤ 23) (k14 : 1 ≤ x14 ∧ x14 ≤ 24) (k15 : 0 ≤ x15 ∧ x15 ≤ 16777215) (k16 : 1 ≤ x16 ∧ x16 ≤ 1) (k17 : 1 ≤ x17 ∧ x17 ≤ 1) (k19 : 0 ≤ x19 ∧ x19 ≤ 23) (k21 : (-40000000) ≤ x21 ∧ x21 ≤ 690000000) (k22 : (-2147483648) ≤ x22 ∧ x22 ≤ (-2147483648)) (k23 : 1 ≤ x23 ∧ x23 ≤ 24) (d0 : x11 + 1 ≤ x23 ∧ x23 ≤ x11 + 1) (d1 : x14 + (-4294967296) ≤ x23 ∧ x23 ≤ x14 + 0) (d2 : x10 + 0 ≤ x21 ∧ x21 ≤ x10 + 4294967296) (d3 : x8 + 0 ≤ x19 ∧ x19 ≤ x8 + 0) (d4 : x14 + (-4294967296) ≤ x11 ∧ x11 ≤ x14 + (-1)) (d5 : x7 + (-4294967296) ≤ x1 ∧ x1 ≤ x7 + 0) (d6 : x8 + (-4294967296) ≤ x2 ∧ x2 ≤ x8 + 0) (d7 : x1 + (-4294967296) ≤ x7 ∧ x7 ≤ x1 + 0) (d8 : x2 + (-4294967296) ≤ x8 ∧ x8 ≤ x2 + 0) (f0 : x23 = x11 + 1) (f1 : x10 ≤ x21) (f2 : x10 ≠ x22) (h3 : x21 = x_0o5 (x11)) (f5 : x19 = x2) (h6 : x19 = level_0 (x11)) (f8 : x17 ≠ 0) (f9 : x17 = x15 % 2) (f10 : bvp (x17) = bvp (x15) &&& bvp (x16)) (f11 : bvp (x15) = bvp (x1) >>> (x11).toNat) (f12 : x11 < x14) (g13 : x14 = nodes_0o4) (f14 : TQF (level_0) (x_0o5) (x1) (x2) (x10) (x11)) (f17 : x11 ≤ nodes_0o4) (hK_0_4 : ∀ j : Int, 0 ≤ j → j < 24 → 0 ≤ level_0 j ∧ level_0 j ≤ 23) (hK_5_2 : ∀ j : Int, 0 ≤ j → j < 24 → (-40000000) ≤ x_0o5 j ∧ x_0o5 j ≤ 690000000) (kz_4_0 : 0 ≤ nodes_0o4 ∧ nodes_0o4 ≤ 24) : x23 ≤ nodes_0o4 := by
  first
    | omega
  
def o_Pl_edgeOfLevel_5 : or_T := (7, 24, [(0, (2, 0, 0, [6])), (1, (0, 0, 16777215, [])), (2, (0, 0, 23, [])), (4, (2, 0, 0, [3])), (5, (2, 0, 0, [0])), (6, (2, 0, 0, [6])), (7, (0, 0, 16777215, [])), (8, (0, 0, 23, [])), (10, (0, -2147483647, 690000000, [])), (11, (0, 0, 23, [])), (12, (2, 0, 0, [3])), (13, (2, 0, 0, [0])), (14, (0, 1, 24, [])), (15, (0, 0, 16777215, [])), (16, (0, 1, 1, [])), (17, (0, 1, 1, [])), (18, (2, 0, 0, [91])), (19, (0, 0, 23, [])), (20, (2, 0, 0, [14])), (21, (0, -40000000, 690000000, [])), (22, (0, -2147483648, -2147483648, [])), (23, (0, 1, 24, []))], [(6, [23, 11], [1]), (7, [21, 10], [3]), (7, [10, 22], [1]), (10, [21, 20, 11], []), (9, [20, 13], [2]), (7, [19, 8], [0]), (10, [19, 18, 11], []), (9, [18, 6], [4]), (8, [17], [1]), (12, [17, 15], [2]), (16, [17, 15, 16], [0]), (16, [15, 7, 11], [4]), (7, [11, 14], [2]), (9, [14, 12], [0]), (20, [6, 13, 7, 8, 10, 11], [60, 0, 2, 867, 4, 1002]), (24, [4, 12], []), (24, [5, 13], []), (20, [11, 12], [50, 1, 0, 1000, 0, 2, 1, 0, 2, 1, 0]), (24, [1, 7], []), (24, [2, 8], []), (24, [0, 6], [])], [], [], [(20, [6, 13, 7, 8, 10, 23], [60, 0, 2, 867, 4, 1002]), (20, [23, 12], [50, 1, 0, 1000, 0, 2, 1, 0, 2, 1, 0])], [], [(23, 11, 1, 1), (23, 14, -4294967296, 0), (21, 10, 0, 4294967296), (19, 8, 0, 0), (11, 14, -4294967296, -1), (1, 7, -4294967296, 0), (2, 8, -4294967296, 0), (7, 1, -4294967296, 0), (8, 2, -4294967296, 0)])
theorem oo_Pl_edgeOfLevel_5 {kA : Nat → ClassId} : or_ok PRD kA GG o_Pl_edgeOfLevel_5 := by
  refine or_mk fun A ta ws vs hD hth hl => ?_
  intro t0 r0 t1 k1 t2 k2 t4 r4 t5 r5 t6 r6 t7 k7 t8 k8 t10 k10 t11 k11 t12 r12 t13 r13 t14 k14 t15 k15 t16 k16 t17 k17 t18 r18 t19 k19 t20 r20 t21 k21 t22 k22 t23 k23 d0 d1 d2 d3 d4 d5 d6 d7 d8 f0 f1 f2 f3 f4 f5 f6 f7 f8 f9 f10 f11 f12 f13 f14 f15 f16 f17 f18 f19 f20
  replace f0 := shm_4 f0
  replace f1 := shm_2 f1
  replace f2 := shm_40 f2
  replace f3 := shm_107 f3
  replace f4 := shm_120 f4
  replace f5 := shm_37 f5
  replace f6 := shm_107 f6
  replace f7 := shm_108 f7
  replace f8 := shm_142 f8
  replace f9 := shm_364 f9
  replace f10 := shm_11 f10
  replace f11 := shm_13 f11
  replace f12 := shm_6 f12
  replace f13 := shm_163 f13
  replace f14 := shm_410 f14
  replace f15 := shm_5 f15
  replace f16 := shm_5 f16
  replace f17 := shm_411 f17
  replace f18 := shm_5 f18
  replace f19 := shm_5 f19
  replace f20 := shm_5 f20
  have q12 : n_v vs 12 = n_v vs 4 := f15.symm
  have q13 : n_v vs 13 = n_v vs 5 := f16.symm
  have q7 : n_v vs 7 = n_v vs 1 := f18.symm
  have q8 : n_v vs 8 = n_v vs 2 := f19.symm
  have q6 : n_v vs 6 = n_v vs 0 := f20.symm
  simp only [q13, q8, q6, q7, q12] at f4 f5 f7 f11 f13 f14 f17
  have cr_0_4 := fdq_86 hD hth r0
  have cr_5_2 := fdq_45 hD hth r5
  have ad_20 : v_ad (n_v vs 20) = w_ar ws (n_v vs 5) 2 := congrArg v_ad f4
  have ad_18 : v_ad (n_v vs 18) = w_ar ws (n_v vs 0) 4 := congrArg v_ad f7
  simp only [ad_20] at f3
  have h3 : v_iv (n_v vs 21) = w_ei ws (w_ar ws (n_v vs 5) 2) (v_iv (n_v vs 11)) := f3
  simp only [ad_18] at f6
  have h6 : v_iv (n_v vs 19) = w_ei ws (w_ar ws (n_v vs 0) 4) (v_iv (n_v vs 11)) := f6
  have g13 : v_iv (n_v vs 14) = w_fi ws (n_v vs 4) 0 := congrArg v_iv f13
  have hK_0_4 := elq_43 hD hth cr_0_4
  have hK_5_2 := elq_10 hD hth cr_5_2
  have kz_4_0 := fdq_21 hD hth r4
  have nf0 : fc_1 PRD (20, [6, 13, 7, 8, 10, 23], [60, 0, 2, 867, 4, 1002]) ws (vs) := by
    refine ⟨nf_in hl rfl, sgq_410 ?_⟩
    · show TQF (w_ei ws (w_ar ws (n_v vs 6) 4)) (w_ei ws (w_ar ws (n_v vs 13) 2)) (v_iv (n_v vs 7)) (v_iv (n_v vs 8)) (v_iv (n_v vs 10)) (v_iv (n_v vs 23))
      simp only [q13, q7, q8, q6]
      exact vc_Pl_edgeOfLevel_5_0 (v_iv (n_v vs 1)) (v_iv (n_v vs 2)) (v_iv (n_v vs 7)) (v_iv (n_v vs 8)) (v_iv (n_v vs 10)) (v_iv (n_v vs 11)) (v_iv (n_v vs 14)) (v_iv (n_v vs 15)) (v_iv (n_v vs 16)) (v_iv (n_v vs 17)) (v_iv (n_v vs 19)) (v_iv (n_v vs 21)) (v_iv (n_v vs 22)) (v_iv (n_v vs 23)) (w_ei ws (w_ar ws (n_v vs 5) 2)) (w_ei ws (w_ar ws (n_v vs 0) 4)) (w_fi ws (n_v vs 4) 0) k1 k2 k7 k8 k10 k11 k14 k15 k16 k17 k19 k21 k22 k23 d0 d1 d2 d3 d4 d5 d6 d7 d8 f0 f1 f2 h3 f5 h6 f8 f9 f10 f11 f12 g13 f14 f17 hK_0_4 hK_5_2 kz_4_0
  have nf1 : fc_1 PRD (20, [23, 12], [50, 1, 0, 1000, 0, 2, 1, 0, 2, 1, 0]) ws (vs) := by
    refine ⟨nf_in hl rfl, sgq_411 ?_⟩
    · show v_iv (n_v vs 23) ≤ w_fi ws (n_v vs 12) 0
      rw [q12]
      exact vc_Pl_edgeOfLevel_5_1 (v_iv (n_v vs 1)) (v_iv (n_v vs 2)) (v_iv (n_v vs 7)) (v_iv (n_v vs 8)) (v_iv (n_v vs 10)) (v_iv (n_v vs 11)) (v_iv (n_v vs 14)) (v_iv (n_v vs 15)) (v_iv (n_v vs 16)) (v_iv (n_v vs 17)) (v_iv (n_v vs 19)) (v_iv (n_v vs 21)) (v_iv (n_v vs 22)) (v_iv (n_v vs 23)) (w_ei ws (w_ar ws (n_v vs 5) 2)) (w_ei ws (w_ar ws (n_v vs 0) 4)) (w_fi ws (n_v vs 4) 0) k1 k2 k7 k8 k10 k11 k14 k15 k16 k17 k19 k21 k22 k23 d0 d1 d2 d3 d4 d5 d6 d7 d8 f0 f1 f2 h3 f5 h6 f8 f9 f10 f11 f12 g13 f14 f17 hK_0_4 hK_5_2 kz_4_0
  refine ⟨(fun _ h => (by cases h)), [], trivial, ?_, (fun _ h => (by cases h))⟩
  rw [List.append_nil]
  exact List.forall_mem_cons.mpr ⟨⟨show (20 : Nat) < 100 from by decide, nf0⟩, List.forall_mem_cons.mpr ⟨⟨show (20 : Nat) < 100 from by decide, nf1⟩, (fun _ h => (by cases h))⟩⟩
set_option maxHeartbeats 4000000 in
theorem vc_Pl_edgeOfLevel_6_0 (x1 : Int) (x2 : Int) (x7 : Int) (x8 : Int) (x10 : Int) (x11 : Int) (x14 : Int) (x15 : Int) (x16 : Int) (x17 : Int) (x19 : Int) (x21 : Int) (x22 : Int) (x23 : Int) (x_0o5 : Int → Int) (level_0 : Int → Int) (nodes_0o4 : Int) (k1 : 0 ≤ x1 ∧ x1 ≤ 16777215) (k2 : 0 ≤ x2 ∧ x2 ≤ 23) (k7 : 0 ≤ x7 ∧ x7 ≤ 16777215) (k8 : 0 ≤ x8 ∧ x8 ≤ 23) (k10 : (-39999999) ≤ x10 ∧ x10 ≤ 690000000) (k11 : 0 ≤ x11 ∧ x11 ≤ 23) (k14 : 1 ≤ x14 ∧ x14 ≤ 24) (k15 : 0 ≤ x15 ∧ x15 ≤ 16777215) (k16 : 1 ≤ x16 ∧ x16 ≤ 1) (k17 : 1 ≤ x17 ∧ x17 ≤ 1) (k19 : 0 ≤ x19 ∧ x19 ≤ 23) (k21 : (-40000000) ≤ x21 ∧ x21 ≤ 689999999) (k22 : (-2147483648) ≤ x22 ∧ x22 ≤ (-2147483648)) (k23 : 1 ≤ x23 ∧ x23 ≤ 24) (d0 : x11 + 1 ≤ x23 ∧ x23 ≤ x11 + 1) (d1 : x14 + (-4294967296) ≤ x23 ∧ x23 ≤ x14 + 0) (d2 : x10 + (-4294967296) ≤ x21 ∧ x21 ≤ x10 + (-1)) (d3 : x8 + 0 ≤ x19 ∧ x19 ≤ x8 + 0) (d4 : x14 + (-4294967296) ≤ x11 ∧ x11 ≤ x14 + (-1)) (d5 : x7 + (-4294967296) ≤ x1 ∧ x1 ≤ x7 + 0) (d6 : x8 + (-4294967296) ≤ x2 ∧ x2 ≤ x8 + 0) (d7 : x1 + (-4294967296) ≤ x7 ∧ x7 ≤ x1 + 0) (d8 : x2 + (-4294967296) ≤ x8 ∧ x8 ≤ x2 + 0) (f0 : x23 = x11 + 1) (f1 : x21 < x10) (f2 : x10 ≠ x22) (h3 : x21 = x_0o5 (x11)) (f5 : x19 = x2) (h6 : x19 = level_0 (x11)) (f8 : x17 ≠ 0) (f9 : x17 = x15 % 2) (f10 : bvp (x17) = bvp (x15) &&& bvp (x16)) (f11 : bvp (x15) = bvp (x1) >>> (x11).toNat) (f12 : x11 < x14) (g13 : x14 = nodes_0o4) (f14 : TQF (level_0) (x_0o5) (x1) (x2) (x10) (x11)) (f17 : x11 ≤ nodes_0o4) (hK_0_4 : ∀ j : Int, 0 ≤ j → j < 24 → 0 ≤ level_0 j ∧ level_0 j ≤ 23) (hK_5_2 : ∀ j : Int, 0 ≤ j → j < 24 → (-40000000) ≤ x_0o5 j ∧ x_0o5 j ≤ 690000000) (kz_4_0 : 0 ≤ nodes_0o4 ∧ nodes_0o4 ≤ 24) : TQF (level_0) (x_0o5) (x1) (x2) (x21) (x23) := by
  first
    | exact tqf_start (by omega) (by omega)
    | (have q := bit_one (s := x1) (t := x15) (c := x17) (v := x11) (one := x16) (by assumption) (by assumption) (by omega) (by omega) (by omega) (by omega)
       first
         | exact tqf_skip ‹TQF _ _ _ _ _ _› (Or.inl (fun z => by have := q.mp z; omega)) (by omega)
         | exact tqf_skip ‹TQF _ _ _ _ _ _› (Or.inr (by omega)) (by omega)
         | exact tqf_keep ‹TQF _ _ _ _ _ _› (by omega) (by omega)
         | exact tqf_take (v := x11) (by omega) (q.mpr (by omega)) (by omega) (by omega) (by omega))
  
set_option maxHeartbeats 4000000 in
theorem vc_Pl_edgeOfLevel_6_1 (x1 : Int) (x2 : Int) (x7 : Int) (x8 : Int) (x10 : Int) (x11 : Int) (x14 : Int) (x15 : Int) (x16 : Int) (x17 : Int) (x19 : Int) (x21 : Int) (x22 : Int) (x23 : Int) (x_0o5 : Int → Int) (level_0 : Int → Int) (nodes_0o4 : Int) (k1 : 0 ≤ x1 ∧ x1 ≤ 16777215) (k2 : 0 ≤ x2 ∧ x2 ≤ 23) (k7 : 0 ≤ x7 ∧ x7 ≤ 16777215) (k8 : 0 ≤ x8 ∧ x8 ≤ 23) (k10 : (-39999999) ≤ x10 ∧ x10 ≤ 690000000) (k11 : 0 ≤ x11 ∧ x11 ≤ 23) (k14 : 1 ≤ x14 ∧ x14 ≤ 24) (k15 : 0 ≤ x15 ∧ x15 ≤ 16777215) (k16 : 1 ≤ x16 ∧ x16 ≤ 1) (k17 : 1 ≤ x17 ∧ x17 ≤ 1) (k19 : 0 ≤ x19 ∧ x19 ≤ 23) (k21 : (-40000000) ≤ x21 ∧ x21 ≤ 689999999) (k22 : (-2147483648) ≤ x22 ∧ x22 ≤ (-2147483648)) (k23 : 1 ≤ x23 ∧ x23 ≤ 24) (d0 : x11 + 1 ≤ x23 ∧ x23 ≤ x11 + 1) (d1 : x14 + (-4294967296) ≤ x23 ∧ x23 ≤ x14 + 0) (d2 : x10 + (-4294967296) ≤ x21 ∧ x21 ≤ x10 + (-1)) (d3 : x8 + 0 ≤ x19 ∧ x19 ≤ x8 + 0) (d4 : x14 + (-4294967296) ≤ x11 ∧ x11 ≤ x14 + (-1)) (d5 : x7 + (-4294967296) ≤ x1 ∧ x1 ≤ x7 + 0) (d6 : x8 + (-4294967296) ≤ x2 ∧ x2 ≤ x8 + 0) (d7 : x1 + (-4294967296) ≤ x7 ∧ x7 ≤ x1 + 0) (d8 : x2 + (-4294967296) ≤ x8 ∧ x8 ≤ x2 + 0) (f0 : x23 = x11 + 1) (f1 : x21 < x10) (f2 : x10 ≠ x22) (h3 : x21 = x_0o5 (x11)) (f5 : x19 = x2) (h6 : x19 = level_0 (x11)) (f8 : x17 ≠ 0) (f9 : x17 = x15 % 2) (f10 : bvp (x17) = bvp (x15) &&& bvp (x16)) (f11 : bvp (x15) = bvp (x1) >>> (x11).toNat) (f12 : x11 < x14) (g13 : x14 = nodes_0o4) (f14 : TQF (level_0) (x_0o5) (x1) (x2) (x10) (x11)) (f17 : x11 ≤ nodes_0o4) (hK_0_4 : ∀ j : Int, 0 ≤ j → j < 24 → 0 ≤ level_0 j ∧ level_0 j ≤ 23) (hK_5_2 : ∀ j : Int, 0 ≤ j → j < 24 → (-40000000) ≤ x_0o5 j ∧ x_0o5 j ≤ 690000000) (kz_4_0 : 0 ≤ nodes_0o4 ∧ nodes_0o4 ≤ 24) : x23 ≤ nodes_0o4 := by
  first
    | omega
  
def o_Pl_edgeOfLevel_6 : or_T := (7, 24, [(0, (2, 0, 0, [6])), (1, (0, 0, 16777215, [])), (2, (0, 0, 23, [])), (4, (2, 0, 0, [3])), (5, (2, 0, 0, [0])), (6, (2, 0, 0, [6])), (7, (0, 0, 16777215, [])), (8, (0, 0, 23, [])), (10, (0, -39999999, 690000000, [])), (11, (0, 0, 23, [])), (12, (2, 0, 0, [3])), (13, (2, 0, 0, [0])), (14, (0, 1, 24, [])), (15, (0, 0, 16777215, [])), (16, (0, 1, 1, [])), (17, (0, 1, 1, [])), (18, (2, 0, 0, [91])), (19, (0, 0, 23, [])), (20, (2, 0, 0, [14])), (21, (0, -40000000, 689999999, [])), (22, (0, -2147483648, -2147483648, [])), (23, (0, 1, 24, []))], [(6, [23, 11], [1]), (7, [21, 10], [2]), (7, [10, 22], [1]), (10, [21, 20, 11], []), (9, [20, 13], [2]), (7, [19, 8], [0]), (10, [19, 18, 11], []), (9, [18, 6], [4]), (8, [17], [1]), (12, [17, 15], [2]), (16, [17, 15, 16], [0]), (16, [15, 7, 11], [4]), (7, [11, 14], [2]), (9, [14, 12], [0]), (20, [6, 13, 7, 8, 10, 11], [60, 0, 2, 867, 4, 1002]), (24, [4, 12], []), (24, [5, 13], []), (20, [11, 12], [50, 1, 0, 1000, 0, 2, 1, 0, 2, 1, 0]), (24, [1, 7], []), (24, [2, 8], []), (24, [0, 6], [])], [], [], [(20, [6, 13, 7, 8, 21, 23], [60, 0, 2, 867, 4, 1002]), (20, [23, 12], [50, 1, 0, 1000, 0, 2, 1, 0, 2, 1, 0])], [], [(23, 11, 1, 1), (23, 14, -4294967296, 0), (21, 10, -4294967296, -1), (19, 8, 0, 0), (11, 14, -4294967296, -1), (1, 7, -4294967296, 0), (2, 8, -4294967296, 0), (7, 1, -4294967296, 0), (8, 2, -4294967296, 0)])
theorem oo_Pl_edgeOfLevel_6 {kA : Nat → ClassId} : or_ok PRD kA GG o_Pl_edgeOfLevel_6 := by
  refine or_mk fun A ta ws vs hD hth hl => ?_
  intro t0 r0 t1 k1 t2 k2 t4 r4 t5 r5 t6 r6 t7 k7 t8 k8 t10 k10 t11 k11 t12 r12 t13 r13 t14 k14 t15 k15 t16 k16 t17 k17 t18 r18 t19 k19 t20 r20 t21 k21 t22 k22 t23 k23 d0 d1 d2 d3 d4 d5 d6 d7 d8 f0 f1 f2 f3 f4 f5 f6 f7 f8 f9 f10 f11 f12 f13 f14 f15 f16 f17 f18 f19 f20
  replace f0 := shm_4 f0
  replace f1 := shm_6 f1
  replace f2 := shm_40 f2
  replace f3 := shm_107 f3
  replace f4 := shm_120 f4
  replace f5 := shm_37 f5
  replace f6 := shm_107 f6
  replace f7 := shm_108 f7
  replace f8 := shm_142 f8
  replace f9 := shm_364 f9
  replace f10 := shm_11 f10
  replace f11 := shm_13 f11
  replace f12 := shm_6 f12
  replace f13 := shm_163 f13
  replace f14 := shm_410 f14
  replace f15 := shm_5 f15
  replace f16 := shm_5 f16
  replace f17 := shm_411 f17
  replace f18 := shm_5 f18
  replace f19 := shm_5 f19
  replace f20 := shm_5 f20
  have q12 : n_v vs 12 = n_v vs 4 := f15.symm
  have q13 : n_v vs 13 = n_v vs 5 := f16.symm
  have q7 : n_v vs 7 = n_v vs 1 := f18.symm
  have q8 : n_v vs 8 = n_v vs 2 := f19.symm
  have q6 : n_v vs 6 = n_v vs 0 := f20.symm
  simp only [q13, q8, q6, q7, q12] at f4 f5 f7 f11 f13 f14 f17
  have cr_0_4 := fdq_86 hD hth r0
  have cr_5_2 := fdq_45 hD hth r5
  have ad_20 : v_ad (n_v vs 20) = w_ar ws (n_v vs 5) 2 := congrArg v_ad f4
  have ad_18 : v_ad (n_v vs 18) = w_ar ws (n_v vs 0) 4 := congrArg v_ad f7
  simp only [ad_20] at f3
  have h3 : v_iv (n_v vs 21) = w_ei ws (w_ar ws (n_v vs 5) 2) (v_iv (n_v vs 11)) := f3
  simp only [ad_18] at f6
  have h6 : v_iv (n_v vs 19) = w_ei ws (w_ar ws (n_v vs 0) 4) (v_iv (n_v vs 11)) := f6
  have g13 : v_iv (n_v vs 14) = w_fi ws (n_v vs 4) 0 := congrArg v_iv f13
  have hK_0_4 := elq_43 hD hth cr_0_4
  have hK_5_2 := elq_10 hD hth cr_5_2
  have kz_4_0 := fdq_21 hD hth r4
  have nf0 : fc_1 PRD (20, [6, 13, 7, 8, 21, 23], [60, 0, 2, 867, 4, 1002]) ws (vs) := by
    refine ⟨nf_in hl rfl, sgq_410 ?_⟩
    · show TQF (w_ei ws (w_ar ws (n_v vs 6) 4)) (w_ei ws (w_ar ws (n_v vs 13) 2)) (v_iv (n_v vs 7)) (v_iv (n_v vs 8)) (v_iv (n_v vs 21)) (v_iv (n_v vs 23))
      simp only [q13, q7, q8, q6]
      exact vc_Pl_edgeOfLevel_6_0 (v_iv (n_v vs 1)) (v_iv (n_v vs 2)) (v_iv (n_v vs 7)) (v_iv (n_v vs 8)) (v_iv (n_v vs 10)) (v_iv (n_v vs 11)) (v_iv (n_v vs 14)) (v_iv (n_v vs 15)) (v_iv (n_v vs 16)) (v_iv (n_v vs 17)) (v_iv (n_v vs 19)) (v_iv (n_v vs 21)) (v_iv (n_v vs 22)) (v_iv (n_v vs 23)) (w_ei ws (w_ar ws (n_v vs 5) 2)) (w_ei ws (w_ar ws (n_v vs 0) 4)) (w_fi ws (n_v vs 4) 0) k1 k2 k7 k8 k10 k11 k14 k15 k16 k17 k19 k21 k22 k23 d0 d1 d2 d3 d4 d5 d6 d7 d8 f0 f1 f2 h3 f5 h6 f8 f9 f10 f11 f12 g13 f14 f17 hK_0_4 hK_5_2 kz_4_0
  have nf1 : fc_1 PRD (20, [23, 12], [50, 1, 0, 1000, 0, 2, 1, 0, 2, 1, 0]) ws (vs) := by
    refine ⟨nf_in hl rfl, sgq_411 ?_⟩
    · show v_iv (n_v vs 23) ≤ w_fi ws (n_v vs 12) 0
      rw [q12]
      exact vc_Pl_edgeOfLevel_6_1 (v_iv (n_v vs 1)) (v_iv (n_v vs 2)) (v_iv (n_v vs 7)) (v_iv (n_v vs 8)) (v_iv (n_v vs 10)) (v_iv (n_v vs 11)) (v_iv (n_v vs 14)) (v_iv (n_v vs 15)) (v_iv (n_v vs 16)) (v_iv (n_v vs 17)) (v_iv (n_v vs 19)) (v_iv (n_v vs 21)) (v_iv (n_v vs 22)) (v_iv (n_v vs 23)) (w_ei ws (w_ar ws (n_v vs 5) 2)) (w_ei ws (w_ar ws (n_v vs 0) 4)) (w_fi ws (n_v vs 4) 0) k1 k2 k7 k8 k10 k11 k14 k15 k16 k17 k19 k21 k22 k23 d0 d1 d2 d3 d4 d5 d6 d7 d8 f0 f1 f2 h3 f5 h6 f8 f9 f10 f11 f12 g13 f14 f17 hK_0_4 hK_5_2 kz_4_0
  refine ⟨(fun _ h => (by cases h)), [], trivial, ?_, (fun _ h => (by cases h))⟩
  rw [List.append_nil]
  exact List.forall_mem_cons.mpr ⟨⟨show (20 : Nat) < 100 from by decide, nf0⟩, List.forall_mem_cons.mpr ⟨⟨show (20 : Nat) < 100 from by decide, nf1⟩, (fun _ h => (by cases h))⟩⟩
set_option maxHeartbeats 4000000 in
theorem vc_Pl_edgeOfLevel_7_0 (x1 : Int) (x2 : Int) (x7 : Int) (x8 : Int) (x10 : Int) (x11 : Int) (x14 : Int) (x15 : Int) (x16 : Int) (x17 : Int) (x19 : Int) (x21 : Int) (x22 : Int) (x23 : Int) (x_0o5 : Int → Int) (level_0 : Int → Int) (nodes_0o4 : Int) (k1 : 0 ≤ x1 ∧ x1 ≤ 16777215) (k2 : 0 ≤ x2 ∧ x2 ≤ 23) (k7 : 0 ≤ x7 ∧ x7 ≤ 16777215) (k8 : 0 ≤ x8 ∧ x8 ≤ 23) (k10 : (-40000000) ≤ x10 ∧ x10 ≤ 690000000) (k11 : 0 ≤ x11 ∧ x11 ≤ 23) (k14 : 1 ≤ x14 ∧ x14 ≤ 24) (k15 : 0 ≤ x15 ∧ x15 ≤ 16777215) (k16 : 1 ≤ x16 ∧ x16 ≤ 1) (k17 : 1 ≤ x17 ∧ x17 ≤ 1) (k19 : 0 ≤ x19 ∧ x19 ≤ 23) (k21 : (-40000000) ≤ x21 ∧ x21 ≤ 690000000) (k22 : (-2147483648) ≤ x22 ∧ x22 ≤ (-2147483648)) (k23 : 1 ≤ x23 ∧ x23 ≤ 24) (d0 : x11 + 1 ≤ x23 ∧ x23 ≤ x11 + 1) (d1 : x14 + (-4294967296) ≤ x23 ∧ x23 ≤ x14 + 0) (d2 : x10 + (-4294967296) ≤ x21 ∧ x21 ≤ x10 + 0) (d3 : x8 + 0 ≤ x19 ∧ x19 ≤ x8 + 0) (d4 : x14 + (-4294967296) ≤ x11 ∧ x11 ≤ x14 + (-1)) (d5 : x7 + (-4294967296) ≤ x1 ∧ x1 ≤ x7 + 0) (d6 : x8 + (-4294967296) ≤ x2 ∧ x2 ≤ x8 + 0) (d7 : x1 + (-4294967296) ≤ x7 ∧ x7 ≤ x1 + 0) (d8 : x2 + (-4294967296) ≤ x8 ∧ x8 ≤ x2 + 0) (f0 : x23 = x11 + 1) (f1 : x21 ≤ x10) (f2 : x10 ≠ x22) (h3 : x21 = x_0o5 (x11)) (f5 : x19 = x2) (h6 : x19 = level_0 (x11)) (f8 : x17 ≠ 0) (f9 : x17 = x15 % 2) (f10 : bvp (x17) = bvp (x15) &&& bvp (x16)) (f11 : bvp (x15) = bvp (x1) >>> (x11).toNat) (f12 : x11 < x14) (g13 : x14 = nodes_0o4) (f14 : TQF (level_0) (x_0o5) (x1) (x2) (x10) (x11)) (f17 : x11 ≤ nodes_0o4) (hK_0_4 : ∀ j : Int, 0 ≤ j → j < 24 → 0 ≤ level_0 j ∧ level_0 j ≤ 23) (hK_5_2 : ∀ j : Int, 0 ≤ j → j < 24 → (-40000000) ≤ x_0o5 j ∧ x_0o5 j ≤ 690000000) (kz_4_0 : 0 ≤ nodes_0o4 ∧ nodes_0o4 ≤ 24) : TQF (level_0) (x_0o5) (x1) (x2) (x10) (x23) := by
  first
    | exact tqf_start (by omega) (by omega)
    | (have q := bit_one (s := x1) (t := x15) (c := x17) (v := x11) (one := x16) (by assumption) (by assumption) (by omega) (by omega) (by omega) (by omega)
       first
         | exact tqf_skip ‹TQF _ _ _ _ _ _› (Or.inl (fun z => by have := q.mp z; omega)) (by omega)
         | exact tqf_skip ‹TQF _ _ _ _ _ _› (Or.inr (by omega)) (by omega)
         | exact tqf_keep ‹TQF _ _ _ _ _ _› (by omega) (by omega)
         | exact tqf_take (v := x11) (by omega) (q.mpr (by omega)) (by omega) (by omega) (by omega))
  
set_option maxHeartbeats 4000000 in
theorem vc_Pl_edgeOfLevel_7_1 (x1 : Int) (x2 : Int) (x7 : Int) (x8 : Int) (x10 : Int) (x11 : Int) (x14 : Int) (x15 : Int) (x16 : Int) (x17 : Int) (x19 : Int) (x21 : Int) (x22 : Int) (x23 : Int) (x_0o5 : Int → Int) (level_0 : Int → Int) (nodes_0o4 : Int) (k1 : 0 ≤ x1 ∧ x1 ≤ 16777215) (k2 : 0 ≤ x2 ∧ x2 ≤ 23) (k7 : 0 ≤ x7 ∧ x7 ≤ 16777215) (k8 : 0 ≤ x8 ∧ x8 ≤ 23) (k10 : (-40000000) ≤ x10 ∧ x10 ≤ 690000000) (k11 : 0 ≤ x11 ∧ x11 ≤ 23) (k14 : 1 ≤ x14 ∧ x14 ≤ 24) (k15 : 0 ≤ x15 ∧ x15 ≤ 16777215) (k16 : 1 ≤ x16 ∧ x16 ≤ 1) (k17 : 1 ≤ x17 ∧ x17 ≤ 1) (k19 : 0 ≤ x19 ∧ x19 ≤ 23) (k21 : (-40000000) ≤ x21 ∧ x21 ≤ 690000000) (k22 : (-2147483648) ≤ x22 ∧ x22 ≤ (-2147483648)) (k23 : 1 ≤ x23 ∧ x23 ≤ 24) (d0 : x11 + 1 ≤ x23 ∧ x23 ≤ x11 + 1) (d1 : x14 + (-4294967296) ≤ x23 ∧ x23 ≤ x14 + 0) (d2 : x10 + (-4294967296) ≤ x21 ∧ x21 ≤ x10 + 0) (d3 : x8 + 0 ≤ x19 ∧ x19 ≤ x8 + 0) (d4 : x14 + (-4294967296) ≤ x11 ∧ x11 ≤ x14 + (-1)) (d5 : x7 + (-4294967296) ≤ x1 ∧ x1 ≤ x7 + 0) (d6 : x8 + (-4294967296) ≤ x2 ∧ x2 ≤ x8 + 0) (d7 : x1 + (-4294967296) ≤ x7 ∧ x7 ≤ x1 + 0) (d8 : x2 + (-4294967296) ≤ x8 ∧ x8 ≤ x2 + 0) (f0 : x23 = x11 + 1) (f1 : x21 ≤ x10) (f2 : x10 ≠ x22) (h3 : x21 = x_0o5 (x11)) (f5 : x19 = x2) (h6 : x19 = level_0 (x11)) (f8 : x17 ≠ 0) (f9 : x17 = x15 % 2) (f10 : bvp (x17) = bvp (x15) &&& bvp (x16)) (f11 : bvp (x15) = bvp (x1) >>> (x11).toNat) (f12 : x11 < x14) (g13 : x14 = nodes_0o4) (f14 : TQF (level_0) (x_0o5) (x1) (x2) (x10) (x11)) (f17 : x11 ≤ nodes_0o4) (hK_0_4 : ∀ j : Int, 0 ≤ j → j < 24 → 0 ≤ level_0 j ∧ level_0 j ≤ 23) (hK_5_2 : ∀ j : Int, 0 ≤ j → j < 24 → (-40000000) ≤ x_0o5 j ∧ x_0o5 j ≤ 690000000) (kz_4_0 : 0 ≤ nodes_0o4 ∧ nodes_0o4 ≤ 24) : x23 ≤ nodes_0o4 := by
  first
    | omega
  
def o_Pl_edgeOfLevel_7 : or_T := (7, 24, [(0, (2, 0, 0, [6])), (1, (0, 0, 16777215, [])), (2, (0, 0, 23, [])), (4, (2, 0, 0, [3])), (5, (2, 0, 0, [0])), (6, (2, 0, 0, [6])), (7, (0, 0, 16777215, [])), (8, (0, 0, 23, [])), (10, (0, -40000000, 690000000, [])), (11, (0, 0, 23, [])), (12, (2, 0, 0, [3])), (13, (2, 0, 0, [0])), (14, (0, 1, 24, [])), (15, (0, 0, 16777215, [])), (16, (0, 1, 1, [])), (17, (0, 1, 1, [])), (18, (2, 0, 0, [91])), (19, (0, 0, 23, [])), (20, (2, 0, 0, [14])), (21, (0, -40000000, 690000000, [])), (22, (0, -2147483648, -2147483648, [])), (23, (0, 1, 24, []))], [(6, [23, 11], [1]), (7, [21, 10], [5]), (7, [10, 22], [1]), (10, [21, 20, 11], []), (9, [20, 13], [2]), (7, [19, 8], [0]), (10, [19, 18, 11], []), (9, [18, 6], [4]), (8, [17], [1]), (12, [17, 15], [2]), (16, [17, 15, 16], [0]), (16, [15, 7, 11], [4]), (7, [11, 14], [2]), (9, [14, 12], [0]), (20, [6, 13, 7, 8, 10, 11], [60, 0, 2, 867, 4, 1002]), (24, [4, 12], []), (24, [5, 13], []), (20, [11, 12], [50, 1, 0, 1000, 0, 2, 1, 0, 2, 1, 0]), (24, [1, 7], []), (24, [2, 8], []), (24, [0, 6], [])], [], [], [(20, [6, 13, 7, 8, 10, 23], [60, 0, 2, 867, 4, 1002]), (20, [23, 12], [50, 1, 0, 1000, 0, 2, 1, 0, 2, 1, 0])], [], [(23, 11, 1, 1), (23, 14, -4294967296, 0), (21, 10, -4294967296, 0), (19, 8, 0, 0), (11, 14, -4294967296, -1), (1, 7, -4294967296, 0), (2, 8, -4294967296, 0), (7, 1, -4294967296, 0), (8, 2, -4294967296, 0)])
theorem oo_Pl_edgeOfLevel_7 {kA : Nat → ClassId} : or_ok PRD kA GG o_Pl_edgeOfLevel_7 := by
  refine or_mk fun A ta ws vs hD hth hl => ?_
  intro t0 r0 t1 k1 t2 k2 t4 r4 t5 r5 t6 r6 t7 k7 t8 k8 t10 k10 t11 k11 t12 r12 t13 r13 t14 k14 t15 k15 t16 k16 t17 k17 t18 r18 t19 k19 t20 r20 t21 k21 t22 k22 t23 k23 d0 d1 d2 d3 d4 d5 d6 d7 d8 f0 f1 f2 f3 f4 f5 f6 f7 f8 f9 f10 f11 f12 f13 f14 f15 f16 f17 f18 f19 f20
  replace f0 := shm_4 f0
  replace f1 := shm_24 f1
  replace f2 := shm_40 f2
  replace f3 := shm_107 f3
  replace f4 := shm_120 f4
  replace f5 := shm_37 f5
  replace f6 := shm_107 f6
  replace f7 := shm_108 f7
  replace f8 := shm_142 f8
  replace f9 := shm_364 f9
  replace f10 := shm_11 f10
  replace f11 := shm_13 f11
  replace f12 := shm_6 f12
  replace f13 := shm_163 f13
  replace f14 := shm_410 f14
  replace f15 := shm_5 f15
  replace f16 := shm_5 f16
  replace f17 := shm_411 f17
  replace f18 := shm_5 f18
  replace f19 := shm_5 f19
  replace f20 := shm_5 f20
  have q12 : n_v vs 12 = n_v vs 4 := f15.symm
  have q13 : n_v vs 13 = n_v vs 5 := f16.symm
  have q7 : n_v vs 7 = n_v vs 1 := f18.symm
  have q8 : n_v vs 8 = n_v vs 2 := f19.symm
  have q6 : n_v vs 6 = n_v vs 0 := f20.symm
  simp only [q13, q8, q6, q7, q12] at f4 f5 f7 f11 f13 f14 f17
  have cr_0_4 := fdq_86 hD hth r0
  have cr_5_2 := fdq_45 hD hth r5
  have ad_20 : v_ad (n_v vs 20) = w_ar ws (n_v vs 5) 2 := congrArg v_ad f4
  have ad_18 : v_ad (n_v vs 18) = w_ar ws (n_v vs 0) 4 := congrArg v_ad f7
  simp only [ad_20] at f3
  have h3 : v_iv (n_v vs 21) = w_ei ws (w_ar ws (n_v vs 5) 2) (v_iv (n_v vs 11)) := f3
  simp only [ad_18] at f6
  have h6 : v_iv (n_v vs 19) = w_ei ws (w_ar ws (n_v vs 0) 4) (v_iv (n_v vs 11)) := f6
  have g13 : v_iv (n_v vs 14) = w_fi ws (n_v vs 4) 0 := congrArg v_iv f13
  have hK_0_4 := elq_43 hD hth cr_0_4
  have hK_5_2 := elq_10 hD hth cr_5_2
  have kz_4_0 := fdq_21 hD hth r4
  have nf0 : fc_1 PRD (20, [6, 13, 7, 8, 10, 23], [60, 0, 2, 867, 4, 1002]) ws (vs) := by
    refine ⟨nf_in hl rfl, sgq_410 ?_⟩
    · show TQF (w_ei ws (w_ar ws (n_v vs 6) 4)) (w_ei ws (w_ar ws (n_v vs 13) 2)) (v_iv (n_v vs 7)) (v_iv (n_v vs 8)) (v_iv (n_v vs 10)) (v_iv (n_v vs 23))
      simp only [q13, q7, q8, q6]
      exact vc_Pl_edgeOfLevel_7_0 (v_iv (n_v vs 1)) (v_iv (n_v vs 2)) (v_iv (n_v vs 7)) (v_iv (n_v vs 8)) (v_iv (n_v vs 10)) (v_iv (n_v vs 11)) (v_iv (n_v vs 14)) (v_iv (n_v vs 15)) (v_iv (n_v vs 16)) (v_iv (n_v vs 17)) (v_iv (n_v vs 19)) (v_iv (n_v vs 21)) (v_iv (n_v vs 22)) (v_iv (n_v vs 23)) (w_ei ws (w_ar ws (n_v vs 5) 2)) (w_ei ws (w_ar ws (n_v vs 0) 4)) (w_fi ws (n_v vs 4) 0) k1 k2 k7 k8 k10 k11 k14 k15 k16 k17 k19 k21 k22 k23 d0 d1 d2 d3 d4 d5 d6 d7 d8 f0 f1 f2 h3 f5 h6 f8 f9 f10 f11 f12 g13 f14 f17 hK_0_4 hK_5_2 kz_4_0
  have nf1 : fc_1 PRD (20, [23, 12], [50, 1, 0, 1000, 0, 2, 1, 0, 2, 1, 0]) ws (vs) := by
    refine ⟨nf_in hl rfl, sgq_411 ?_⟩
    · show v_iv (n_v vs 23) ≤ w_fi ws (n_v vs 12) 0
      rw [q12]
      exact vc_Pl_edgeOfLevel_7_1 (v_iv (n_v vs 1)) (v_iv (n_v vs 2)) (v_iv (n_v vs 7)) (v_iv (n_v vs 8)) (v_iv (n_v vs 10)) (v_iv (n_v vs 11)) (v_iv (n_v vs 14)) (v_iv (n_v vs 15)) (v_iv (n_v vs 16)) (v_iv (n_v vs 17)) (v_iv (n_v vs 19)) (v_iv (n_v vs 21)) (v_iv (n_v vs 22)) (v_iv (n_v vs 23)) (w_ei ws (w_ar ws (n_v vs 5) 2)) (w_ei ws (w_ar ws (n_v vs 0) 4)) (w_fi ws (n_v vs 4) 0) k1 k2 k7 k8 k10 k11 k14 k15 k16 k17 k19 k21 k22 k23 d0 d1 d2 d3 d4 d5 d6 d7 d8 f0 f1 f2 h3 f5 h6 f8 f9 f10 f11 f12 g13 f14 f17 hK_0_4 hK_5_2 kz_4_0
  refine ⟨(fun _ h => (by cases h)), [], trivial, ?_, (fun _ h => (by cases h))⟩
  rw [List.append_nil]
  exact List.forall_mem_cons.mpr ⟨⟨show (20 : Nat) < 100 from by decide, nf0⟩, List.forall_mem_cons.mpr ⟨⟨show (20 : Nat) < 100 from by decide, nf1⟩, (fun _ h => (by cases h))⟩⟩
set_option maxHeartbeats 4000000 in
theorem vc_Pl_edgeOfLevel_8_0 (x1 : Int) (x2 : Int) (x7 : Int) (x8 : Int) (x10 : Int) (x11 : Int) (x14 : Int) (x15 : Int) (x16 : Int) (x17 : Int) (x19 : Int) (x21 : Int) (x22 : Int) (x23 : Int) (x_0o5 : Int → Int) (level_0 : Int → Int) (nodes_0o4 : Int) (k1 : 0 ≤ x1 ∧ x1 ≤ 16777215) (k2 : 0 ≤ x2 ∧ x2 ≤ 23) (k7 : 0 ≤ x7 ∧ x7 ≤ 16777215) (k8 : 0 ≤ x8 ∧ x8 ≤ 23) (k10 : (-2147483647) ≤ x10 ∧ x10 ≤ 689999999) (k11 : 0 ≤ x11 ∧ x11 ≤ 23) (k14 : 1 ≤ x14 ∧ x14 ≤ 24) (k15 : 0 ≤ x15 ∧ x15 ≤ 16777215) (k16 : 1 ≤ x16 ∧ x16 ≤ 1) (k17 : 1 ≤ x17 ∧ x17 ≤ 1) (k19 : 0 ≤ x19 ∧ x19 ≤ 23) (k21 : (-40000000) ≤ x21 ∧ x21 ≤ 690000000) (k22 : (-2147483648) ≤ x22 ∧ x22 ≤ (-2147483648)) (k23 : 1 ≤ x23 ∧ x23 ≤ 24) (d0 : x11 + 1 ≤ x23 ∧ x23 ≤ x11 + 1) (d1 : x14 + (-4294967296) ≤ x23 ∧ x23 ≤ x14 + 0) (d2 : x10 + 1 ≤ x21 ∧ x21 ≤ x10 + 4294967296) (d3 : x8 + 0 ≤ x19 ∧ x19 ≤ x8 + 0) (d4 : x14 + (-4294967296) ≤ x11 ∧ x11 ≤ x14 + (-1)) (d5 : x7 + (-4294967296) ≤ x1 ∧ x1 ≤ x7 + 0) (d6 : x8 + (-4294967296) ≤ x2 ∧ x2 ≤ x8 + 0) (d7 : x1 + (-4294967296) ≤ x7 ∧ x7 ≤ x1 + 0) (d8 : x2 + (-4294967296) ≤ x8 ∧ x8 ≤ x2 + 0) (f0 : x23 = x11 + 1) (f1 : x10 < x21) (f2 : x10 ≠ x22) (h3 : x21 = x_0o5 (x11)) (f5 : x19 = x2) (h6 : x19 = level_0 (x11)) (f8 : x17 ≠ 0) (f9 : x17 = x15 % 2) (f10 : bvp (x17) = bvp (x15) &&& bvp (x16)) (f11 : bvp (x15) = bvp (x1) >>> (x11).toNat) (f12 : x11 < x14) (g13 : x14 = nodes_0o4) (f14 : TQF (level_0) (x_0o5) (x1) (x2) (x10) (x11)) (f17 : x11 ≤ nodes_0o4) (hK_0_4 : ∀ j : Int, 0 ≤ j → j < 24 → 0 ≤ level_0 j ∧ level_0 j ≤ 23) (hK_5_2 : ∀ j : Int, 0 ≤ j → j < 24 → (-40000000) ≤ x_0o5 j ∧ x_0o5 j ≤ 690000000) (kz_4_0 : 0 ≤ nodes_0o4 ∧ nodes_0o4 ≤ 24) : TQF (level_0) (x_0o5) (x1) (x2) (x21) (x23) := by
  first
    | exact tqf_start (by omega) (by omega)
    | (have q := bit_one (s := x1) (t := x15) (c := x17) (v := x11) (one := x16) (by assumption) (by assumption) (by omega) (by omega) (by omega) (by omega)
       first
         | exact tqf_skip ‹TQF _ _ _ _ _ _› (Or.inl (fun z => by have := q.mp z; omega)) (by omega)
         | exact tqf_skip ‹TQF _ _ _ _ _ _› (Or.inr (by omega)) (by omega)
         | exact tqf_keep ‹TQF _ _ _ _ _ _› (by omega) (by omega)
         | exact tqf_take (v := x11) (by omega) (q.mpr (by omega)) (by omega) (by omega) (by omega))
  
set_option maxHeartbeats 4000000 in
theorem vc_Pl_edgeOfLevel_8_1 (x1 : Int) (x2 : Int) (x7 : Int) (x8 : Int) (x10 : Int) (x11 : Int) (x14 : Int) (x15 : Int) (x16 : Int) (x17 : Int) (x19 : Int) (x21 : Int) (x22 : Int) (x23 : Int) (x_0o5 : Int → Int) (level_0 : Int → Int) (nodes_0o4 : Int) (k1 : 0 ≤ x1 ∧ x1 ≤ 16777215) (k2 : 0 ≤ x2 ∧ x2 ≤ 23) (k7 : 0 ≤ x7 ∧ x7 ≤ 16777215) (k8 : 0 ≤ x8 ∧ x8 ≤ 23) (k10 : (-2147483647) ≤ x10 ∧ x10 ≤ 689999999) (k11 : 0 ≤ x11 ∧ x11 ≤ 23) (k14 : 1 ≤ x14 ∧ x14 ≤ 24) (k15 : 0 ≤ x15 ∧ x15 ≤ 16777215) (k16 : 1 ≤ x16 ∧ x16 ≤ 1) (k17 : 1 ≤ x17 ∧ x17 ≤ 1) (k19 : 0 ≤ x19 ∧ x19 ≤ 23) (k21 : (-40000000) ≤ x21 ∧ x21 ≤ 690000000) (k22 : (-2147483648) ≤ x22 ∧ x22 ≤ (-2147483648)) (k23 : 1 ≤ x23 ∧ x23 ≤ 24) (d0 : x11 + 1 ≤ x23 ∧ x23 ≤ x11 + 1) (d1 : x14 + (-4294967296) ≤ x23 ∧ x23 ≤ x14 + 0) (d2 : x10 + 1 ≤ x21 ∧ x21 ≤ x10 + 4294967296) (d3 : x8 + 0 ≤ x19 ∧ x19 ≤ x8 + 0) (d4 : x14 + (-4294967296) ≤ x11 ∧ x11 ≤ x14 + (-1)) (d5 : x7 + (-4294967296) ≤ x1 ∧ x1 ≤ x7 + 0) (d6 : x8 + (-4294967296) ≤ x2 ∧ x2 ≤ x8 + 0) (d7 : x1 + (-4294967296) ≤ x7 ∧ x7 ≤ x1 + 0) (d8 : x2 + (-4294967296) ≤ x8 ∧ x8 ≤ x2 + 0) (f0 : x23 = x11 + 1) (f1 : x10 < x21) (f2 : x10 ≠ x22) (h3 : x21 = x_0o5 (x11)) (f5 : x19 = x2) (h6 : x19 = level_0 (x11)) (f8 : x17 ≠ 0) (f9 : x17 = x15 % 2) (f10 : bvp (x17) = bvp (x15) &&& bvp (x16)) (f11 : bvp (x15) = bvp (x1) >>> (x11).toNat) (f12 : x11 < x14) (g13 : x14 = nodes_0o4) (f14 : TQF (level_0) (x_0o5) (x1) (x2) (x10) (x11)) (f17 : x11 ≤ nodes_0o4) (hK_0_4 : ∀ j : Int, 0 ≤ j → j < 24 → 0 ≤ level_0 j ∧ level_0 j ≤ 23) (hK_5_2 : ∀ j : Int, 0 ≤ j → j < 24 → (-40000000) ≤ x_0o5 j ∧ x_0o5 j ≤ 690000000) (kz_4_0 : 0 ≤ nodes_0o4 ∧ nodes_0o4 ≤ 24) : x23 ≤ nodes_0o4 := by
  first
    | omega
  
def o_Pl_edgeOfLevel_8 : or_T := (7, 24, [(0, (2, 0, 0, [6])), (1, (0, 0, 16777215, [])), (2, (0, 0, 23, [])), (4, (2, 0, 0, [3])), (5, (2, 0, 0, [0])), (6, (2, 0, 0, [6])), (7, (0, 0, 16777215, [])), (8, (0, 0, 23, [])), (10, (0, -2147483647, 689999999, [])), (11, (0, 0, 23, [])), (12, (2, 0, 0, [3])), (13, (2, 0, 0, [0])), (14, (0, 1, 24, [])), (15, (0, 0, 16777215, [])), (16, (0, 1, 1, [])), (17, (0, 1, 1, [])), (18, (2, 0, 0, [91])), (19, (0, 0, 23, [])), (20, (2, 0, 0, [14])), (21, (0, -40000000, 690000000, [])), (22, (0, -2147483648, -2147483648, [])), (23, (0, 1, 24, []))], [(6, [23, 11], [1]), (7, [21, 10], [4]), (7, [10, 22], [1]), (10, [21, 20, 11], []), (9, [20, 13], [2]), (7, [19, 8], [0]), (10, [19, 18, 11], []), (9, [18, 6], [4]), (8, [17], [1]), (12, [17, 15], [2]), (16, [17, 15, 16], [0]), (16, [15, 7, 11], [4]), (7, [11, 14], [2]), (9, [14, 12], [0]), (20, [6, 13, 7, 8, 10, 11], [60, 0, 2, 867, 4, 1002]), (24, [4, 12], []), (24, [5, 13], []), (20, [11, 12], [50, 1, 0, 1000, 0, 2, 1, 0, 2, 1, 0]), (24, [1, 7], []), (24, [2, 8], []), (24, [0, 6], [])], [], [], [(20, [6, 13, 7, 8, 21, 23], [60, 0, 2, 867, 4, 1002]), (20, [23, 12], [50, 1, 0, 1000, 0, 2, 1, 0, 2, 1, 0])], [], [(23, 11, 1, 1), (23, 14, -4294967296, 0), (21, 10, 1, 4294967296), (19, 8, 0, 0), (11, 14, -4294967296, -1), (1, 7, -4294967296, 0), (2, 8, -4294967296, 0), (7, 1, -4294967296, 0), (8, 2, -4294967296, 0)])
theorem oo_Pl_edgeOfLevel_8 {kA : Nat → ClassId} : or_ok PRD kA GG o_Pl_edgeOfLevel_8 := by
  refine or_mk fun A ta ws vs hD hth hl => ?_
  intro t0 r0 t1 k1 t2 k2 t4 r4 t5 r5 t6 r6 t7 k7 t8 k8 t10 k10 t11 k11 t12 r12 t13 r13 t14 k14 t15 k15 t16 k16 t17 k17 t18 r18 t19 k19 t20 r20 t21 k21 t22 k22 t23 k23 d0 d1 d2 d3 d4 d5 d6 d7 d8 f0 f1 f2 f3 f4 f5 f6 f7 f8 f9 f10 f11 f12 f13 f14 f15 f16 f17 f18 f19 f20
  replace f0 := shm_4 f0
  replace f1 := shm_21 f1
  replace f2 := shm_40 f2
  replace f3 := shm_107 f3
  replace f4 := shm_120 f4
  replace f5 := shm_37 f5
  replace f6 := shm_107 f6
  replace f7 := shm_108 f7
  replace f8 := shm_142 f8
  replace f9 := shm_364 f9
  replace f10 := shm_11 f10
  replace f11 := shm_13 f11
  replace f12 := shm_6 f12
  replace f13 := shm_163 f13
  replace f14 := shm_410 f14
  replace f15 := shm_5 f15
  replace f16 := shm_5 f16
  replace f17 := shm_411 f17
  replace f18 := shm_5 f18
  replace f19 := shm_5 f19
  replace f20 := shm_5 f20
  have q12 : n_v vs 12 = n_v vs 4 := f15.symm
  have q13 : n_v vs 13 = n_v vs 5 := f16.symm
  have q7 : n_v vs 7 = n_v vs 1 := f18.symm
  have q8 : n_v vs 8 = n_v vs 2 := f19.symm
  have q6 : n_v vs 6 = n_v vs 0 := f20.symm
  simp only [q13, q8, q6, q7, q12] at f4 f5 f7 f11 f13 f14 f17
  have cr_0_4 := fdq_86 hD hth r0
  have cr_5_2 := fdq_45 hD hth r5
  have ad_20 : v_ad (n_v vs 20) = w_ar ws (n_v vs 5) 2 := congrArg v_ad f4
  have ad_18 : v_ad (n_v vs 18) = w_ar ws (n_v vs 0) 4 := congrArg v_ad f7
  simp only [ad_20] at f3
  have h3 : v_iv (n_v vs 21) = w_ei ws (w_ar ws (n_v vs 5) 2) (v_iv (n_v vs 11)) := f3
  simp only [ad_18] at f6
  have h6 : v_iv (n_v vs 19) = w_ei ws (w_ar ws (n_v vs 0) 4) (v_iv (n_v vs 11)) := f6
  have g13 : v_iv (n_v vs 14) = w_fi ws (n_v vs 4) 0 := congrArg v_iv f13
  have hK_0_4 := elq_43 hD hth cr_0_4
  have hK_5_2 := elq_10 hD hth cr_5_2
  have kz_4_0 := fdq_21 hD hth r4
  have nf0 : fc_1 PRD (20, [6, 13, 7, 8, 21, 23], [60, 0, 2, 867, 4, 1002]) ws (vs) := by
    refine ⟨nf_in hl rfl, sgq_410 ?_⟩
    · show TQF (w_ei ws (w_ar ws (n_v vs 6) 4)) (w_ei ws (w_ar ws (n_v vs 13) 2)) (v_iv (n_v vs 7)) (v_iv (n_v vs 8)) (v_iv (n_v vs 21)) (v_iv (n_v vs 23))
      simp only [q13, q7, q8, q6]
      exact vc_Pl_edgeOfLevel_8_0 (v_iv (n_v vs 1)) (v_iv (n_v vs 2)) (v_iv (n_v vs 7)) (v_iv (n_v vs 8)) (v_iv (n_v vs 10)) (v_iv (n_v vs 11)) (v_iv (n_v vs 14)) (v_iv (n_v vs 15)) (v_iv (n_v vs 16)) (v_iv (n_v vs 17)) (v_iv (n_v vs 19)) (v_iv (n_v vs 21)) (v_iv (n_v vs 22)) (v_iv (n_v vs 23)) (w_ei ws (w_ar ws (n_v vs 5) 2)) (w_ei ws (w_ar ws (n_v vs 0) 4)) (w_fi ws (n_v vs 4) 0) k1 k2 k7 k8 k10 k11 k14 k15 k16 k17 k19 k21 k22 k23 d0 d1 d2 d3 d4 d5 d6 d7 d8 f0 f1 f2 h3 f5 h6 f8 f9 f10 f11 f12 g13 f14 f17 hK_0_4 hK_5_2 kz_4_0
  have nf1 : fc_1 PRD (20, [23, 12], [50, 1, 0, 1000, 0, 2, 1, 0, 2, 1, 0]) ws (vs) := by
    refine ⟨nf_in hl rfl, sgq_411 ?_⟩
    · show v_iv (n_v vs 23) ≤ w_fi ws (n_v vs 12) 0
      rw [q12]
      exact vc_Pl_edgeOfLevel_8_1 (v_iv (n_v vs 1)) (v_iv (n_v vs 2)) (v_iv (n_v vs 7)) (v_iv (n_v vs 8)) (v_iv (n_v vs 10)) (v_iv (n_v vs 11)) (v_iv (n_v vs 14)) (v_iv (n_v vs 15)) (v_iv (n_v vs 16)) (v_iv (n_v vs 17)) (v_iv (n_v vs 19)) (v_iv (n_v vs 21)) (v_iv (n_v vs 22)) (v_iv (n_v vs 23)) (w_ei ws (w_ar ws (n_v vs 5) 2)) (w_ei ws (w_ar ws (n_v vs 0) 4)) (w_fi ws (n_v vs 4) 0) k1 k2 k7 k8 k10 k11 k14 k15 k16 k17 k19 k21 k22 k23 d0 d1 d2 d3 d4 d5 d6 d7 d8 f0 f1 f2 h3 f5 h6 f8 f9 f10 f11 f12 g13 f14 f17 hK_0_4 hK_5_2 kz_4_0
  refine ⟨(fun _ h => (by cases h)), [], trivial, ?_, (fun _ h => (by cases h))⟩
  rw [List.append_nil]
  exact List.forall_mem_cons.mpr ⟨⟨show (20 : Nat) < 100 from by decide, nf0⟩, List.forall_mem_cons.mpr ⟨⟨show (20 : Nat) < 100 from by decide, nf1⟩, (fun _ h => (by cases h))⟩⟩
def n_Pl_edgeOfLevel_an : List an_T := [(7, [(0, (2, 0, 0, [6])), (1, (0, 0, 16777215, [])), (2, (0, 0, 23, [])), (3, (0, 0, 1, [])), (4, (0, (Int.negSucc 2147483647), 690000000, [])), (5, (0, 0, 24, []))], [], (0, 0), [(0, 0, 99993), (1, 11, 24), (0, 0, 100000)], [(1, 7, (Int.negSucc 999999999999), 0), (2, 8, (Int.negSucc 999999999999), 0), (3, 9, (Int.negSucc 999999999999), 0), (7, 1, (Int.negSucc 999999999999), 0), (8, 2, (Int.negSucc 999999999999), 0), (9, 3, (Int.negSucc 999999999999), 0)], [((0, 0), (2, 0, 0, [3])), ((0, 1), (2, 0, 0, [0]))], [(2, 0, 0, [6]), (0, 0, 16777215, []), (0, 0, 23, []), (0, 0, 1, []), (2, 0, 0, [3]), (2, 0, 0, [0])], 0, [], [(20, [6, 13, 7, 8, 10, 11], [60, 0, 2, 867, 4, 1002]), (24, [4, 12], []), (24, [5, 13], []), (20, [11, 12], [50, 1, 0, 1000, 0, 2, 1, 0, 2, 1, 0]), (24, [1, 7], []), (24, [2, 8], []), (24, [0, 6], []), (24, [1, 7], []), (24, [2, 8], [])])]
def t_Pl_edgeOfLevel_ct : ct_L := []
set_option maxRecDepth 100000 in
theorem c_Pl_edgeOfLevel {l : Launch} {D : va_G} {kA : Nat → ClassId} : ct_ok PRD l D kA GG y_Pl_edgeOfLevel z_Pl_edgeOfLevel e_Pl_edgeOfLevel := chk_all_ok (FT := [(9, 6, 0), (15, 6, 1), (26, 6, 4), (74, 3, 0), (127, 0, 2)]) (PT := []) (CT := t_Pl_edgeOfLevel_ct) (KT := [(0, 149, .int (Int32.ofInt (-2147483648)), (0, -2147483648, -2147483648, []))]) (NT := []) (AN := n_Pl_edgeOfLevel_an) (OT := [o_Pl_edgeOfLevel_0, o_Pl_edgeOfLevel_1, o_Pl_edgeOfLevel_2, o_Pl_edgeOfLevel_3, o_Pl_edgeOfLevel_4, o_Pl_edgeOfLevel_5, o_Pl_edgeOfLevel_6, o_Pl_edgeOfLevel_7, o_Pl_edgeOfLevel_8]) 3 244 (List.forall_mem_cons.mpr ⟨oo_Pl_edgeOfLevel_0, List.forall_mem_cons.mpr ⟨oo_Pl_edgeOfLevel_1, List.forall_mem_cons.mpr ⟨oo_Pl_edgeOfLevel_2, List.forall_mem_cons.mpr ⟨oo_Pl_edgeOfLevel_3, List.forall_mem_cons.mpr ⟨oo_Pl_edgeOfLevel_4, List.forall_mem_cons.mpr ⟨oo_Pl_edgeOfLevel_5, List.forall_mem_cons.mpr ⟨oo_Pl_edgeOfLevel_6, List.forall_mem_cons.mpr ⟨oo_Pl_edgeOfLevel_7, List.forall_mem_cons.mpr ⟨oo_Pl_edgeOfLevel_8, List.forall_mem_nil _⟩⟩⟩⟩⟩⟩⟩⟩⟩) (by decide +kernel) ⟨List.forall_mem_cons.mpr ⟨gf_Pl_9, List.forall_mem_cons.mpr ⟨gf_Pl_15, List.forall_mem_cons.mpr ⟨gf_Pl_26, List.forall_mem_cons.mpr ⟨gf_Pl_74, List.forall_mem_cons.mpr ⟨gf_Pl_127, List.forall_mem_nil _⟩⟩⟩⟩⟩, List.forall_mem_nil _, List.forall_mem_nil _, List.forall_mem_cons.mpr ⟨kx_Pl_0_149, List.forall_mem_nil _⟩, List.forall_mem_nil _, GG_pl⟩ (by decide +kernel)

set_option maxHeartbeats 4000000 in
theorem vc_Pl_leastOfPart_0_0 (x2 : Int) (x4 : Int) (part_0o1 : Int → Int) (nodes_0o3 : Int) (k2 : 0 ≤ x2 ∧ x2 ≤ 23) (k4 : 0 ≤ x4 ∧ x4 ≤ 0) (f0 : FPE (nodes_0o3) (part_0o1) (x2)) (hK_1_4 : ∀ j : Int, 0 ≤ j → j < 24 → (-1) ≤ part_0o1 j ∧ part_0o1 j ≤ 24) (kz_3_0 : 0 ≤ nodes_0o3 ∧ nodes_0o3 ≤ 24) : FPF (nodes_0o3) (part_0o1) (x2) (x4) := by
  first
    | exact fpf_start ‹FPE _ _ _› (by omega)
    | exact fpf_skip ‹FPF _ _ _ _› (by assumption) (by omega) (by omega)
  
def o_Pl_leastOfPart_0 : or_T := (2, 5, [(1, (2, 0, 0, [2])), (2, (0, 0, 23, [])), (3, (2, 0, 0, [3])), (4, (0, 0, 0, []))], [(20, [3, 1, 2], [60, 1, 1, 681, 0, 1004])], [], [], [(20, [3, 1, 2, 4], [60, 1, 1, 682, 0, 1004]), (24, [3, 3], []), (24, [1, 1], []), (24, [2, 2], []), (24, [0, 0], []), (24, [1, 1], []), (24, [2, 2], [])], [], [])
theorem oo_Pl_leastOfPart_0 {kA : Nat → ClassId} : or_ok PRD kA GG o_Pl_leastOfPart_0 := by
  refine or_mk fun A ta ws vs hD hth hl => ?_
  intro t1 r1 t2 k2 t3 r3 t4 k4 f0
  have cr_1_4 := fdq_87 hD hth r1
  have hK_1_4 := elq_29 hD hth cr_1_4
  have kz_3_0 := fdq_21 hD hth r3
  have nf0 : fc_1 PRD (20, [3, 1, 2, 4], [60, 1, 1, 682, 0, 1004]) ws (vs) := ⟨nf_in hl rfl, sgq_414 (vc_Pl_leastOfPart_0_0 (v_iv (n_v vs 2)) (v_iv (n_v vs 4)) (w_ei ws (w_ar ws (n_v vs 1) 4)) (w_fi ws (n_v vs 3) 0) k2 k4 (shm_413 f0) hK_1_4 kz_3_0)⟩
  have nf1 : fc_1 PRD (24, [3, 3], []) ws (vs) := by
    refine ⟨nf_in hl rfl, sgq_1 ?_⟩
    · show n_v vs 3 = n_v vs 3
      first | rfl | simp only [true_and]
  have nf2 : fc_1 PRD (24, [1, 1], []) ws (vs) := by
    refine ⟨nf_in hl rfl, sgq_1 ?_⟩
    · show n_v vs 1 = n_v vs 1
      first | rfl | simp only [true_and]
  have nf3 : fc_1 PRD (24, [2, 2], []) ws (vs) := by
    refine ⟨nf_in hl rfl, sgq_1 ?_⟩
    · show n_v vs 2 = n_v vs 2
      first | rfl | simp only [true_and]
  have nf4 : fc_1 PRD (24, [0, 0], []) ws (vs) := by
    refine ⟨nf_in hl rfl, sgq_1 ?_⟩
    · show n_v vs 0 = n_v vs 0
      first | rfl | simp only [true_and]
  have nf5 : fc_1 PRD (24, [1, 1], []) ws (vs) := by
    refine ⟨nf_in hl rfl, sgq_1 ?_⟩
    · show n_v vs 1 = n_v vs 1
      first | rfl | simp only [true_and]
  have nf6 : fc_1 PRD (24, [2, 2], []) ws (vs) := by
    refine ⟨nf_in hl rfl, sgq_1 ?_⟩
    · show n_v vs 2 = n_v vs 2
      first | rfl | simp only [true_and]
  refine ⟨(fun _ h => (by cases h)), [], trivial, ?_, (fun _ h => (by cases h))⟩
  rw [List.append_nil]
  exact List.forall_mem_cons.mpr ⟨⟨show (20 : Nat) < 100 from by decide, nf0⟩, List.forall_mem_cons.mpr ⟨⟨show (24 : Nat) < 100 from by decide, nf1⟩, List.forall_mem_cons.mpr ⟨⟨show (24 : Nat) < 100 from by decide, nf2⟩, List.forall_mem_cons.mpr ⟨⟨show (24 : Nat) < 100 from by decide, nf3⟩, List.forall_mem_cons.mpr ⟨⟨show (24 : Nat) < 100 from by decide, nf4⟩, List.forall_mem_cons.mpr ⟨⟨show (24 : Nat) < 100 from by decide, nf5⟩, List.forall_mem_cons.mpr ⟨⟨show (24 : Nat) < 100 from by decide, nf6⟩, (fun _ h => (by cases h))⟩⟩⟩⟩⟩⟩⟩
set_option maxHeartbeats 4000000 in
theorem vc_Pl_leastOfPart_1_0 (x2 : Int) (x6 : Int) (x7 : Int) (x9 : Int) (x10 : Int) (nodes_0o3 : Int) (part_0o1 : Int → Int) (k2 : 0 ≤ x2 ∧ x2 ≤ 23) (k6 : 0 ≤ x6 ∧ x6 ≤ 23) (k7 : 0 ≤ x7 ∧ x7 ≤ 24) (k9 : 0 ≤ x9 ∧ x9 ≤ 24) (k10 : 0 ≤ x10 ∧ x10 ≤ 0) (d0 : x9 + 0 ≤ x7 ∧ x7 ≤ x9 + 4294967296) (d1 : x6 + (-4294967296) ≤ x2 ∧ x2 ≤ x6 + 0) (d2 : x2 + (-4294967296) ≤ x6 ∧ x6 ≤ x2 + 0) (f0 : x9 ≤ x7) (g1 : x9 = nodes_0o3) (f2 : FPF (nodes_0o3) (part_0o1) (x2) (x7)) (hK_1_4 : ∀ j : Int, 0 ≤ j → j < 24 → (-1) ≤ part_0o1 j ∧ part_0o1 j ≤ 24) (kz_3_0 : 0 ≤ nodes_0o3 ∧ nodes_0o3 ≤ 24) : RTP (part_0o1) (x10) (x2) := by
  first
    | (obtain ⟨u, u0, u1, u2, u3⟩ := (‹FPF _ _ _ _›); exfalso; omega)
    | (show part_0o1 x7 = x2; omega)
  
set_option maxHeartbeats 4000000 in
theorem vc_Pl_leastOfPart_1_1 (x2 : Int) (x6 : Int) (x7 : Int) (x9 : Int) (x10 : Int) (nodes_0o3 : Int) (part_0o1 : Int → Int) (k2 : 0 ≤ x2 ∧ x2 ≤ 23) (k6 : 0 ≤ x6 ∧ x6 ≤ 23) (k7 : 0 ≤ x7 ∧ x7 ≤ 24) (k9 : 0 ≤ x9 ∧ x9 ≤ 24) (k10 : 0 ≤ x10 ∧ x10 ≤ 0) (d0 : x9 + 0 ≤ x7 ∧ x7 ≤ x9 + 4294967296) (d1 : x6 + (-4294967296) ≤ x2 ∧ x2 ≤ x6 + 0) (d2 : x2 + (-4294967296) ≤ x6 ∧ x6 ≤ x2 + 0) (f0 : x9 ≤ x7) (g1 : x9 = nodes_0o3) (f2 : FPF (nodes_0o3) (part_0o1) (x2) (x7)) (hK_1_4 : ∀ j : Int, 0 ≤ j → j < 24 → (-1) ≤ part_0o1 j ∧ part_0o1 j ≤ 24) (kz_3_0 : 0 ≤ nodes_0o3 ∧ nodes_0o3 ≤ 24) : (0 ≤ x10) ∧ ((x10 + 1) ≤ nodes_0o3) := by
  first
    | omega
    | (obtain ⟨u, u0, u1, u2, u3⟩ := (‹FPF _ _ _ _›); omega)
  
def o_Pl_leastOfPart_1 : or_T := (32, 11, [(1, (2, 0, 0, [2])), (2, (0, 0, 23, [])), (3, (2, 0, 0, [3])), (6, (0, 0, 23, [])), (7, (0, 0, 24, [])), (9, (0, 0, 24, [])), (10, (0, 0, 0, []))], [(7, [7, 9], [3]), (9, [9, 8], [0]), (20, [8, 5, 6, 7], [60, 1, 1, 682, 0, 1004]), (24, [3, 8], []), (24, [1, 5], []), (24, [2, 6], [])], [], [], [(20, [1, 10, 2], [60, 0, 1, 680, 4]), (20, [10, 3], [50, 1, 0, 1000, 2, 6, 0, 2, 0, 0, 1, 0, 0, 6, 4, 2, 1, 0, 0, 1, 2, 1, 0])], [], [(7, 9, 0, 4294967296), (2, 6, -4294967296, 0), (6, 2, -4294967296, 0)])
theorem oo_Pl_leastOfPart_1 {kA : Nat → ClassId} : or_ok PRD kA GG o_Pl_leastOfPart_1 := by
  refine or_mk fun A ta ws vs hD hth hl => ?_
  intro t1 r1 t2 k2 t3 r3 t6 k6 t7 k7 t9 k9 t10 k10 d0 d1 d2 f0 f1 f2 f3 f4 f5
  replace f1 := shm_163 f1
  replace f2 := shm_414 f2
  replace f3 := shm_5 f3
  replace f4 := shm_5 f4
  replace f5 := shm_5 f5
  have q8 : n_v vs 8 = n_v vs 3 := f3.symm
  have q5 : n_v vs 5 = n_v vs 1 := f4.symm
  have q6 : n_v vs 6 = n_v vs 2 := f5.symm
  simp only [q8, q5, q6] at f1 f2
  have cr_1_4 := fdq_87 hD hth r1
  have g1 : v_iv (n_v vs 9) = w_fi ws (n_v vs 3) 0 := congrArg v_iv f1
  have hK_1_4 := elq_29 hD hth cr_1_4
  have kz_3_0 := fdq_21 hD hth r3
  have nf0 : fc_1 PRD (20, [1, 10, 2], [60, 0, 1, 680, 4]) ws (vs) := ⟨nf_in hl rfl, sgq_415 (vc_Pl_leastOfPart_1_0 (v_iv (n_v vs 2)) (v_iv (n_v vs 6)) (v_iv (n_v vs 7)) (v_iv (n_v vs 9)) (v_iv (n_v vs 10)) (w_fi ws (n_v vs 3) 0) (w_ei ws (w_ar ws (n_v vs 1) 4)) k2 k6 k7 k9 k10 d0 d1 d2 (shm_2 f0) g1 f2 hK_1_4 kz_3_0)⟩
  have nf1 : fc_1 PRD (20, [10, 3], [50, 1, 0, 1000, 2, 6, 0, 2, 0, 0, 1, 0, 0, 6, 4, 2, 1, 0, 0, 1, 2, 1, 0]) ws (vs) := ⟨nf_in hl rfl, sgq_416 (vc_Pl_leastOfPart_1_1 (v_iv (n_v vs 2)) (v_iv (n_v vs 6)) (v_iv (n_v vs 7)) (v_iv (n_v vs 9)) (v_iv (n_v vs 10)) (w_fi ws (n_v vs 3) 0) (w_ei ws (w_ar ws (n_v vs 1) 4)) k2 k6 k7 k9 k10 d0 d1 d2 (shm_2 f0) g1 f2 hK_1_4 kz_3_0)⟩
  refine ⟨(fun _ h => (by cases h)), [], trivial, ?_, (fun _ h => (by cases h))⟩
  rw [List.append_nil]
  exact List.forall_mem_cons.mpr ⟨⟨show (20 : Nat) < 100 from by decide, nf0⟩, List.forall_mem_cons.mpr ⟨⟨show (20 : Nat) < 100 from by decide, nf1⟩, (fun _ h => (by cases h))⟩⟩
set_option maxHeartbeats 4000000 in
theorem vc_Pl_leastOfPart_2_0 (x2 : Int) (x6 : Int) (x7 : Int) (x9 : Int) (x11 : Int) (x12 : Int) (part_0o1 : Int → Int) (nodes_0o3 : Int) (k2 : 0 ≤ x2 ∧ x2 ≤ 23) (k6 : 0 ≤ x6 ∧ x6 ≤ 23) (k7 : 0 ≤ x7 ∧ x7 ≤ 23) (k9 : 1 ≤ x9 ∧ x9 ≤ 24) (k11 : (-1) ≤ x11 ∧ x11 ≤ 24) (k12 : 1 ≤ x12 ∧ x12 ≤ 24) (d0 : x7 + 1 ≤ x12 ∧ x12 ≤ x7 + 1) (d1 : x9 + (-4294967296) ≤ x12 ∧ x12 ≤ x9 + 0) (d2 : x9 + (-4294967296) ≤ x7 ∧ x7 ≤ x9 + (-1)) (d3 : x6 + (-4294967296) ≤ x2 ∧ x2 ≤ x6 + 0) (d4 : x2 + (-4294967296) ≤ x6 ∧ x6 ≤ x2 + 0) (f0 : x12 = x7 + 1) (f1 : x11 ≠ x2) (h2 : x11 = part_0o1 (x7)) (f4 : x7 < x9) (g5 : x9 = nodes_0o3) (f6 : FPF (nodes_0o3) (part_0o1) (x2) (x7)) (hK_1_4 : ∀ j : Int, 0 ≤ j → j < 24 → (-1) ≤ part_0o1 j ∧ part_0o1 j ≤ 24) (kz_3_0 : 0 ≤ nodes_0o3 ∧ nodes_0o3 ≤ 24) : FPF (nodes_0o3) (part_0o1) (x2) (x12) := by
  first
    | exact fpf_start ‹FPE _ _ _› (by omega)
    | exact fpf_skip ‹FPF _ _ _ _› (by assumption) (by omega) (by omega)
  
def o_Pl_leastOfPart_2 : or_T := (2, 13, [(1, (2, 0, 0, [2])), (2, (0, 0, 23, [])), (3, (2, 0, 0, [3])), (6, (0, 0, 23, [])), (7, (0, 0, 23, [])), (9, (0, 1, 24, [])), (11, (0, -1, 24, [])), (12, (0, 1, 24, []))], [(6, [12, 7], [1]), (7, [11, 6], [1]), (10, [11, 10, 7], []), (9, [10, 5], [4]), (7, [7, 9], [2]), (9, [9, 8], [0]), (20, [8, 5, 6, 7], [60, 1, 1, 682, 0, 1004]), (24, [3, 8], []), (24, [1, 5], []), (24, [2, 6], [])], [], [], [(20, [8, 5, 6, 12], [60, 1, 1, 682, 0, 1004])], [], [(12, 7, 1, 1), (12, 9, -4294967296, 0), (7, 9, -4294967296, -1), (2, 6, -4294967296, 0), (6, 2, -4294967296, 0)])
theorem oo_Pl_leastOfPart_2 {kA : Nat → ClassId} : or_ok PRD kA GG o_Pl_leastOfPart_2 := by
  refine or_mk fun A ta ws vs hD hth hl => ?_
  intro t1 r1 t2 k2 t3 r3 t6 k6 t7 k7 t9 k9 t11 k11 t12 k12 d0 d1 d2 d3 d4 f0 f1 f2 f3 f4 f5 f6 f7 f8 f9
  replace f0 := shm_4 f0
  replace f1 := shm_40 f1
  replace f2 := shm_107 f2
  replace f3 := shm_108 f3
  replace f4 := shm_6 f4
  replace f5 := shm_163 f5
  replace f6 := shm_414 f6
  replace f7 := shm_5 f7
  replace f8 := shm_5 f8
  replace f9 := shm_5 f9
  have q8 : n_v vs 8 = n_v vs 3 := f7.symm
  have q5 : n_v vs 5 = n_v vs 1 := f8.symm
  have q6 : n_v vs 6 = n_v vs 2 := f9.symm
  simp only [q6, q5, q8] at f1 f3 f5 f6
  have cr_1_4 := fdq_87 hD hth r1
  have ad_10 : v_ad (n_v vs 10) = w_ar ws (n_v vs 1) 4 := congrArg v_ad f3
  simp only [ad_10] at f2
  have h2 : v_iv (n_v vs 11) = w_ei ws (w_ar ws (n_v vs 1) 4) (v_iv (n_v vs 7)) := f2
  have g5 : v_iv (n_v vs 9) = w_fi ws (n_v vs 3) 0 := congrArg v_iv f5
  have hK_1_4 := elq_29 hD hth cr_1_4
  have kz_3_0 := fdq_21 hD hth r3
  have nf0 : fc_1 PRD (20, [8, 5, 6, 12], [60, 1, 1, 682, 0, 1004]) ws (vs) := by
    refine ⟨nf_in hl rfl, sgq_414 ?_⟩
    · show FPF (w_fi ws (n_v vs 8) 0) (w_ei ws (w_ar ws (n_v vs 5) 4)) (v_iv (n_v vs 6)) (v_iv (n_v vs 12))
      simp only [q8, q5, q6]
      exact vc_Pl_leastOfPart_2_0 (v_iv (n_v vs 2)) (v_iv (n_v vs 6)) (v_iv (n_v vs 7)) (v_iv (n_v vs 9)) (v_iv (n_v vs 11)) (v_iv (n_v vs 12)) (w_ei ws (w_ar ws (n_v vs 1) 4)) (w_fi ws (n_v vs 3) 0) k2 k6 k7 k9 k11 k12 d0 d1 d2 d3 d4 f0 f1 h2 f4 g5 f6 hK_1_4 kz_3_0
  refine ⟨(fun _ h => (by cases h)), [], trivial, ?_, (fun _ h => (by cases h))⟩
  rw [List.append_nil]
  exact List.forall_mem_cons.mpr ⟨⟨show (20 : Nat) < 100 from by decide, nf0⟩, (fun _ h => (by cases h))⟩
set_option maxHeartbeats 4000000 in
theorem vc_Pl_leastOfPart_3_0 (x2 : Int) (x6 : Int) (x7 : Int) (x9 : Int) (x11 : Int) (part_0o1 : Int → Int) (nodes_0o3 : Int) (k2 : 0 ≤ x2 ∧ x2 ≤ 23) (k6 : 0 ≤ x6 ∧ x6 ≤ 23) (k7 : 0 ≤ x7 ∧ x7 ≤ 23) (k9 : 1 ≤ x9 ∧ x9 ≤ 24) (k11 : 0 ≤ x11 ∧ x11 ≤ 23) (d0 : x6 + 0 ≤ x11 ∧ x11 ≤ x6 + 0) (d1 : x9 + (-4294967296) ≤ x7 ∧ x7 ≤ x9 + (-1)) (d2 : x6 + (-4294967296) ≤ x2 ∧ x2 ≤ x6 + 0) (d3 : x2 + (-4294967296) ≤ x6 ∧ x6 ≤ x2 + 0) (f0 : x11 = x2) (h1 : x11 = part_0o1 (x7)) (f3 : x7 < x9) (g4 : x9 = nodes_0o3) (f5 : FPF (nodes_0o3) (part_0o1) (x2) (x7)) (hK_1_4 : ∀ j : Int, 0 ≤ j → j < 24 → (-1) ≤ part_0o1 j ∧ part_0o1 j ≤ 24) (kz_3_0 : 0 ≤ nodes_0o3 ∧ nodes_0o3 ≤ 24) : RTP (part_0o1) (x7) (x2) := by
  first
    | (obtain ⟨u, u0, u1, u2, u3⟩ := (‹FPF _ _ _ _›); exfalso; omega)
    | (show part_0o1 x7 = x2; omega)
  
set_option maxHeartbeats 4000000 in
theorem vc_Pl_leastOfPart_3_1 (x2 : Int) (x6 : Int) (x7 : Int) (x9 : Int) (x11 : Int) (part_0o1 : Int → Int) (nodes_0o3 : Int) (k2 : 0 ≤ x2 ∧ x2 ≤ 23) (k6 : 0 ≤ x6 ∧ x6 ≤ 23) (k7 : 0 ≤ x7 ∧ x7 ≤ 23) (k9 : 1 ≤ x9 ∧ x9 ≤ 24) (k11 : 0 ≤ x11 ∧ x11 ≤ 23) (d0 : x6 + 0 ≤ x11 ∧ x11 ≤ x6 + 0) (d1 : x9 + (-4294967296) ≤ x7 ∧ x7 ≤ x9 + (-1)) (d2 : x6 + (-4294967296) ≤ x2 ∧ x2 ≤ x6 + 0) (d3 : x2 + (-4294967296) ≤ x6 ∧ x6 ≤ x2 + 0) (f0 : x11 = x2) (h1 : x11 = part_0o1 (x7)) (f3 : x7 < x9) (g4 : x9 = nodes_0o3) (f5 : FPF (nodes_0o3) (part_0o1) (x2) (x7)) (hK_1_4 : ∀ j : Int, 0 ≤ j → j < 24 → (-1) ≤ part_0o1 j ∧ part_0o1 j ≤ 24) (kz_3_0 : 0 ≤ nodes_0o3 ∧ nodes_0o3 ≤ 24) : (0 ≤ x7) ∧ ((x7 + 1) ≤ nodes_0o3) := by
  first
    | omega
    | (obtain ⟨u, u0, u1, u2, u3⟩ := (‹FPF _ _ _ _›); omega)
  
def o_Pl_leastOfPart_3 : or_T := (24, 12, [(1, (2, 0, 0, [2])), (2, (0, 0, 23, [])), (3, (2, 0, 0, [3])), (6, (0, 0, 23, [])), (7, (0, 0, 23, [])), (9, (0, 1, 24, [])), (11, (0, 0, 23, []))], [(7, [11, 6], [0]), (10, [11, 10, 7], []), (9, [10, 5], [4]), (7, [7, 9], [2]), (9, [9, 8], [0]), (20, [8, 5, 6, 7], [60, 1, 1, 682, 0, 1004]), (24, [3, 8], []), (24, [1, 5], []), (24, [2, 6], [])], [], [], [(20, [1, 7, 2], [60, 0, 1, 680, 4]), (20, [7, 3], [50, 1, 0, 1000, 2, 6, 0, 2, 0, 0, 1, 0, 0, 6, 4, 2, 1, 0, 0, 1, 2, 1, 0])], [], [(11, 6, 0, 0), (7, 9, -4294967296, -1), (2, 6, -4294967296, 0), (6, 2, -4294967296, 0)])
theorem oo_Pl_leastOfPart_3 {kA : Nat → ClassId} : or_ok PRD kA GG o_Pl_leastOfPart_3 := by
  refine or_mk fun A ta ws vs hD hth hl => ?_
  intro t1 r1 t2 k2 t3 r3 t6 k6 t7 k7 t9 k9 t11 k11 d0 d1 d2 d3 f0 f1 f2 f3 f4 f5 f6 f7 f8
  replace f0 := shm_37 f0
  replace f1 := shm_107 f1
  replace f2 := shm_108 f2
  replace f4 := shm_163 f4
  replace f5 := shm_414 f5
  replace f6 := shm_5 f6
  replace f7 := shm_5 f7
  replace f8 := shm_5 f8
  have q8 : n_v vs 8 = n_v vs 3 := f6.symm
  have q5 : n_v vs 5 = n_v vs 1 := f7.symm
  have q6 : n_v vs 6 = n_v vs 2 := f8.symm
  simp only [q6, q5, q8] at f0 f2 f4 f5
  have cr_1_4 := fdq_87 hD hth r1
  have ad_10 : v_ad (n_v vs 10) = w_ar ws (n_v vs 1) 4 := congrArg v_ad f2
  simp only [ad_10] at f1
  have h1 : v_iv (n_v vs 11) = w_ei ws (w_ar ws (n_v vs 1) 4) (v_iv (n_v vs 7)) := f1
  have g4 : v_iv (n_v vs 9) = w_fi ws (n_v vs 3) 0 := congrArg v_iv f4
  have hK_1_4 := elq_29 hD hth cr_1_4
  have kz_3_0 := fdq_21 hD hth r3
  have nf0 : fc_1 PRD (20, [1, 7, 2], [60, 0, 1, 680, 4]) ws (vs) := ⟨nf_in hl rfl, sgq_415 (vc_Pl_leastOfPart_3_0 (v_iv (n_v vs 2)) (v_iv (n_v vs 6)) (v_iv (n_v vs 7)) (v_iv (n_v vs 9)) (v_iv (n_v vs 11)) (w_ei ws (w_ar ws (n_v vs 1) 4)) (w_fi ws (n_v vs 3) 0) k2 k6 k7 k9 k11 d0 d1 d2 d3 f0 h1 (shm_6 f3) g4 f5 hK_1_4 kz_3_0)⟩
  have nf1 : fc_1 PRD (20, [7, 3], [50, 1, 0, 1000, 2, 6, 0, 2, 0, 0, 1, 0, 0, 6, 4, 2, 1, 0, 0, 1, 2, 1, 0]) ws (vs) := ⟨nf_in hl rfl, sgq_416 (vc_Pl_leastOfPart_3_1 (v_iv (n_v vs 2)) (v_iv (n_v vs 6)) (v_iv (n_v vs 7)) (v_iv (n_v vs 9)) (v_iv (n_v vs 11)) (w_ei ws (w_ar ws (n_v vs 1) 4)) (w_fi ws (n_v vs 3) 0) k2 k6 k7 k9 k11 d0 d1 d2 d3 f0 h1 (shm_6 f3) g4 f5 hK_1_4 kz_3_0)⟩
  refine ⟨(fun _ h => (by cases h)), [], trivial, ?_, (fun _ h => (by cases h))⟩
  rw [List.append_nil]
  exact List.forall_mem_cons.mpr ⟨⟨show (20 : Nat) < 100 from by decide, nf0⟩, List.forall_mem_cons.mpr ⟨⟨show (20 : Nat) < 100 from by decide, nf1⟩, (fun _ h => (by cases h))⟩⟩
def n_Pl_leastOfPart_an : List an_T := [(2, [(0, (2, 0, 0, [6])), (1, (2, 0, 0, [2])), (2, (0, 0, 23, [])), (3, (0, 0, 24, []))], [], (0, 0), [(0, 0, 99998), (1, 7, 24), (0, 0, 100000)], [(2, 6, (Int.negSucc 999999999999), 0), (6, 2, (Int.negSucc 999999999999), 0)], [((0, 0), (2, 0, 0, [3]))], [(2, 0, 0, [6]), (2, 0, 0, [2]), (0, 0, 23, []), (2, 0, 0, [3])], 0, [], [(20, [8, 5, 6, 7], [60, 1, 1, 682, 0, 1004]), (24, [3, 8], []), (24, [1, 5], []), (24, [2, 6], []), (24, [0, 4], []), (24, [1, 5], []), (24, [2, 6], [])])]
def t_Pl_leastOfPart_ct : ct_L := []
set_option maxRecDepth 100000 in
theorem c_Pl_leastOfPart {l : Launch} {D : va_G} {kA : Nat → ClassId} : ct_ok PRD l D kA GG y_Pl_leastOfPart z_Pl_leastOfPart e_Pl_leastOfPart := chk_all_ok (FT := [(9, 6, 0), (74, 3, 0), (109, 2, 4)]) (PT := []) (CT := t_Pl_leastOfPart_ct) (KT := []) (NT := []) (AN := n_Pl_leastOfPart_an) (OT := [o_Pl_leastOfPart_0, o_Pl_leastOfPart_1, o_Pl_leastOfPart_2, o_Pl_leastOfPart_3]) 3 200 (List.forall_mem_cons.mpr ⟨oo_Pl_leastOfPart_0, List.forall_mem_cons.mpr ⟨oo_Pl_leastOfPart_1, List.forall_mem_cons.mpr ⟨oo_Pl_leastOfPart_2, List.forall_mem_cons.mpr ⟨oo_Pl_leastOfPart_3, List.forall_mem_nil _⟩⟩⟩⟩) (by decide +kernel) ⟨List.forall_mem_cons.mpr ⟨gf_Pl_9, List.forall_mem_cons.mpr ⟨gf_Pl_74, List.forall_mem_cons.mpr ⟨gf_Pl_109, List.forall_mem_nil _⟩⟩⟩, List.forall_mem_nil _, List.forall_mem_nil _, List.forall_mem_nil _, List.forall_mem_nil _, GG_pl⟩ (by decide +kernel)
set_option maxHeartbeats 4000000 in
theorem vc_Pl_setArea_0_0 (x1 : Int) (x2 : Int) (x3 : Int) (x4 : Int) (x5 : Int) (x8 : Int) (x9 : Int) (x10 : Int) (x11 : Int) (x12 : Int) (x13 : Int) (x14 : Int) (x15 : Int) (x16 : Int) (x17 : Int) (x18 : Int) (x19 : Int) (x20 : Int) (x21 : Int) (area_4o6 : Int → Int) (area_0o6 : Int → Int) (area_1o6 : Int → Int) (area_2o6 : Int → Int) (area_3o6 : Int → Int) (k1 : 0 ≤ x1 ∧ x1 ≤ 31) (k2 : 0 ≤ x2 ∧ x2 ≤ 512) (k3 : 0 ≤ x3 ∧ x3 ≤ 512) (k4 : (-512) ≤ x4 ∧ x4 ≤ 512) (k5 : (-512) ≤ x5 ∧ x5 ≤ 512) (k8 : 4 ≤ x8 ∧ x8 ≤ 4) (k9 : 0 ≤ x9 ∧ x9 ≤ 124) (k10 : 4 ≤ x10 ∧ x10 ≤ 4) (k11 : 0 ≤ x11 ∧ x11 ≤ 124) (k12 : 1 ≤ x12 ∧ x12 ≤ 1) (k13 : 1 ≤ x13 ∧ x13 ≤ 125) (k14 : 4 ≤ x14 ∧ x14 ≤ 4) (k15 : 0 ≤ x15 ∧ x15 ≤ 124) (k16 : 2 ≤ x16 ∧ x16 ≤ 2) (k17 : 2 ≤ x17 ∧ x17 ≤ 126) (k18 : 4 ≤ x18 ∧ x18 ≤ 4) (k19 : 0 ≤ x19 ∧ x19 ≤ 124) (k20 : 3 ≤ x20 ∧ x20 ≤ 3) (k21 : 3 ≤ x21 ∧ x21 ≤ 127) (d0 : x19 + 3 ≤ x21 ∧ x21 ≤ x19 + 3) (d1 : x15 + 2 ≤ x17 ∧ x17 ≤ x15 + 2) (d2 : x11 + 1 ≤ x13 ∧ x13 ≤ x11 + 1) (f1 : HUL (x2) (x4)) (f2 : HUL (x3) (x5)) (f4 : x21 = x19 + x20) (f5 : x19 = 4 * x1) (f6 : HUL (x2) (x4)) (f7 : HUL (x3) (x5)) (f9 : x17 = x15 + x16) (f10 : x15 = 4 * x1) (f11 : HUL (x2) (x4)) (f12 : HUL (x3) (x5)) (f14 : x13 = x11 + x12) (f15 : x11 = 4 * x1) (f16 : HUL (x2) (x4)) (f17 : HUL (x3) (x5)) (f19 : x9 = 4 * x1) (f20 : HUL (x2) (x4)) (f21 : HUL (x3) (x5)) (f22 : BXA (area_4o6)) (hE_6_13_1 : ∀ j : Int, 0 ≤ j → (j = x21 → area_0o6 j = x5) ∧ (j ≠ x21 → area_0o6 j = area_1o6 j)) (hE_6_13_2 : ∀ j : Int, 0 ≤ j → (j = x17 → area_1o6 j = x4) ∧ (j ≠ x17 → area_1o6 j = area_2o6 j)) (hE_6_13_3 : ∀ j : Int, 0 ≤ j → (j = x13 → area_2o6 j = x3) ∧ (j ≠ x13 → area_2o6 j = area_3o6 j)) (hE_6_13_4 : ∀ j : Int, 0 ≤ j → (j = x9 → area_3o6 j = x2) ∧ (j ≠ x9 → area_3o6 j = area_4o6 j)) (hK_6_13 : ∀ j : Int, 0 ≤ j → j < 128 → (-512) ≤ area_0o6 j ∧ area_0o6 j ≤ 512) : BXA (area_0o6) := by
  first
    | exact bxa_set (i := x1) ‹BXA _› (by omega) (show HUL x2 x4 by assumption) (show HUL x3 x5 by assumption) hE_6_13_4 hE_6_13_3 hE_6_13_2 hE_6_13_1 (by omega) (by omega) (by omega) (by omega)
  
def o_Pl_setArea_0 : or_T := (56, 22, [(1, (0, 0, 31, [])), (2, (0, 0, 512, [])), (3, (0, 0, 512, [])), (4, (0, -512, 512, [])), (5, (0, -512, 512, [])), (6, (2, 0, 0, [0])), (8, (0, 4, 4, [])), (9, (0, 0, 124, [])), (10, (0, 4, 4, [])), (11, (0, 0, 124, [])), (12, (0, 1, 1, [])), (13, (0, 1, 125, [])), (14, (0, 4, 4, [])), (15, (0, 0, 124, [])), (16, (0, 2, 2, [])), (17, (0, 2, 126, [])), (18, (0, 4, 4, [])), (19, (0, 0, 124, [])), (20, (0, 3, 3, [])), (21, (0, 3, 127, []))], [(9, [7, 6], [13]), (20, [2, 4], [61, 0, 791]), (20, [3, 5], [61, 0, 791]), (100, [7, 21, 5], []), (1, [21, 19, 20], []), (3, [19, 18, 1], []), (20, [2, 4], [61, 0, 791]), (20, [3, 5], [61, 0, 791]), (100, [7, 17, 4], []), (1, [17, 15, 16], []), (3, [15, 14, 1], []), (20, [2, 4], [61, 0, 791]), (20, [3, 5], [61, 0, 791]), (100, [7, 13, 3], []), (1, [13, 11, 12], []), (3, [11, 10, 1], []), (20, [2, 4], [61, 0, 791]), (20, [3, 5], [61, 0, 791]), (100, [7, 9, 2], []), (3, [9, 8, 1], []), (20, [2, 4], [61, 0, 791]), (20, [3, 5], [61, 0, 791]), (20, [6], [60, 0, 1, 844, 13])], [], [], [(20, [6], [60, 0, 1, 844, 13])], [], [(21, 19, 3, 3), (17, 15, 2, 2), (13, 11, 1, 1)])
theorem oo_Pl_setArea_0 {kA : Nat → ClassId} : or_ok PRD kA GG o_Pl_setArea_0 := by
  refine or_mk fun A ta ws vs hD hth hl => ?_
  intro t1 k1 t2 k2 t3 k3 t4 k4 t5 k5 t6 r6 t8 k8 t9 k9 t10 k10 t11 k11 t12 k12 t13 k13 t14 k14 t15 k15 t16 k16 t17 k17 t18 k18 t19 k19 t20 k20 t21 k21 d0 d1 d2 f0 f1 f2 ta1 w1 le1 s1 f4 f5 f6 f7 ta2 w2 le2 s2 f9 f10 f11 f12 ta3 w3 le3 s3 f14 f15 f16 f17 ta4 w4 le4 s4 f19 f20 f21 f22
  replace f0 := shm_361 f0
  have s1 : (∀ b j, w_el ws b j = if b = v_ad (n_v vs 7) ∧ j = (v_iv (n_v vs 21)).toNat then v_iv (n_v vs 5) else w_el w1 b j) ∧ ∀ b k, w_fd ws b k = w_fd w1 b k := s1.2
  replace f5 := shm_38 f5
  rw [show v_iv (n_v vs 18) = 4 from by omega] at f5
  have s2 : (∀ b j, w_el w1 b j = if b = v_ad (n_v vs 7) ∧ j = (v_iv (n_v vs 17)).toNat then v_iv (n_v vs 4) else w_el w2 b j) ∧ ∀ b k, w_fd w1 b k = w_fd w2 b k := s2.2
  replace f10 := shm_38 f10
  rw [show v_iv (n_v vs 14) = 4 from by omega] at f10
  have s3 : (∀ b j, w_el w2 b j = if b = v_ad (n_v vs 7) ∧ j = (v_iv (n_v vs 13)).toNat then v_iv (n_v vs 3) else w_el w3 b j) ∧ ∀ b k, w_fd w2 b k = w_fd w3 b k := s3.2
  replace f15 := shm_38 f15
  rw [show v_iv (n_v vs 10) = 4 from by omega] at f15
  have s4 : (∀ b j, w_el w3 b j = if b = v_ad (n_v vs 7) ∧ j = (v_iv (n_v vs 9)).toNat then v_iv (n_v vs 2) else w_el w4 b j) ∧ ∀ b k, w_fd w3 b k = w_fd w4 b k := s4.2
  replace f19 := shm_38 f19
  rw [show v_iv (n_v vs 8) = 4 from by omega] at f19
  replace f22 := shm_418 f22
  have ar_6_13_1 : w_ar w1 (n_v vs 6) 13 = w_ar ws (n_v vs 6) 13 := congrArg v_ad (s1.2 _ _).symm
  have ar_6_13_2 : w_ar w2 (n_v vs 6) 13 = w_ar ws (n_v vs 6) 13 := by rw [← ar_6_13_1]; show v_ad (w_fd w2 _ _) = v_ad (w_fd w1 _ _); rw [s2.2]
  have ar_6_13_3 : w_ar w3 (n_v vs 6) 13 = w_ar ws (n_v vs 6) 13 := by rw [← ar_6_13_2]; show v_ad (w_fd w3 _ _) = v_ad (w_fd w2 _ _); rw [s3.2]
  have ar_6_13_4 : w_ar w4 (n_v vs 6) 13 = w_ar ws (n_v vs 6) 13 := by rw [← ar_6_13_3]; show v_ad (w_fd w4 _ _) = v_ad (w_fd w3 _ _); rw [s4.2]
  have cr_6_13 := fdq_88 hD hth r6
  have ad_7 : v_ad (n_v vs 7) = w_ar ws (n_v vs 6) 13 := congrArg v_ad f0
  simp only [ar_6_13_4] at f22
  have hE_6_13_1 : ∀ j : Int, 0 ≤ j → (j = v_iv (n_v vs 21) → w_ei ws (w_ar ws (n_v vs 6) 13) j = v_iv (n_v vs 5)) ∧ (j ≠ v_iv (n_v vs 21) → w_ei ws (w_ar ws (n_v vs 6) 13) j = w_ei w1 (w_ar ws (n_v vs 6) 13) j) := fun j hj => ⟨fun h => by unfold w_ei; rw [s1.1, if_pos ⟨ad_7.symm, by rw [h]⟩], fun h => by unfold w_ei; rw [s1.1, if_neg (fun e => h (by have := e.2; omega))]⟩
  have hE_6_13_2 : ∀ j : Int, 0 ≤ j → (j = v_iv (n_v vs 17) → w_ei w1 (w_ar ws (n_v vs 6) 13) j = v_iv (n_v vs 4)) ∧ (j ≠ v_iv (n_v vs 17) → w_ei w1 (w_ar ws (n_v vs 6) 13) j = w_ei w2 (w_ar ws (n_v vs 6) 13) j) := fun j hj => ⟨fun h => by unfold w_ei; rw [s2.1, if_pos ⟨ad_7.symm, by rw [h]⟩], fun h => by unfold w_ei; rw [s2.1, if_neg (fun e => h (by have := e.2; omega))]⟩
  have hE_6_13_3 : ∀ j : Int, 0 ≤ j → (j = v_iv (n_v vs 13) → w_ei w2 (w_ar ws (n_v vs 6) 13) j = v_iv (n_v vs 3)) ∧ (j ≠ v_iv (n_v vs 13) → w_ei w2 (w_ar ws (n_v vs 6) 13) j = w_ei w3 (w_ar ws (n_v vs 6) 13) j) := fun j hj => ⟨fun h => by unfold w_ei; rw [s3.1, if_pos ⟨ad_7.symm, by rw [h]⟩], fun h => by unfold w_ei; rw [s3.1, if_neg (fun e => h (by have := e.2; omega))]⟩
  have hE_6_13_4 : ∀ j : Int, 0 ≤ j → (j = v_iv (n_v vs 9) → w_ei w3 (w_ar ws (n_v vs 6) 13) j = v_iv (n_v vs 2)) ∧ (j ≠ v_iv (n_v vs 9) → w_ei w3 (w_ar ws (n_v vs 6) 13) j = w_ei w4 (w_ar ws (n_v vs 6) 13) j) := fun j hj => ⟨fun h => by unfold w_ei; rw [s4.1, if_pos ⟨ad_7.symm, by rw [h]⟩], fun h => by unfold w_ei; rw [s4.1, if_neg (fun e => h (by have := e.2; omega))]⟩
  have hK_6_13 := elq_44 hD hth cr_6_13
  have nf0 : fc_1 PRD (20, [6], [60, 0, 1, 844, 13]) ws (vs) := ⟨nf_in hl rfl, sgq_418 (vc_Pl_setArea_0_0 (v_iv (n_v vs 1)) (v_iv (n_v vs 2)) (v_iv (n_v vs 3)) (v_iv (n_v vs 4)) (v_iv (n_v vs 5)) (v_iv (n_v vs 8)) (v_iv (n_v vs 9)) (v_iv (n_v vs 10)) (v_iv (n_v vs 11)) (v_iv (n_v vs 12)) (v_iv (n_v vs 13)) (v_iv (n_v vs 14)) (v_iv (n_v vs 15)) (v_iv (n_v vs 16)) (v_iv (n_v vs 17)) (v_iv (n_v vs 18)) (v_iv (n_v vs 19)) (v_iv (n_v vs 20)) (v_iv (n_v vs 21)) (w_ei w4 (w_ar ws (n_v vs 6) 13)) (w_ei ws (w_ar ws (n_v vs 6) 13)) (w_ei w1 (w_ar ws (n_v vs 6) 13)) (w_ei w2 (w_ar ws (n_v vs 6) 13)) (w_ei w3 (w_ar ws (n_v vs 6) 13)) k1 k2 k3 k4 k5 k8 k9 k10 k11 k12 k13 k14 k15 k16 k17 k18 k19 k20 k21 d0 d1 d2 (shm_417 f1) (shm_417 f2) (shm_12 f4) f5 (shm_417 f6) (shm_417 f7) (shm_12 f9) f10 (shm_417 f11) (shm_417 f12) (shm_12 f14) f15 (shm_417 f16) (shm_417 f17) f19 (shm_417 f20) (shm_417 f21) f22 hE_6_13_1 hE_6_13_2 hE_6_13_3 hE_6_13_4 hK_6_13)⟩
  refine ⟨(fun _ h => (by cases h)), [], trivial, ?_, (fun _ h => (by cases h))⟩
  rw [List.append_nil]
  exact List.forall_mem_cons.mpr ⟨⟨show (20 : Nat) < 100 from by decide, nf0⟩, (fun _ h => (by cases h))⟩
def n_Pl_setArea_an : List an_T := []
def t_Pl_setArea_ct : ct_L := []
set_option maxRecDepth 100000 in
theorem c_Pl_setArea {l : Launch} {D : va_G} {kA : Nat → ClassId} : ct_ok PRD l D kA GG y_Pl_setArea z_Pl_setArea e_Pl_setArea := chk_all_ok (FT := [(15, 6, 1), (153, 0, 13)]) (PT := []) (CT := t_Pl_setArea_ct) (KT := []) (NT := []) (AN := n_Pl_setArea_an) (OT := [o_Pl_setArea_0]) 0 200 (List.forall_mem_cons.mpr ⟨oo_Pl_setArea_0, List.forall_mem_nil _⟩) (by decide +kernel) ⟨List.forall_mem_cons.mpr ⟨gf_Pl_15, List.forall_mem_cons.mpr ⟨gf_Pl_153, List.forall_mem_nil _⟩⟩, List.forall_mem_nil _, List.forall_mem_nil _, List.forall_mem_nil _, List.forall_mem_nil _, GG_pl⟩ (by decide +kernel)
set_option maxHeartbeats 4000000 in
theorem vc_Pl_walkTree_0_0 (x1 : Int) (x2 : Int) (x5 : Int) (x6 : Int) (x7 : Int) (x8 : Int) (x9 : Int) (x12 : Int) (x14 : Int) (part_0o4 : Int → Int) (near_0o3 : Int → Int) (nodes_0o3 : Int) (part_1o4 : Int → Int) (near_1o3 : Int → Int) (nodes_1o3 : Int) (part_2o4 : Int → Int) (near_2o3 : Int → Int) (nodes_2o3 : Int) (order_3 : Int → Int) (part_3o4 : Int → Int) (near_3o3 : Int → Int) (nodes_3o3 : Int) (parent_3 : Int → Int) (level_3 : Int → Int) (order_0 : Int → Int) (order_1 : Int → Int) (order_2 : Int → Int) (level_0 : Int → Int) (level_1 : Int → Int) (level_2 : Int → Int) (parent_0 : Int → Int) (parent_1 : Int → Int) (parent_2 : Int → Int) (k1 : 0 ≤ x1 ∧ x1 ≤ 23) (k2 : 0 ≤ x2 ∧ x2 ≤ 23) (k5 : 0 ≤ x5 ∧ x5 ≤ 24) (k6 : 1 ≤ x6 ∧ x6 ≤ 1) (k7 : 1 ≤ x7 ∧ x7 ≤ 8388608) (k8 : 1 ≤ x8 ∧ x8 ≤ 1) (k9 : 1 ≤ x9 ∧ x9 ≤ 24) (k12 : (-1) ≤ x12 ∧ x12 ≤ (-1)) (k14 : 0 ≤ x14 ∧ x14 ≤ 0) (d0 : x2 + 1 ≤ x9 ∧ x9 ≤ x2 + 1) (f3 : RTP (part_0o4) (x1) (x5)) (f4 : PNC (nodes_0o3) (near_0o3) (part_0o4)) (f5 : (0 ≤ x1) ∧ ((x1 + 1) ≤ nodes_0o3)) (f7 : RTP (part_1o4) (x1) (x5)) (f8 : PNC (nodes_1o3) (near_1o3) (part_1o4)) (f9 : (0 ≤ x1) ∧ ((x1 + 1) ≤ nodes_1o3)) (f11 : RTP (part_2o4) (x1) (x5)) (f12 : PNC (nodes_2o3) (near_2o3) (part_2o4)) (f13 : (0 ≤ x1) ∧ ((x1 + 1) ≤ nodes_2o3)) (f15 : x9 = x2 + x8) (f16 : bvp (x7) = bvp (x6) <<< (x1).toNat) (f17 : WTB (order_3) (part_3o4) (x2) (x5)) (f18 : RTP (part_3o4) (x1) (x5)) (f19 : PNC (nodes_3o3) (near_3o3) (part_3o4)) (f20 : (0 ≤ x1) ∧ ((x1 + 1) ≤ nodes_3o3)) (f21 : TQB (nodes_3o3) (order_3) (parent_3) (level_3) (part_3o4) (x2) (x5)) (fe_3_0_1 : nodes_0o3 = nodes_1o3) (fe_3_0_2 : nodes_1o3 = nodes_2o3) (fe_3_0_3 : nodes_2o3 = nodes_3o3) (hE_0_2_1 : ∀ j : Int, order_0 j = order_1 j) (hE_0_2_2 : ∀ j : Int, order_1 j = order_2 j) (hE_0_2_3 : ∀ j : Int, 0 ≤ j → (j = x2 → order_2 j = x1) ∧ (j ≠ x2 → order_2 j = order_3 j)) (hK_0_2 : ∀ j : Int, 0 ≤ j → j < 24 → 0 ≤ order_0 j ∧ order_0 j ≤ 23) (hE_0_4_1 : ∀ j : Int, 0 ≤ j → (j = x1 → level_0 j = x14) ∧ (j ≠ x1 → level_0 j = level_1 j)) (hE_0_4_2 : ∀ j : Int, level_1 j = level_2 j) (hE_0_4_3 : ∀ j : Int, level_2 j = level_3 j) (hK_0_4 : ∀ j : Int, 0 ≤ j → j < 24 → 0 ≤ level_0 j ∧ level_0 j ≤ 23) (hE_0_5_1 : ∀ j : Int, parent_0 j = parent_1 j) (hE_0_5_2 : ∀ j : Int, 0 ≤ j → (j = x1 → parent_1 j = x12) ∧ (j ≠ x1 → parent_1 j = parent_2 j)) (hE_0_5_3 : ∀ j : Int, parent_2 j = parent_3 j) (hK_0_5 : ∀ j : Int, 0 ≤ j → j < 24 → (-1) ≤ parent_0 j ∧ parent_0 j ≤ 23) (hE_3_14_1 : ∀ j : Int, near_0o3 j = near_1o3 j) (hE_3_14_2 : ∀ j : Int, near_1o3 j = near_2o3 j) (hE_3_14_3 : ∀ j : Int, near_2o3 j = near_3o3 j) (hK_3_14 : ∀ j : Int, 0 ≤ j → j < 24 → 0 ≤ near_0o3 j ∧ near_0o3 j ≤ 16777215) (hE_4_4_1 : ∀ j : Int, part_0o4 j = part_1o4 j) (hE_4_4_2 : ∀ j : Int, part_1o4 j = part_2o4 j) (hE_4_4_3 : ∀ j : Int, part_2o4 j = part_3o4 j) (hK_4_4 : ∀ j : Int, 0 ≤ j → j < 24 → (-1) ≤ part_0o4 j ∧ part_0o4 j ≤ 24) (kz_3_0 : 0 ≤ nodes_0o3 ∧ nodes_0o3 ≤ 24) : WTI (nodes_0o3) (order_0) (part_0o4) (x7) (x2) (x9) (x5) (x2) := by
  subst fe_3_0_1
  subst fe_3_0_2
  subst fe_3_0_3
  have e_hE_0_2_1 := funext hE_0_2_1; subst e_hE_0_2_1
  have e_hE_0_2_2 := funext hE_0_2_2; subst e_hE_0_2_2
  have e_hE_0_4_2 := funext hE_0_4_2; subst e_hE_0_4_2
  have e_hE_0_4_3 := funext hE_0_4_3; subst e_hE_0_4_3
  have e_hE_0_5_1 := funext hE_0_5_1; subst e_hE_0_5_1
  have e_hE_0_5_3 := funext hE_0_5_3; subst e_hE_0_5_3
  have e_hE_3_14_1 := funext hE_3_14_1; subst e_hE_3_14_1
  have e_hE_3_14_2 := funext hE_3_14_2; subst e_hE_3_14_2
  have e_hE_3_14_3 := funext hE_3_14_3; subst e_hE_3_14_3
  have e_hE_4_4_1 := funext hE_4_4_1; subst e_hE_4_4_1
  have e_hE_4_4_2 := funext hE_4_4_2; subst e_hE_4_4_2
  have e_hE_4_4_3 := funext hE_4_4_3; subst e_hE_4_4_3
  first
    | assumption
    | exact wti_next ‹WTI _ _ _ _ _ _ _ _› (by omega)
    | (have o1 : x6 = 1 := by omega
       subst o1
       exact wti_start (q := x2) (x := x1) ‹WTB _ _ _ _› (by omega) (by omega) (by omega) (by omega) ‹RTP _ _ _› (by assumption) rfl rfl (by assumption) (by omega) rfl)
    | (have qa := bit_one (s := x18) (t := x19) (c := x21) (v := x13) (one := x20) (by assumption) (by assumption) (by omega) (by omega) (by omega) (by omega)
       have qb := bit_one (s := x9) (t := x22) (c := x24) (v := x13) (one := x23) (by assumption) (by assumption) (by omega) (by omega) (by omega) (by omega)
       have o1 : x25 = 1 := by omega
       subst o1
       exact wti_step (v := x12) (w := x13) (q := x10) (x := x13) (o := x26) ‹WTI _ _ _ _ _ _ _ _› (by omega) (by omega) ‹PNC _ _ _› (by assumption) (by omega) (by omega) (by omega) (by have e := (‹x18 = _›); rw [← e]; exact qa.mpr (by omega)) (fun z => by have := qb.mp z; omega) (by assumption) rfl rfl (by assumption) (by assumption) (by omega))
  
set_option maxHeartbeats 4000000 in
theorem vc_Pl_walkTree_0_3 (x1 : Int) (x2 : Int) (x5 : Int) (x6 : Int) (x7 : Int) (x8 : Int) (x9 : Int) (x12 : Int) (x14 : Int) (part_0o4 : Int → Int) (near_0o3 : Int → Int) (nodes_0o3 : Int) (part_1o4 : Int → Int) (near_1o3 : Int → Int) (nodes_1o3 : Int) (part_2o4 : Int → Int) (near_2o3 : Int → Int) (nodes_2o3 : Int) (order_3 : Int → Int) (part_3o4 : Int → Int) (near_3o3 : Int → Int) (nodes_3o3 : Int) (parent_3 : Int → Int) (level_3 : Int → Int) (order_0 : Int → Int) (order_1 : Int → Int) (order_2 : Int → Int) (level_0 : Int → Int) (level_1 : Int → Int) (level_2 : Int → Int) (parent_0 : Int → Int) (parent_1 : Int → Int) (parent_2 : Int → Int) (k1 : 0 ≤ x1 ∧ x1 ≤ 23) (k2 : 0 ≤ x2 ∧ x2 ≤ 23) (k5 : 0 ≤ x5 ∧ x5 ≤ 24) (k6 : 1 ≤ x6 ∧ x6 ≤ 1) (k7 : 1 ≤ x7 ∧ x7 ≤ 8388608) (k8 : 1 ≤ x8 ∧ x8 ≤ 1) (k9 : 1 ≤ x9 ∧ x9 ≤ 24) (k12 : (-1) ≤ x12 ∧ x12 ≤ (-1)) (k14 : 0 ≤ x14 ∧ x14 ≤ 0) (d0 : x2 + 1 ≤ x9 ∧ x9 ≤ x2 + 1) (f3 : RTP (part_0o4) (x1) (x5)) (f4 : PNC (nodes_0o3) (near_0o3) (part_0o4)) (f5 : (0 ≤ x1) ∧ ((x1 + 1) ≤ nodes_0o3)) (f7 : RTP (part_1o4) (x1) (x5)) (f8 : PNC (nodes_1o3) (near_1o3) (part_1o4)) (f9 : (0 ≤ x1) ∧ ((x1 + 1) ≤ nodes_1o3)) (f11 : RTP (part_2o4) (x1) (x5)) (f12 : PNC (nodes_2o3) (near_2o3) (part_2o4)) (f13 : (0 ≤ x1) ∧ ((x1 + 1) ≤ nodes_2o3)) (f15 : x9 = x2 + x8) (f16 : bvp (x7) = bvp (x6) <<< (x1).toNat) (f17 : WTB (order_3) (part_3o4) (x2) (x5)) (f18 : RTP (part_3o4) (x1) (x5)) (f19 : PNC (nodes_3o3) (near_3o3) (part_3o4)) (f20 : (0 ≤ x1) ∧ ((x1 + 1) ≤ nodes_3o3)) (f21 : TQB (nodes_3o3) (order_3) (parent_3) (level_3) (part_3o4) (x2) (x5)) (fe_3_0_1 : nodes_0o3 = nodes_1o3) (fe_3_0_2 : nodes_1o3 = nodes_2o3) (fe_3_0_3 : nodes_2o3 = nodes_3o3) (hE_0_2_1 : ∀ j : Int, order_0 j = order_1 j) (hE_0_2_2 : ∀ j : Int, order_1 j = order_2 j) (hE_0_2_3 : ∀ j : Int, 0 ≤ j → (j = x2 → order_2 j = x1) ∧ (j ≠ x2 → order_2 j = order_3 j)) (hK_0_2 : ∀ j : Int, 0 ≤ j → j < 24 → 0 ≤ order_0 j ∧ order_0 j ≤ 23) (hE_0_4_1 : ∀ j : Int, 0 ≤ j → (j = x1 → level_0 j = x14) ∧ (j ≠ x1 → level_0 j = level_1 j)) (hE_0_4_2 : ∀ j : Int, level_1 j = level_2 j) (hE_0_4_3 : ∀ j : Int, level_2 j = level_3 j) (hK_0_4 : ∀ j : Int, 0 ≤ j → j < 24 → 0 ≤ level_0 j ∧ level_0 j ≤ 23) (hE_0_5_1 : ∀ j : Int, parent_0 j = parent_1 j) (hE_0_5_2 : ∀ j : Int, 0 ≤ j → (j = x1 → parent_1 j = x12) ∧ (j ≠ x1 → parent_1 j = parent_2 j)) (hE_0_5_3 : ∀ j : Int, parent_2 j = parent_3 j) (hK_0_5 : ∀ j : Int, 0 ≤ j → j < 24 → (-1) ≤ parent_0 j ∧ parent_0 j ≤ 23) (hE_3_14_1 : ∀ j : Int, near_0o3 j = near_1o3 j) (hE_3_14_2 : ∀ j : Int, near_1o3 j = near_2o3 j) (hE_3_14_3 : ∀ j : Int, near_2o3 j = near_3o3 j) (hK_3_14 : ∀ j : Int, 0 ≤ j → j < 24 → 0 ≤ near_0o3 j ∧ near_0o3 j ≤ 16777215) (hE_4_4_1 : ∀ j : Int, part_0o4 j = part_1o4 j) (hE_4_4_2 : ∀ j : Int, part_1o4 j = part_2o4 j) (hE_4_4_3 : ∀ j : Int, part_2o4 j = part_3o4 j) (hK_4_4 : ∀ j : Int, 0 ≤ j → j < 24 → (-1) ≤ part_0o4 j ∧ part_0o4 j ≤ 24) (kz_3_0 : 0 ≤ nodes_0o3 ∧ nodes_0o3 ≤ 24) : TQH (nodes_0o3) (order_0) (parent_0) (level_0) (near_0o3) (part_0o4) (x7) (x2) (x9) (x5) (x2) := by
  subst fe_3_0_1
  subst fe_3_0_2
  subst fe_3_0_3
  have e_hE_0_2_1 := funext hE_0_2_1; subst e_hE_0_2_1
  have e_hE_0_2_2 := funext hE_0_2_2; subst e_hE_0_2_2
  have e_hE_0_4_2 := funext hE_0_4_2; subst e_hE_0_4_2
  have e_hE_0_4_3 := funext hE_0_4_3; subst e_hE_0_4_3
  have e_hE_0_5_1 := funext hE_0_5_1; subst e_hE_0_5_1
  have e_hE_0_5_3 := funext hE_0_5_3; subst e_hE_0_5_3
  have e_hE_3_14_1 := funext hE_3_14_1; subst e_hE_3_14_1
  have e_hE_3_14_2 := funext hE_3_14_2; subst e_hE_3_14_2
  have e_hE_3_14_3 := funext hE_3_14_3; subst e_hE_3_14_3
  have e_hE_4_4_1 := funext hE_4_4_1; subst e_hE_4_4_1
  have e_hE_4_4_2 := funext hE_4_4_2; subst e_hE_4_4_2
  have e_hE_4_4_3 := funext hE_4_4_3; subst e_hE_4_4_3
  first
    | assumption
    | exact tqi_next ‹TQI _ _ _ _ _ _ _ _ _ _ _ _› (by omega) (Or.inl (by omega)) (by omega)
    | exact tqi_next ‹TQI _ _ _ _ _ _ _ _ _ _ _ _› (by omega) (Or.inr (by omega)) (by omega)
    | (have o1 : x6 = 1 := by omega
       subst o1
       exact tqi_start (q := x2) (x := x1) (pv := x12) (lq := x14) ‹TQB _ _ _ _ _ _ _› ‹WTB _ _ _ _› (by omega) (by omega) (by omega) ‹RTP _ _ _› (by assumption) rfl rfl (by assumption) (by omega) (by assumption) (by omega) (by assumption) (by omega) rfl)
  
def o_Pl_walkTree_0 : or_T := (33, 15, [(0, (2, 0, 0, [6])), (1, (0, 0, 23, [])), (2, (0, 0, 23, [])), (3, (2, 0, 0, [3])), (4, (2, 0, 0, [2])), (5, (0, 0, 24, [])), (6, (0, 1, 1, [])), (7, (0, 1, 8388608, [])), (8, (0, 1, 1, [])), (9, (0, 1, 24, [])), (10, (2, 0, 0, [89])), (11, (2, 0, 0, [92])), (12, (0, -1, -1, [])), (13, (2, 0, 0, [91])), (14, (0, 0, 0, []))], [(9, [13, 0], [4]), (9, [11, 0], [5]), (9, [10, 0], [2]), (20, [4, 1, 5], [60, 0, 1, 680, 4]), (20, [3, 4], [60, 1, 2, 671, 0, 14, 1004]), (20, [1, 3], [50, 1, 0, 1000, 2, 6, 0, 2, 0, 0, 1, 0, 0, 6, 4, 2, 1, 0, 0, 1, 2, 1, 0]), (100, [13, 1, 14], []), (20, [4, 1, 5], [60, 0, 1, 680, 4]), (20, [3, 4], [60, 1, 2, 671, 0, 14, 1004]), (20, [1, 3], [50, 1, 0, 1000, 2, 6, 0, 2, 0, 0, 1, 0, 0, 6, 4, 2, 1, 0, 0, 1, 2, 1, 0]), (100, [11, 1, 12], []), (20, [4, 1, 5], [60, 0, 1, 680, 4]), (20, [3, 4], [60, 1, 2, 671, 0, 14, 1004]), (20, [1, 3], [50, 1, 0, 1000, 2, 6, 0, 2, 0, 0, 1, 0, 0, 6, 4, 2, 1, 0, 0, 1, 2, 1, 0]), (100, [10, 2, 1], []), (1, [9, 2, 8], []), (16, [7, 6, 1], [3]), (20, [0, 4, 2, 5], [60, 0, 2, 678, 2, 1004]), (20, [4, 1, 5], [60, 0, 1, 680, 4]), (20, [3, 4], [60, 1, 2, 671, 0, 14, 1004]), (20, [1, 3], [50, 1, 0, 1000, 2, 6, 0, 2, 0, 0, 1, 0, 0, 6, 4, 2, 1, 0, 0, 1, 2, 1, 0]), (20, [0, 3, 4, 2, 5], [60, 1, 4, 855, 1000, 2, 5, 4, 2004])], [], [], [(20, [0, 3, 4, 7, 2, 9, 5, 2], [60, 1, 2, 683, 1000, 2, 2004]), (24, [3, 3], []), (24, [2, 2], []), (20, [0, 3, 4, 7, 2, 9, 5, 2], [60, 1, 5, 858, 1000, 2, 5, 4, 1014, 2004]), (24, [0, 0], []), (24, [1, 1], []), (24, [2, 2], [])], [], [(9, 2, 1, 1)])
theorem oo_Pl_walkTree_0 {kA : Nat → ClassId} : or_ok PRD kA GG o_Pl_walkTree_0 := by
  refine or_mk fun A ta ws vs hD hth hl => ?_
  intro t0 r0 t1 k1 t2 k2 t3 r3 t4 r4 t5 k5 t6 k6 t7 k7 t8 k8 t9 k9 t10 r10 t11 r11 t12 k12 t13 r13 t14 k14 d0 f0 f1 f2 f3 f4 f5 ta1 w1 le1 s1 f7 f8 f9 ta2 w2 le2 s2 f11 f12 f13 ta3 w3 le3 s3 f15 f16 f17 f18 f19 f20 f21
  replace f0 := shm_108 f0
  replace f1 := shm_110 f1
  replace f2 := shm_120 f2
  have s1 : (∀ b j, w_el ws b j = if b = v_ad (n_v vs 13) ∧ j = (v_iv (n_v vs 1)).toNat then v_iv (n_v vs 14) else w_el w1 b j) ∧ ∀ b k, w_fd ws b k = w_fd w1 b k := s1.2
  replace f7 := shm_415 f7
  replace f8 := shm_419 f8
  have s2 : (∀ b j, w_el w1 b j = if b = v_ad (n_v vs 11) ∧ j = (v_iv (n_v vs 1)).toNat then v_iv (n_v vs 12) else w_el w2 b j) ∧ ∀ b k, w_fd w1 b k = w_fd w2 b k := s2.2
  replace f11 := shm_415 f11
  replace f12 := shm_419 f12
  have s3 : (∀ b j, w_el w2 b j = if b = v_ad (n_v vs 10) ∧ j = (v_iv (n_v vs 2)).toNat then v_iv (n_v vs 1) else w_el w3 b j) ∧ ∀ b k, w_fd w2 b k = w_fd w3 b k := s3.2
  replace f17 := shm_420 f17
  replace f18 := shm_415 f18
  replace f19 := shm_419 f19
  replace f21 := shm_421 f21
  have ar_0_2_1 : w_ar w1 (n_v vs 0) 2 = w_ar ws (n_v vs 0) 2 := congrArg v_ad (s1.2 _ _).symm
  have ar_0_2_2 : w_ar w2 (n_v vs 0) 2 = w_ar ws (n_v vs 0) 2 := by rw [← ar_0_2_1]; show v_ad (w_fd w2 _ _) = v_ad (w_fd w1 _ _); rw [s2.2]
  have ar_0_2_3 : w_ar w3 (n_v vs 0) 2 = w_ar ws (n_v vs 0) 2 := by rw [← ar_0_2_2]; show v_ad (w_fd w3 _ _) = v_ad (w_fd w2 _ _); rw [s3.2]
  have cr_0_2 := fdq_89 hD hth r0
  have ar_0_4_1 : w_ar w1 (n_v vs 0) 4 = w_ar ws (n_v vs 0) 4 := congrArg v_ad (s1.2 _ _).symm
  have ar_0_4_2 : w_ar w2 (n_v vs 0) 4 = w_ar ws (n_v vs 0) 4 := by rw [← ar_0_4_1]; show v_ad (w_fd w2 _ _) = v_ad (w_fd w1 _ _); rw [s2.2]
  have ar_0_4_3 : w_ar w3 (n_v vs 0) 4 = w_ar ws (n_v vs 0) 4 := by rw [← ar_0_4_2]; show v_ad (w_fd w3 _ _) = v_ad (w_fd w2 _ _); rw [s3.2]
  have cr_0_4 := fdq_86 hD hth r0
  have ar_0_5_1 : w_ar w1 (n_v vs 0) 5 = w_ar ws (n_v vs 0) 5 := congrArg v_ad (s1.2 _ _).symm
  have ar_0_5_2 : w_ar w2 (n_v vs 0) 5 = w_ar ws (n_v vs 0) 5 := by rw [← ar_0_5_1]; show v_ad (w_fd w2 _ _) = v_ad (w_fd w1 _ _); rw [s2.2]
  have ar_0_5_3 : w_ar w3 (n_v vs 0) 5 = w_ar ws (n_v vs 0) 5 := by rw [← ar_0_5_2]; show v_ad (w_fd w3 _ _) = v_ad (w_fd w2 _ _); rw [s3.2]
  have cr_0_5 := fdq_90 hD hth r0
  have ar_3_14_1 : w_ar w1 (n_v vs 3) 14 = w_ar ws (n_v vs 3) 14 := congrArg v_ad (s1.2 _ _).symm
  have ar_3_14_2 : w_ar w2 (n_v vs 3) 14 = w_ar ws (n_v vs 3) 14 := by rw [← ar_3_14_1]; show v_ad (w_fd w2 _ _) = v_ad (w_fd w1 _ _); rw [s2.2]
  have ar_3_14_3 : w_ar w3 (n_v vs 3) 14 = w_ar ws (n_v vs 3) 14 := by rw [← ar_3_14_2]; show v_ad (w_fd w3 _ _) = v_ad (w_fd w2 _ _); rw [s3.2]
  have cr_3_14 := fdq_75 hD hth r3
  have ar_4_4_1 : w_ar w1 (n_v vs 4) 4 = w_ar ws (n_v vs 4) 4 := congrArg v_ad (s1.2 _ _).symm
  have ar_4_4_2 : w_ar w2 (n_v vs 4) 4 = w_ar ws (n_v vs 4) 4 := by rw [← ar_4_4_1]; show v_ad (w_fd w2 _ _) = v_ad (w_fd w1 _ _); rw [s2.2]
  have ar_4_4_3 : w_ar w3 (n_v vs 4) 4 = w_ar ws (n_v vs 4) 4 := by rw [← ar_4_4_2]; show v_ad (w_fd w3 _ _) = v_ad (w_fd w2 _ _); rw [s3.2]
  have cr_4_4 := fdq_87 hD hth r4
  have ad_13 : v_ad (n_v vs 13) = w_ar ws (n_v vs 0) 4 := congrArg v_ad f0
  have ad_11 : v_ad (n_v vs 11) = w_ar ws (n_v vs 0) 5 := congrArg v_ad f1
  have ad_10 : v_ad (n_v vs 10) = w_ar ws (n_v vs 0) 2 := congrArg v_ad f2
  simp only [ar_4_4_1, ar_3_14_1, ar_4_4_2, ar_3_14_2, ar_0_2_3, ar_4_4_3, ar_3_14_3, ar_0_4_3, ar_0_5_3] at f7 f8 f11 f12 f17 f18 f19 f21
  have fe_3_0_1 : w_fi ws (n_v vs 3) 0 = w_fi w1 (n_v vs 3) 0 := congrArg v_iv (s1.2 _ _)
  have fe_3_0_2 : w_fi w1 (n_v vs 3) 0 = w_fi w2 (n_v vs 3) 0 := congrArg v_iv (s2.2 _ _)
  have fe_3_0_3 : w_fi w2 (n_v vs 3) 0 = w_fi w3 (n_v vs 3) 0 := congrArg v_iv (s3.2 _ _)
  have hE_0_2_1 : ∀ j : Int, w_ei ws (w_ar ws (n_v vs 0) 2) j = w_ei w1 (w_ar ws (n_v vs 0) 2) j := el_kp s1.1 r13 cr_0_2 (by decide)
  have hE_0_2_2 : ∀ j : Int, w_ei w1 (w_ar ws (n_v vs 0) 2) j = w_ei w2 (w_ar ws (n_v vs 0) 2) j := el_kp s2.1 r11 cr_0_2 (by decide)
  have hE_0_2_3 : ∀ j : Int, 0 ≤ j → (j = v_iv (n_v vs 2) → w_ei w2 (w_ar ws (n_v vs 0) 2) j = v_iv (n_v vs 1)) ∧ (j ≠ v_iv (n_v vs 2) → w_ei w2 (w_ar ws (n_v vs 0) 2) j = w_ei w3 (w_ar ws (n_v vs 0) 2) j) := fun j hj => ⟨fun h => by unfold w_ei; rw [s3.1, if_pos ⟨ad_10.symm, by rw [h]⟩], fun h => by unfold w_ei; rw [s3.1, if_neg (fun e => h (by have := e.2; omega))]⟩
  have hK_0_2 := elq_45 hD hth cr_0_2
  have hE_0_4_1 : ∀ j : Int, 0 ≤ j → (j = v_iv (n_v vs 1) → w_ei ws (w_ar ws (n_v vs 0) 4) j = v_iv (n_v vs 14)) ∧ (j ≠ v_iv (n_v vs 1) → w_ei ws (w_ar ws (n_v vs 0) 4) j = w_ei w1 (w_ar ws (n_v vs 0) 4) j) := fun j hj => ⟨fun h => by unfold w_ei; rw [s1.1, if_pos ⟨ad_13.symm, by rw [h]⟩], fun h => by unfold w_ei; rw [s1.1, if_neg (fun e => h (by have := e.2; omega))]⟩
  have hE_0_4_2 : ∀ j : Int, w_ei w1 (w_ar ws (n_v vs 0) 4) j = w_ei w2 (w_ar ws (n_v vs 0) 4) j := el_kp s2.1 r11 cr_0_4 (by decide)
  have hE_0_4_3 : ∀ j : Int, w_ei w2 (w_ar ws (n_v vs 0) 4) j = w_ei w3 (w_ar ws (n_v vs 0) 4) j := el_kp s3.1 r10 cr_0_4 (by decide)
  have hK_0_4 := elq_43 hD hth cr_0_4
  have hE_0_5_1 : ∀ j : Int, w_ei ws (w_ar ws (n_v vs 0) 5) j = w_ei w1 (w_ar ws (n_v vs 0) 5) j := el_kp s1.1 r13 cr_0_5 (by decide)
  have hE_0_5_2 : ∀ j : Int, 0 ≤ j → (j = v_iv (n_v vs 1) → w_ei w1 (w_ar ws (n_v vs 0) 5) j = v_iv (n_v vs 12)) ∧ (j ≠ v_iv (n_v vs 1) → w_ei w1 (w_ar ws (n_v vs 0) 5) j = w_ei w2 (w_ar ws (n_v vs 0) 5) j) := fun j hj => ⟨fun h => by unfold w_ei; rw [s2.1, if_pos ⟨ad_11.symm, by rw [h]⟩], fun h => by unfold w_ei; rw [s2.1, if_neg (fun e => h (by have := e.2; omega))]⟩
  have hE_0_5_3 : ∀ j : Int, w_ei w2 (w_ar ws (n_v vs 0) 5) j = w_ei w3 (w_ar ws (n_v vs 0) 5) j := el_kp s3.1 r10 cr_0_5 (by decide)
  have hK_0_5 := elq_46 hD hth cr_0_5
  have hE_3_14_1 : ∀ j : Int, w_ei ws (w_ar ws (n_v vs 3) 14) j = w_ei w1 (w_ar ws (n_v vs 3) 14) j := el_kp s1.1 r13 cr_3_14 (by decide)
  have hE_3_14_2 : ∀ j : Int, w_ei w1 (w_ar ws (n_v vs 3) 14) j = w_ei w2 (w_ar ws (n_v vs 3) 14) j := el_kp s2.1 r11 cr_3_14 (by decide)
  have hE_3_14_3 : ∀ j : Int, w_ei w2 (w_ar ws (n_v vs 3) 14) j = w_ei w3 (w_ar ws (n_v vs 3) 14) j := el_kp s3.1 r10 cr_3_14 (by decide)
  have hK_3_14 := elq_25 hD hth cr_3_14
  have hE_4_4_1 : ∀ j : Int, w_ei ws (w_ar ws (n_v vs 4) 4) j = w_ei w1 (w_ar ws (n_v vs 4) 4) j := el_kp s1.1 r13 cr_4_4 (by decide)
  have hE_4_4_2 : ∀ j : Int, w_ei w1 (w_ar ws (n_v vs 4) 4) j = w_ei w2 (w_ar ws (n_v vs 4) 4) j := el_kp s2.1 r11 cr_4_4 (by decide)
  have hE_4_4_3 : ∀ j : Int, w_ei w2 (w_ar ws (n_v vs 4) 4) j = w_ei w3 (w_ar ws (n_v vs 4) 4) j := el_kp s3.1 r10 cr_4_4 (by decide)
  have hK_4_4 := elq_29 hD hth cr_4_4
  have kz_3_0 := fdq_21 hD hth r3
  have nf0 : fc_1 PRD (20, [0, 3, 4, 7, 2, 9, 5, 2], [60, 1, 2, 683, 1000, 2, 2004]) ws (vs) := ⟨nf_in hl rfl, sgq_422 (vc_Pl_walkTree_0_0 (v_iv (n_v vs 1)) (v_iv (n_v vs 2)) (v_iv (n_v vs 5)) (v_iv (n_v vs 6)) (v_iv (n_v vs 7)) (v_iv (n_v vs 8)) (v_iv (n_v vs 9)) (v_iv (n_v vs 12)) (v_iv (n_v vs 14)) (w_ei ws (w_ar ws (n_v vs 4) 4)) (w_ei ws (w_ar ws (n_v vs 3) 14)) (w_fi ws (n_v vs 3) 0) (w_ei w1 (w_ar ws (n_v vs 4) 4)) (w_ei w1 (w_ar ws (n_v vs 3) 14)) (w_fi w1 (n_v vs 3) 0) (w_ei w2 (w_ar ws (n_v vs 4) 4)) (w_ei w2 (w_ar ws (n_v vs 3) 14)) (w_fi w2 (n_v vs 3) 0) (w_ei w3 (w_ar ws (n_v vs 0) 2)) (w_ei w3 (w_ar ws (n_v vs 4) 4)) (w_ei w3 (w_ar ws (n_v vs 3) 14)) (w_fi w3 (n_v vs 3) 0) (w_ei w3 (w_ar ws (n_v vs 0) 5)) (w_ei w3 (w_ar ws (n_v vs 0) 4)) (w_ei ws (w_ar ws (n_v vs 0) 2)) (w_ei w1 (w_ar ws (n_v vs 0) 2)) (w_ei w2 (w_ar ws (n_v vs 0) 2)) (w_ei ws (w_ar ws (n_v vs 0) 4)) (w_ei w1 (w_ar ws (n_v vs 0) 4)) (w_ei w2 (w_ar ws (n_v vs 0) 4)) (w_ei ws (w_ar ws (n_v vs 0) 5)) (w_ei w1 (w_ar ws (n_v vs 0) 5)) (w_ei w2 (w_ar ws (n_v vs 0) 5)) k1 k2 k5 k6 k7 k8 k9 k12 k14 d0 (shm_415 f3) (shm_419 f4) (shm_416 f5) f7 f8 (shm_416 f9) f11 f12 (shm_416 f13) (shm_12 f15) (shm_349 f16) f17 f18 f19 (shm_416 f20) f21 fe_3_0_1 fe_3_0_2 fe_3_0_3 hE_0_2_1 hE_0_2_2 hE_0_2_3 hK_0_2 hE_0_4_1 hE_0_4_2 hE_0_4_3 hK_0_4 hE_0_5_1 hE_0_5_2 hE_0_5_3 hK_0_5 hE_3_14_1 hE_3_14_2 hE_3_14_3 hK_3_14 hE_4_4_1 hE_4_4_2 hE_4_4_3 hK_4_4 kz_3_0)⟩
  have nf1 : fc_1 PRD (24, [3, 3], []) ws (vs) := by
    refine ⟨nf_in hl rfl, sgq_1 ?_⟩
    · show n_v vs 3 = n_v vs 3
      first | rfl | simp only [true_and]
  have nf2 : fc_1 PRD (24, [2, 2], []) ws (vs) := by
    refine ⟨nf_in hl rfl, sgq_1 ?_⟩
    · show n_v vs 2 = n_v vs 2
      first | rfl | simp only [true_and]
  have nf3 : fc_1 PRD (20, [0, 3, 4, 7, 2, 9, 5, 2], [60, 1, 5, 858, 1000, 2, 5, 4, 1014, 2004]) ws (vs) := ⟨nf_in hl rfl, sgq_423 (vc_Pl_walkTree_0_3 (v_iv (n_v vs 1)) (v_iv (n_v vs 2)) (v_iv (n_v vs 5)) (v_iv (n_v vs 6)) (v_iv (n_v vs 7)) (v_iv (n_v vs 8)) (v_iv (n_v vs 9)) (v_iv (n_v vs 12)) (v_iv (n_v vs 14)) (w_ei ws (w_ar ws (n_v vs 4) 4)) (w_ei ws (w_ar ws (n_v vs 3) 14)) (w_fi ws (n_v vs 3) 0) (w_ei w1 (w_ar ws (n_v vs 4) 4)) (w_ei w1 (w_ar ws (n_v vs 3) 14)) (w_fi w1 (n_v vs 3) 0) (w_ei w2 (w_ar ws (n_v vs 4) 4)) (w_ei w2 (w_ar ws (n_v vs 3) 14)) (w_fi w2 (n_v vs 3) 0) (w_ei w3 (w_ar ws (n_v vs 0) 2)) (w_ei w3 (w_ar ws (n_v vs 4) 4)) (w_ei w3 (w_ar ws (n_v vs 3) 14)) (w_fi w3 (n_v vs 3) 0) (w_ei w3 (w_ar ws (n_v vs 0) 5)) (w_ei w3 (w_ar ws (n_v vs 0) 4)) (w_ei ws (w_ar ws (n_v vs 0) 2)) (w_ei w1 (w_ar ws (n_v vs 0) 2)) (w_ei w2 (w_ar ws (n_v vs 0) 2)) (w_ei ws (w_ar ws (n_v vs 0) 4)) (w_ei w1 (w_ar ws (n_v vs 0) 4)) (w_ei w2 (w_ar ws (n_v vs 0) 4)) (w_ei ws (w_ar ws (n_v vs 0) 5)) (w_ei w1 (w_ar ws (n_v vs 0) 5)) (w_ei w2 (w_ar ws (n_v vs 0) 5)) k1 k2 k5 k6 k7 k8 k9 k12 k14 d0 (shm_415 f3) (shm_419 f4) (shm_416 f5) f7 f8 (shm_416 f9) f11 f12 (shm_416 f13) (shm_12 f15) (shm_349 f16) f17 f18 f19 (shm_416 f20) f21 fe_3_0_1 fe_3_0_2 fe_3_0_3 hE_0_2_1 hE_0_2_2 hE_0_2_3 hK_0_2 hE_0_4_1 hE_0_4_2 hE_0_4_3 hK_0_4 hE_0_5_1 hE_0_5_2 hE_0_5_3 hK_0_5 hE_3_14_1 hE_3_14_2 hE_3_14_3 hK_3_14 hE_4_4_1 hE_4_4_2 hE_4_4_3 hK_4_4 kz_3_0)⟩
  have nf4 : fc_1 PRD (24, [0, 0], []) ws (vs) := by
    refine ⟨nf_in hl rfl, sgq_1 ?_⟩
    · show n_v vs 0 = n_v vs 0
      first | rfl | simp only [true_and]
  have nf5 : fc_1 PRD (24, [1, 1], []) ws (vs) := by
    refine ⟨nf_in hl rfl, sgq_1 ?_⟩
    · show n_v vs 1 = n_v vs 1
      first | rfl | simp only [true_and]
  have nf6 : fc_1 PRD (24, [2, 2], []) ws (vs) := by
    refine ⟨nf_in hl rfl, sgq_1 ?_⟩
    · show n_v vs 2 = n_v vs 2
      first | rfl | simp only [true_and]
  refine ⟨(fun _ h => (by cases h)), [], trivial, ?_, (fun _ h => (by cases h))⟩
  rw [List.append_nil]
  exact List.forall_mem_cons.mpr ⟨⟨show (20 : Nat) < 100 from by decide, nf0⟩, List.forall_mem_cons.mpr ⟨⟨show (24 : Nat) < 100 from by decide, nf1⟩, List.forall_mem_cons.mpr ⟨⟨show (24 : Nat) < 100 from by decide, nf2⟩, List.forall_mem_cons.mpr ⟨⟨show (20 : Nat) < 100 from by decide, nf3⟩, List.forall_mem_cons.mpr ⟨⟨show (24 : Nat) < 100 from by decide, nf4⟩, List.forall_mem_cons.mpr ⟨⟨show (24 : Nat) < 100 from by decide, nf5⟩, List.forall_mem_cons.mpr ⟨⟨show (24 : Nat) < 100 from by decide, nf6⟩, (fun _ h => (by cases h))⟩⟩⟩⟩⟩⟩⟩
set_option maxHeartbeats 4000000 in
theorem vc_Pl_walkTree_1_0 (x1 : Int) (x2 : Int) (x5 : Int) (x7 : Int) (x8 : Int) (x9 : Int) (x10 : Int) (x11 : Int) (order_0 : Int → Int) (part_0o4 : Int → Int) (nodes_0o3 : Int) (near_0o3 : Int → Int) (parent_0 : Int → Int) (level_0 : Int → Int) (k1 : 0 ≤ x1 ∧ x1 ≤ 23) (k2 : 0 ≤ x2 ∧ x2 ≤ 23) (k5 : 0 ≤ x5 ∧ x5 ≤ 24) (k7 : 0 ≤ x7 ∧ x7 ≤ 23) (k8 : 0 ≤ x8 ∧ x8 ≤ 23) (k9 : 0 ≤ x9 ∧ x9 ≤ 16777215) (k10 : 1 ≤ x10 ∧ x10 ≤ 24) (k11 : 1 ≤ x11 ∧ x11 ≤ 24) (d0 : x10 + 0 ≤ x11 ∧ x11 ≤ x10 + 4294967296) (d1 : x7 + (-4294967296) ≤ x1 ∧ x1 ≤ x7 + 0) (d2 : x8 + (-4294967296) ≤ x2 ∧ x2 ≤ x8 + 0) (d3 : x9 + (-4294967296) ≤ x2 ∧ x2 ≤ x9 + 22) (d4 : x10 + (-4294967296) ≤ x2 ∧ x2 ≤ x10 + (-1)) (d5 : x11 + (-4294967296) ≤ x2 ∧ x2 ≤ x11 + 0) (d6 : x1 + (-4294967296) ≤ x7 ∧ x7 ≤ x1 + 0) (d7 : x2 + (-4294967296) ≤ x8 ∧ x8 ≤ x2 + 0) (d8 : x9 + (-4294967296) ≤ x8 ∧ x8 ≤ x9 + 22) (d9 : x10 + (-4294967296) ≤ x8 ∧ x8 ≤ x10 + (-1)) (d10 : x11 + (-4294967296) ≤ x8 ∧ x8 ≤ x11 + 0) (d11 : x10 + (-4294967296) ≤ x9 ∧ x9 ≤ x10 + 16777213) (d12 : x10 + (-4294967296) ≤ x11 ∧ x11 ≤ x10 + 0) (f0 : x10 ≤ x11) (f1 : WTI (nodes_0o3) (order_0) (part_0o4) (x9) (x2) (x10) (x5) (x11)) (f2 : PNC (nodes_0o3) (near_0o3) (part_0o4)) (f5 : TQH (nodes_0o3) (order_0) (parent_0) (level_0) (near_0o3) (part_0o4) (x9) (x2) (x10) (x5) (x11)) (hK_0_2 : ∀ j : Int, 0 ≤ j → j < 24 → 0 ≤ order_0 j ∧ order_0 j ≤ 23) (hK_0_4 : ∀ j : Int, 0 ≤ j → j < 24 → 0 ≤ level_0 j ∧ level_0 j ≤ 23) (hK_0_5 : ∀ j : Int, 0 ≤ j → j < 24 → (-1) ≤ parent_0 j ∧ parent_0 j ≤ 23) (hK_3_14 : ∀ j : Int, 0 ≤ j → j < 24 → 0 ≤ near_0o3 j ∧ near_0o3 j ≤ 16777215) (hK_4_4 : ∀ j : Int, 0 ≤ j → j < 24 → (-1) ≤ part_0o4 j ∧ part_0o4 j ≤ 24) (kz_3_0 : 0 ≤ nodes_0o3 ∧ nodes_0o3 ≤ 24) : WTA (order_0) (part_0o4) (x10) (x5) := by
  first
    | exact wta_of ‹WTI _ _ _ _ _ _ _ _› (by omega) (by omega)
  
set_option maxHeartbeats 4000000 in
theorem vc_Pl_walkTree_1_1 (x1 : Int) (x2 : Int) (x5 : Int) (x7 : Int) (x8 : Int) (x9 : Int) (x10 : Int) (x11 : Int) (order_0 : Int → Int) (part_0o4 : Int → Int) (nodes_0o3 : Int) (near_0o3 : Int → Int) (parent_0 : Int → Int) (level_0 : Int → Int) (k1 : 0 ≤ x1 ∧ x1 ≤ 23) (k2 : 0 ≤ x2 ∧ x2 ≤ 23) (k5 : 0 ≤ x5 ∧ x5 ≤ 24) (k7 : 0 ≤ x7 ∧ x7 ≤ 23) (k8 : 0 ≤ x8 ∧ x8 ≤ 23) (k9 : 0 ≤ x9 ∧ x9 ≤ 16777215) (k10 : 1 ≤ x10 ∧ x10 ≤ 24) (k11 : 1 ≤ x11 ∧ x11 ≤ 24) (d0 : x10 + 0 ≤ x11 ∧ x11 ≤ x10 + 4294967296) (d1 : x7 + (-4294967296) ≤ x1 ∧ x1 ≤ x7 + 0) (d2 : x8 + (-4294967296) ≤ x2 ∧ x2 ≤ x8 + 0) (d3 : x9 + (-4294967296) ≤ x2 ∧ x2 ≤ x9 + 22) (d4 : x10 + (-4294967296) ≤ x2 ∧ x2 ≤ x10 + (-1)) (d5 : x11 + (-4294967296) ≤ x2 ∧ x2 ≤ x11 + 0) (d6 : x1 + (-4294967296) ≤ x7 ∧ x7 ≤ x1 + 0) (d7 : x2 + (-4294967296) ≤ x8 ∧ x8 ≤ x2 + 0) (d8 : x9 + (-4294967296) ≤ x8 ∧ x8 ≤ x9 + 22) (d9 : x10 + (-4294967296) ≤ x8 ∧ x8 ≤ x10 + (-1)) (d10 : x11 + (-4294967296) ≤ x8 ∧ x8 ≤ x11 + 0) (d11 : x10 + (-4294967296) ≤ x9 ∧ x9 ≤ x10 + 16777213) (d12 : x10 + (-4294967296) ≤ x11 ∧ x11 ≤ x10 + 0) (f0 : x10 ≤ x11) (f1 : WTI (nodes_0o3) (order_0) (part_0o4) (x9) (x2) (x10) (x5) (x11)) (f2 : PNC (nodes_0o3) (near_0o3) (part_0o4)) (f5 : TQH (nodes_0o3) (order_0) (parent_0) (level_0) (near_0o3) (part_0o4) (x9) (x2) (x10) (x5) (x11)) (hK_0_2 : ∀ j : Int, 0 ≤ j → j < 24 → 0 ≤ order_0 j ∧ order_0 j ≤ 23) (hK_0_4 : ∀ j : Int, 0 ≤ j → j < 24 → 0 ≤ level_0 j ∧ level_0 j ≤ 23) (hK_0_5 : ∀ j : Int, 0 ≤ j → j < 24 → (-1) ≤ parent_0 j ∧ parent_0 j ≤ 23) (hK_3_14 : ∀ j : Int, 0 ≤ j → j < 24 → 0 ≤ near_0o3 j ∧ near_0o3 j ≤ 16777215) (hK_4_4 : ∀ j : Int, 0 ≤ j → j < 24 → (-1) ≤ part_0o4 j ∧ part_0o4 j ≤ 24) (kz_3_0 : 0 ≤ nodes_0o3 ∧ nodes_0o3 ≤ 24) : TQA (nodes_0o3) (order_0) (parent_0) (level_0) (part_0o4) (x10) (x5) := by
  first
    | exact tqa_of ‹TQH _ _ _ _ _ _ _ _ _ _ _› ‹WTI _ _ _ _ _ _ _ _› ‹PNC _ _ _› (by omega) (by omega) (by omega)
  
def o_Pl_walkTree_1 : or_T := (156, 13, [(0, (2, 0, 0, [6])), (1, (0, 0, 23, [])), (2, (0, 0, 23, [])), (3, (2, 0, 0, [3])), (4, (2, 0, 0, [2])), (5, (0, 0, 24, [])), (7, (0, 0, 23, [])), (8, (0, 0, 23, [])), (9, (0, 0, 16777215, [])), (10, (0, 1, 24, [])), (11, (0, 1, 24, []))], [(7, [11, 10], [3]), (20, [6, 12, 4, 9, 8, 10, 5, 11], [60, 1, 2, 683, 1000, 2, 2004]), (20, [12, 4], [60, 1, 2, 671, 0, 14, 1004]), (24, [3, 12], []), (24, [2, 8], []), (20, [6, 12, 4, 9, 8, 10, 5, 11], [60, 1, 5, 858, 1000, 2, 5, 4, 1014, 2004]), (24, [0, 6], [])], [], [], [(20, [0, 4, 10, 5], [60, 0, 2, 679, 2, 1004]), (20, [0, 3, 4, 10, 5], [60, 1, 4, 856, 1000, 2, 5, 4, 2004])], [], [(11, 10, 0, 4294967296), (1, 7, -4294967296, 0), (2, 8, -4294967296, 0), (2, 9, -4294967296, 22), (2, 10, -4294967296, -1), (2, 11, -4294967296, 0), (7, 1, -4294967296, 0), (8, 2, -4294967296, 0), (8, 9, -4294967296, 22), (8, 10, -4294967296, -1), (8, 11, -4294967296, 0), (9, 10, -4294967296, 16777213), (11, 10, -4294967296, 0)])
theorem oo_Pl_walkTree_1 {kA : Nat → ClassId} : or_ok PRD kA GG o_Pl_walkTree_1 := by
  refine or_mk fun A ta ws vs hD hth hl => ?_
  intro t0 r0 t1 k1 t2 k2 t3 r3 t4 r4 t5 k5 t7 k7 t8 k8 t9 k9 t10 k10 t11 k11 d0 d1 d2 d3 d4 d5 d6 d7 d8 d9 d10 d11 d12 f0 f1 f2 f3 f4 f5 f6
  replace f1 := shm_424 f1
  replace f2 := shm_419 f2
  replace f3 := shm_5 f3
  replace f4 := shm_5 f4
  replace f5 := shm_425 f5
  replace f6 := shm_5 f6
  have q12 : n_v vs 12 = n_v vs 3 := f3.symm
  have q8 : n_v vs 8 = n_v vs 2 := f4.symm
  have q6 : n_v vs 6 = n_v vs 0 := f6.symm
  simp only [q12, q8, q6] at f1 f2 f5
  have cr_0_2 := fdq_89 hD hth r0
  have cr_0_4 := fdq_86 hD hth r0
  have cr_0_5 := fdq_90 hD hth r0
  have cr_3_14 := fdq_75 hD hth r3
  have cr_4_4 := fdq_87 hD hth r4
  have hK_0_2 := elq_45 hD hth cr_0_2
  have hK_0_4 := elq_43 hD hth cr_0_4
  have hK_0_5 := elq_46 hD hth cr_0_5
  have hK_3_14 := elq_25 hD hth cr_3_14
  have hK_4_4 := elq_29 hD hth cr_4_4
  have kz_3_0 := fdq_21 hD hth r3
  have nf0 : fc_1 PRD (20, [0, 4, 10, 5], [60, 0, 2, 679, 2, 1004]) ws (vs) := ⟨nf_in hl rfl, sgq_426 (vc_Pl_walkTree_1_0 (v_iv (n_v vs 1)) (v_iv (n_v vs 2)) (v_iv (n_v vs 5)) (v_iv (n_v vs 7)) (v_iv (n_v vs 8)) (v_iv (n_v vs 9)) (v_iv (n_v vs 10)) (v_iv (n_v vs 11)) (w_ei ws (w_ar ws (n_v vs 0) 2)) (w_ei ws (w_ar ws (n_v vs 4) 4)) (w_fi ws (n_v vs 3) 0) (w_ei ws (w_ar ws (n_v vs 3) 14)) (w_ei ws (w_ar ws (n_v vs 0) 5)) (w_ei ws (w_ar ws (n_v vs 0) 4)) k1 k2 k5 k7 k8 k9 k10 k11 d0 d1 d2 d3 d4 d5 d6 d7 d8 d9 d10 d11 d12 (shm_2 f0) f1 f2 f5 hK_0_2 hK_0_4 hK_0_5 hK_3_14 hK_4_4 kz_3_0)⟩
  have nf1 : fc_1 PRD (20, [0, 3, 4, 10, 5], [60, 1, 4, 856, 1000, 2, 5, 4, 2004]) ws (vs) := ⟨nf_in hl rfl, sgq_427 (vc_Pl_walkTree_1_1 (v_iv (n_v vs 1)) (v_iv (n_v vs 2)) (v_iv (n_v vs 5)) (v_iv (n_v vs 7)) (v_iv (n_v vs 8)) (v_iv (n_v vs 9)) (v_iv (n_v vs 10)) (v_iv (n_v vs 11)) (w_ei ws (w_ar ws (n_v vs 0) 2)) (w_ei ws (w_ar ws (n_v vs 4) 4)) (w_fi ws (n_v vs 3) 0) (w_ei ws (w_ar ws (n_v vs 3) 14)) (w_ei ws (w_ar ws (n_v vs 0) 5)) (w_ei ws (w_ar ws (n_v vs 0) 4)) k1 k2 k5 k7 k8 k9 k10 k11 d0 d1 d2 d3 d4 d5 d6 d7 d8 d9 d10 d11 d12 (shm_2 f0) f1 f2 f5 hK_0_2 hK_0_4 hK_0_5 hK_3_14 hK_4_4 kz_3_0)⟩
  refine ⟨(fun _ h => (by cases h)), [], trivial, ?_, (fun _ h => (by cases h))⟩
  rw [List.append_nil]
  exact List.forall_mem_cons.mpr ⟨⟨show (20 : Nat) < 100 from by decide, nf0⟩, List.forall_mem_cons.mpr ⟨⟨show (20 : Nat) < 100 from by decide, nf1⟩, (fun _ h => (by cases h))⟩⟩
set_option maxHeartbeats 4000000 in
theorem vc_Pl_walkTree_2_0 (x1 : Int) (x2 : Int) (x5 : Int) (x7 : Int) (x8 : Int) (x9 : Int) (x10 : Int) (x11 : Int) (x14 : Int) (x15 : Int) (order_0 : Int → Int) (part_0o4 : Int → Int) (nodes_0o3 : Int) (near_0o3 : Int → Int) (parent_0 : Int → Int) (level_0 : Int → Int) (k1 : 0 ≤ x1 ∧ x1 ≤ 23) (k2 : 0 ≤ x2 ∧ x2 ≤ 23) (k5 : 0 ≤ x5 ∧ x5 ≤ 24) (k7 : 0 ≤ x7 ∧ x7 ≤ 23) (k8 : 0 ≤ x8 ∧ x8 ≤ 23) (k9 : 0 ≤ x9 ∧ x9 ≤ 16777215) (k10 : 1 ≤ x10 ∧ x10 ≤ 24) (k11 : 0 ≤ x11 ∧ x11 ≤ 23) (k14 : 0 ≤ x14 ∧ x14 ≤ 23) (k15 : 0 ≤ x15 ∧ x15 ≤ 0) (d0 : x10 + (-4294967296) ≤ x11 ∧ x11 ≤ x10 + (-1)) (d1 : x7 + (-4294967296) ≤ x1 ∧ x1 ≤ x7 + 0) (d2 : x8 + (-4294967296) ≤ x2 ∧ x2 ≤ x8 + 0) (d3 : x9 + (-4294967296) ≤ x2 ∧ x2 ≤ x9 + 22) (d4 : x10 + (-4294967296) ≤ x2 ∧ x2 ≤ x10 + (-1)) (d5 : x11 + (-4294967296) ≤ x2 ∧ x2 ≤ x11 + 0) (d6 : x1 + (-4294967296) ≤ x7 ∧ x7 ≤ x1 + 0) (d7 : x2 + (-4294967296) ≤ x8 ∧ x8 ≤ x2 + 0) (d8 : x9 + (-4294967296) ≤ x8 ∧ x8 ≤ x9 + 22) (d9 : x10 + (-4294967296) ≤ x8 ∧ x8 ≤ x10 + (-1)) (d10 : x11 + (-4294967296) ≤ x8 ∧ x8 ≤ x11 + 0) (d11 : x10 + (-4294967296) ≤ x9 ∧ x9 ≤ x10 + 16777213) (d12 : x11 + (-4294967296) ≤ x9 ∧ x9 ≤ x11 + 16777214) (d13 : x11 + (-4294967296) ≤ x10 ∧ x10 ≤ x11 + 23) (d14 : x10 + (-4294967296) ≤ x11 ∧ x11 ≤ x10 + 0) (h0 : x14 = order_0 (x11)) (f2 : x11 < x10) (f3 : WTI (nodes_0o3) (order_0) (part_0o4) (x9) (x2) (x10) (x5) (x11)) (f4 : PNC (nodes_0o3) (near_0o3) (part_0o4)) (f7 : TQH (nodes_0o3) (order_0) (parent_0) (level_0) (near_0o3) (part_0o4) (x9) (x2) (x10) (x5) (x11)) (hK_0_2 : ∀ j : Int, 0 ≤ j → j < 24 → 0 ≤ order_0 j ∧ order_0 j ≤ 23) (hK_0_4 : ∀ j : Int, 0 ≤ j → j < 24 → 0 ≤ level_0 j ∧ level_0 j ≤ 23) (hK_0_5 : ∀ j : Int, 0 ≤ j → j < 24 → (-1) ≤ parent_0 j ∧ parent_0 j ≤ 23) (hK_3_14 : ∀ j : Int, 0 ≤ j → j < 24 → 0 ≤ near_0o3 j ∧ near_0o3 j ≤ 16777215) (hK_4_4 : ∀ j : Int, 0 ≤ j → j < 24 → (-1) ≤ part_0o4 j ∧ part_0o4 j ≤ 24) (kz_3_0 : 0 ≤ nodes_0o3 ∧ nodes_0o3 ≤ 24) : x14 = order_0 (x11) := by
  first
    | omega
    | (have q := (‹TQI _ _ _ _ _ _ _ _ _ _ _ _›).2.2.2.1 x11 (by have := (‹WTI _ _ _ _ _ _ _ _›).1; have := (‹WTI _ _ _ _ _ _ _ _›).2.2.1; omega) (by omega)
       have q1 := q.1
       have e : x12 = order_0 x11 := by assumption
       first
         | (rw [← e] at q1; omega)
         | (have e2 : x12 = order_1 x11 := by assumption
            rw [← e2] at q1
            omega))
    | (have q := (hE_0_2_1 x11 (by omega)).2 (by omega); omega)
  
set_option maxHeartbeats 4000000 in
theorem vc_Pl_walkTree_2_1 (x1 : Int) (x2 : Int) (x5 : Int) (x7 : Int) (x8 : Int) (x9 : Int) (x10 : Int) (x11 : Int) (x14 : Int) (x15 : Int) (order_0 : Int → Int) (part_0o4 : Int → Int) (nodes_0o3 : Int) (near_0o3 : Int → Int) (parent_0 : Int → Int) (level_0 : Int → Int) (k1 : 0 ≤ x1 ∧ x1 ≤ 23) (k2 : 0 ≤ x2 ∧ x2 ≤ 23) (k5 : 0 ≤ x5 ∧ x5 ≤ 24) (k7 : 0 ≤ x7 ∧ x7 ≤ 23) (k8 : 0 ≤ x8 ∧ x8 ≤ 23) (k9 : 0 ≤ x9 ∧ x9 ≤ 16777215) (k10 : 1 ≤ x10 ∧ x10 ≤ 24) (k11 : 0 ≤ x11 ∧ x11 ≤ 23) (k14 : 0 ≤ x14 ∧ x14 ≤ 23) (k15 : 0 ≤ x15 ∧ x15 ≤ 0) (d0 : x10 + (-4294967296) ≤ x11 ∧ x11 ≤ x10 + (-1)) (d1 : x7 + (-4294967296) ≤ x1 ∧ x1 ≤ x7 + 0) (d2 : x8 + (-4294967296) ≤ x2 ∧ x2 ≤ x8 + 0) (d3 : x9 + (-4294967296) ≤ x2 ∧ x2 ≤ x9 + 22) (d4 : x10 + (-4294967296) ≤ x2 ∧ x2 ≤ x10 + (-1)) (d5 : x11 + (-4294967296) ≤ x2 ∧ x2 ≤ x11 + 0) (d6 : x1 + (-4294967296) ≤ x7 ∧ x7 ≤ x1 + 0) (d7 : x2 + (-4294967296) ≤ x8 ∧ x8 ≤ x2 + 0) (d8 : x9 + (-4294967296) ≤ x8 ∧ x8 ≤ x9 + 22) (d9 : x10 + (-4294967296) ≤ x8 ∧ x8 ≤ x10 + (-1)) (d10 : x11 + (-4294967296) ≤ x8 ∧ x8 ≤ x11 + 0) (d11 : x10 + (-4294967296) ≤ x9 ∧ x9 ≤ x10 + 16777213) (d12 : x11 + (-4294967296) ≤ x9 ∧ x9 ≤ x11 + 16777214) (d13 : x11 + (-4294967296) ≤ x10 ∧ x10 ≤ x11 + 23) (d14 : x10 + (-4294967296) ≤ x11 ∧ x11 ≤ x10 + 0) (h0 : x14 = order_0 (x11)) (f2 : x11 < x10) (f3 : WTI (nodes_0o3) (order_0) (part_0o4) (x9) (x2) (x10) (x5) (x11)) (f4 : PNC (nodes_0o3) (near_0o3) (part_0o4)) (f7 : TQH (nodes_0o3) (order_0) (parent_0) (level_0) (near_0o3) (part_0o4) (x9) (x2) (x10) (x5) (x11)) (hK_0_2 : ∀ j : Int, 0 ≤ j → j < 24 → 0 ≤ order_0 j ∧ order_0 j ≤ 23) (hK_0_4 : ∀ j : Int, 0 ≤ j → j < 24 → 0 ≤ level_0 j ∧ level_0 j ≤ 23) (hK_0_5 : ∀ j : Int, 0 ≤ j → j < 24 → (-1) ≤ parent_0 j ∧ parent_0 j ≤ 23) (hK_3_14 : ∀ j : Int, 0 ≤ j → j < 24 → 0 ≤ near_0o3 j ∧ near_0o3 j ≤ 16777215) (hK_4_4 : ∀ j : Int, 0 ≤ j → j < 24 → (-1) ≤ part_0o4 j ∧ part_0o4 j ≤ 24) (kz_3_0 : 0 ≤ nodes_0o3 ∧ nodes_0o3 ≤ 24) : (x11 + 1) ≤ x10 := by
  first
    | omega
    | (have q := (‹TQI _ _ _ _ _ _ _ _ _ _ _ _›).2.2.2.1 x11 (by have := (‹WTI _ _ _ _ _ _ _ _›).1; have := (‹WTI _ _ _ _ _ _ _ _›).2.2.1; omega) (by omega)
       have q1 := q.1
       have e : x12 = order_0 x11 := by assumption
       first
         | (rw [← e] at q1; omega)
         | (have e2 : x12 = order_1 x11 := by assumption
            rw [← e2] at q1
            omega))
    | (have q := (hE_0_2_1 x11 (by omega)).2 (by omega); omega)
  
set_option maxHeartbeats 4000000 in
theorem vc_Pl_walkTree_2_2 (x1 : Int) (x2 : Int) (x5 : Int) (x7 : Int) (x8 : Int) (x9 : Int) (x10 : Int) (x11 : Int) (x14 : Int) (x15 : Int) (order_0 : Int → Int) (part_0o4 : Int → Int) (nodes_0o3 : Int) (near_0o3 : Int → Int) (parent_0 : Int → Int) (level_0 : Int → Int) (k1 : 0 ≤ x1 ∧ x1 ≤ 23) (k2 : 0 ≤ x2 ∧ x2 ≤ 23) (k5 : 0 ≤ x5 ∧ x5 ≤ 24) (k7 : 0 ≤ x7 ∧ x7 ≤ 23) (k8 : 0 ≤ x8 ∧ x8 ≤ 23) (k9 : 0 ≤ x9 ∧ x9 ≤ 16777215) (k10 : 1 ≤ x10 ∧ x10 ≤ 24) (k11 : 0 ≤ x11 ∧ x11 ≤ 23) (k14 : 0 ≤ x14 ∧ x14 ≤ 23) (k15 : 0 ≤ x15 ∧ x15 ≤ 0) (d0 : x10 + (-4294967296) ≤ x11 ∧ x11 ≤ x10 + (-1)) (d1 : x7 + (-4294967296) ≤ x1 ∧ x1 ≤ x7 + 0) (d2 : x8 + (-4294967296) ≤ x2 ∧ x2 ≤ x8 + 0) (d3 : x9 + (-4294967296) ≤ x2 ∧ x2 ≤ x9 + 22) (d4 : x10 + (-4294967296) ≤ x2 ∧ x2 ≤ x10 + (-1)) (d5 : x11 + (-4294967296) ≤ x2 ∧ x2 ≤ x11 + 0) (d6 : x1 + (-4294967296) ≤ x7 ∧ x7 ≤ x1 + 0) (d7 : x2 + (-4294967296) ≤ x8 ∧ x8 ≤ x2 + 0) (d8 : x9 + (-4294967296) ≤ x8 ∧ x8 ≤ x9 + 22) (d9 : x10 + (-4294967296) ≤ x8 ∧ x8 ≤ x10 + (-1)) (d10 : x11 + (-4294967296) ≤ x8 ∧ x8 ≤ x11 + 0) (d11 : x10 + (-4294967296) ≤ x9 ∧ x9 ≤ x10 + 16777213) (d12 : x11 + (-4294967296) ≤ x9 ∧ x9 ≤ x11 + 16777214) (d13 : x11 + (-4294967296) ≤ x10 ∧ x10 ≤ x11 + 23) (d14 : x10 + (-4294967296) ≤ x11 ∧ x11 ≤ x10 + 0) (h0 : x14 = order_0 (x11)) (f2 : x11 < x10) (f3 : WTI (nodes_0o3) (order_0) (part_0o4) (x9) (x2) (x10) (x5) (x11)) (f4 : PNC (nodes_0o3) (near_0o3) (part_0o4)) (f7 : TQH (nodes_0o3) (order_0) (parent_0) (level_0) (near_0o3) (part_0o4) (x9) (x2) (x10) (x5) (x11)) (hK_0_2 : ∀ j : Int, 0 ≤ j → j < 24 → 0 ≤ order_0 j ∧ order_0 j ≤ 23) (hK_0_4 : ∀ j : Int, 0 ≤ j → j < 24 → 0 ≤ level_0 j ∧ level_0 j ≤ 23) (hK_0_5 : ∀ j : Int, 0 ≤ j → j < 24 → (-1) ≤ parent_0 j ∧ parent_0 j ≤ 23) (hK_3_14 : ∀ j : Int, 0 ≤ j → j < 24 → 0 ≤ near_0o3 j ∧ near_0o3 j ≤ 16777215) (hK_4_4 : ∀ j : Int, 0 ≤ j → j < 24 → (-1) ≤ part_0o4 j ∧ part_0o4 j ≤ 24) (kz_3_0 : 0 ≤ nodes_0o3 ∧ nodes_0o3 ≤ 24) : TQI (nodes_0o3) (order_0) (parent_0) (level_0) (near_0o3) (part_0o4) (x9) (x2) (x10) (x5) (x11) (x15) := by
  first
    | exact tqi_of ‹TQH _ _ _ _ _ _ _ _ _ _ _› (by omega) (by omega)
    | (have qa := bit_one (s := x18) (t := x19) (c := x21) (v := x13) (one := x20) (by assumption) (by assumption) (by omega) (by omega) (by omega) (by omega)
       have e := (‹x18 = _›)
       exact tqi_skip (v := x12) (w := x13) ‹TQI _ _ _ _ _ _ _ _ _ _ _ _› (by assumption) (Or.inl (fun z => by rw [← e] at z; have := qa.mp z; omega)) (by omega))
    | (have qb := bit_one (s := x9) (t := x22) (c := x24) (v := x13) (one := x23) (by assumption) (by assumption) (by omega) (by omega) (by omega) (by omega)
       exact tqi_skip (v := x12) (w := x13) ‹TQI _ _ _ _ _ _ _ _ _ _ _ _› (by assumption) (Or.inr (qb.mpr (by omega))) (by omega))
    | (have qa := bit_one (s := x18) (t := x19) (c := x21) (v := x13) (one := x20) (by assumption) (by assumption) (by omega) (by omega) (by omega) (by omega)
       have qb := bit_one (s := x9) (t := x22) (c := x24) (v := x13) (one := x23) (by assumption) (by assumption) (by omega) (by omega) (by omega) (by omega)
       have o1 : x25 = 1 := by omega
       subst o1
       exact tqi_step (v := x12) (w := x13) (q := x10) (x := x13) (o := x26) (pv := x12) (l0 := x30) (l1 := x32) ‹TQI _ _ _ _ _ _ _ _ _ _ _ _› ‹WTI _ _ _ _ _ _ _ _› (by omega) (by omega) ‹PNC _ _ _› (by assumption) (by omega) (by omega) (by omega) (by have e := (‹x18 = _›); rw [← e]; exact qa.mpr (by omega)) (fun z => by have := qb.mp z; omega) (by assumption) rfl rfl (by assumption) rfl (by assumption) (by assumption) (by omega) (by assumption) (by assumption) (by omega) (by omega))
  
def o_Pl_walkTree_2 : or_T := (52, 16, [(0, (2, 0, 0, [6])), (1, (0, 0, 23, [])), (2, (0, 0, 23, [])), (3, (2, 0, 0, [3])), (4, (2, 0, 0, [2])), (5, (0, 0, 24, [])), (7, (0, 0, 23, [])), (8, (0, 0, 23, [])), (9, (0, 0, 16777215, [])), (10, (0, 1, 24, [])), (11, (0, 0, 23, [])), (14, (0, 0, 23, [])), (15, (0, 0, 0, []))], [(10, [14, 13, 11], []), (9, [13, 6], [2]), (7, [11, 10], [2]), (20, [6, 12, 4, 9, 8, 10, 5, 11], [60, 1, 2, 683, 1000, 2, 2004]), (20, [12, 4], [60, 1, 2, 671, 0, 14, 1004]), (24, [3, 12], []), (24, [2, 8], []), (20, [6, 12, 4, 9, 8, 10, 5, 11], [60, 1, 5, 858, 1000, 2, 5, 4, 1014, 2004]), (24, [0, 6], [])], [], [], [(20, [14, 6, 11], [50, 0, 1, 1002, 1, 2, 1, 0, 3, 1, 2, 1, 2]), (20, [11, 10], [50, 0, 0, 0, 6, 4, 2, 1, 0, 0, 1, 1, 1]), (20, [6, 12, 4, 9, 8, 10, 5, 11, 15], [60, 1, 5, 857, 1000, 2, 5, 4, 1014, 2004])], [], [(11, 10, -4294967296, -1), (1, 7, -4294967296, 0), (2, 8, -4294967296, 0), (2, 9, -4294967296, 22), (2, 10, -4294967296, -1), (2, 11, -4294967296, 0), (7, 1, -4294967296, 0), (8, 2, -4294967296, 0), (8, 9, -4294967296, 22), (8, 10, -4294967296, -1), (8, 11, -4294967296, 0), (9, 10, -4294967296, 16777213), (9, 11, -4294967296, 16777214), (10, 11, -4294967296, 23), (11, 10, -4294967296, 0)])
theorem oo_Pl_walkTree_2 {kA : Nat → ClassId} : or_ok PRD kA GG o_Pl_walkTree_2 := by
  refine or_mk fun A ta ws vs hD hth hl => ?_
  intro t0 r0 t1 k1 t2 k2 t3 r3 t4 r4 t5 k5 t7 k7 t8 k8 t9 k9 t10 k10 t11 k11 t14 k14 t15 k15 d0 d1 d2 d3 d4 d5 d6 d7 d8 d9 d10 d11 d12 d13 d14 f0 f1 f2 f3 f4 f5 f6 f7 f8
  replace f0 := shm_107 f0
  replace f1 := shm_120 f1
  replace f2 := shm_6 f2
  replace f3 := shm_424 f3
  replace f4 := shm_419 f4
  replace f5 := shm_5 f5
  replace f6 := shm_5 f6
  replace f7 := shm_425 f7
  replace f8 := shm_5 f8
  have q12 : n_v vs 12 = n_v vs 3 := f5.symm
  have q8 : n_v vs 8 = n_v vs 2 := f6.symm
  have q6 : n_v vs 6 = n_v vs 0 := f8.symm
  simp only [q6, q12, q8] at f1 f3 f4 f7
  have cr_0_2 := fdq_89 hD hth r0
  have cr_0_4 := fdq_86 hD hth r0
  have cr_0_5 := fdq_90 hD hth r0
  have cr_3_14 := fdq_75 hD hth r3
  have cr_4_4 := fdq_87 hD hth r4
  have ad_13 : v_ad (n_v vs 13) = w_ar ws (n_v vs 0) 2 := congrArg v_ad f1
  simp only [ad_13] at f0
  have h0 : v_iv (n_v vs 14) = w_ei ws (w_ar ws (n_v vs 0) 2) (v_iv (n_v vs 11)) := f0
  have hK_0_2 := elq_45 hD hth cr_0_2
  have hK_0_4 := elq_43 hD hth cr_0_4
  have hK_0_5 := elq_46 hD hth cr_0_5
  have hK_3_14 := elq_25 hD hth cr_3_14
  have hK_4_4 := elq_29 hD hth cr_4_4
  have kz_3_0 := fdq_21 hD hth r3
  have nf0 : fc_1 PRD (20, [14, 6, 11], [50, 0, 1, 1002, 1, 2, 1, 0, 3, 1, 2, 1, 2]) ws (vs) := by
    refine ⟨nf_in hl rfl, sgq_428 ?_⟩
    · show v_iv (n_v vs 14) = w_ei ws (w_ar ws (n_v vs 6) 2) (v_iv (n_v vs 11))
      rw [q6]
      exact vc_Pl_walkTree_2_0 (v_iv (n_v vs 1)) (v_iv (n_v vs 2)) (v_iv (n_v vs 5)) (v_iv (n_v vs 7)) (v_iv (n_v vs 8)) (v_iv (n_v vs 9)) (v_iv (n_v vs 10)) (v_iv (n_v vs 11)) (v_iv (n_v vs 14)) (v_iv (n_v vs 15)) (w_ei ws (w_ar ws (n_v vs 0) 2)) (w_ei ws (w_ar ws (n_v vs 4) 4)) (w_fi ws (n_v vs 3) 0) (w_ei ws (w_ar ws (n_v vs 3) 14)) (w_ei ws (w_ar ws (n_v vs 0) 5)) (w_ei ws (w_ar ws (n_v vs 0) 4)) k1 k2 k5 k7 k8 k9 k10 k11 k14 k15 d0 d1 d2 d3 d4 d5 d6 d7 d8 d9 d10 d11 d12 d13 d14 h0 f2 f3 f4 f7 hK_0_2 hK_0_4 hK_0_5 hK_3_14 hK_4_4 kz_3_0
  have nf1 : fc_1 PRD (20, [11, 10], [50, 0, 0, 0, 6, 4, 2, 1, 0, 0, 1, 1, 1]) ws (vs) := ⟨nf_in hl rfl, sgq_396 (vc_Pl_walkTree_2_1 (v_iv (n_v vs 1)) (v_iv (n_v vs 2)) (v_iv (n_v vs 5)) (v_iv (n_v vs 7)) (v_iv (n_v vs 8)) (v_iv (n_v vs 9)) (v_iv (n_v vs 10)) (v_iv (n_v vs 11)) (v_iv (n_v vs 14)) (v_iv (n_v vs 15)) (w_ei ws (w_ar ws (n_v vs 0) 2)) (w_ei ws (w_ar ws (n_v vs 4) 4)) (w_fi ws (n_v vs 3) 0) (w_ei ws (w_ar ws (n_v vs 3) 14)) (w_ei ws (w_ar ws (n_v vs 0) 5)) (w_ei ws (w_ar ws (n_v vs 0) 4)) k1 k2 k5 k7 k8 k9 k10 k11 k14 k15 d0 d1 d2 d3 d4 d5 d6 d7 d8 d9 d10 d11 d12 d13 d14 h0 f2 f3 f4 f7 hK_0_2 hK_0_4 hK_0_5 hK_3_14 hK_4_4 kz_3_0)⟩
  have nf2 : fc_1 PRD (20, [6, 12, 4, 9, 8, 10, 5, 11, 15], [60, 1, 5, 857, 1000, 2, 5, 4, 1014, 2004]) ws (vs) := by
    refine ⟨nf_in hl rfl, sgq_429 ?_⟩
    · show TQI (w_fi ws (n_v vs 12) 0) (w_ei ws (w_ar ws (n_v vs 6) 2)) (w_ei ws (w_ar ws (n_v vs 6) 5)) (w_ei ws (w_ar ws (n_v vs 6) 4)) (w_ei ws (w_ar ws (n_v vs 12) 14)) (w_ei ws (w_ar ws (n_v vs 4) 4)) (v_iv (n_v vs 9)) (v_iv (n_v vs 8)) (v_iv (n_v vs 10)) (v_iv (n_v vs 5)) (v_iv (n_v vs 11)) (v_iv (n_v vs 15))
      simp only [q12, q8, q6]
      exact vc_Pl_walkTree_2_2 (v_iv (n_v vs 1)) (v_iv (n_v vs 2)) (v_iv (n_v vs 5)) (v_iv (n_v vs 7)) (v_iv (n_v vs 8)) (v_iv (n_v vs 9)) (v_iv (n_v vs 10)) (v_iv (n_v vs 11)) (v_iv (n_v vs 14)) (v_iv (n_v vs 15)) (w_ei ws (w_ar ws (n_v vs 0) 2)) (w_ei ws (w_ar ws (n_v vs 4) 4)) (w_fi ws (n_v vs 3) 0) (w_ei ws (w_ar ws (n_v vs 3) 14)) (w_ei ws (w_ar ws (n_v vs 0) 5)) (w_ei ws (w_ar ws (n_v vs 0) 4)) k1 k2 k5 k7 k8 k9 k10 k11 k14 k15 d0 d1 d2 d3 d4 d5 d6 d7 d8 d9 d10 d11 d12 d13 d14 h0 f2 f3 f4 f7 hK_0_2 hK_0_4 hK_0_5 hK_3_14 hK_4_4 kz_3_0
  refine ⟨(fun _ h => (by cases h)), [], trivial, ?_, (fun _ h => (by cases h))⟩
  rw [List.append_nil]
  exact List.forall_mem_cons.mpr ⟨⟨show (20 : Nat) < 100 from by decide, nf0⟩, List.forall_mem_cons.mpr ⟨⟨show (20 : Nat) < 100 from by decide, nf1⟩, List.forall_mem_cons.mpr ⟨⟨show (20 : Nat) < 100 from by decide, nf2⟩, (fun _ h => (by cases h))⟩⟩⟩
set_option maxHeartbeats 4000000 in
theorem vc_Pl_walkTree_3_0 (x1 : Int) (x2 : Int) (x5 : Int) (x7 : Int) (x8 : Int) (x9 : Int) (x10 : Int) (x11 : Int) (x12 : Int) (x13 : Int) (x15 : Int) (x16 : Int) (nodes_0o3 : Int) (order_0 : Int → Int) (part_0o4 : Int → Int) (near_0o3 : Int → Int) (parent_0 : Int → Int) (level_0 : Int → Int) (k1 : 0 ≤ x1 ∧ x1 ≤ 23) (k2 : 0 ≤ x2 ∧ x2 ≤ 23) (k5 : 0 ≤ x5 ∧ x5 ≤ 24) (k7 : 0 ≤ x7 ∧ x7 ≤ 23) (k8 : 0 ≤ x8 ∧ x8 ≤ 23) (k9 : 0 ≤ x9 ∧ x9 ≤ 16777215) (k10 : 1 ≤ x10 ∧ x10 ≤ 24) (k11 : 0 ≤ x11 ∧ x11 ≤ 23) (k12 : 0 ≤ x12 ∧ x12 ≤ 23) (k13 : 0 ≤ x13 ∧ x13 ≤ 24) (k15 : 0 ≤ x15 ∧ x15 ≤ 24) (k16 : 1 ≤ x16 ∧ x16 ≤ 24) (d0 : x11 + 1 ≤ x16 ∧ x16 ≤ x11 + 1) (d1 : x10 + (-4294967296) ≤ x16 ∧ x16 ≤ x10 + 0) (d2 : x15 + 0 ≤ x13 ∧ x13 ≤ x15 + 4294967296) (d3 : x7 + (-4294967296) ≤ x1 ∧ x1 ≤ x7 + 0) (d4 : x8 + (-4294967296) ≤ x2 ∧ x2 ≤ x8 + 0) (d5 : x9 + (-4294967296) ≤ x2 ∧ x2 ≤ x9 + 22) (d6 : x10 + (-4294967296) ≤ x2 ∧ x2 ≤ x10 + (-1)) (d7 : x11 + (-4294967296) ≤ x2 ∧ x2 ≤ x11 + 0) (d8 : x1 + (-4294967296) ≤ x7 ∧ x7 ≤ x1 + 0) (d9 : x2 + (-4294967296) ≤ x8 ∧ x8 ≤ x2 + 0) (d10 : x9 + (-4294967296) ≤ x8 ∧ x8 ≤ x9 + 22) (d11 : x10 + (-4294967296) ≤ x8 ∧ x8 ≤ x10 + (-1)) (d12 : x11 + (-4294967296) ≤ x8 ∧ x8 ≤ x11 + 0) (d13 : x10 + (-4294967296) ≤ x9 ∧ x9 ≤ x10 + 16777213) (d14 : x10 + (-4294967296) ≤ x11 ∧ x11 ≤ x10 + (-1)) (f0 : x16 = x11 + 1) (f1 : x15 ≤ x13) (g2 : x15 = nodes_0o3) (f3 : WTI (nodes_0o3) (order_0) (part_0o4) (x9) (x2) (x10) (x5) (x11)) (f4 : PNC (nodes_0o3) (near_0o3) (part_0o4)) (f7 : x12 = order_0 (x11)) (f8 : (x11 + 1) ≤ x10) (f9 : TQI (nodes_0o3) (order_0) (parent_0) (level_0) (near_0o3) (part_0o4) (x9) (x2) (x10) (x5) (x11) (x13)) (hK_0_2 : ∀ j : Int, 0 ≤ j → j < 24 → 0 ≤ order_0 j ∧ order_0 j ≤ 23) (hK_0_4 : ∀ j : Int, 0 ≤ j → j < 24 → 0 ≤ level_0 j ∧ level_0 j ≤ 23) (hK_0_5 : ∀ j : Int, 0 ≤ j → j < 24 → (-1) ≤ parent_0 j ∧ parent_0 j ≤ 23) (hK_3_14 : ∀ j : Int, 0 ≤ j → j < 24 → 0 ≤ near_0o3 j ∧ near_0o3 j ≤ 16777215) (hK_4_4 : ∀ j : Int, 0 ≤ j → j < 24 → (-1) ≤ part_0o4 j ∧ part_0o4 j ≤ 24) (kz_3_0 : 0 ≤ nodes_0o3 ∧ nodes_0o3 ≤ 24) : WTI (nodes_0o3) (order_0) (part_0o4) (x9) (x2) (x10) (x5) (x16) := by
  first
    | assumption
    | exact wti_next ‹WTI _ _ _ _ _ _ _ _› (by omega)
    | (have o1 : x6 = 1 := by omega
       subst o1
       exact wti_start (q := x2) (x := x1) ‹WTB _ _ _ _› (by omega) (by omega) (by omega) (by omega) ‹RTP _ _ _› (by assumption) rfl rfl (by assumption) (by omega) rfl)
    | (have qa := bit_one (s := x18) (t := x19) (c := x21) (v := x13) (one := x20) (by assumption) (by assumption) (by omega) (by omega) (by omega) (by omega)
       have qb := bit_one (s := x9) (t := x22) (c := x24) (v := x13) (one := x23) (by assumption) (by assumption) (by omega) (by omega) (by omega) (by omega)
       have o1 : x25 = 1 := by omega
       subst o1
       exact wti_step (v := x12) (w := x13) (q := x10) (x := x13) (o := x26) ‹WTI _ _ _ _ _ _ _ _› (by omega) (by omega) ‹PNC _ _ _› (by assumption) (by omega) (by omega) (by omega) (by have e := (‹x18 = _›); rw [← e]; exact qa.mpr (by omega)) (fun z => by have := qb.mp z; omega) (by assumption) rfl rfl (by assumption) (by assumption) (by omega))
  
set_option maxHeartbeats 4000000 in
theorem vc_Pl_walkTree_3_1 (x1 : Int) (x2 : Int) (x5 : Int) (x7 : Int) (x8 : Int) (x9 : Int) (x10 : Int) (x11 : Int) (x12 : Int) (x13 : Int) (x15 : Int) (x16 : Int) (nodes_0o3 : Int) (order_0 : Int → Int) (part_0o4 : Int → Int) (near_0o3 : Int → Int) (parent_0 : Int → Int) (level_0 : Int → Int) (k1 : 0 ≤ x1 ∧ x1 ≤ 23) (k2 : 0 ≤ x2 ∧ x2 ≤ 23) (k5 : 0 ≤ x5 ∧ x5 ≤ 24) (k7 : 0 ≤ x7 ∧ x7 ≤ 23) (k8 : 0 ≤ x8 ∧ x8 ≤ 23) (k9 : 0 ≤ x9 ∧ x9 ≤ 16777215) (k10 : 1 ≤ x10 ∧ x10 ≤ 24) (k11 : 0 ≤ x11 ∧ x11 ≤ 23) (k12 : 0 ≤ x12 ∧ x12 ≤ 23) (k13 : 0 ≤ x13 ∧ x13 ≤ 24) (k15 : 0 ≤ x15 ∧ x15 ≤ 24) (k16 : 1 ≤ x16 ∧ x16 ≤ 24) (d0 : x11 + 1 ≤ x16 ∧ x16 ≤ x11 + 1) (d1 : x10 + (-4294967296) ≤ x16 ∧ x16 ≤ x10 + 0) (d2 : x15 + 0 ≤ x13 ∧ x13 ≤ x15 + 4294967296) (d3 : x7 + (-4294967296) ≤ x1 ∧ x1 ≤ x7 + 0) (d4 : x8 + (-4294967296) ≤ x2 ∧ x2 ≤ x8 + 0) (d5 : x9 + (-4294967296) ≤ x2 ∧ x2 ≤ x9 + 22) (d6 : x10 + (-4294967296) ≤ x2 ∧ x2 ≤ x10 + (-1)) (d7 : x11 + (-4294967296) ≤ x2 ∧ x2 ≤ x11 + 0) (d8 : x1 + (-4294967296) ≤ x7 ∧ x7 ≤ x1 + 0) (d9 : x2 + (-4294967296) ≤ x8 ∧ x8 ≤ x2 + 0) (d10 : x9 + (-4294967296) ≤ x8 ∧ x8 ≤ x9 + 22) (d11 : x10 + (-4294967296) ≤ x8 ∧ x8 ≤ x10 + (-1)) (d12 : x11 + (-4294967296) ≤ x8 ∧ x8 ≤ x11 + 0) (d13 : x10 + (-4294967296) ≤ x9 ∧ x9 ≤ x10 + 16777213) (d14 : x10 + (-4294967296) ≤ x11 ∧ x11 ≤ x10 + (-1)) (f0 : x16 = x11 + 1) (f1 : x15 ≤ x13) (g2 : x15 = nodes_0o3) (f3 : WTI (nodes_0o3) (order_0) (part_0o4) (x9) (x2) (x10) (x5) (x11)) (f4 : PNC (nodes_0o3) (near_0o3) (part_0o4)) (f7 : x12 = order_0 (x11)) (f8 : (x11 + 1) ≤ x10) (f9 : TQI (nodes_0o3) (order_0) (parent_0) (level_0) (near_0o3) (part_0o4) (x9) (x2) (x10) (x5) (x11) (x13)) (hK_0_2 : ∀ j : Int, 0 ≤ j → j < 24 → 0 ≤ order_0 j ∧ order_0 j ≤ 23) (hK_0_4 : ∀ j : Int, 0 ≤ j → j < 24 → 0 ≤ level_0 j ∧ level_0 j ≤ 23) (hK_0_5 : ∀ j : Int, 0 ≤ j → j < 24 → (-1) ≤ parent_0 j ∧ parent_0 j ≤ 23) (hK_3_14 : ∀ j : Int, 0 ≤ j → j < 24 → 0 ≤ near_0o3 j ∧ near_0o3 j ≤ 16777215) (hK_4_4 : ∀ j : Int, 0 ≤ j → j < 24 → (-1) ≤ part_0o4 j ∧ part_0o4 j ≤ 24) (kz_3_0 : 0 ≤ nodes_0o3 ∧ nodes_0o3 ≤ 24) : TQH (nodes_0o3) (order_0) (parent_0) (level_0) (near_0o3) (part_0o4) (x9) (x2) (x10) (x5) (x16) := by
  first
    | assumption
    | exact tqi_next ‹TQI _ _ _ _ _ _ _ _ _ _ _ _› (by omega) (Or.inl (by omega)) (by omega)
    | exact tqi_next ‹TQI _ _ _ _ _ _ _ _ _ _ _ _› (by omega) (Or.inr (by omega)) (by omega)
    | (have o1 : x6 = 1 := by omega
       subst o1
       exact tqi_start (q := x2) (x := x1) (pv := x12) (lq := x14) ‹TQB _ _ _ _ _ _ _› ‹WTB _ _ _ _› (by omega) (by omega) (by omega) ‹RTP _ _ _› (by assumption) rfl rfl (by assumption) (by omega) (by assumption) (by omega) (by assumption) (by omega) rfl)
  
def o_Pl_walkTree_3 : or_T := (33, 17, [(0, (2, 0, 0, [6])), (1, (0, 0, 23, [])), (2, (0, 0, 23, [])), (3, (2, 0, 0, [3])), (4, (2, 0, 0, [2])), (5, (0, 0, 24, [])), (7, (0, 0, 23, [])), (8, (0, 0, 23, [])), (9, (0, 0, 16777215, [])), (10, (0, 1, 24, [])), (11, (0, 0, 23, [])), (12, (0, 0, 23, [])), (13, (0, 0, 24, [])), (15, (0, 0, 24, [])), (16, (0, 1, 24, []))], [(6, [16, 11], [1]), (7, [13, 15], [3]), (9, [15, 14], [0]), (20, [6, 14, 4, 9, 8, 10, 5, 11], [60, 1, 2, 683, 1000, 2, 2004]), (20, [14, 4], [60, 1, 2, 671, 0, 14, 1004]), (24, [3, 14], []), (24, [2, 8], []), (20, [12, 6, 11], [50, 0, 1, 1002, 1, 2, 1, 0, 3, 1, 2, 1, 2]), (20, [11, 10], [50, 0, 0, 0, 6, 4, 2, 1, 0, 0, 1, 1, 1]), (20, [6, 14, 4, 9, 8, 10, 5, 11, 13], [60, 1, 5, 857, 1000, 2, 5, 4, 1014, 2004]), (24, [0, 6], [])], [], [], [(20, [6, 14, 4, 9, 8, 10, 5, 16], [60, 1, 2, 683, 1000, 2, 2004]), (20, [6, 14, 4, 9, 8, 10, 5, 16], [60, 1, 5, 858, 1000, 2, 5, 4, 1014, 2004])], [], [(16, 11, 1, 1), (16, 10, -4294967296, 0), (13, 15, 0, 4294967296), (1, 7, -4294967296, 0), (2, 8, -4294967296, 0), (2, 9, -4294967296, 22), (2, 10, -4294967296, -1), (2, 11, -4294967296, 0), (7, 1, -4294967296, 0), (8, 2, -4294967296, 0), (8, 9, -4294967296, 22), (8, 10, -4294967296, -1), (8, 11, -4294967296, 0), (9, 10, -4294967296, 16777213), (11, 10, -4294967296, -1)])
theorem oo_Pl_walkTree_3 {kA : Nat → ClassId} : or_ok PRD kA GG o_Pl_walkTree_3 := by
  refine or_mk fun A ta ws vs hD hth hl => ?_
  intro t0 r0 t1 k1 t2 k2 t3 r3 t4 r4 t5 k5 t7 k7 t8 k8 t9 k9 t10 k10 t11 k11 t12 k12 t13 k13 t15 k15 t16 k16 d0 d1 d2 d3 d4 d5 d6 d7 d8 d9 d10 d11 d12 d13 d14 f0 f1 f2 f3 f4 f5 f6 f7 f8 f9 f10
  replace f0 := shm_4 f0
  replace f1 := shm_2 f1
  replace f2 := shm_163 f2
  replace f3 := shm_424 f3
  replace f4 := shm_419 f4
  replace f5 := shm_5 f5
  replace f6 := shm_5 f6
  replace f7 := shm_428 f7
  replace f8 := shm_396 f8
  replace f9 := shm_429 f9
  replace f10 := shm_5 f10
  have q14 : n_v vs 14 = n_v vs 3 := f5.symm
  have q8 : n_v vs 8 = n_v vs 2 := f6.symm
  have q6 : n_v vs 6 = n_v vs 0 := f10.symm
  simp only [q14, q8, q6] at f2 f3 f4 f7 f9
  have cr_0_2 := fdq_89 hD hth r0
  have cr_0_4 := fdq_86 hD hth r0
  have cr_0_5 := fdq_90 hD hth r0
  have cr_3_14 := fdq_75 hD hth r3
  have cr_4_4 := fdq_87 hD hth r4
  have g2 : v_iv (n_v vs 15) = w_fi ws (n_v vs 3) 0 := congrArg v_iv f2
  have hK_0_2 := elq_45 hD hth cr_0_2
  have hK_0_4 := elq_43 hD hth cr_0_4
  have hK_0_5 := elq_46 hD hth cr_0_5
  have hK_3_14 := elq_25 hD hth cr_3_14
  have hK_4_4 := elq_29 hD hth cr_4_4
  have kz_3_0 := fdq_21 hD hth r3
  have nf0 : fc_1 PRD (20, [6, 14, 4, 9, 8, 10, 5, 16], [60, 1, 2, 683, 1000, 2, 2004]) ws (vs) := by
    refine ⟨nf_in hl rfl, sgq_424 ?_⟩
    · show WTI (w_fi ws (n_v vs 14) 0) (w_ei ws (w_ar ws (n_v vs 6) 2)) (w_ei ws (w_ar ws (n_v vs 4) 4)) (v_iv (n_v vs 9)) (v_iv (n_v vs 8)) (v_iv (n_v vs 10)) (v_iv (n_v vs 5)) (v_iv (n_v vs 16))
      simp only [q14, q8, q6]
      exact vc_Pl_walkTree_3_0 (v_iv (n_v vs 1)) (v_iv (n_v vs 2)) (v_iv (n_v vs 5)) (v_iv (n_v vs 7)) (v_iv (n_v vs 8)) (v_iv (n_v vs 9)) (v_iv (n_v vs 10)) (v_iv (n_v vs 11)) (v_iv (n_v vs 12)) (v_iv (n_v vs 13)) (v_iv (n_v vs 15)) (v_iv (n_v vs 16)) (w_fi ws (n_v vs 3) 0) (w_ei ws (w_ar ws (n_v vs 0) 2)) (w_ei ws (w_ar ws (n_v vs 4) 4)) (w_ei ws (w_ar ws (n_v vs 3) 14)) (w_ei ws (w_ar ws (n_v vs 0) 5)) (w_ei ws (w_ar ws (n_v vs 0) 4)) k1 k2 k5 k7 k8 k9 k10 k11 k12 k13 k15 k16 d0 d1 d2 d3 d4 d5 d6 d7 d8 d9 d10 d11 d12 d13 d14 f0 f1 g2 f3 f4 f7 f8 f9 hK_0_2 hK_0_4 hK_0_5 hK_3_14 hK_4_4 kz_3_0
  have nf1 : fc_1 PRD (20, [6, 14, 4, 9, 8, 10, 5, 16], [60, 1, 5, 858, 1000, 2, 5, 4, 1014, 2004]) ws (vs) := by
    refine ⟨nf_in hl rfl, sgq_425 ?_⟩
    · show TQH (w_fi ws (n_v vs 14) 0) (w_ei ws (w_ar ws (n_v vs 6) 2)) (w_ei ws (w_ar ws (n_v vs 6) 5)) (w_ei ws (w_ar ws (n_v vs 6) 4)) (w_ei ws (w_ar ws (n_v vs 14) 14)) (w_ei ws (w_ar ws (n_v vs 4) 4)) (v_iv (n_v vs 9)) (v_iv (n_v vs 8)) (v_iv (n_v vs 10)) (v_iv (n_v vs 5)) (v_iv (n_v vs 16))
      simp only [q14, q8, q6]
      exact vc_Pl_walkTree_3_1 (v_iv (n_v vs 1)) (v_iv (n_v vs 2)) (v_iv (n_v vs 5)) (v_iv (n_v vs 7)) (v_iv (n_v vs 8)) (v_iv (n_v vs 9)) (v_iv (n_v vs 10)) (v_iv (n_v vs 11)) (v_iv (n_v vs 12)) (v_iv (n_v vs 13)) (v_iv (n_v vs 15)) (v_iv (n_v vs 16)) (w_fi ws (n_v vs 3) 0) (w_ei ws (w_ar ws (n_v vs 0) 2)) (w_ei ws (w_ar ws (n_v vs 4) 4)) (w_ei ws (w_ar ws (n_v vs 3) 14)) (w_ei ws (w_ar ws (n_v vs 0) 5)) (w_ei ws (w_ar ws (n_v vs 0) 4)) k1 k2 k5 k7 k8 k9 k10 k11 k12 k13 k15 k16 d0 d1 d2 d3 d4 d5 d6 d7 d8 d9 d10 d11 d12 d13 d14 f0 f1 g2 f3 f4 f7 f8 f9 hK_0_2 hK_0_4 hK_0_5 hK_3_14 hK_4_4 kz_3_0
  refine ⟨(fun _ h => (by cases h)), [], trivial, ?_, (fun _ h => (by cases h))⟩
  rw [List.append_nil]
  exact List.forall_mem_cons.mpr ⟨⟨show (20 : Nat) < 100 from by decide, nf0⟩, List.forall_mem_cons.mpr ⟨⟨show (20 : Nat) < 100 from by decide, nf1⟩, (fun _ h => (by cases h))⟩⟩
set_option maxHeartbeats 4000000 in
theorem vc_Pl_walkTree_4_0 (x1 : Int) (x2 : Int) (x5 : Int) (x7 : Int) (x8 : Int) (x9 : Int) (x10 : Int) (x11 : Int) (x12 : Int) (x13 : Int) (x15 : Int) (x16 : Int) (x17 : Int) (nodes_0o3 : Int) (order_0 : Int → Int) (part_0o4 : Int → Int) (near_0o3 : Int → Int) (parent_0 : Int → Int) (level_0 : Int → Int) (k1 : 0 ≤ x1 ∧ x1 ≤ 23) (k2 : 0 ≤ x2 ∧ x2 ≤ 23) (k5 : 0 ≤ x5 ∧ x5 ≤ 24) (k7 : 0 ≤ x7 ∧ x7 ≤ 23) (k8 : 0 ≤ x8 ∧ x8 ≤ 23) (k9 : 0 ≤ x9 ∧ x9 ≤ 16777215) (k10 : 24 ≤ x10 ∧ x10 ≤ 24) (k11 : 0 ≤ x11 ∧ x11 ≤ 23) (k12 : 0 ≤ x12 ∧ x12 ≤ 23) (k13 : 0 ≤ x13 ∧ x13 ≤ 23) (k15 : 1 ≤ x15 ∧ x15 ≤ 24) (k16 : 24 ≤ x16 ∧ x16 ≤ 24) (k17 : 1 ≤ x17 ∧ x17 ≤ 24) (d0 : x11 + 1 ≤ x17 ∧ x17 ≤ x11 + 1) (d1 : x15 + (-4294967296) ≤ x13 ∧ x13 ≤ x15 + (-1)) (d2 : x7 + (-4294967296) ≤ x1 ∧ x1 ≤ x7 + 0) (d3 : x8 + (-4294967296) ≤ x2 ∧ x2 ≤ x8 + 0) (d4 : x9 + (-4294967296) ≤ x2 ∧ x2 ≤ x9 + 22) (d5 : x11 + (-4294967296) ≤ x2 ∧ x2 ≤ x11 + 0) (d6 : x1 + (-4294967296) ≤ x7 ∧ x7 ≤ x1 + 0) (d7 : x2 + (-4294967296) ≤ x8 ∧ x8 ≤ x2 + 0) (d8 : x9 + (-4294967296) ≤ x8 ∧ x8 ≤ x9 + 22) (d9 : x11 + (-4294967296) ≤ x8 ∧ x8 ≤ x11 + 0) (f0 : x17 = x11 + 1) (f1 : x16 ≤ x10) (f2 : x13 < x15) (g3 : x15 = nodes_0o3) (f4 : WTI (nodes_0o3) (order_0) (part_0o4) (x9) (x2) (x10) (x5) (x11)) (f5 : PNC (nodes_0o3) (near_0o3) (part_0o4)) (f8 : x12 = order_0 (x11)) (f9 : (x11 + 1) ≤ x10) (f10 : TQI (nodes_0o3) (order_0) (parent_0) (level_0) (near_0o3) (part_0o4) (x9) (x2) (x10) (x5) (x11) (x13)) (hK_0_2 : ∀ j : Int, 0 ≤ j → j < 24 → 0 ≤ order_0 j ∧ order_0 j ≤ 23) (hK_0_4 : ∀ j : Int, 0 ≤ j → j < 24 → 0 ≤ level_0 j ∧ level_0 j ≤ 23) (hK_0_5 : ∀ j : Int, 0 ≤ j → j < 24 → (-1) ≤ parent_0 j ∧ parent_0 j ≤ 23) (hK_3_14 : ∀ j : Int, 0 ≤ j → j < 24 → 0 ≤ near_0o3 j ∧ near_0o3 j ≤ 16777215) (hK_4_4 : ∀ j : Int, 0 ≤ j → j < 24 → (-1) ≤ part_0o4 j ∧ part_0o4 j ≤ 24) (kz_3_0 : 0 ≤ nodes_0o3 ∧ nodes_0o3 ≤ 24) : WTI (nodes_0o3) (order_0) (part_0o4) (x9) (x2) (x10) (x5) (x17) := by
  first
    | assumption
    | exact wti_next ‹WTI _ _ _ _ _ _ _ _› (by omega)
    | (have o1 : x6 = 1 := by omega
       subst o1
       exact wti_start (q := x2) (x := x1) ‹WTB _ _ _ _› (by omega) (by omega) (by omega) (by omega) ‹RTP _ _ _› (by assumption) rfl rfl (by assumption) (by omega) rfl)
    | (have qa := bit_one (s := x18) (t := x19) (c := x21) (v := x13) (one := x20) (by assumption) (by assumption) (by omega) (by omega) (by omega) (by omega)
       have qb := bit_one (s := x9) (t := x22) (c := x24) (v := x13) (one := x23) (by assumption) (by assumption) (by omega) (by omega) (by omega) (by omega)
       have o1 : x25 = 1 := by omega
       subst o1
       exact wti_step (v := x12) (w := x13) (q := x10) (x := x13) (o := x26) ‹WTI _ _ _ _ _ _ _ _› (by omega) (by omega) ‹PNC _ _ _› (by assumption) (by omega) (by omega) (by omega) (by have e := (‹x18 = _›); rw [← e]; exact qa.mpr (by omega)) (fun z => by have := qb.mp z; omega) (by assumption) rfl rfl (by assumption) (by assumption) (by omega))
  
set_option maxHeartbeats 4000000 in
theorem vc_Pl_walkTree_4_1 (x1 : Int) (x2 : Int) (x5 : Int) (x7 : Int) (x8 : Int) (x9 : Int) (x10 : Int) (x11 : Int) (x12 : Int) (x13 : Int) (x15 : Int) (x16 : Int) (x17 : Int) (nodes_0o3 : Int) (order_0 : Int → Int) (part_0o4 : Int → Int) (near_0o3 : Int → Int) (parent_0 : Int → Int) (level_0 : Int → Int) (k1 : 0 ≤ x1 ∧ x1 ≤ 23) (k2 : 0 ≤ x2 ∧ x2 ≤ 23) (k5 : 0 ≤ x5 ∧ x5 ≤ 24) (k7 : 0 ≤ x7 ∧ x7 ≤ 23) (k8 : 0 ≤ x8 ∧ x8 ≤ 23) (k9 : 0 ≤ x9 ∧ x9 ≤ 16777215) (k10 : 24 ≤ x10 ∧ x10 ≤ 24) (k11 : 0 ≤ x11 ∧ x11 ≤ 23) (k12 : 0 ≤ x12 ∧ x12 ≤ 23) (k13 : 0 ≤ x13 ∧ x13 ≤ 23) (k15 : 1 ≤ x15 ∧ x15 ≤ 24) (k16 : 24 ≤ x16 ∧ x16 ≤ 24) (k17 : 1 ≤ x17 ∧ x17 ≤ 24) (d0 : x11 + 1 ≤ x17 ∧ x17 ≤ x11 + 1) (d1 : x15 + (-4294967296) ≤ x13 ∧ x13 ≤ x15 + (-1)) (d2 : x7 + (-4294967296) ≤ x1 ∧ x1 ≤ x7 + 0) (d3 : x8 + (-4294967296) ≤ x2 ∧ x2 ≤ x8 + 0) (d4 : x9 + (-4294967296) ≤ x2 ∧ x2 ≤ x9 + 22) (d5 : x11 + (-4294967296) ≤ x2 ∧ x2 ≤ x11 + 0) (d6 : x1 + (-4294967296) ≤ x7 ∧ x7 ≤ x1 + 0) (d7 : x2 + (-4294967296) ≤ x8 ∧ x8 ≤ x2 + 0) (d8 : x9 + (-4294967296) ≤ x8 ∧ x8 ≤ x9 + 22) (d9 : x11 + (-4294967296) ≤ x8 ∧ x8 ≤ x11 + 0) (f0 : x17 = x11 + 1) (f1 : x16 ≤ x10) (f2 : x13 < x15) (g3 : x15 = nodes_0o3) (f4 : WTI (nodes_0o3) (order_0) (part_0o4) (x9) (x2) (x10) (x5) (x11)) (f5 : PNC (nodes_0o3) (near_0o3) (part_0o4)) (f8 : x12 = order_0 (x11)) (f9 : (x11 + 1) ≤ x10) (f10 : TQI (nodes_0o3) (order_0) (parent_0) (level_0) (near_0o3) (part_0o4) (x9) (x2) (x10) (x5) (x11) (x13)) (hK_0_2 : ∀ j : Int, 0 ≤ j → j < 24 → 0 ≤ order_0 j ∧ order_0 j ≤ 23) (hK_0_4 : ∀ j : Int, 0 ≤ j → j < 24 → 0 ≤ level_0 j ∧ level_0 j ≤ 23) (hK_0_5 : ∀ j : Int, 0 ≤ j → j < 24 → (-1) ≤ parent_0 j ∧ parent_0 j ≤ 23) (hK_3_14 : ∀ j : Int, 0 ≤ j → j < 24 → 0 ≤ near_0o3 j ∧ near_0o3 j ≤ 16777215) (hK_4_4 : ∀ j : Int, 0 ≤ j → j < 24 → (-1) ≤ part_0o4 j ∧ part_0o4 j ≤ 24) (kz_3_0 : 0 ≤ nodes_0o3 ∧ nodes_0o3 ≤ 24) : TQH (nodes_0o3) (order_0) (parent_0) (level_0) (near_0o3) (part_0o4) (x9) (x2) (x10) (x5) (x17) := by
  first
    | assumption
    | exact tqi_next ‹TQI _ _ _ _ _ _ _ _ _ _ _ _› (by omega) (Or.inl (by omega)) (by omega)
    | exact tqi_next ‹TQI _ _ _ _ _ _ _ _ _ _ _ _› (by omega) (Or.inr (by omega)) (by omega)
    | (have o1 : x6 = 1 := by omega
       subst o1
       exact tqi_start (q := x2) (x := x1) (pv := x12) (lq := x14) ‹TQB _ _ _ _ _ _ _› ‹WTB _ _ _ _› (by omega) (by omega) (by omega) ‹RTP _ _ _› (by assumption) rfl rfl (by assumption) (by omega) (by assumption) (by omega) (by assumption) (by omega) rfl)
  
def o_Pl_walkTree_4 : or_T := (33, 18, [(0, (2, 0, 0, [6])), (1, (0, 0, 23, [])), (2, (0, 0, 23, [])), (3, (2, 0, 0, [3])), (4, (2, 0, 0, [2])), (5, (0, 0, 24, [])), (7, (0, 0, 23, [])), (8, (0, 0, 23, [])), (9, (0, 0, 16777215, [])), (10, (0, 24, 24, [])), (11, (0, 0, 23, [])), (12, (0, 0, 23, [])), (13, (0, 0, 23, [])), (15, (0, 1, 24, [])), (16, (0, 24, 24, [])), (17, (0, 1, 24, []))], [(6, [17, 11], [1]), (7, [10, 16], [3]), (7, [13, 15], [2]), (9, [15, 14], [0]), (20, [6, 14, 4, 9, 8, 10, 5, 11], [60, 1, 2, 683, 1000, 2, 2004]), (20, [14, 4], [60, 1, 2, 671, 0, 14, 1004]), (24, [3, 14], []), (24, [2, 8], []), (20, [12, 6, 11], [50, 0, 1, 1002, 1, 2, 1, 0, 3, 1, 2, 1, 2]), (20, [11, 10], [50, 0, 0, 0, 6, 4, 2, 1, 0, 0, 1, 1, 1]), (20, [6, 14, 4, 9, 8, 10, 5, 11, 13], [60, 1, 5, 857, 1000, 2, 5, 4, 1014, 2004]), (24, [0, 6], [])], [], [], [(20, [6, 14, 4, 9, 8, 10, 5, 17], [60, 1, 2, 683, 1000, 2, 2004]), (20, [6, 14, 4, 9, 8, 10, 5, 17], [60, 1, 5, 858, 1000, 2, 5, 4, 1014, 2004])], [], [(17, 11, 1, 1), (13, 15, -4294967296, -1), (1, 7, -4294967296, 0), (2, 8, -4294967296, 0), (2, 9, -4294967296, 22), (2, 11, -4294967296, 0), (7, 1, -4294967296, 0), (8, 2, -4294967296, 0), (8, 9, -4294967296, 22), (8, 11, -4294967296, 0)])
theorem oo_Pl_walkTree_4 {kA : Nat → ClassId} : or_ok PRD kA GG o_Pl_walkTree_4 := by
  refine or_mk fun A ta ws vs hD hth hl => ?_
  intro t0 r0 t1 k1 t2 k2 t3 r3 t4 r4 t5 k5 t7 k7 t8 k8 t9 k9 t10 k10 t11 k11 t12 k12 t13 k13 t15 k15 t16 k16 t17 k17 d0 d1 d2 d3 d4 d5 d6 d7 d8 d9 f0 f1 f2 f3 f4 f5 f6 f7 f8 f9 f10 f11
  replace f0 := shm_4 f0
  replace f1 := shm_2 f1
  replace f2 := shm_6 f2
  replace f3 := shm_163 f3
  replace f4 := shm_424 f4
  replace f5 := shm_419 f5
  replace f6 := shm_5 f6
  replace f7 := shm_5 f7
  replace f8 := shm_428 f8
  replace f9 := shm_396 f9
  replace f10 := shm_429 f10
  replace f11 := shm_5 f11
  have q14 : n_v vs 14 = n_v vs 3 := f6.symm
  have q8 : n_v vs 8 = n_v vs 2 := f7.symm
  have q6 : n_v vs 6 = n_v vs 0 := f11.symm
  simp only [q14, q8, q6] at f3 f4 f5 f8 f10
  have cr_0_2 := fdq_89 hD hth r0
  have cr_0_4 := fdq_86 hD hth r0
  have cr_0_5 := fdq_90 hD hth r0
  have cr_3_14 := fdq_75 hD hth r3
  have cr_4_4 := fdq_87 hD hth r4
  have g3 : v_iv (n_v vs 15) = w_fi ws (n_v vs 3) 0 := congrArg v_iv f3
  have hK_0_2 := elq_45 hD hth cr_0_2
  have hK_0_4 := elq_43 hD hth cr_0_4
  have hK_0_5 := elq_46 hD hth cr_0_5
  have hK_3_14 := elq_25 hD hth cr_3_14
  have hK_4_4 := elq_29 hD hth cr_4_4
  have kz_3_0 := fdq_21 hD hth r3
  have nf0 : fc_1 PRD (20, [6, 14, 4, 9, 8, 10, 5, 17], [60, 1, 2, 683, 1000, 2, 2004]) ws (vs) := by
    refine ⟨nf_in hl rfl, sgq_424 ?_⟩
    · show WTI (w_fi ws (n_v vs 14) 0) (w_ei ws (w_ar ws (n_v vs 6) 2)) (w_ei ws (w_ar ws (n_v vs 4) 4)) (v_iv (n_v vs 9)) (v_iv (n_v vs 8)) (v_iv (n_v vs 10)) (v_iv (n_v vs 5)) (v_iv (n_v vs 17))
      simp only [q14, q8, q6]
      exact vc_Pl_walkTree_4_0 (v_iv (n_v vs 1)) (v_iv (n_v vs 2)) (v_iv (n_v vs 5)) (v_iv (n_v vs 7)) (v_iv (n_v vs 8)) (v_iv (n_v vs 9)) (v_iv (n_v vs 10)) (v_iv (n_v vs 11)) (v_iv (n_v vs 12)) (v_iv (n_v vs 13)) (v_iv (n_v vs 15)) (v_iv (n_v vs 16)) (v_iv (n_v vs 17)) (w_fi ws (n_v vs 3) 0) (w_ei ws (w_ar ws (n_v vs 0) 2)) (w_ei ws (w_ar ws (n_v vs 4) 4)) (w_ei ws (w_ar ws (n_v vs 3) 14)) (w_ei ws (w_ar ws (n_v vs 0) 5)) (w_ei ws (w_ar ws (n_v vs 0) 4)) k1 k2 k5 k7 k8 k9 k10 k11 k12 k13 k15 k16 k17 d0 d1 d2 d3 d4 d5 d6 d7 d8 d9 f0 f1 f2 g3 f4 f5 f8 f9 f10 hK_0_2 hK_0_4 hK_0_5 hK_3_14 hK_4_4 kz_3_0
  have nf1 : fc_1 PRD (20, [6, 14, 4, 9, 8, 10, 5, 17], [60, 1, 5, 858, 1000, 2, 5, 4, 1014, 2004]) ws (vs) := by
    refine ⟨nf_in hl rfl, sgq_425 ?_⟩
    · show TQH (w_fi ws (n_v vs 14) 0) (w_ei ws (w_ar ws (n_v vs 6) 2)) (w_ei ws (w_ar ws (n_v vs 6) 5)) (w_ei ws (w_ar ws (n_v vs 6) 4)) (w_ei ws (w_ar ws (n_v vs 14) 14)) (w_ei ws (w_ar ws (n_v vs 4) 4)) (v_iv (n_v vs 9)) (v_iv (n_v vs 8)) (v_iv (n_v vs 10)) (v_iv (n_v vs 5)) (v_iv (n_v vs 17))
      simp only [q14, q8, q6]
      exact vc_Pl_walkTree_4_1 (v_iv (n_v vs 1)) (v_iv (n_v vs 2)) (v_iv (n_v vs 5)) (v_iv (n_v vs 7)) (v_iv (n_v vs 8)) (v_iv (n_v vs 9)) (v_iv (n_v vs 10)) (v_iv (n_v vs 11)) (v_iv (n_v vs 12)) (v_iv (n_v vs 13)) (v_iv (n_v vs 15)) (v_iv (n_v vs 16)) (v_iv (n_v vs 17)) (w_fi ws (n_v vs 3) 0) (w_ei ws (w_ar ws (n_v vs 0) 2)) (w_ei ws (w_ar ws (n_v vs 4) 4)) (w_ei ws (w_ar ws (n_v vs 3) 14)) (w_ei ws (w_ar ws (n_v vs 0) 5)) (w_ei ws (w_ar ws (n_v vs 0) 4)) k1 k2 k5 k7 k8 k9 k10 k11 k12 k13 k15 k16 k17 d0 d1 d2 d3 d4 d5 d6 d7 d8 d9 f0 f1 f2 g3 f4 f5 f8 f9 f10 hK_0_2 hK_0_4 hK_0_5 hK_3_14 hK_4_4 kz_3_0
  refine ⟨(fun _ h => (by cases h)), [], trivial, ?_, (fun _ h => (by cases h))⟩
  rw [List.append_nil]
  exact List.forall_mem_cons.mpr ⟨⟨show (20 : Nat) < 100 from by decide, nf0⟩, List.forall_mem_cons.mpr ⟨⟨show (20 : Nat) < 100 from by decide, nf1⟩, (fun _ h => (by cases h))⟩⟩
set_option maxHeartbeats 4000000 in
theorem vc_Pl_walkTree_5_0 (x1 : Int) (x2 : Int) (x5 : Int) (x7 : Int) (x8 : Int) (x9 : Int) (x10 : Int) (x11 : Int) (x12 : Int) (x13 : Int) (x15 : Int) (x16 : Int) (x18 : Int) (x19 : Int) (x20 : Int) (x21 : Int) (x22 : Int) (near_0o3 : Int → Int) (nodes_0o3 : Int) (order_0 : Int → Int) (part_0o4 : Int → Int) (parent_0 : Int → Int) (level_0 : Int → Int) (k1 : 0 ≤ x1 ∧ x1 ≤ 23) (k2 : 0 ≤ x2 ∧ x2 ≤ 22) (k5 : 0 ≤ x5 ∧ x5 ≤ 24) (k7 : 0 ≤ x7 ∧ x7 ≤ 23) (k8 : 0 ≤ x8 ∧ x8 ≤ 22) (k9 : 0 ≤ x9 ∧ x9 ≤ 16777215) (k10 : 1 ≤ x10 ∧ x10 ≤ 23) (k11 : 0 ≤ x11 ∧ x11 ≤ 22) (k12 : 0 ≤ x12 ∧ x12 ≤ 23) (k13 : 0 ≤ x13 ∧ x13 ≤ 23) (k15 : 1 ≤ x15 ∧ x15 ≤ 24) (k16 : 24 ≤ x16 ∧ x16 ≤ 24) (k18 : 0 ≤ x18 ∧ x18 ≤ 16777215) (k19 : 0 ≤ x19 ∧ x19 ≤ 16777215) (k20 : 1 ≤ x20 ∧ x20 ≤ 1) (k21 : 0 ≤ x21 ∧ x21 ≤ 0) (k22 : 1 ≤ x22 ∧ x22 ≤ 24) (d0 : x13 + 1 ≤ x22 ∧ x22 ≤ x13 + 1) (d1 : x15 + (-4294967296) ≤ x22 ∧ x22 ≤ x15 + 0) (d2 : x15 + (-4294967296) ≤ x13 ∧ x13 ≤ x15 + (-1)) (d3 : x7 + (-4294967296) ≤ x1 ∧ x1 ≤ x7 + 0) (d4 : x8 + (-4294967296) ≤ x2 ∧ x2 ≤ x8 + 0) (d5 : x10 + (-4294967296) ≤ x2 ∧ x2 ≤ x10 + (-1)) (d6 : x11 + (-4294967296) ≤ x2 ∧ x2 ≤ x11 + 0) (d7 : x1 + (-4294967296) ≤ x7 ∧ x7 ≤ x1 + 0) (d8 : x2 + (-4294967296) ≤ x8 ∧ x8 ≤ x2 + 0) (d9 : x10 + (-4294967296) ≤ x8 ∧ x8 ≤ x10 + (-1)) (d10 : x11 + (-4294967296) ≤ x8 ∧ x8 ≤ x11 + 0) (d11 : x10 + (-4294967296) ≤ x9 ∧ x9 ≤ x10 + 16777213) (d12 : x10 + (-4294967296) ≤ x11 ∧ x11 ≤ x10 + (-1)) (f0 : x22 = x13 + 1) (f1 : x21 = 0) (f2 : x21 = x19 % 2) (f3 : bvp (x21) = bvp (x19) &&& bvp (x20)) (f4 : bvp (x19) = bvp (x18) >>> (x13).toNat) (h5 : x18 = near_0o3 (x12)) (f7 : x10 < x16) (f8 : x13 < x15) (g9 : x15 = nodes_0o3) (f10 : WTI (nodes_0o3) (order_0) (part_0o4) (x9) (x2) (x10) (x5) (x11)) (f11 : PNC (nodes_0o3) (near_0o3) (part_0o4)) (f14 : x12 = order_0 (x11)) (f15 : (x11 + 1) ≤ x10) (f16 : TQI (nodes_0o3) (order_0) (parent_0) (level_0) (near_0o3) (part_0o4) (x9) (x2) (x10) (x5) (x11) (x13)) (hK_0_2 : ∀ j : Int, 0 ≤ j → j < 24 → 0 ≤ order_0 j ∧ order_0 j ≤ 23) (hK_0_4 : ∀ j : Int, 0 ≤ j → j < 24 → 0 ≤ level_0 j ∧ level_0 j ≤ 23) (hK_0_5 : ∀ j : Int, 0 ≤ j → j < 24 → (-1) ≤ parent_0 j ∧ parent_0 j ≤ 23) (hK_3_14 : ∀ j : Int, 0 ≤ j → j < 24 → 0 ≤ near_0o3 j ∧ near_0o3 j ≤ 16777215) (hK_4_4 : ∀ j : Int, 0 ≤ j → j < 24 → (-1) ≤ part_0o4 j ∧ part_0o4 j ≤ 24) (kz_3_0 : 0 ≤ nodes_0o3 ∧ nodes_0o3 ≤ 24) : TQI (nodes_0o3) (order_0) (parent_0) (level_0) (near_0o3) (part_0o4) (x9) (x2) (x10) (x5) (x11) (x22) := by
  first
    | exact tqi_of ‹TQH _ _ _ _ _ _ _ _ _ _ _› (by omega) (by omega)
    | (have qa := bit_one (s := x18) (t := x19) (c := x21) (v := x13) (one := x20) (by assumption) (by assumption) (by omega) (by omega) (by omega) (by omega)
       have e := (‹x18 = _›)
       exact tqi_skip (v := x12) (w := x13) ‹TQI _ _ _ _ _ _ _ _ _ _ _ _› (by assumption) (Or.inl (fun z => by rw [← e] at z; have := qa.mp z; omega)) (by omega))
    | (have qb := bit_one (s := x9) (t := x22) (c := x24) (v := x13) (one := x23) (by assumption) (by assumption) (by omega) (by omega) (by omega) (by omega)
       exact tqi_skip (v := x12) (w := x13) ‹TQI _ _ _ _ _ _ _ _ _ _ _ _› (by assumption) (Or.inr (qb.mpr (by omega))) (by omega))
    | (have qa := bit_one (s := x18) (t := x19) (c := x21) (v := x13) (one := x20) (by assumption) (by assumption) (by omega) (by omega) (by omega) (by omega)
       have qb := bit_one (s := x9) (t := x22) (c := x24) (v := x13) (one := x23) (by assumption) (by assumption) (by omega) (by omega) (by omega) (by omega)
       have o1 : x25 = 1 := by omega
       subst o1
       exact tqi_step (v := x12) (w := x13) (q := x10) (x := x13) (o := x26) (pv := x12) (l0 := x30) (l1 := x32) ‹TQI _ _ _ _ _ _ _ _ _ _ _ _› ‹WTI _ _ _ _ _ _ _ _› (by omega) (by omega) ‹PNC _ _ _› (by assumption) (by omega) (by omega) (by omega) (by have e := (‹x18 = _›); rw [← e]; exact qa.mpr (by omega)) (fun z => by have := qb.mp z; omega) (by assumption) rfl rfl (by assumption) rfl (by assumption) (by assumption) (by omega) (by assumption) (by assumption) (by omega) (by omega))
  
def o_Pl_walkTree_5 : or_T := (52, 23, [(0, (2, 0, 0, [6])), (1, (0, 0, 23, [])), (2, (0, 0, 22, [])), (3, (2, 0, 0, [3])), (4, (2, 0, 0, [2])), (5, (0, 0, 24, [])), (7, (0, 0, 23, [])), (8, (0, 0, 22, [])), (9, (0, 0, 16777215, [])), (10, (0, 1, 23, [])), (11, (0, 0, 22, [])), (12, (0, 0, 23, [])), (13, (0, 0, 23, [])), (15, (0, 1, 24, [])), (16, (0, 24, 24, [])), (18, (0, 0, 16777215, [])), (19, (0, 0, 16777215, [])), (20, (0, 1, 1, [])), (21, (0, 0, 0, [])), (22, (0, 1, 24, []))], [(6, [22, 13], [1]), (8, [21], [0]), (12, [21, 19], [2]), (16, [21, 19, 20], [0]), (16, [19, 18, 13], [4]), (10, [18, 17, 12], []), (9, [17, 14], [14]), (7, [10, 16], [2]), (7, [13, 15], [2]), (9, [15, 14], [0]), (20, [6, 14, 4, 9, 8, 10, 5, 11], [60, 1, 2, 683, 1000, 2, 2004]), (20, [14, 4], [60, 1, 2, 671, 0, 14, 1004]), (24, [3, 14], []), (24, [2, 8], []), (20, [12, 6, 11], [50, 0, 1, 1002, 1, 2, 1, 0, 3, 1, 2, 1, 2]), (20, [11, 10], [50, 0, 0, 0, 6, 4, 2, 1, 0, 0, 1, 1, 1]), (20, [6, 14, 4, 9, 8, 10, 5, 11, 13], [60, 1, 5, 857, 1000, 2, 5, 4, 1014, 2004]), (24, [0, 6], [])], [], [], [(20, [6, 14, 4, 9, 8, 10, 5, 11, 22], [60, 1, 5, 857, 1000, 2, 5, 4, 1014, 2004])], [], [(22, 13, 1, 1), (22, 15, -4294967296, 0), (13, 15, -4294967296, -1), (1, 7, -4294967296, 0), (2, 8, -4294967296, 0), (2, 10, -4294967296, -1), (2, 11, -4294967296, 0), (7, 1, -4294967296, 0), (8, 2, -4294967296, 0), (8, 10, -4294967296, -1), (8, 11, -4294967296, 0), (9, 10, -4294967296, 16777213), (11, 10, -4294967296, -1)])
theorem oo_Pl_walkTree_5 {kA : Nat → ClassId} : or_ok PRD kA GG o_Pl_walkTree_5 := by
  refine or_mk fun A ta ws vs hD hth hl => ?_
  intro t0 r0 t1 k1 t2 k2 t3 r3 t4 r4 t5 k5 t7 k7 t8 k8 t9 k9 t10 k10 t11 k11 t12 k12 t13 k13 t15 k15 t16 k16 t18 k18 t19 k19 t20 k20 t21 k21 t22 k22 d0 d1 d2 d3 d4 d5 d6 d7 d8 d9 d10 d11 d12 f0 f1 f2 f3 f4 f5 f6 f7 f8 f9 f10 f11 f12 f13 f14 f15 f16 f17
  replace f0 := shm_4 f0
  replace f1 := shm_192 f1
  replace f2 := shm_364 f2
  replace f3 := shm_11 f3
  replace f4 := shm_13 f4
  replace f5 := shm_107 f5
  replace f6 := shm_115 f6
  replace f7 := shm_6 f7
  replace f8 := shm_6 f8
  replace f9 := shm_163 f9
  replace f10 := shm_424 f10
  replace f11 := shm_419 f11
  replace f12 := shm_5 f12
  replace f13 := shm_5 f13
  replace f14 := shm_428 f14
  replace f15 := shm_396 f15
  replace f16 := shm_429 f16
  replace f17 := shm_5 f17
  have q14 : n_v vs 14 = n_v vs 3 := f12.symm
  have q8 : n_v vs 8 = n_v vs 2 := f13.symm
  have q6 : n_v vs 6 = n_v vs 0 := f17.symm
  simp only [q14, q8, q6] at f6 f9 f10 f11 f14 f16
  have cr_0_2 := fdq_89 hD hth r0
  have cr_0_4 := fdq_86 hD hth r0
  have cr_0_5 := fdq_90 hD hth r0
  have cr_3_14 := fdq_75 hD hth r3
  have cr_4_4 := fdq_87 hD hth r4
  have ad_17 : v_ad (n_v vs 17) = w_ar ws (n_v vs 3) 14 := congrArg v_ad f6
  simp only [ad_17] at f5
  have h5 : v_iv (n_v vs 18) = w_ei ws (w_ar ws (n_v vs 3) 14) (v_iv (n_v vs 12)) := f5
  have g9 : v_iv (n_v vs 15) = w_fi ws (n_v vs 3) 0 := congrArg v_iv f9
  have hK_0_2 := elq_45 hD hth cr_0_2
  have hK_0_4 := elq_43 hD hth cr_0_4
  have hK_0_5 := elq_46 hD hth cr_0_5
  have hK_3_14 := elq_25 hD hth cr_3_14
  have hK_4_4 := elq_29 hD hth cr_4_4
  have kz_3_0 := fdq_21 hD hth r3
  have nf0 : fc_1 PRD (20, [6, 14, 4, 9, 8, 10, 5, 11, 22], [60, 1, 5, 857, 1000, 2, 5, 4, 1014, 2004]) ws (vs) := by
    refine ⟨nf_in hl rfl, sgq_429 ?_⟩
    · show TQI (w_fi ws (n_v vs 14) 0) (w_ei ws (w_ar ws (n_v vs 6) 2)) (w_ei ws (w_ar ws (n_v vs 6) 5)) (w_ei ws (w_ar ws (n_v vs 6) 4)) (w_ei ws (w_ar ws (n_v vs 14) 14)) (w_ei ws (w_ar ws (n_v vs 4) 4)) (v_iv (n_v vs 9)) (v_iv (n_v vs 8)) (v_iv (n_v vs 10)) (v_iv (n_v vs 5)) (v_iv (n_v vs 11)) (v_iv (n_v vs 22))
      simp only [q14, q8, q6]
      exact vc_Pl_walkTree_5_0 (v_iv (n_v vs 1)) (v_iv (n_v vs 2)) (v_iv (n_v vs 5)) (v_iv (n_v vs 7)) (v_iv (n_v vs 8)) (v_iv (n_v vs 9)) (v_iv (n_v vs 10)) (v_iv (n_v vs 11)) (v_iv (n_v vs 12)) (v_iv (n_v vs 13)) (v_iv (n_v vs 15)) (v_iv (n_v vs 16)) (v_iv (n_v vs 18)) (v_iv (n_v vs 19)) (v_iv (n_v vs 20)) (v_iv (n_v vs 21)) (v_iv (n_v vs 22)) (w_ei ws (w_ar ws (n_v vs 3) 14)) (w_fi ws (n_v vs 3) 0) (w_ei ws (w_ar ws (n_v vs 0) 2)) (w_ei ws (w_ar ws (n_v vs 4) 4)) (w_ei ws (w_ar ws (n_v vs 0) 5)) (w_ei ws (w_ar ws (n_v vs 0) 4)) k1 k2 k5 k7 k8 k9 k10 k11 k12 k13 k15 k16 k18 k19 k20 k21 k22 d0 d1 d2 d3 d4 d5 d6 d7 d8 d9 d10 d11 d12 f0 f1 f2 f3 f4 h5 f7 f8 g9 f10 f11 f14 f15 f16 hK_0_2 hK_0_4 hK_0_5 hK_3_14 hK_4_4 kz_3_0
  refine ⟨(fun _ h => (by cases h)), [], trivial, ?_, (fun _ h => (by cases h))⟩
  rw [List.append_nil]
  exact List.forall_mem_cons.mpr ⟨⟨show (20 : Nat) < 100 from by decide, nf0⟩, (fun _ h => (by cases h))⟩
set_option maxHeartbeats 4000000 in
theorem vc_Pl_walkTree_6_0 (x1 : Int) (x2 : Int) (x5 : Int) (x7 : Int) (x8 : Int) (x9 : Int) (x10 : Int) (x11 : Int) (x12 : Int) (x13 : Int) (x15 : Int) (x16 : Int) (x18 : Int) (x19 : Int) (x20 : Int) (x21 : Int) (x22 : Int) (x23 : Int) (x24 : Int) (x25 : Int) (near_0o3 : Int → Int) (nodes_0o3 : Int) (order_0 : Int → Int) (part_0o4 : Int → Int) (parent_0 : Int → Int) (level_0 : Int → Int) (k1 : 0 ≤ x1 ∧ x1 ≤ 23) (k2 : 0 ≤ x2 ∧ x2 ≤ 22) (k5 : 0 ≤ x5 ∧ x5 ≤ 24) (k7 : 0 ≤ x7 ∧ x7 ≤ 23) (k8 : 0 ≤ x8 ∧ x8 ≤ 22) (k9 : 0 ≤ x9 ∧ x9 ≤ 16777215) (k10 : 1 ≤ x10 ∧ x10 ≤ 23) (k11 : 0 ≤ x11 ∧ x11 ≤ 22) (k12 : 0 ≤ x12 ∧ x12 ≤ 23) (k13 : 0 ≤ x13 ∧ x13 ≤ 23) (k15 : 1 ≤ x15 ∧ x15 ≤ 24) (k16 : 24 ≤ x16 ∧ x16 ≤ 24) (k18 : 0 ≤ x18 ∧ x18 ≤ 16777215) (k19 : 0 ≤ x19 ∧ x19 ≤ 16777215) (k20 : 1 ≤ x20 ∧ x20 ≤ 1) (k21 : 1 ≤ x21 ∧ x21 ≤ 1) (k22 : 0 ≤ x22 ∧ x22 ≤ 16777215) (k23 : 1 ≤ x23 ∧ x23 ≤ 1) (k24 : 1 ≤ x24 ∧ x24 ≤ 1) (k25 : 1 ≤ x25 ∧ x25 ≤ 24) (d0 : x13 + 1 ≤ x25 ∧ x25 ≤ x13 + 1) (d1 : x15 + (-4294967296) ≤ x25 ∧ x25 ≤ x15 + 0) (d2 : x15 + (-4294967296) ≤ x13 ∧ x13 ≤ x15 + (-1)) (d3 : x7 + (-4294967296) ≤ x1 ∧ x1 ≤ x7 + 0) (d4 : x8 + (-4294967296) ≤ x2 ∧ x2 ≤ x8 + 0) (d5 : x10 + (-4294967296) ≤ x2 ∧ x2 ≤ x10 + (-1)) (d6 : x11 + (-4294967296) ≤ x2 ∧ x2 ≤ x11 + 0) (d7 : x1 + (-4294967296) ≤ x7 ∧ x7 ≤ x1 + 0) (d8 : x2 + (-4294967296) ≤ x8 ∧ x8 ≤ x2 + 0) (d9 : x10 + (-4294967296) ≤ x8 ∧ x8 ≤ x10 + (-1)) (d10 : x11 + (-4294967296) ≤ x8 ∧ x8 ≤ x11 + 0) (d11 : x10 + (-4294967296) ≤ x9 ∧ x9 ≤ x10 + 16777213) (d12 : x10 + (-4294967296) ≤ x11 ∧ x11 ≤ x10 + (-1)) (f0 : x25 = x13 + 1) (f1 : x24 ≠ 0) (f2 : x24 = x22 % 2) (f3 : bvp (x24) = bvp (x22) &&& bvp (x23)) (f4 : bvp (x22) = bvp (x9) >>> (x13).toNat) (f5 : x21 ≠ 0) (f6 : x21 = x19 % 2) (f7 : bvp (x21) = bvp (x19) &&& bvp (x20)) (f8 : bvp (x19) = bvp (x18) >>> (x13).toNat) (h9 : x18 = near_0o3 (x12)) (f11 : x10 < x16) (f12 : x13 < x15) (g13 : x15 = nodes_0o3) (f14 : WTI (nodes_0o3) (order_0) (part_0o4) (x9) (x2) (x10) (x5) (x11)) (f15 : PNC (nodes_0o3) (near_0o3) (part_0o4)) (f18 : x12 = order_0 (x11)) (f19 : (x11 + 1) ≤ x10) (f20 : TQI (nodes_0o3) (order_0) (parent_0) (level_0) (near_0o3) (part_0o4) (x9) (x2) (x10) (x5) (x11) (x13)) (hK_0_2 : ∀ j : Int, 0 ≤ j → j < 24 → 0 ≤ order_0 j ∧ order_0 j ≤ 23) (hK_0_4 : ∀ j : Int, 0 ≤ j → j < 24 → 0 ≤ level_0 j ∧ level_0 j ≤ 23) (hK_0_5 : ∀ j : Int, 0 ≤ j → j < 24 → (-1) ≤ parent_0 j ∧ parent_0 j ≤ 23) (hK_3_14 : ∀ j : Int, 0 ≤ j → j < 24 → 0 ≤ near_0o3 j ∧ near_0o3 j ≤ 16777215) (hK_4_4 : ∀ j : Int, 0 ≤ j → j < 24 → (-1) ≤ part_0o4 j ∧ part_0o4 j ≤ 24) (kz_3_0 : 0 ≤ nodes_0o3 ∧ nodes_0o3 ≤ 24) : TQI (nodes_0o3) (order_0) (parent_0) (level_0) (near_0o3) (part_0o4) (x9) (x2) (x10) (x5) (x11) (x25) := by
  first
    | exact tqi_of ‹TQH _ _ _ _ _ _ _ _ _ _ _› (by omega) (by omega)
    | (have qa := bit_one (s := x18) (t := x19) (c := x21) (v := x13) (one := x20) (by assumption) (by assumption) (by omega) (by omega) (by omega) (by omega)
       have e := (‹x18 = _›)
       exact tqi_skip (v := x12) (w := x13) ‹TQI _ _ _ _ _ _ _ _ _ _ _ _› (by assumption) (Or.inl (fun z => by rw [← e] at z; have := qa.mp z; omega)) (by omega))
    | (have qb := bit_one (s := x9) (t := x22) (c := x24) (v := x13) (one := x23) (by assumption) (by assumption) (by omega) (by omega) (by omega) (by omega)
       exact tqi_skip (v := x12) (w := x13) ‹TQI _ _ _ _ _ _ _ _ _ _ _ _› (by assumption) (Or.inr (qb.mpr (by omega))) (by omega))
    | (have qa := bit_one (s := x18) (t := x19) (c := x21) (v := x13) (one := x20) (by assumption) (by assumption) (by omega) (by omega) (by omega) (by omega)
       have qb := bit_one (s := x9) (t := x22) (c := x24) (v := x13) (one := x23) (by assumption) (by assumption) (by omega) (by omega) (by omega) (by omega)
       have o1 : x25 = 1 := by omega
       subst o1
       exact tqi_step (v := x12) (w := x13) (q := x10) (x := x13) (o := x26) (pv := x12) (l0 := x30) (l1 := x32) ‹TQI _ _ _ _ _ _ _ _ _ _ _ _› ‹WTI _ _ _ _ _ _ _ _› (by omega) (by omega) ‹PNC _ _ _› (by assumption) (by omega) (by omega) (by omega) (by have e := (‹x18 = _›); rw [← e]; exact qa.mpr (by omega)) (fun z => by have := qb.mp z; omega) (by assumption) rfl rfl (by assumption) rfl (by assumption) (by assumption) (by omega) (by assumption) (by assumption) (by omega) (by omega))
  
def o_Pl_walkTree_6 : or_T := (52, 26, [(0, (2, 0, 0, [6])), (1, (0, 0, 23, [])), (2, (0, 0, 22, [])), (3, (2, 0, 0, [3])), (4, (2, 0, 0, [2])), (5, (0, 0, 24, [])), (7, (0, 0, 23, [])), (8, (0, 0, 22, [])), (9, (0, 0, 16777215, [])), (10, (0, 1, 23, [])), (11, (0, 0, 22, [])), (12, (0, 0, 23, [])), (13, (0, 0, 23, [])), (15, (0, 1, 24, [])), (16, (0, 24, 24, [])), (18, (0, 0, 16777215, [])), (19, (0, 0, 16777215, [])), (20, (0, 1, 1, [])), (21, (0, 1, 1, [])), (22, (0, 0, 16777215, [])), (23, (0, 1, 1, [])), (24, (0, 1, 1, [])), (25, (0, 1, 24, []))], [(6, [25, 13], [1]), (8, [24], [1]), (12, [24, 22], [2]), (16, [24, 22, 23], [0]), (16, [22, 9, 13], [4]), (8, [21], [1]), (12, [21, 19], [2]), (16, [21, 19, 20], [0]), (16, [19, 18, 13], [4]), (10, [18, 17, 12], []), (9, [17, 14], [14]), (7, [10, 16], [2]), (7, [13, 15], [2]), (9, [15, 14], [0]), (20, [6, 14, 4, 9, 8, 10, 5, 11], [60, 1, 2, 683, 1000, 2, 2004]), (20, [14, 4], [60, 1, 2, 671, 0, 14, 1004]), (24, [3, 14], []), (24, [2, 8], []), (20, [12, 6, 11], [50, 0, 1, 1002, 1, 2, 1, 0, 3, 1, 2, 1, 2]), (20, [11, 10], [50, 0, 0, 0, 6, 4, 2, 1, 0, 0, 1, 1, 1]), (20, [6, 14, 4, 9, 8, 10, 5, 11, 13], [60, 1, 5, 857, 1000, 2, 5, 4, 1014, 2004]), (24, [0, 6], [])], [], [], [(20, [6, 14, 4, 9, 8, 10, 5, 11, 25], [60, 1, 5, 857, 1000, 2, 5, 4, 1014, 2004])], [], [(25, 13, 1, 1), (25, 15, -4294967296, 0), (13, 15, -4294967296, -1), (1, 7, -4294967296, 0), (2, 8, -4294967296, 0), (2, 10, -4294967296, -1), (2, 11, -4294967296, 0), (7, 1, -4294967296, 0), (8, 2, -4294967296, 0), (8, 10, -4294967296, -1), (8, 11, -4294967296, 0), (9, 10, -4294967296, 16777213), (11, 10, -4294967296, -1)])
theorem oo_Pl_walkTree_6 {kA : Nat → ClassId} : or_ok PRD kA GG o_Pl_walkTree_6 := by
  refine or_mk fun A ta ws vs hD hth hl => ?_
  intro t0 r0 t1 k1 t2 k2 t3 r3 t4 r4 t5 k5 t7 k7 t8 k8 t9 k9 t10 k10 t11 k11 t12 k12 t13 k13 t15 k15 t16 k16 t18 k18 t19 k19 t20 k20 t21 k21 t22 k22 t23 k23 t24 k24 t25 k25 d0 d1 d2 d3 d4 d5 d6 d7 d8 d9 d10 d11 d12 f0 f1 f2 f3 f4 f5 f6 f7 f8 f9 f10 f11 f12 f13 f14 f15 f16 f17 f18 f19 f20 f21
  replace f0 := shm_4 f0
  replace f1 := shm_142 f1
  replace f2 := shm_364 f2
  replace f3 := shm_11 f3
  replace f4 := shm_13 f4
  replace f5 := shm_142 f5
  replace f6 := shm_364 f6
  replace f7 := shm_11 f7
  replace f8 := shm_13 f8
  replace f9 := shm_107 f9
  replace f10 := shm_115 f10
  replace f11 := shm_6 f11
  replace f12 := shm_6 f12
  replace f13 := shm_163 f13
  replace f14 := shm_424 f14
  replace f15 := shm_419 f15
  replace f16 := shm_5 f16
  replace f17 := shm_5 f17
  replace f18 := shm_428 f18
  replace f19 := shm_396 f19
  replace f20 := shm_429 f20
  replace f21 := shm_5 f21
  have q14 : n_v vs 14 = n_v vs 3 := f16.symm
  have q8 : n_v vs 8 = n_v vs 2 := f17.symm
  have q6 : n_v vs 6 = n_v vs 0 := f21.symm
  simp only [q14, q8, q6] at f10 f13 f14 f15 f18 f20
  have cr_0_2 := fdq_89 hD hth r0
  have cr_0_4 := fdq_86 hD hth r0
  have cr_0_5 := fdq_90 hD hth r0
  have cr_3_14 := fdq_75 hD hth r3
  have cr_4_4 := fdq_87 hD hth r4
  have ad_17 : v_ad (n_v vs 17) = w_ar ws (n_v vs 3) 14 := congrArg v_ad f10
  simp only [ad_17] at f9
  have h9 : v_iv (n_v vs 18) = w_ei ws (w_ar ws (n_v vs 3) 14) (v_iv (n_v vs 12)) := f9
  have g13 : v_iv (n_v vs 15) = w_fi ws (n_v vs 3) 0 := congrArg v_iv f13
  have hK_0_2 := elq_45 hD hth cr_0_2
  have hK_0_4 := elq_43 hD hth cr_0_4
  have hK_0_5 := elq_46 hD hth cr_0_5
  have hK_3_14 := elq_25 hD hth cr_3_14
  have hK_4_4 := elq_29 hD hth cr_4_4
  have kz_3_0 := fdq_21 hD hth r3
  have nf0 : fc_1 PRD (20, [6, 14, 4, 9, 8, 10, 5, 11, 25], [60, 1, 5, 857, 1000, 2, 5, 4, 1014, 2004]) ws (vs) := by
    refine ⟨nf_in hl rfl, sgq_429 ?_⟩
    · show TQI (w_fi ws (n_v vs 14) 0) (w_ei ws (w_ar ws (n_v vs 6) 2)) (w_ei ws (w_ar ws (n_v vs 6) 5)) (w_ei ws (w_ar ws (n_v vs 6) 4)) (w_ei ws (w_ar ws (n_v vs 14) 14)) (w_ei ws (w_ar ws (n_v vs 4) 4)) (v_iv (n_v vs 9)) (v_iv (n_v vs 8)) (v_iv (n_v vs 10)) (v_iv (n_v vs 5)) (v_iv (n_v vs 11)) (v_iv (n_v vs 25))
      simp only [q14, q8, q6]
      exact vc_Pl_walkTree_6_0 (v_iv (n_v vs 1)) (v_iv (n_v vs 2)) (v_iv (n_v vs 5)) (v_iv (n_v vs 7)) (v_iv (n_v vs 8)) (v_iv (n_v vs 9)) (v_iv (n_v vs 10)) (v_iv (n_v vs 11)) (v_iv (n_v vs 12)) (v_iv (n_v vs 13)) (v_iv (n_v vs 15)) (v_iv (n_v vs 16)) (v_iv (n_v vs 18)) (v_iv (n_v vs 19)) (v_iv (n_v vs 20)) (v_iv (n_v vs 21)) (v_iv (n_v vs 22)) (v_iv (n_v vs 23)) (v_iv (n_v vs 24)) (v_iv (n_v vs 25)) (w_ei ws (w_ar ws (n_v vs 3) 14)) (w_fi ws (n_v vs 3) 0) (w_ei ws (w_ar ws (n_v vs 0) 2)) (w_ei ws (w_ar ws (n_v vs 4) 4)) (w_ei ws (w_ar ws (n_v vs 0) 5)) (w_ei ws (w_ar ws (n_v vs 0) 4)) k1 k2 k5 k7 k8 k9 k10 k11 k12 k13 k15 k16 k18 k19 k20 k21 k22 k23 k24 k25 d0 d1 d2 d3 d4 d5 d6 d7 d8 d9 d10 d11 d12 f0 f1 f2 f3 f4 f5 f6 f7 f8 h9 f11 f12 g13 f14 f15 f18 f19 f20 hK_0_2 hK_0_4 hK_0_5 hK_3_14 hK_4_4 kz_3_0
  refine ⟨(fun _ h => (by cases h)), [], trivial, ?_, (fun _ h => (by cases h))⟩
  rw [List.append_nil]
  exact List.forall_mem_cons.mpr ⟨⟨show (20 : Nat) < 100 from by decide, nf0⟩, (fun _ h => (by cases h))⟩
set_option maxHeartbeats 4000000 in
theorem vc_Pl_walkTree_7_r0 (x1 : Int) (x2 : Int) (x5 : Int) (x7 : Int) (x8 : Int) (x9 : Int) (x10 : Int) (x11 : Int) (x12 : Int) (x13 : Int) (x15 : Int) (x16 : Int) (x18 : Int) (x19 : Int) (x20 : Int) (x21 : Int) (x22 : Int) (x23 : Int) (x24 : Int) (x25 : Int) (x26 : Int) (x27 : Int) (x30 : Int) (x31 : Int) (x32 : Int) (nodes_0o3 : Int) (level_0 : Int → Int) (order_0 : Int → Int) (part_0o4 : Int → Int) (near_0o3 : Int → Int) (near_1o3 : Int → Int) (order_1 : Int → Int) (part_1o4 : Int → Int) (nodes_1o3 : Int) (parent_1 : Int → Int) (level_1 : Int → Int) (parent_0 : Int → Int) (k1 : 0 ≤ x1 ∧ x1 ≤ 23) (k2 : 0 ≤ x2 ∧ x2 ≤ 22) (k5 : 0 ≤ x5 ∧ x5 ≤ 24) (k7 : 0 ≤ x7 ∧ x7 ≤ 23) (k8 : 0 ≤ x8 ∧ x8 ≤ 22) (k9 : 0 ≤ x9 ∧ x9 ≤ 16777215) (k10 : 1 ≤ x10 ∧ x10 ≤ 23) (k11 : 0 ≤ x11 ∧ x11 ≤ 22) (k12 : 0 ≤ x12 ∧ x12 ≤ 23) (k13 : 0 ≤ x13 ∧ x13 ≤ 23) (k15 : 1 ≤ x15 ∧ x15 ≤ 24) (k16 : 24 ≤ x16 ∧ x16 ≤ 24) (k18 : 0 ≤ x18 ∧ x18 ≤ 16777215) (k19 : 0 ≤ x19 ∧ x19 ≤ 16777215) (k20 : 1 ≤ x20 ∧ x20 ≤ 1) (k21 : 1 ≤ x21 ∧ x21 ≤ 1) (k22 : 0 ≤ x22 ∧ x22 ≤ 16777215) (k23 : 1 ≤ x23 ∧ x23 ≤ 1) (k24 : 0 ≤ x24 ∧ x24 ≤ 0) (k25 : 1 ≤ x25 ∧ x25 ≤ 1) (k26 : 1 ≤ x26 ∧ x26 ≤ 8388608) (k27 : 0 ≤ x27 ∧ x27 ≤ 16777215) (k30 : 0 ≤ x30 ∧ x30 ≤ 23) (k31 : 1 ≤ x31 ∧ x31 ≤ 1) (k32 : 1 ≤ x32 ∧ x32 ≤ 24) (d0 : x30 + 1 ≤ x32 ∧ x32 ≤ x30 + 1) (d1 : x15 + (-4294967296) ≤ x13 ∧ x13 ≤ x15 + (-1)) (d2 : x7 + (-4294967296) ≤ x1 ∧ x1 ≤ x7 + 0) (d3 : x8 + (-4294967296) ≤ x2 ∧ x2 ≤ x8 + 0) (d4 : x10 + (-4294967296) ≤ x2 ∧ x2 ≤ x10 + (-1)) (d5 : x11 + (-4294967296) ≤ x2 ∧ x2 ≤ x11 + 0) (d6 : x1 + (-4294967296) ≤ x7 ∧ x7 ≤ x1 + 0) (d7 : x2 + (-4294967296) ≤ x8 ∧ x8 ≤ x2 + 0) (d8 : x10 + (-4294967296) ≤ x8 ∧ x8 ≤ x10 + (-1)) (d9 : x11 + (-4294967296) ≤ x8 ∧ x8 ≤ x11 + 0) (d10 : x10 + (-4294967296) ≤ x9 ∧ x9 ≤ x10 + 16777213) (d11 : x10 + (-4294967296) ≤ x11 ∧ x11 ≤ x10 + (-1)) (g2 : x15 = nodes_0o3) (f3 : x32 = x30 + x31) (h4 : x30 = level_0 (x12)) (f6 : WTI (nodes_0o3) (order_0) (part_0o4) (x9) (x2) (x10) (x5) (x11)) (f7 : PNC (nodes_0o3) (near_0o3) (part_0o4)) (f10 : x12 = order_0 (x11)) (f11 : (x11 + 1) ≤ x10) (f15 : x27 ≤ x9 + x26 ∧ x9 ≤ x27 ∧ x26 ≤ x27) (f16 : bvp (x27) = bvp (x9) ||| bvp (x26)) (f17 : bvp (x26) = bvp (x25) <<< (x13).toNat) (f18 : x24 = 0) (f19 : x24 = x22 % 2) (f20 : bvp (x24) = bvp (x22) &&& bvp (x23)) (f21 : bvp (x22) = bvp (x9) >>> (x13).toNat) (f22 : x21 ≠ 0) (f23 : x21 = x19 % 2) (f24 : bvp (x21) = bvp (x19) &&& bvp (x20)) (f25 : bvp (x19) = bvp (x18) >>> (x13).toNat) (h26 : x18 = near_1o3 (x12)) (f27 : x10 < x16) (f28 : x13 < x15) (f29 : WTI (nodes_1o3) (order_1) (part_1o4) (x9) (x2) (x10) (x5) (x11)) (f30 : PNC (nodes_1o3) (near_1o3) (part_1o4)) (f31 : x12 = order_1 (x11)) (f32 : (x11 + 1) ≤ x10) (f33 : TQI (nodes_1o3) (order_1) (parent_1) (level_1) (near_1o3) (part_1o4) (x9) (x2) (x10) (x5) (x11) (x13)) (fe_3_0_1 : nodes_0o3 = nodes_1o3) (hE_0_2_1 : ∀ j : Int, order_0 j = order_1 j) (hK_0_2 : ∀ j : Int, 0 ≤ j → j < 24 → 0 ≤ order_0 j ∧ order_0 j ≤ 23) (hE_0_4_1 : ∀ j : Int, level_0 j = level_1 j) (hK_0_4 : ∀ j : Int, 0 ≤ j → j < 24 → 0 ≤ level_0 j ∧ level_0 j ≤ 23) (hE_0_5_1 : ∀ j : Int, 0 ≤ j → (j = x13 → parent_0 j = x12) ∧ (j ≠ x13 → parent_0 j = parent_1 j)) (hK_0_5 : ∀ j : Int, 0 ≤ j → j < 24 → (-1) ≤ parent_0 j ∧ parent_0 j ≤ 23) (hE_3_14_1 : ∀ j : Int, near_0o3 j = near_1o3 j) (hK_3_14 : ∀ j : Int, 0 ≤ j → j < 24 → 0 ≤ near_0o3 j ∧ near_0o3 j ≤ 16777215) (hE_4_4_1 : ∀ j : Int, part_0o4 j = part_1o4 j) (hK_4_4 : ∀ j : Int, 0 ≤ j → j < 24 → (-1) ≤ part_0o4 j ∧ part_0o4 j ≤ 24) (kz_3_0 : 0 ≤ nodes_0o3 ∧ nodes_0o3 ≤ 24) : 1 ≤ x32 ∧ x32 ≤ 23 := by
  subst fe_3_0_1
  have e_hE_0_2_1 := funext hE_0_2_1; subst e_hE_0_2_1
  have e_hE_0_4_1 := funext hE_0_4_1; subst e_hE_0_4_1
  have e_hE_3_14_1 := funext hE_3_14_1; subst e_hE_3_14_1
  have e_hE_4_4_1 := funext hE_4_4_1; subst e_hE_4_4_1
  first
    | omega
    | (have q := (‹TQI _ _ _ _ _ _ _ _ _ _ _ _›).2.2.2.1 x11 (by have := (‹WTI _ _ _ _ _ _ _ _›).1; have := (‹WTI _ _ _ _ _ _ _ _›).2.2.1; omega) (by omega)
       have q1 := q.1
       have e : x12 = order_0 x11 := by assumption
       first
         | (rw [← e] at q1; omega)
         | (have e2 : x12 = order_1 x11 := by assumption
            rw [← e2] at q1
            omega))
    | (have q := (hE_0_2_1 x11 (by omega)).2 (by omega); omega)
  
def o_Pl_walkTree_7 : or_T := (129, 33, [(0, (2, 0, 0, [6])), (1, (0, 0, 23, [])), (2, (0, 0, 22, [])), (3, (2, 0, 0, [3])), (4, (2, 0, 0, [2])), (5, (0, 0, 24, [])), (6, (2, 0, 0, [6])), (7, (0, 0, 23, [])), (8, (0, 0, 22, [])), (9, (0, 0, 16777215, [])), (10, (0, 1, 23, [])), (11, (0, 0, 22, [])), (12, (0, 0, 23, [])), (13, (0, 0, 23, [])), (14, (2, 0, 0, [3])), (15, (0, 1, 24, [])), (16, (0, 24, 24, [])), (17, (2, 0, 0, [59])), (18, (0, 0, 16777215, [])), (19, (0, 0, 16777215, [])), (20, (0, 1, 1, [])), (21, (0, 1, 1, [])), (22, (0, 0, 16777215, [])), (23, (0, 1, 1, [])), (24, (0, 0, 0, [])), (25, (0, 1, 1, [])), (26, (0, 1, 8388608, [])), (27, (0, 0, 16777215, [])), (28, (2, 0, 0, [92])), (29, (2, 0, 0, [91])), (30, (0, 0, 23, [])), (31, (0, 1, 1, [])), (32, (0, 1, 24, []))], [(9, [28, 6], [5]), (9, [17, 14], [14]), (9, [15, 14], [0]), (1, [32, 30, 31], []), (10, [30, 29, 12], []), (9, [29, 6], [4]), (20, [6, 14, 4, 9, 8, 10, 5, 11], [60, 1, 2, 683, 1000, 2, 2004]), (20, [14, 4], [60, 1, 2, 671, 0, 14, 1004]), (24, [3, 14], []), (24, [2, 8], []), (20, [12, 6, 11], [50, 0, 1, 1002, 1, 2, 1, 0, 3, 1, 2, 1, 2]), (20, [11, 10], [50, 0, 0, 0, 6, 4, 2, 1, 0, 0, 1, 1, 1]), (24, [0, 6], []), (24, [1, 7], []), (100, [28, 13, 12], []), (13, [27, 9, 26], []), (16, [27, 9, 26], [1]), (16, [26, 25, 13], [3]), (8, [24], [0]), (12, [24, 22], [2]), (16, [24, 22, 23], [0]), (16, [22, 9, 13], [4]), (8, [21], [1]), (12, [21, 19], [2]), (16, [21, 19, 20], [0]), (16, [19, 18, 13], [4]), (10, [18, 17, 12], []), (7, [10, 16], [2]), (7, [13, 15], [2]), (20, [6, 14, 4, 9, 8, 10, 5, 11], [60, 1, 2, 683, 1000, 2, 2004]), (20, [14, 4], [60, 1, 2, 671, 0, 14, 1004]), (20, [12, 6, 11], [50, 0, 1, 1002, 1, 2, 1, 0, 3, 1, 2, 1, 2]), (20, [11, 10], [50, 0, 0, 0, 6, 4, 2, 1, 0, 0, 1, 1, 1]), (20, [6, 14, 4, 9, 8, 10, 5, 11, 13], [60, 1, 5, 857, 1000, 2, 5, 4, 1014, 2004])], [(32, (0, 1, 23, []))], [], [], [], [(32, 30, 1, 1), (13, 15, -4294967296, -1), (1, 7, -4294967296, 0), (2, 8, -4294967296, 0), (2, 10, -4294967296, -1), (2, 11, -4294967296, 0), (7, 1, -4294967296, 0), (8, 2, -4294967296, 0), (8, 10, -4294967296, -1), (8, 11, -4294967296, 0), (9, 10, -4294967296, 16777213), (11, 10, -4294967296, -1)])
theorem oo_Pl_walkTree_7 {kA : Nat → ClassId} : or_ok PRD kA GG o_Pl_walkTree_7 := by
  refine or_mk fun A ta ws vs hD hth hl => ?_
  intro t0 r0 t1 k1 t2 k2 t3 r3 t4 r4 t5 k5 t6 r6 t7 k7 t8 k8 t9 k9 t10 k10 t11 k11 t12 k12 t13 k13 t14 r14 t15 k15 t16 k16 t17 r17 t18 k18 t19 k19 t20 k20 t21 k21 t22 k22 t23 k23 t24 k24 t25 k25 t26 k26 t27 k27 t28 r28 t29 r29 t30 k30 t31 k31 t32 k32 d0 d1 d2 d3 d4 d5 d6 d7 d8 d9 d10 d11 f0 f1 f2 f3 f4 f5 f6 f7 f8 f9 f10 f11 f12 f13 ta1 w1 le1 s1 f15 f16 f17 f18 f19 f20 f21 f22 f23 f24 f25 f26 f27 f28 f29 f30 f31 f32 f33
  replace f0 := shm_110 f0
  replace f1 := shm_115 f1
  replace f2 := shm_163 f2
  replace f4 := shm_107 f4
  replace f5 := shm_108 f5
  replace f6 := shm_424 f6
  replace f7 := shm_419 f7
  replace f8 := shm_5 f8
  replace f9 := shm_5 f9
  replace f10 := shm_428 f10
  replace f12 := shm_5 f12
  have s1 : (∀ b j, w_el ws b j = if b = v_ad (n_v vs 28) ∧ j = (v_iv (n_v vs 13)).toNat then v_iv (n_v vs 12) else w_el w1 b j) ∧ ∀ b k, w_fd ws b k = w_fd w1 b k := s1.2
  have f15 : v_iv (n_v vs 27) ≤ v_iv (n_v vs 9) + v_iv (n_v vs 26) ∧ v_iv (n_v vs 9) ≤ v_iv (n_v vs 27) ∧ v_iv (n_v vs 26) ≤ v_iv (n_v vs 27) := (fun (h : v_iv (n_v vs 27) ≤ v_iv (n_v vs 9) + v_iv (n_v vs 26) ∧ v_iv (n_v vs 9) ≤ v_iv (n_v vs 27) ∧ v_iv (n_v vs 26) ≤ v_iv (n_v vs 27) ∧ (v_iv (n_v vs 27)).toNat = (v_iv (n_v vs 9)).toNat ||| (v_iv (n_v vs 26)).toNat) => ⟨h.1, h.2.1, h.2.2.1⟩) f15
  replace f26 := shm_107 f26
  replace f29 := shm_424 f29
  replace f30 := shm_419 f30
  replace f31 := shm_428 f31
  replace f33 := shm_429 f33
  have q14 : n_v vs 14 = n_v vs 3 := f8.symm
  have q8 : n_v vs 8 = n_v vs 2 := f9.symm
  have q6 : n_v vs 6 = n_v vs 0 := f12.symm
  simp only [q6, q14, q8] at f0 f1 f2 f5 f6 f7 f10 f29 f30 f31 f33
  have ar_0_2_1 : w_ar w1 (n_v vs 0) 2 = w_ar ws (n_v vs 0) 2 := congrArg v_ad (s1.2 _ _).symm
  have cr_0_2 := fdq_89 hD hth r0
  have ar_0_4_1 : w_ar w1 (n_v vs 0) 4 = w_ar ws (n_v vs 0) 4 := congrArg v_ad (s1.2 _ _).symm
  have cr_0_4 := fdq_86 hD hth r0
  have ar_0_5_1 : w_ar w1 (n_v vs 0) 5 = w_ar ws (n_v vs 0) 5 := congrArg v_ad (s1.2 _ _).symm
  have cr_0_5 := fdq_90 hD hth r0
  have ar_3_14_1 : w_ar w1 (n_v vs 3) 14 = w_ar ws (n_v vs 3) 14 := congrArg v_ad (s1.2 _ _).symm
  have cr_3_14 := fdq_75 hD hth r3
  have ar_4_4_1 : w_ar w1 (n_v vs 4) 4 = w_ar ws (n_v vs 4) 4 := congrArg v_ad (s1.2 _ _).symm
  have cr_4_4 := fdq_87 hD hth r4
  have ad_28 : v_ad (n_v vs 28) = w_ar ws (n_v vs 0) 5 := congrArg v_ad f0
  have ad_17 : v_ad (n_v vs 17) = w_ar ws (n_v vs 3) 14 := congrArg v_ad f1
  have ad_29 : v_ad (n_v vs 29) = w_ar ws (n_v vs 0) 4 := congrArg v_ad f5
  have g2 : v_iv (n_v vs 15) = w_fi ws (n_v vs 3) 0 := congrArg v_iv f2
  simp only [ad_29] at f4
  have h4 : v_iv (n_v vs 30) = w_ei ws (w_ar ws (n_v vs 0) 4) (v_iv (n_v vs 12)) := f4
  simp only [ad_17] at f26
  have h26 : v_iv (n_v vs 18) = w_ei w1 (w_ar ws (n_v vs 3) 14) (v_iv (n_v vs 12)) := f26
  simp only [ar_0_2_1, ar_4_4_1, ar_3_14_1, ar_0_4_1, ar_0_5_1] at f29 f30 f31 f33
  have fe_3_0_1 : w_fi ws (n_v vs 3) 0 = w_fi w1 (n_v vs 3) 0 := congrArg v_iv (s1.2 _ _)
  have hE_0_2_1 : ∀ j : Int, w_ei ws (w_ar ws (n_v vs 0) 2) j = w_ei w1 (w_ar ws (n_v vs 0) 2) j := el_kp s1.1 r28 cr_0_2 (by decide)
  have hK_0_2 := elq_45 hD hth cr_0_2
  have hE_0_4_1 : ∀ j : Int, w_ei ws (w_ar ws (n_v vs 0) 4) j = w_ei w1 (w_ar ws (n_v vs 0) 4) j := el_kp s1.1 r28 cr_0_4 (by decide)
  have hK_0_4 := elq_43 hD hth cr_0_4
  have hE_0_5_1 : ∀ j : Int, 0 ≤ j → (j = v_iv (n_v vs 13) → w_ei ws (w_ar ws (n_v vs 0) 5) j = v_iv (n_v vs 12)) ∧ (j ≠ v_iv (n_v vs 13) → w_ei ws (w_ar ws (n_v vs 0) 5) j = w_ei w1 (w_ar ws (n_v vs 0) 5) j) := fun j hj => ⟨fun h => by unfold w_ei; rw [s1.1, if_pos ⟨ad_28.symm, by rw [h]⟩], fun h => by unfold w_ei; rw [s1.1, if_neg (fun e => h (by have := e.2; omega))]⟩
  have hK_0_5 := elq_46 hD hth cr_0_5
  have hE_3_14_1 : ∀ j : Int, w_ei ws (w_ar ws (n_v vs 3) 14) j = w_ei w1 (w_ar ws (n_v vs 3) 14) j := el_kp s1.1 r28 cr_3_14 (by decide)
  have hK_3_14 := elq_25 hD hth cr_3_14
  have hE_4_4_1 : ∀ j : Int, w_ei ws (w_ar ws (n_v vs 4) 4) j = w_ei w1 (w_ar ws (n_v vs 4) 4) j := el_kp s1.1 r28 cr_4_4 (by decide)
  have hK_4_4 := elq_29 hD hth cr_4_4
  have kz_3_0 := fdq_21 hD hth r3
  have hrf0 : 1 ≤ v_iv (n_v vs 32) ∧ v_iv (n_v vs 32) ≤ 23 := vc_Pl_walkTree_7_r0 (v_iv (n_v vs 1)) (v_iv (n_v vs 2)) (v_iv (n_v vs 5)) (v_iv (n_v vs 7)) (v_iv (n_v vs 8)) (v_iv (n_v vs 9)) (v_iv (n_v vs 10)) (v_iv (n_v vs 11)) (v_iv (n_v vs 12)) (v_iv (n_v vs 13)) (v_iv (n_v vs 15)) (v_iv (n_v vs 16)) (v_iv (n_v vs 18)) (v_iv (n_v vs 19)) (v_iv (n_v vs 20)) (v_iv (n_v vs 21)) (v_iv (n_v vs 22)) (v_iv (n_v vs 23)) (v_iv (n_v vs 24)) (v_iv (n_v vs 25)) (v_iv (n_v vs 26)) (v_iv (n_v vs 27)) (v_iv (n_v vs 30)) (v_iv (n_v vs 31)) (v_iv (n_v vs 32)) (w_fi ws (n_v vs 3) 0) (w_ei ws (w_ar ws (n_v vs 0) 4)) (w_ei ws (w_ar ws (n_v vs 0) 2)) (w_ei ws (w_ar ws (n_v vs 4) 4)) (w_ei ws (w_ar ws (n_v vs 3) 14)) (w_ei w1 (w_ar ws (n_v vs 3) 14)) (w_ei w1 (w_ar ws (n_v vs 0) 2)) (w_ei w1 (w_ar ws (n_v vs 4) 4)) (w_fi w1 (n_v vs 3) 0) (w_ei w1 (w_ar ws (n_v vs 0) 5)) (w_ei w1 (w_ar ws (n_v vs 0) 4)) (w_ei ws (w_ar ws (n_v vs 0) 5)) k1 k2 k5 k7 k8 k9 k10 k11 k12 k13 k15 k16 k18 k19 k20 k21 k22 k23 k24 k25 k26 k27 k30 k31 k32 d0 d1 d2 d3 d4 d5 d6 d7 d8 d9 d10 d11 g2 (shm_12 f3) h4 f6 f7 f10 (shm_396 f11) f15 (shm_354 f16) (shm_349 f17) (shm_192 f18) (shm_364 f19) (shm_11 f20) (shm_13 f21) (shm_142 f22) (shm_364 f23) (shm_11 f24) (shm_13 f25) h26 (shm_6 f27) (shm_6 f28) f29 f30 f31 (shm_396 f32) f33 fe_3_0_1 hE_0_2_1 hK_0_2 hE_0_4_1 hK_0_4 hE_0_5_1 hK_0_5 hE_3_14_1 hK_3_14 hE_4_4_1 hK_4_4 kz_3_0
  have rf32 : tv_ok ta (0, 1, 23, []) (n_v vs 32) := tv_in t32 (by first | omega | grind) (by first | omega | grind)
  refine ⟨List.forall_mem_cons.mpr ⟨rf32, (fun _ h => (by cases h))⟩, [], trivial, ?_, (fun _ h => (by cases h))⟩
  rw [List.append_nil]
  exact (fun _ h => (by cases h))
set_option maxHeartbeats 4000000 in
theorem vc_Pl_walkTree_8_0 (x1 : Int) (x2 : Int) (x5 : Int) (x7 : Int) (x8 : Int) (x9 : Int) (x10 : Int) (x11 : Int) (x12 : Int) (x13 : Int) (x15 : Int) (x16 : Int) (x18 : Int) (x19 : Int) (x20 : Int) (x21 : Int) (x22 : Int) (x23 : Int) (x24 : Int) (x25 : Int) (x26 : Int) (x27 : Int) (x30 : Int) (x31 : Int) (x32 : Int) (x34 : Int) (x35 : Int) (nodes_0o3 : Int) (near_0o3 : Int → Int) (part_0o4 : Int → Int) (order_1 : Int → Int) (part_1o4 : Int → Int) (nodes_1o3 : Int) (near_1o3 : Int → Int) (level_2 : Int → Int) (order_2 : Int → Int) (part_2o4 : Int → Int) (nodes_2o3 : Int) (near_2o3 : Int → Int) (near_3o3 : Int → Int) (order_3 : Int → Int) (part_3o4 : Int → Int) (nodes_3o3 : Int) (parent_3 : Int → Int) (level_3 : Int → Int) (order_0 : Int → Int) (level_0 : Int → Int) (level_1 : Int → Int) (parent_0 : Int → Int) (parent_1 : Int → Int) (parent_2 : Int → Int) (k1 : 0 ≤ x1 ∧ x1 ≤ 23) (k2 : 0 ≤ x2 ∧ x2 ≤ 22) (k5 : 0 ≤ x5 ∧ x5 ≤ 24) (k7 : 0 ≤ x7 ∧ x7 ≤ 23) (k8 : 0 ≤ x8 ∧ x8 ≤ 22) (k9 : 0 ≤ x9 ∧ x9 ≤ 16777215) (k10 : 1 ≤ x10 ∧ x10 ≤ 23) (k11 : 0 ≤ x11 ∧ x11 ≤ 22) (k12 : 0 ≤ x12 ∧ x12 ≤ 23) (k13 : 0 ≤ x13 ∧ x13 ≤ 23) (k15 : 1 ≤ x15 ∧ x15 ≤ 24) (k16 : 24 ≤ x16 ∧ x16 ≤ 24) (k18 : 0 ≤ x18 ∧ x18 ≤ 16777215) (k19 : 0 ≤ x19 ∧ x19 ≤ 16777215) (k20 : 1 ≤ x20 ∧ x20 ≤ 1) (k21 : 1 ≤ x21 ∧ x21 ≤ 1) (k22 : 0 ≤ x22 ∧ x22 ≤ 16777215) (k23 : 1 ≤ x23 ∧ x23 ≤ 1) (k24 : 0 ≤ x24 ∧ x24 ≤ 0) (k25 : 1 ≤ x25 ∧ x25 ≤ 1) (k26 : 1 ≤ x26 ∧ x26 ≤ 8388608) (k27 : 0 ≤ x27 ∧ x27 ≤ 16777215) (k30 : 0 ≤ x30 ∧ x30 ≤ 23) (k31 : 1 ≤ x31 ∧ x31 ≤ 1) (k32 : 1 ≤ x32 ∧ x32 ≤ 23) (k34 : 2 ≤ x34 ∧ x34 ≤ 24) (k35 : 1 ≤ x35 ∧ x35 ≤ 24) (d0 : x13 + 1 ≤ x35 ∧ x35 ≤ x13 + 1) (d1 : x15 + (-4294967296) ≤ x35 ∧ x35 ≤ x15 + 0) (d2 : x10 + 1 ≤ x34 ∧ x34 ≤ x10 + 1) (d3 : x30 + 1 ≤ x32 ∧ x32 ≤ x30 + 1) (d4 : x15 + (-4294967296) ≤ x13 ∧ x13 ≤ x15 + (-1)) (d5 : x7 + (-4294967296) ≤ x1 ∧ x1 ≤ x7 + 0) (d6 : x8 + (-4294967296) ≤ x2 ∧ x2 ≤ x8 + 0) (d7 : x10 + (-4294967296) ≤ x2 ∧ x2 ≤ x10 + (-1)) (d8 : x11 + (-4294967296) ≤ x2 ∧ x2 ≤ x11 + 0) (d9 : x1 + (-4294967296) ≤ x7 ∧ x7 ≤ x1 + 0) (d10 : x2 + (-4294967296) ≤ x8 ∧ x8 ≤ x2 + 0) (d11 : x10 + (-4294967296) ≤ x8 ∧ x8 ≤ x10 + (-1)) (d12 : x11 + (-4294967296) ≤ x8 ∧ x8 ≤ x11 + 0) (d13 : x10 + (-4294967296) ≤ x9 ∧ x9 ≤ x10 + 16777213) (d14 : x10 + (-4294967296) ≤ x11 ∧ x11 ≤ x10 + (-1)) (g4 : x15 = nodes_0o3) (f5 : x35 = x13 + 1) (f6 : x34 = x10 + 1) (f7 : PNC (nodes_0o3) (near_0o3) (part_0o4)) (f10 : (x11 + 1) ≤ x10) (f14 : WTI (nodes_1o3) (order_1) (part_1o4) (x9) (x2) (x10) (x5) (x11)) (f15 : PNC (nodes_1o3) (near_1o3) (part_1o4)) (f16 : x12 = order_1 (x11)) (f17 : (x11 + 1) ≤ x10) (f19 : x32 = x30 + x31) (h20 : x30 = level_2 (x12)) (f21 : WTI (nodes_2o3) (order_2) (part_2o4) (x9) (x2) (x10) (x5) (x11)) (f22 : PNC (nodes_2o3) (near_2o3) (part_2o4)) (f23 : x12 = order_2 (x11)) (f24 : (x11 + 1) ≤ x10) (f26 : x27 ≤ x9 + x26 ∧ x9 ≤ x27 ∧ x26 ≤ x27) (f27 : bvp (x27) = bvp (x9) ||| bvp (x26)) (f28 : bvp (x26) = bvp (x25) <<< (x13).toNat) (f29 : x24 = 0) (f30 : x24 = x22 % 2) (f31 : bvp (x24) = bvp (x22) &&& bvp (x23)) (f32 : bvp (x22) = bvp (x9) >>> (x13).toNat) (f33 : x21 ≠ 0) (f34 : x21 = x19 % 2) (f35 : bvp (x21) = bvp (x19) &&& bvp (x20)) (f36 : bvp (x19) = bvp (x18) >>> (x13).toNat) (h37 : x18 = near_3o3 (x12)) (f38 : x10 < x16) (f39 : x13 < x15) (f40 : WTI (nodes_3o3) (order_3) (part_3o4) (x9) (x2) (x10) (x5) (x11)) (f41 : PNC (nodes_3o3) (near_3o3) (part_3o4)) (f42 : x12 = order_3 (x11)) (f43 : (x11 + 1) ≤ x10) (f44 : TQI (nodes_3o3) (order_3) (parent_3) (level_3) (near_3o3) (part_3o4) (x9) (x2) (x10) (x5) (x11) (x13)) (fe_3_0_1 : nodes_0o3 = nodes_1o3) (fe_3_0_2 : nodes_1o3 = nodes_2o3) (fe_3_0_3 : nodes_2o3 = nodes_3o3) (hE_0_2_1 : ∀ j : Int, 0 ≤ j → (j = x10 → order_0 j = x13) ∧ (j ≠ x10 → order_0 j = order_1 j)) (hE_0_2_2 : ∀ j : Int, order_1 j = order_2 j) (hE_0_2_3 : ∀ j : Int, order_2 j = order_3 j) (hK_0_2 : ∀ j : Int, 0 ≤ j → j < 24 → 0 ≤ order_0 j ∧ order_0 j ≤ 23) (hE_0_4_1 : ∀ j : Int, level_0 j = level_1 j) (hE_0_4_2 : ∀ j : Int, 0 ≤ j → (j = x13 → level_1 j = x32) ∧ (j ≠ x13 → level_1 j = level_2 j)) (hE_0_4_3 : ∀ j : Int, level_2 j = level_3 j) (hK_0_4 : ∀ j : Int, 0 ≤ j → j < 24 → 0 ≤ level_0 j ∧ level_0 j ≤ 23) (hE_0_5_1 : ∀ j : Int, parent_0 j = parent_1 j) (hE_0_5_2 : ∀ j : Int, parent_1 j = parent_2 j) (hE_0_5_3 : ∀ j : Int, 0 ≤ j → (j = x13 → parent_2 j = x12) ∧ (j ≠ x13 → parent_2 j = parent_3 j)) (hK_0_5 : ∀ j : Int, 0 ≤ j → j < 24 → (-1) ≤ parent_0 j ∧ parent_0 j ≤ 23) (hE_3_14_1 : ∀ j : Int, near_0o3 j = near_1o3 j) (hE_3_14_2 : ∀ j : Int, near_1o3 j = near_2o3 j) (hE_3_14_3 : ∀ j : Int, near_2o3 j = near_3o3 j) (hK_3_14 : ∀ j : Int, 0 ≤ j → j < 24 → 0 ≤ near_0o3 j ∧ near_0o3 j ≤ 16777215) (hE_4_4_1 : ∀ j : Int, part_0o4 j = part_1o4 j) (hE_4_4_2 : ∀ j : Int, part_1o4 j = part_2o4 j) (hE_4_4_3 : ∀ j : Int, part_2o4 j = part_3o4 j) (hK_4_4 : ∀ j : Int, 0 ≤ j → j < 24 → (-1) ≤ part_0o4 j ∧ part_0o4 j ≤ 24) (kz_3_0 : 0 ≤ nodes_0o3 ∧ nodes_0o3 ≤ 24) : WTI (nodes_0o3) (order_0) (part_0o4) (x27) (x2) (x34) (x5) (x11) := by
  subst fe_3_0_1
  subst fe_3_0_2
  subst fe_3_0_3
  have e_hE_0_2_2 := funext hE_0_2_2; subst e_hE_0_2_2
  have e_hE_0_2_3 := funext hE_0_2_3; subst e_hE_0_2_3
  have e_hE_0_4_1 := funext hE_0_4_1; subst e_hE_0_4_1
  have e_hE_0_4_3 := funext hE_0_4_3; subst e_hE_0_4_3
  have e_hE_0_5_1 := funext hE_0_5_1; subst e_hE_0_5_1
  have e_hE_0_5_2 := funext hE_0_5_2; subst e_hE_0_5_2
  have e_hE_3_14_1 := funext hE_3_14_1; subst e_hE_3_14_1
  have e_hE_3_14_2 := funext hE_3_14_2; subst e_hE_3_14_2
  have e_hE_3_14_3 := funext hE_3_14_3; subst e_hE_3_14_3
  have e_hE_4_4_1 := funext hE_4_4_1; subst e_hE_4_4_1
  have e_hE_4_4_2 := funext hE_4_4_2; subst e_hE_4_4_2
  have e_hE_4_4_3 := funext hE_4_4_3; subst e_hE_4_4_3
  first
    | assumption
    | exact wti_next ‹WTI _ _ _ _ _ _ _ _› (by omega)
    | (have o1 : x6 = 1 := by omega
       subst o1
       exact wti_start (q := x2) (x := x1) ‹WTB _ _ _ _› (by omega) (by omega) (by omega) (by omega) ‹RTP _ _ _› (by assumption) rfl rfl (by assumption) (by omega) rfl)
    | (have qa := bit_one (s := x18) (t := x19) (c := x21) (v := x13) (one := x20) (by assumption) (by assumption) (by omega) (by omega) (by omega) (by omega)
       have qb := bit_one (s := x9) (t := x22) (c := x24) (v := x13) (one := x23) (by assumption) (by assumption) (by omega) (by omega) (by omega) (by omega)
       have o1 : x25 = 1 := by omega
       subst o1
       exact wti_step (v := x12) (w := x13) (q := x10) (x := x13) (o := x26) ‹WTI _ _ _ _ _ _ _ _› (by omega) (by omega) ‹PNC _ _ _› (by assumption) (by omega) (by omega) (by omega) (by have e := (‹x18 = _›); rw [← e]; exact qa.mpr (by omega)) (fun z => by have := qb.mp z; omega) (by assumption) rfl rfl (by assumption) (by assumption) (by omega))
  
set_option maxHeartbeats 4000000 in
theorem vc_Pl_walkTree_8_1 (x1 : Int) (x2 : Int) (x5 : Int) (x7 : Int) (x8 : Int) (x9 : Int) (x10 : Int) (x11 : Int) (x12 : Int) (x13 : Int) (x15 : Int) (x16 : Int) (x18 : Int) (x19 : Int) (x20 : Int) (x21 : Int) (x22 : Int) (x23 : Int) (x24 : Int) (x25 : Int) (x26 : Int) (x27 : Int) (x30 : Int) (x31 : Int) (x32 : Int) (x34 : Int) (x35 : Int) (nodes_0o3 : Int) (near_0o3 : Int → Int) (part_0o4 : Int → Int) (order_1 : Int → Int) (part_1o4 : Int → Int) (nodes_1o3 : Int) (near_1o3 : Int → Int) (level_2 : Int → Int) (order_2 : Int → Int) (part_2o4 : Int → Int) (nodes_2o3 : Int) (near_2o3 : Int → Int) (near_3o3 : Int → Int) (order_3 : Int → Int) (part_3o4 : Int → Int) (nodes_3o3 : Int) (parent_3 : Int → Int) (level_3 : Int → Int) (order_0 : Int → Int) (level_0 : Int → Int) (level_1 : Int → Int) (parent_0 : Int → Int) (parent_1 : Int → Int) (parent_2 : Int → Int) (k1 : 0 ≤ x1 ∧ x1 ≤ 23) (k2 : 0 ≤ x2 ∧ x2 ≤ 22) (k5 : 0 ≤ x5 ∧ x5 ≤ 24) (k7 : 0 ≤ x7 ∧ x7 ≤ 23) (k8 : 0 ≤ x8 ∧ x8 ≤ 22) (k9 : 0 ≤ x9 ∧ x9 ≤ 16777215) (k10 : 1 ≤ x10 ∧ x10 ≤ 23) (k11 : 0 ≤ x11 ∧ x11 ≤ 22) (k12 : 0 ≤ x12 ∧ x12 ≤ 23) (k13 : 0 ≤ x13 ∧ x13 ≤ 23) (k15 : 1 ≤ x15 ∧ x15 ≤ 24) (k16 : 24 ≤ x16 ∧ x16 ≤ 24) (k18 : 0 ≤ x18 ∧ x18 ≤ 16777215) (k19 : 0 ≤ x19 ∧ x19 ≤ 16777215) (k20 : 1 ≤ x20 ∧ x20 ≤ 1) (k21 : 1 ≤ x21 ∧ x21 ≤ 1) (k22 : 0 ≤ x22 ∧ x22 ≤ 16777215) (k23 : 1 ≤ x23 ∧ x23 ≤ 1) (k24 : 0 ≤ x24 ∧ x24 ≤ 0) (k25 : 1 ≤ x25 ∧ x25 ≤ 1) (k26 : 1 ≤ x26 ∧ x26 ≤ 8388608) (k27 : 0 ≤ x27 ∧ x27 ≤ 16777215) (k30 : 0 ≤ x30 ∧ x30 ≤ 23) (k31 : 1 ≤ x31 ∧ x31 ≤ 1) (k32 : 1 ≤ x32 ∧ x32 ≤ 23) (k34 : 2 ≤ x34 ∧ x34 ≤ 24) (k35 : 1 ≤ x35 ∧ x35 ≤ 24) (d0 : x13 + 1 ≤ x35 ∧ x35 ≤ x13 + 1) (d1 : x15 + (-4294967296) ≤ x35 ∧ x35 ≤ x15 + 0) (d2 : x10 + 1 ≤ x34 ∧ x34 ≤ x10 + 1) (d3 : x30 + 1 ≤ x32 ∧ x32 ≤ x30 + 1) (d4 : x15 + (-4294967296) ≤ x13 ∧ x13 ≤ x15 + (-1)) (d5 : x7 + (-4294967296) ≤ x1 ∧ x1 ≤ x7 + 0) (d6 : x8 + (-4294967296) ≤ x2 ∧ x2 ≤ x8 + 0) (d7 : x10 + (-4294967296) ≤ x2 ∧ x2 ≤ x10 + (-1)) (d8 : x11 + (-4294967296) ≤ x2 ∧ x2 ≤ x11 + 0) (d9 : x1 + (-4294967296) ≤ x7 ∧ x7 ≤ x1 + 0) (d10 : x2 + (-4294967296) ≤ x8 ∧ x8 ≤ x2 + 0) (d11 : x10 + (-4294967296) ≤ x8 ∧ x8 ≤ x10 + (-1)) (d12 : x11 + (-4294967296) ≤ x8 ∧ x8 ≤ x11 + 0) (d13 : x10 + (-4294967296) ≤ x9 ∧ x9 ≤ x10 + 16777213) (d14 : x10 + (-4294967296) ≤ x11 ∧ x11 ≤ x10 + (-1)) (g4 : x15 = nodes_0o3) (f5 : x35 = x13 + 1) (f6 : x34 = x10 + 1) (f7 : PNC (nodes_0o3) (near_0o3) (part_0o4)) (f10 : (x11 + 1) ≤ x10) (f14 : WTI (nodes_1o3) (order_1) (part_1o4) (x9) (x2) (x10) (x5) (x11)) (f15 : PNC (nodes_1o3) (near_1o3) (part_1o4)) (f16 : x12 = order_1 (x11)) (f17 : (x11 + 1) ≤ x10) (f19 : x32 = x30 + x31) (h20 : x30 = level_2 (x12)) (f21 : WTI (nodes_2o3) (order_2) (part_2o4) (x9) (x2) (x10) (x5) (x11)) (f22 : PNC (nodes_2o3) (near_2o3) (part_2o4)) (f23 : x12 = order_2 (x11)) (f24 : (x11 + 1) ≤ x10) (f26 : x27 ≤ x9 + x26 ∧ x9 ≤ x27 ∧ x26 ≤ x27) (f27 : bvp (x27) = bvp (x9) ||| bvp (x26)) (f28 : bvp (x26) = bvp (x25) <<< (x13).toNat) (f29 : x24 = 0) (f30 : x24 = x22 % 2) (f31 : bvp (x24) = bvp (x22) &&& bvp (x23)) (f32 : bvp (x22) = bvp (x9) >>> (x13).toNat) (f33 : x21 ≠ 0) (f34 : x21 = x19 % 2) (f35 : bvp (x21) = bvp (x19) &&& bvp (x20)) (f36 : bvp (x19) = bvp (x18) >>> (x13).toNat) (h37 : x18 = near_3o3 (x12)) (f38 : x10 < x16) (f39 : x13 < x15) (f40 : WTI (nodes_3o3) (order_3) (part_3o4) (x9) (x2) (x10) (x5) (x11)) (f41 : PNC (nodes_3o3) (near_3o3) (part_3o4)) (f42 : x12 = order_3 (x11)) (f43 : (x11 + 1) ≤ x10) (f44 : TQI (nodes_3o3) (order_3) (parent_3) (level_3) (near_3o3) (part_3o4) (x9) (x2) (x10) (x5) (x11) (x13)) (fe_3_0_1 : nodes_0o3 = nodes_1o3) (fe_3_0_2 : nodes_1o3 = nodes_2o3) (fe_3_0_3 : nodes_2o3 = nodes_3o3) (hE_0_2_1 : ∀ j : Int, 0 ≤ j → (j = x10 → order_0 j = x13) ∧ (j ≠ x10 → order_0 j = order_1 j)) (hE_0_2_2 : ∀ j : Int, order_1 j = order_2 j) (hE_0_2_3 : ∀ j : Int, order_2 j = order_3 j) (hK_0_2 : ∀ j : Int, 0 ≤ j → j < 24 → 0 ≤ order_0 j ∧ order_0 j ≤ 23) (hE_0_4_1 : ∀ j : Int, level_0 j = level_1 j) (hE_0_4_2 : ∀ j : Int, 0 ≤ j → (j = x13 → level_1 j = x32) ∧ (j ≠ x13 → level_1 j = level_2 j)) (hE_0_4_3 : ∀ j : Int, level_2 j = level_3 j) (hK_0_4 : ∀ j : Int, 0 ≤ j → j < 24 → 0 ≤ level_0 j ∧ level_0 j ≤ 23) (hE_0_5_1 : ∀ j : Int, parent_0 j = parent_1 j) (hE_0_5_2 : ∀ j : Int, parent_1 j = parent_2 j) (hE_0_5_3 : ∀ j : Int, 0 ≤ j → (j = x13 → parent_2 j = x12) ∧ (j ≠ x13 → parent_2 j = parent_3 j)) (hK_0_5 : ∀ j : Int, 0 ≤ j → j < 24 → (-1) ≤ parent_0 j ∧ parent_0 j ≤ 23) (hE_3_14_1 : ∀ j : Int, near_0o3 j = near_1o3 j) (hE_3_14_2 : ∀ j : Int, near_1o3 j = near_2o3 j) (hE_3_14_3 : ∀ j : Int, near_2o3 j = near_3o3 j) (hK_3_14 : ∀ j : Int, 0 ≤ j → j < 24 → 0 ≤ near_0o3 j ∧ near_0o3 j ≤ 16777215) (hE_4_4_1 : ∀ j : Int, part_0o4 j = part_1o4 j) (hE_4_4_2 : ∀ j : Int, part_1o4 j = part_2o4 j) (hE_4_4_3 : ∀ j : Int, part_2o4 j = part_3o4 j) (hK_4_4 : ∀ j : Int, 0 ≤ j → j < 24 → (-1) ≤ part_0o4 j ∧ part_0o4 j ≤ 24) (kz_3_0 : 0 ≤ nodes_0o3 ∧ nodes_0o3 ≤ 24) : x12 = order_0 (x11) := by
  subst fe_3_0_1
  subst fe_3_0_2
  subst fe_3_0_3
  have e_hE_0_2_2 := funext hE_0_2_2; subst e_hE_0_2_2
  have e_hE_0_2_3 := funext hE_0_2_3; subst e_hE_0_2_3
  have e_hE_0_4_1 := funext hE_0_4_1; subst e_hE_0_4_1
  have e_hE_0_4_3 := funext hE_0_4_3; subst e_hE_0_4_3
  have e_hE_0_5_1 := funext hE_0_5_1; subst e_hE_0_5_1
  have e_hE_0_5_2 := funext hE_0_5_2; subst e_hE_0_5_2
  have e_hE_3_14_1 := funext hE_3_14_1; subst e_hE_3_14_1
  have e_hE_3_14_2 := funext hE_3_14_2; subst e_hE_3_14_2
  have e_hE_3_14_3 := funext hE_3_14_3; subst e_hE_3_14_3
  have e_hE_4_4_1 := funext hE_4_4_1; subst e_hE_4_4_1
  have e_hE_4_4_2 := funext hE_4_4_2; subst e_hE_4_4_2
  have e_hE_4_4_3 := funext hE_4_4_3; subst e_hE_4_4_3
  first
    | omega
    | (have q := (‹TQI _ _ _ _ _ _ _ _ _ _ _ _›).2.2.2.1 x11 (by have := (‹WTI _ _ _ _ _ _ _ _›).1; have := (‹WTI _ _ _ _ _ _ _ _›).2.2.1; omega) (by omega)
       have q1 := q.1
       have e : x12 = order_0 x11 := by assumption
       first
         | (rw [← e] at q1; omega)
         | (have e2 : x12 = order_1 x11 := by assumption
            rw [← e2] at q1
            omega))
    | (have q := (hE_0_2_1 x11 (by omega)).2 (by omega); omega)
  
set_option maxHeartbeats 4000000 in
theorem vc_Pl_walkTree_8_2 (x1 : Int) (x2 : Int) (x5 : Int) (x7 : Int) (x8 : Int) (x9 : Int) (x10 : Int) (x11 : Int) (x12 : Int) (x13 : Int) (x15 : Int) (x16 : Int) (x18 : Int) (x19 : Int) (x20 : Int) (x21 : Int) (x22 : Int) (x23 : Int) (x24 : Int) (x25 : Int) (x26 : Int) (x27 : Int) (x30 : Int) (x31 : Int) (x32 : Int) (x34 : Int) (x35 : Int) (nodes_0o3 : Int) (near_0o3 : Int → Int) (part_0o4 : Int → Int) (order_1 : Int → Int) (part_1o4 : Int → Int) (nodes_1o3 : Int) (near_1o3 : Int → Int) (level_2 : Int → Int) (order_2 : Int → Int) (part_2o4 : Int → Int) (nodes_2o3 : Int) (near_2o3 : Int → Int) (near_3o3 : Int → Int) (order_3 : Int → Int) (part_3o4 : Int → Int) (nodes_3o3 : Int) (parent_3 : Int → Int) (level_3 : Int → Int) (order_0 : Int → Int) (level_0 : Int → Int) (level_1 : Int → Int) (parent_0 : Int → Int) (parent_1 : Int → Int) (parent_2 : Int → Int) (k1 : 0 ≤ x1 ∧ x1 ≤ 23) (k2 : 0 ≤ x2 ∧ x2 ≤ 22) (k5 : 0 ≤ x5 ∧ x5 ≤ 24) (k7 : 0 ≤ x7 ∧ x7 ≤ 23) (k8 : 0 ≤ x8 ∧ x8 ≤ 22) (k9 : 0 ≤ x9 ∧ x9 ≤ 16777215) (k10 : 1 ≤ x10 ∧ x10 ≤ 23) (k11 : 0 ≤ x11 ∧ x11 ≤ 22) (k12 : 0 ≤ x12 ∧ x12 ≤ 23) (k13 : 0 ≤ x13 ∧ x13 ≤ 23) (k15 : 1 ≤ x15 ∧ x15 ≤ 24) (k16 : 24 ≤ x16 ∧ x16 ≤ 24) (k18 : 0 ≤ x18 ∧ x18 ≤ 16777215) (k19 : 0 ≤ x19 ∧ x19 ≤ 16777215) (k20 : 1 ≤ x20 ∧ x20 ≤ 1) (k21 : 1 ≤ x21 ∧ x21 ≤ 1) (k22 : 0 ≤ x22 ∧ x22 ≤ 16777215) (k23 : 1 ≤ x23 ∧ x23 ≤ 1) (k24 : 0 ≤ x24 ∧ x24 ≤ 0) (k25 : 1 ≤ x25 ∧ x25 ≤ 1) (k26 : 1 ≤ x26 ∧ x26 ≤ 8388608) (k27 : 0 ≤ x27 ∧ x27 ≤ 16777215) (k30 : 0 ≤ x30 ∧ x30 ≤ 23) (k31 : 1 ≤ x31 ∧ x31 ≤ 1) (k32 : 1 ≤ x32 ∧ x32 ≤ 23) (k34 : 2 ≤ x34 ∧ x34 ≤ 24) (k35 : 1 ≤ x35 ∧ x35 ≤ 24) (d0 : x13 + 1 ≤ x35 ∧ x35 ≤ x13 + 1) (d1 : x15 + (-4294967296) ≤ x35 ∧ x35 ≤ x15 + 0) (d2 : x10 + 1 ≤ x34 ∧ x34 ≤ x10 + 1) (d3 : x30 + 1 ≤ x32 ∧ x32 ≤ x30 + 1) (d4 : x15 + (-4294967296) ≤ x13 ∧ x13 ≤ x15 + (-1)) (d5 : x7 + (-4294967296) ≤ x1 ∧ x1 ≤ x7 + 0) (d6 : x8 + (-4294967296) ≤ x2 ∧ x2 ≤ x8 + 0) (d7 : x10 + (-4294967296) ≤ x2 ∧ x2 ≤ x10 + (-1)) (d8 : x11 + (-4294967296) ≤ x2 ∧ x2 ≤ x11 + 0) (d9 : x1 + (-4294967296) ≤ x7 ∧ x7 ≤ x1 + 0) (d10 : x2 + (-4294967296) ≤ x8 ∧ x8 ≤ x2 + 0) (d11 : x10 + (-4294967296) ≤ x8 ∧ x8 ≤ x10 + (-1)) (d12 : x11 + (-4294967296) ≤ x8 ∧ x8 ≤ x11 + 0) (d13 : x10 + (-4294967296) ≤ x9 ∧ x9 ≤ x10 + 16777213) (d14 : x10 + (-4294967296) ≤ x11 ∧ x11 ≤ x10 + (-1)) (g4 : x15 = nodes_0o3) (f5 : x35 = x13 + 1) (f6 : x34 = x10 + 1) (f7 : PNC (nodes_0o3) (near_0o3) (part_0o4)) (f10 : (x11 + 1) ≤ x10) (f14 : WTI (nodes_1o3) (order_1) (part_1o4) (x9) (x2) (x10) (x5) (x11)) (f15 : PNC (nodes_1o3) (near_1o3) (part_1o4)) (f16 : x12 = order_1 (x11)) (f17 : (x11 + 1) ≤ x10) (f19 : x32 = x30 + x31) (h20 : x30 = level_2 (x12)) (f21 : WTI (nodes_2o3) (order_2) (part_2o4) (x9) (x2) (x10) (x5) (x11)) (f22 : PNC (nodes_2o3) (near_2o3) (part_2o4)) (f23 : x12 = order_2 (x11)) (f24 : (x11 + 1) ≤ x10) (f26 : x27 ≤ x9 + x26 ∧ x9 ≤ x27 ∧ x26 ≤ x27) (f27 : bvp (x27) = bvp (x9) ||| bvp (x26)) (f28 : bvp (x26) = bvp (x25) <<< (x13).toNat) (f29 : x24 = 0) (f30 : x24 = x22 % 2) (f31 : bvp (x24) = bvp (x22) &&& bvp (x23)) (f32 : bvp (x22) = bvp (x9) >>> (x13).toNat) (f33 : x21 ≠ 0) (f34 : x21 = x19 % 2) (f35 : bvp (x21) = bvp (x19) &&& bvp (x20)) (f36 : bvp (x19) = bvp (x18) >>> (x13).toNat) (h37 : x18 = near_3o3 (x12)) (f38 : x10 < x16) (f39 : x13 < x15) (f40 : WTI (nodes_3o3) (order_3) (part_3o4) (x9) (x2) (x10) (x5) (x11)) (f41 : PNC (nodes_3o3) (near_3o3) (part_3o4)) (f42 : x12 = order_3 (x11)) (f43 : (x11 + 1) ≤ x10) (f44 : TQI (nodes_3o3) (order_3) (parent_3) (level_3) (near_3o3) (part_3o4) (x9) (x2) (x10) (x5) (x11) (x13)) (fe_3_0_1 : nodes_0o3 = nodes_1o3) (fe_3_0_2 : nodes_1o3 = nodes_2o3) (fe_3_0_3 : nodes_2o3 = nodes_3o3) (hE_0_2_1 : ∀ j : Int, 0 ≤ j → (j = x10 → order_0 j = x13) ∧ (j ≠ x10 → order_0 j = order_1 j)) (hE_0_2_2 : ∀ j : Int, order_1 j = order_2 j) (hE_0_2_3 : ∀ j : Int, order_2 j = order_3 j) (hK_0_2 : ∀ j : Int, 0 ≤ j → j < 24 → 0 ≤ order_0 j ∧ order_0 j ≤ 23) (hE_0_4_1 : ∀ j : Int, level_0 j = level_1 j) (hE_0_4_2 : ∀ j : Int, 0 ≤ j → (j = x13 → level_1 j = x32) ∧ (j ≠ x13 → level_1 j = level_2 j)) (hE_0_4_3 : ∀ j : Int, level_2 j = level_3 j) (hK_0_4 : ∀ j : Int, 0 ≤ j → j < 24 → 0 ≤ level_0 j ∧ level_0 j ≤ 23) (hE_0_5_1 : ∀ j : Int, parent_0 j = parent_1 j) (hE_0_5_2 : ∀ j : Int, parent_1 j = parent_2 j) (hE_0_5_3 : ∀ j : Int, 0 ≤ j → (j = x13 → parent_2 j = x12) ∧ (j ≠ x13 → parent_2 j = parent_3 j)) (hK_0_5 : ∀ j : Int, 0 ≤ j → j < 24 → (-1) ≤ parent_0 j ∧ parent_0 j ≤ 23) (hE_3_14_1 : ∀ j : Int, near_0o3 j = near_1o3 j) (hE_3_14_2 : ∀ j : Int, near_1o3 j = near_2o3 j) (hE_3_14_3 : ∀ j : Int, near_2o3 j = near_3o3 j) (hK_3_14 : ∀ j : Int, 0 ≤ j → j < 24 → 0 ≤ near_0o3 j ∧ near_0o3 j ≤ 16777215) (hE_4_4_1 : ∀ j : Int, part_0o4 j = part_1o4 j) (hE_4_4_2 : ∀ j : Int, part_1o4 j = part_2o4 j) (hE_4_4_3 : ∀ j : Int, part_2o4 j = part_3o4 j) (hK_4_4 : ∀ j : Int, 0 ≤ j → j < 24 → (-1) ≤ part_0o4 j ∧ part_0o4 j ≤ 24) (kz_3_0 : 0 ≤ nodes_0o3 ∧ nodes_0o3 ≤ 24) : (x11 + 1) ≤ x34 := by
  subst fe_3_0_1
  subst fe_3_0_2
  subst fe_3_0_3
  have e_hE_0_2_2 := funext hE_0_2_2; subst e_hE_0_2_2
  have e_hE_0_2_3 := funext hE_0_2_3; subst e_hE_0_2_3
  have e_hE_0_4_1 := funext hE_0_4_1; subst e_hE_0_4_1
  have e_hE_0_4_3 := funext hE_0_4_3; subst e_hE_0_4_3
  have e_hE_0_5_1 := funext hE_0_5_1; subst e_hE_0_5_1
  have e_hE_0_5_2 := funext hE_0_5_2; subst e_hE_0_5_2
  have e_hE_3_14_1 := funext hE_3_14_1; subst e_hE_3_14_1
  have e_hE_3_14_2 := funext hE_3_14_2; subst e_hE_3_14_2
  have e_hE_3_14_3 := funext hE_3_14_3; subst e_hE_3_14_3
  have e_hE_4_4_1 := funext hE_4_4_1; subst e_hE_4_4_1
  have e_hE_4_4_2 := funext hE_4_4_2; subst e_hE_4_4_2
  have e_hE_4_4_3 := funext hE_4_4_3; subst e_hE_4_4_3
  first
    | omega
    | (have q := (‹TQI _ _ _ _ _ _ _ _ _ _ _ _›).2.2.2.1 x11 (by have := (‹WTI _ _ _ _ _ _ _ _›).1; have := (‹WTI _ _ _ _ _ _ _ _›).2.2.1; omega) (by omega)
       have q1 := q.1
       have e : x12 = order_0 x11 := by assumption
       first
         | (rw [← e] at q1; omega)
         | (have e2 : x12 = order_1 x11 := by assumption
            rw [← e2] at q1
            omega))
    | (have q := (hE_0_2_1 x11 (by omega)).2 (by omega); omega)
  
set_option maxHeartbeats 4000000 in
theorem vc_Pl_walkTree_8_3 (x1 : Int) (x2 : Int) (x5 : Int) (x7 : Int) (x8 : Int) (x9 : Int) (x10 : Int) (x11 : Int) (x12 : Int) (x13 : Int) (x15 : Int) (x16 : Int) (x18 : Int) (x19 : Int) (x20 : Int) (x21 : Int) (x22 : Int) (x23 : Int) (x24 : Int) (x25 : Int) (x26 : Int) (x27 : Int) (x30 : Int) (x31 : Int) (x32 : Int) (x34 : Int) (x35 : Int) (nodes_0o3 : Int) (near_0o3 : Int → Int) (part_0o4 : Int → Int) (order_1 : Int → Int) (part_1o4 : Int → Int) (nodes_1o3 : Int) (near_1o3 : Int → Int) (level_2 : Int → Int) (order_2 : Int → Int) (part_2o4 : Int → Int) (nodes_2o3 : Int) (near_2o3 : Int → Int) (near_3o3 : Int → Int) (order_3 : Int → Int) (part_3o4 : Int → Int) (nodes_3o3 : Int) (parent_3 : Int → Int) (level_3 : Int → Int) (order_0 : Int → Int) (level_0 : Int → Int) (level_1 : Int → Int) (parent_0 : Int → Int) (parent_1 : Int → Int) (parent_2 : Int → Int) (k1 : 0 ≤ x1 ∧ x1 ≤ 23) (k2 : 0 ≤ x2 ∧ x2 ≤ 22) (k5 : 0 ≤ x5 ∧ x5 ≤ 24) (k7 : 0 ≤ x7 ∧ x7 ≤ 23) (k8 : 0 ≤ x8 ∧ x8 ≤ 22) (k9 : 0 ≤ x9 ∧ x9 ≤ 16777215) (k10 : 1 ≤ x10 ∧ x10 ≤ 23) (k11 : 0 ≤ x11 ∧ x11 ≤ 22) (k12 : 0 ≤ x12 ∧ x12 ≤ 23) (k13 : 0 ≤ x13 ∧ x13 ≤ 23) (k15 : 1 ≤ x15 ∧ x15 ≤ 24) (k16 : 24 ≤ x16 ∧ x16 ≤ 24) (k18 : 0 ≤ x18 ∧ x18 ≤ 16777215) (k19 : 0 ≤ x19 ∧ x19 ≤ 16777215) (k20 : 1 ≤ x20 ∧ x20 ≤ 1) (k21 : 1 ≤ x21 ∧ x21 ≤ 1) (k22 : 0 ≤ x22 ∧ x22 ≤ 16777215) (k23 : 1 ≤ x23 ∧ x23 ≤ 1) (k24 : 0 ≤ x24 ∧ x24 ≤ 0) (k25 : 1 ≤ x25 ∧ x25 ≤ 1) (k26 : 1 ≤ x26 ∧ x26 ≤ 8388608) (k27 : 0 ≤ x27 ∧ x27 ≤ 16777215) (k30 : 0 ≤ x30 ∧ x30 ≤ 23) (k31 : 1 ≤ x31 ∧ x31 ≤ 1) (k32 : 1 ≤ x32 ∧ x32 ≤ 23) (k34 : 2 ≤ x34 ∧ x34 ≤ 24) (k35 : 1 ≤ x35 ∧ x35 ≤ 24) (d0 : x13 + 1 ≤ x35 ∧ x35 ≤ x13 + 1) (d1 : x15 + (-4294967296) ≤ x35 ∧ x35 ≤ x15 + 0) (d2 : x10 + 1 ≤ x34 ∧ x34 ≤ x10 + 1) (d3 : x30 + 1 ≤ x32 ∧ x32 ≤ x30 + 1) (d4 : x15 + (-4294967296) ≤ x13 ∧ x13 ≤ x15 + (-1)) (d5 : x7 + (-4294967296) ≤ x1 ∧ x1 ≤ x7 + 0) (d6 : x8 + (-4294967296) ≤ x2 ∧ x2 ≤ x8 + 0) (d7 : x10 + (-4294967296) ≤ x2 ∧ x2 ≤ x10 + (-1)) (d8 : x11 + (-4294967296) ≤ x2 ∧ x2 ≤ x11 + 0) (d9 : x1 + (-4294967296) ≤ x7 ∧ x7 ≤ x1 + 0) (d10 : x2 + (-4294967296) ≤ x8 ∧ x8 ≤ x2 + 0) (d11 : x10 + (-4294967296) ≤ x8 ∧ x8 ≤ x10 + (-1)) (d12 : x11 + (-4294967296) ≤ x8 ∧ x8 ≤ x11 + 0) (d13 : x10 + (-4294967296) ≤ x9 ∧ x9 ≤ x10 + 16777213) (d14 : x10 + (-4294967296) ≤ x11 ∧ x11 ≤ x10 + (-1)) (g4 : x15 = nodes_0o3) (f5 : x35 = x13 + 1) (f6 : x34 = x10 + 1) (f7 : PNC (nodes_0o3) (near_0o3) (part_0o4)) (f10 : (x11 + 1) ≤ x10) (f14 : WTI (nodes_1o3) (order_1) (part_1o4) (x9) (x2) (x10) (x5) (x11)) (f15 : PNC (nodes_1o3) (near_1o3) (part_1o4)) (f16 : x12 = order_1 (x11)) (f17 : (x11 + 1) ≤ x10) (f19 : x32 = x30 + x31) (h20 : x30 = level_2 (x12)) (f21 : WTI (nodes_2o3) (order_2) (part_2o4) (x9) (x2) (x10) (x5) (x11)) (f22 : PNC (nodes_2o3) (near_2o3) (part_2o4)) (f23 : x12 = order_2 (x11)) (f24 : (x11 + 1) ≤ x10) (f26 : x27 ≤ x9 + x26 ∧ x9 ≤ x27 ∧ x26 ≤ x27) (f27 : bvp (x27) = bvp (x9) ||| bvp (x26)) (f28 : bvp (x26) = bvp (x25) <<< (x13).toNat) (f29 : x24 = 0) (f30 : x24 = x22 % 2) (f31 : bvp (x24) = bvp (x22) &&& bvp (x23)) (f32 : bvp (x22) = bvp (x9) >>> (x13).toNat) (f33 : x21 ≠ 0) (f34 : x21 = x19 % 2) (f35 : bvp (x21) = bvp (x19) &&& bvp (x20)) (f36 : bvp (x19) = bvp (x18) >>> (x13).toNat) (h37 : x18 = near_3o3 (x12)) (f38 : x10 < x16) (f39 : x13 < x15) (f40 : WTI (nodes_3o3) (order_3) (part_3o4) (x9) (x2) (x10) (x5) (x11)) (f41 : PNC (nodes_3o3) (near_3o3) (part_3o4)) (f42 : x12 = order_3 (x11)) (f43 : (x11 + 1) ≤ x10) (f44 : TQI (nodes_3o3) (order_3) (parent_3) (level_3) (near_3o3) (part_3o4) (x9) (x2) (x10) (x5) (x11) (x13)) (fe_3_0_1 : nodes_0o3 = nodes_1o3) (fe_3_0_2 : nodes_1o3 = nodes_2o3) (fe_3_0_3 : nodes_2o3 = nodes_3o3) (hE_0_2_1 : ∀ j : Int, 0 ≤ j → (j = x10 → order_0 j = x13) ∧ (j ≠ x10 → order_0 j = order_1 j)) (hE_0_2_2 : ∀ j : Int, order_1 j = order_2 j) (hE_0_2_3 : ∀ j : Int, order_2 j = order_3 j) (hK_0_2 : ∀ j : Int, 0 ≤ j → j < 24 → 0 ≤ order_0 j ∧ order_0 j ≤ 23) (hE_0_4_1 : ∀ j : Int, level_0 j = level_1 j) (hE_0_4_2 : ∀ j : Int, 0 ≤ j → (j = x13 → level_1 j = x32) ∧ (j ≠ x13 → level_1 j = level_2 j)) (hE_0_4_3 : ∀ j : Int, level_2 j = level_3 j) (hK_0_4 : ∀ j : Int, 0 ≤ j → j < 24 → 0 ≤ level_0 j ∧ level_0 j ≤ 23) (hE_0_5_1 : ∀ j : Int, parent_0 j = parent_1 j) (hE_0_5_2 : ∀ j : Int, parent_1 j = parent_2 j) (hE_0_5_3 : ∀ j : Int, 0 ≤ j → (j = x13 → parent_2 j = x12) ∧ (j ≠ x13 → parent_2 j = parent_3 j)) (hK_0_5 : ∀ j : Int, 0 ≤ j → j < 24 → (-1) ≤ parent_0 j ∧ parent_0 j ≤ 23) (hE_3_14_1 : ∀ j : Int, near_0o3 j = near_1o3 j) (hE_3_14_2 : ∀ j : Int, near_1o3 j = near_2o3 j) (hE_3_14_3 : ∀ j : Int, near_2o3 j = near_3o3 j) (hK_3_14 : ∀ j : Int, 0 ≤ j → j < 24 → 0 ≤ near_0o3 j ∧ near_0o3 j ≤ 16777215) (hE_4_4_1 : ∀ j : Int, part_0o4 j = part_1o4 j) (hE_4_4_2 : ∀ j : Int, part_1o4 j = part_2o4 j) (hE_4_4_3 : ∀ j : Int, part_2o4 j = part_3o4 j) (hK_4_4 : ∀ j : Int, 0 ≤ j → j < 24 → (-1) ≤ part_0o4 j ∧ part_0o4 j ≤ 24) (kz_3_0 : 0 ≤ nodes_0o3 ∧ nodes_0o3 ≤ 24) : TQI (nodes_0o3) (order_0) (parent_0) (level_0) (near_0o3) (part_0o4) (x27) (x2) (x34) (x5) (x11) (x35) := by
  subst fe_3_0_1
  subst fe_3_0_2
  subst fe_3_0_3
  have e_hE_0_2_2 := funext hE_0_2_2; subst e_hE_0_2_2
  have e_hE_0_2_3 := funext hE_0_2_3; subst e_hE_0_2_3
  have e_hE_0_4_1 := funext hE_0_4_1; subst e_hE_0_4_1
  have e_hE_0_4_3 := funext hE_0_4_3; subst e_hE_0_4_3
  have e_hE_0_5_1 := funext hE_0_5_1; subst e_hE_0_5_1
  have e_hE_0_5_2 := funext hE_0_5_2; subst e_hE_0_5_2
  have e_hE_3_14_1 := funext hE_3_14_1; subst e_hE_3_14_1
  have e_hE_3_14_2 := funext hE_3_14_2; subst e_hE_3_14_2
  have e_hE_3_14_3 := funext hE_3_14_3; subst e_hE_3_14_3
  have e_hE_4_4_1 := funext hE_4_4_1; subst e_hE_4_4_1
  have e_hE_4_4_2 := funext hE_4_4_2; subst e_hE_4_4_2
  have e_hE_4_4_3 := funext hE_4_4_3; subst e_hE_4_4_3
  first
    | exact tqi_of ‹TQH _ _ _ _ _ _ _ _ _ _ _› (by omega) (by omega)
    | (have qa := bit_one (s := x18) (t := x19) (c := x21) (v := x13) (one := x20) (by assumption) (by assumption) (by omega) (by omega) (by omega) (by omega)
       have e := (‹x18 = _›)
       exact tqi_skip (v := x12) (w := x13) ‹TQI _ _ _ _ _ _ _ _ _ _ _ _› (by assumption) (Or.inl (fun z => by rw [← e] at z; have := qa.mp z; omega)) (by omega))
    | (have qb := bit_one (s := x9) (t := x22) (c := x24) (v := x13) (one := x23) (by assumption) (by assumption) (by omega) (by omega) (by omega) (by omega)
       exact tqi_skip (v := x12) (w := x13) ‹TQI _ _ _ _ _ _ _ _ _ _ _ _› (by assumption) (Or.inr (qb.mpr (by omega))) (by omega))
    | (have qa := bit_one (s := x18) (t := x19) (c := x21) (v := x13) (one := x20) (by assumption) (by assumption) (by omega) (by omega) (by omega) (by omega)
       have qb := bit_one (s := x9) (t := x22) (c := x24) (v := x13) (one := x23) (by assumption) (by assumption) (by omega) (by omega) (by omega) (by omega)
       have o1 : x25 = 1 := by omega
       subst o1
       exact tqi_step (v := x12) (w := x13) (q := x10) (x := x13) (o := x26) (pv := x12) (l0 := x30) (l1 := x32) ‹TQI _ _ _ _ _ _ _ _ _ _ _ _› ‹WTI _ _ _ _ _ _ _ _› (by omega) (by omega) ‹PNC _ _ _› (by assumption) (by omega) (by omega) (by omega) (by have e := (‹x18 = _›); rw [← e]; exact qa.mpr (by omega)) (fun z => by have := qb.mp z; omega) (by assumption) rfl rfl (by assumption) rfl (by assumption) (by assumption) (by omega) (by assumption) (by assumption) (by omega) (by omega))
  
def o_Pl_walkTree_8 : or_T := (52, 36, [(0, (2, 0, 0, [6])), (1, (0, 0, 23, [])), (2, (0, 0, 22, [])), (3, (2, 0, 0, [3])), (4, (2, 0, 0, [2])), (5, (0, 0, 24, [])), (7, (0, 0, 23, [])), (8, (0, 0, 22, [])), (9, (0, 0, 16777215, [])), (10, (0, 1, 23, [])), (11, (0, 0, 22, [])), (12, (0, 0, 23, [])), (13, (0, 0, 23, [])), (15, (0, 1, 24, [])), (16, (0, 24, 24, [])), (18, (0, 0, 16777215, [])), (19, (0, 0, 16777215, [])), (20, (0, 1, 1, [])), (21, (0, 1, 1, [])), (22, (0, 0, 16777215, [])), (23, (0, 1, 1, [])), (24, (0, 0, 0, [])), (25, (0, 1, 1, [])), (26, (0, 1, 8388608, [])), (27, (0, 0, 16777215, [])), (28, (2, 0, 0, [92])), (29, (2, 0, 0, [91])), (30, (0, 0, 23, [])), (31, (0, 1, 1, [])), (32, (0, 1, 23, [])), (33, (2, 0, 0, [89])), (34, (0, 2, 24, [])), (35, (0, 1, 24, []))], [(9, [33, 6], [2]), (9, [29, 6], [4]), (9, [28, 6], [5]), (9, [17, 14], [14]), (9, [15, 14], [0]), (6, [35, 13], [1]), (6, [34, 10], [1]), (20, [14, 4], [60, 1, 2, 671, 0, 14, 1004]), (24, [3, 14], []), (24, [2, 8], []), (20, [11, 10], [50, 0, 0, 0, 6, 4, 2, 1, 0, 0, 1, 1, 1]), (24, [0, 6], []), (100, [33, 10, 13], []), (20, [6, 14, 4, 9, 8, 10, 5, 11], [60, 1, 2, 683, 1000, 2, 2004]), (20, [14, 4], [60, 1, 2, 671, 0, 14, 1004]), (20, [12, 6, 11], [50, 0, 1, 1002, 1, 2, 1, 0, 3, 1, 2, 1, 2]), (20, [11, 10], [50, 0, 0, 0, 6, 4, 2, 1, 0, 0, 1, 1, 1]), (100, [29, 13, 32], []), (1, [32, 30, 31], []), (10, [30, 29, 12], []), (20, [6, 14, 4, 9, 8, 10, 5, 11], [60, 1, 2, 683, 1000, 2, 2004]), (20, [14, 4], [60, 1, 2, 671, 0, 14, 1004]), (20, [12, 6, 11], [50, 0, 1, 1002, 1, 2, 1, 0, 3, 1, 2, 1, 2]), (20, [11, 10], [50, 0, 0, 0, 6, 4, 2, 1, 0, 0, 1, 1, 1]), (100, [28, 13, 12], []), (13, [27, 9, 26], []), (16, [27, 9, 26], [1]), (16, [26, 25, 13], [3]), (8, [24], [0]), (12, [24, 22], [2]), (16, [24, 22, 23], [0]), (16, [22, 9, 13], [4]), (8, [21], [1]), (12, [21, 19], [2]), (16, [21, 19, 20], [0]), (16, [19, 18, 13], [4]), (10, [18, 17, 12], []), (7, [10, 16], [2]), (7, [13, 15], [2]), (20, [6, 14, 4, 9, 8, 10, 5, 11], [60, 1, 2, 683, 1000, 2, 2004]), (20, [14, 4], [60, 1, 2, 671, 0, 14, 1004]), (20, [12, 6, 11], [50, 0, 1, 1002, 1, 2, 1, 0, 3, 1, 2, 1, 2]), (20, [11, 10], [50, 0, 0, 0, 6, 4, 2, 1, 0, 0, 1, 1, 1]), (20, [6, 14, 4, 9, 8, 10, 5, 11, 13], [60, 1, 5, 857, 1000, 2, 5, 4, 1014, 2004])], [], [], [(20, [6, 14, 4, 27, 8, 34, 5, 11], [60, 1, 2, 683, 1000, 2, 2004]), (20, [12, 6, 11], [50, 0, 1, 1002, 1, 2, 1, 0, 3, 1, 2, 1, 2]), (20, [11, 34], [50, 0, 0, 0, 6, 4, 2, 1, 0, 0, 1, 1, 1]), (20, [6, 14, 4, 27, 8, 34, 5, 11, 35], [60, 1, 5, 857, 1000, 2, 5, 4, 1014, 2004])], [], [(35, 13, 1, 1), (35, 15, -4294967296, 0), (34, 10, 1, 1), (32, 30, 1, 1), (13, 15, -4294967296, -1), (1, 7, -4294967296, 0), (2, 8, -4294967296, 0), (2, 10, -4294967296, -1), (2, 11, -4294967296, 0), (7, 1, -4294967296, 0), (8, 2, -4294967296, 0), (8, 10, -4294967296, -1), (8, 11, -4294967296, 0), (9, 10, -4294967296, 16777213), (11, 10, -4294967296, -1)])
theorem oo_Pl_walkTree_8 {kA : Nat → ClassId} : or_ok PRD kA GG o_Pl_walkTree_8 := by
  refine or_mk fun A ta ws vs hD hth hl => ?_
  intro t0 r0 t1 k1 t2 k2 t3 r3 t4 r4 t5 k5 t7 k7 t8 k8 t9 k9 t10 k10 t11 k11 t12 k12 t13 k13 t15 k15 t16 k16 t18 k18 t19 k19 t20 k20 t21 k21 t22 k22 t23 k23 t24 k24 t25 k25 t26 k26 t27 k27 t28 r28 t29 r29 t30 k30 t31 k31 t32 k32 t33 r33 t34 k34 t35 k35 d0 d1 d2 d3 d4 d5 d6 d7 d8 d9 d10 d11 d12 d13 d14 f0 f1 f2 f3 f4 f5 f6 f7 f8 f9 f10 f11 ta1 w1 le1 s1 f14 f15 f16 f17 ta2 w2 le2 s2 f19 f20 f21 f22 f23 f24 ta3 w3 le3 s3 f26 f27 f28 f29 f30 f31 f32 f33 f34 f35 f36 f37 f38 f39 f40 f41 f42 f43 f44
  replace f0 := shm_120 f0
  replace f1 := shm_108 f1
  replace f2 := shm_110 f2
  replace f3 := shm_115 f3
  replace f4 := shm_163 f4
  replace f5 := shm_4 f5
  replace f6 := shm_4 f6
  replace f7 := shm_419 f7
  replace f8 := shm_5 f8
  replace f9 := shm_5 f9
  replace f10 := shm_396 f10
  replace f11 := shm_5 f11
  have s1 : (∀ b j, w_el ws b j = if b = v_ad (n_v vs 33) ∧ j = (v_iv (n_v vs 10)).toNat then v_iv (n_v vs 13) else w_el w1 b j) ∧ ∀ b k, w_fd ws b k = w_fd w1 b k := s1.2
  replace f14 := shm_424 f14
  replace f15 := shm_419 f15
  replace f16 := shm_428 f16
  replace f17 := shm_396 f17
  have s2 : (∀ b j, w_el w1 b j = if b = v_ad (n_v vs 29) ∧ j = (v_iv (n_v vs 13)).toNat then v_iv (n_v vs 32) else w_el w2 b j) ∧ ∀ b k, w_fd w1 b k = w_fd w2 b k := s2.2
  replace f19 := shm_12 f19
  replace f20 := shm_107 f20
  replace f21 := shm_424 f21
  replace f22 := shm_419 f22
  replace f23 := shm_428 f23
  replace f24 := shm_396 f24
  have s3 : (∀ b j, w_el w2 b j = if b = v_ad (n_v vs 28) ∧ j = (v_iv (n_v vs 13)).toNat then v_iv (n_v vs 12) else w_el w3 b j) ∧ ∀ b k, w_fd w2 b k = w_fd w3 b k := s3.2
  have f26 : v_iv (n_v vs 27) ≤ v_iv (n_v vs 9) + v_iv (n_v vs 26) ∧ v_iv (n_v vs 9) ≤ v_iv (n_v vs 27) ∧ v_iv (n_v vs 26) ≤ v_iv (n_v vs 27) := (fun (h : v_iv (n_v vs 27) ≤ v_iv (n_v vs 9) + v_iv (n_v vs 26) ∧ v_iv (n_v vs 9) ≤ v_iv (n_v vs 27) ∧ v_iv (n_v vs 26) ≤ v_iv (n_v vs 27) ∧ (v_iv (n_v vs 27)).toNat = (v_iv (n_v vs 9)).toNat ||| (v_iv (n_v vs 26)).toNat) => ⟨h.1, h.2.1, h.2.2.1⟩) f26
  replace f27 := shm_354 f27
  replace f28 := shm_349 f28
  replace f29 := shm_192 f29
  replace f30 := shm_364 f30
  replace f31 := shm_11 f31
  replace f32 := shm_13 f32
  replace f33 := shm_142 f33
  replace f34 := shm_364 f34
  replace f35 := shm_11 f35
  replace f36 := shm_13 f36
  replace f37 := shm_107 f37
  replace f38 := shm_6 f38
  replace f39 := shm_6 f39
  replace f40 := shm_424 f40
  replace f41 := shm_419 f41
  replace f42 := shm_428 f42
  replace f43 := shm_396 f43
  replace f44 := shm_429 f44
  have q14 : n_v vs 14 = n_v vs 3 := f8.symm
  have q8 : n_v vs 8 = n_v vs 2 := f9.symm
  have q6 : n_v vs 6 = n_v vs 0 := f11.symm
  simp only [q6, q14, q8] at f0 f1 f2 f3 f4 f7 f14 f15 f16 f21 f22 f23 f40 f41 f42 f44
  have ar_0_2_1 : w_ar w1 (n_v vs 0) 2 = w_ar ws (n_v vs 0) 2 := congrArg v_ad (s1.2 _ _).symm
  have ar_0_2_2 : w_ar w2 (n_v vs 0) 2 = w_ar ws (n_v vs 0) 2 := by rw [← ar_0_2_1]; show v_ad (w_fd w2 _ _) = v_ad (w_fd w1 _ _); rw [s2.2]
  have ar_0_2_3 : w_ar w3 (n_v vs 0) 2 = w_ar ws (n_v vs 0) 2 := by rw [← ar_0_2_2]; show v_ad (w_fd w3 _ _) = v_ad (w_fd w2 _ _); rw [s3.2]
  have cr_0_2 := fdq_89 hD hth r0
  have ar_0_4_1 : w_ar w1 (n_v vs 0) 4 = w_ar ws (n_v vs 0) 4 := congrArg v_ad (s1.2 _ _).symm
  have ar_0_4_2 : w_ar w2 (n_v vs 0) 4 = w_ar ws (n_v vs 0) 4 := by rw [← ar_0_4_1]; show v_ad (w_fd w2 _ _) = v_ad (w_fd w1 _ _); rw [s2.2]
  have ar_0_4_3 : w_ar w3 (n_v vs 0) 4 = w_ar ws (n_v vs 0) 4 := by rw [← ar_0_4_2]; show v_ad (w_fd w3 _ _) = v_ad (w_fd w2 _ _); rw [s3.2]
  have cr_0_4 := fdq_86 hD hth r0
  have ar_0_5_1 : w_ar w1 (n_v vs 0) 5 = w_ar ws (n_v vs 0) 5 := congrArg v_ad (s1.2 _ _).symm
  have ar_0_5_2 : w_ar w2 (n_v vs 0) 5 = w_ar ws (n_v vs 0) 5 := by rw [← ar_0_5_1]; show v_ad (w_fd w2 _ _) = v_ad (w_fd w1 _ _); rw [s2.2]
  have ar_0_5_3 : w_ar w3 (n_v vs 0) 5 = w_ar ws (n_v vs 0) 5 := by rw [← ar_0_5_2]; show v_ad (w_fd w3 _ _) = v_ad (w_fd w2 _ _); rw [s3.2]
  have cr_0_5 := fdq_90 hD hth r0
  have ar_3_14_1 : w_ar w1 (n_v vs 3) 14 = w_ar ws (n_v vs 3) 14 := congrArg v_ad (s1.2 _ _).symm
  have ar_3_14_2 : w_ar w2 (n_v vs 3) 14 = w_ar ws (n_v vs 3) 14 := by rw [← ar_3_14_1]; show v_ad (w_fd w2 _ _) = v_ad (w_fd w1 _ _); rw [s2.2]
  have ar_3_14_3 : w_ar w3 (n_v vs 3) 14 = w_ar ws (n_v vs 3) 14 := by rw [← ar_3_14_2]; show v_ad (w_fd w3 _ _) = v_ad (w_fd w2 _ _); rw [s3.2]
  have cr_3_14 := fdq_75 hD hth r3
  have ar_4_4_1 : w_ar w1 (n_v vs 4) 4 = w_ar ws (n_v vs 4) 4 := congrArg v_ad (s1.2 _ _).symm
  have ar_4_4_2 : w_ar w2 (n_v vs 4) 4 = w_ar ws (n_v vs 4) 4 := by rw [← ar_4_4_1]; show v_ad (w_fd w2 _ _) = v_ad (w_fd w1 _ _); rw [s2.2]
  have ar_4_4_3 : w_ar w3 (n_v vs 4) 4 = w_ar ws (n_v vs 4) 4 := by rw [← ar_4_4_2]; show v_ad (w_fd w3 _ _) = v_ad (w_fd w2 _ _); rw [s3.2]
  have cr_4_4 := fdq_87 hD hth r4
  have ad_33 : v_ad (n_v vs 33) = w_ar ws (n_v vs 0) 2 := congrArg v_ad f0
  have ad_29 : v_ad (n_v vs 29) = w_ar ws (n_v vs 0) 4 := congrArg v_ad f1
  have ad_28 : v_ad (n_v vs 28) = w_ar ws (n_v vs 0) 5 := congrArg v_ad f2
  have ad_17 : v_ad (n_v vs 17) = w_ar ws (n_v vs 3) 14 := congrArg v_ad f3
  have g4 : v_iv (n_v vs 15) = w_fi ws (n_v vs 3) 0 := congrArg v_iv f4
  simp only [ar_0_2_1, ar_4_4_1, ar_3_14_1, ad_29] at f14 f15 f16 f20
  have h20 : v_iv (n_v vs 30) = w_ei w2 (w_ar ws (n_v vs 0) 4) (v_iv (n_v vs 12)) := f20
  simp only [ar_0_2_2, ar_4_4_2, ar_3_14_2, ad_17] at f21 f22 f23 f37
  have h37 : v_iv (n_v vs 18) = w_ei w3 (w_ar ws (n_v vs 3) 14) (v_iv (n_v vs 12)) := f37
  simp only [ar_0_2_3, ar_4_4_3, ar_3_14_3, ar_0_4_3, ar_0_5_3] at f40 f41 f42 f44
  have fe_3_0_1 : w_fi ws (n_v vs 3) 0 = w_fi w1 (n_v vs 3) 0 := congrArg v_iv (s1.2 _ _)
  have fe_3_0_2 : w_fi w1 (n_v vs 3) 0 = w_fi w2 (n_v vs 3) 0 := congrArg v_iv (s2.2 _ _)
  have fe_3_0_3 : w_fi w2 (n_v vs 3) 0 = w_fi w3 (n_v vs 3) 0 := congrArg v_iv (s3.2 _ _)
  have hE_0_2_1 : ∀ j : Int, 0 ≤ j → (j = v_iv (n_v vs 10) → w_ei ws (w_ar ws (n_v vs 0) 2) j = v_iv (n_v vs 13)) ∧ (j ≠ v_iv (n_v vs 10) → w_ei ws (w_ar ws (n_v vs 0) 2) j = w_ei w1 (w_ar ws (n_v vs 0) 2) j) := fun j hj => ⟨fun h => by unfold w_ei; rw [s1.1, if_pos ⟨ad_33.symm, by rw [h]⟩], fun h => by unfold w_ei; rw [s1.1, if_neg (fun e => h (by have := e.2; omega))]⟩
  have hE_0_2_2 : ∀ j : Int, w_ei w1 (w_ar ws (n_v vs 0) 2) j = w_ei w2 (w_ar ws (n_v vs 0) 2) j := el_kp s2.1 r29 cr_0_2 (by decide)
  have hE_0_2_3 : ∀ j : Int, w_ei w2 (w_ar ws (n_v vs 0) 2) j = w_ei w3 (w_ar ws (n_v vs 0) 2) j := el_kp s3.1 r28 cr_0_2 (by decide)
  have hK_0_2 := elq_45 hD hth cr_0_2
  have hE_0_4_1 : ∀ j : Int, w_ei ws (w_ar ws (n_v vs 0) 4) j = w_ei w1 (w_ar ws (n_v vs 0) 4) j := el_kp s1.1 r33 cr_0_4 (by decide)
  have hE_0_4_2 : ∀ j : Int, 0 ≤ j → (j = v_iv (n_v vs 13) → w_ei w1 (w_ar ws (n_v vs 0) 4) j = v_iv (n_v vs 32)) ∧ (j ≠ v_iv (n_v vs 13) → w_ei w1 (w_ar ws (n_v vs 0) 4) j = w_ei w2 (w_ar ws (n_v vs 0) 4) j) := fun j hj => ⟨fun h => by unfold w_ei; rw [s2.1, if_pos ⟨ad_29.symm, by rw [h]⟩], fun h => by unfold w_ei; rw [s2.1, if_neg (fun e => h (by have := e.2; omega))]⟩
  have hE_0_4_3 : ∀ j : Int, w_ei w2 (w_ar ws (n_v vs 0) 4) j = w_ei w3 (w_ar ws (n_v vs 0) 4) j := el_kp s3.1 r28 cr_0_4 (by decide)
  have hK_0_4 := elq_43 hD hth cr_0_4
  have hE_0_5_1 : ∀ j : Int, w_ei ws (w_ar ws (n_v vs 0) 5) j = w_ei w1 (w_ar ws (n_v vs 0) 5) j := el_kp s1.1 r33 cr_0_5 (by decide)
  have hE_0_5_2 : ∀ j : Int, w_ei w1 (w_ar ws (n_v vs 0) 5) j = w_ei w2 (w_ar ws (n_v vs 0) 5) j := el_kp s2.1 r29 cr_0_5 (by decide)
  have hE_0_5_3 : ∀ j : Int, 0 ≤ j → (j = v_iv (n_v vs 13) → w_ei w2 (w_ar ws (n_v vs 0) 5) j = v_iv (n_v vs 12)) ∧ (j ≠ v_iv (n_v vs 13) → w_ei w2 (w_ar ws (n_v vs 0) 5) j = w_ei w3 (w_ar ws (n_v vs 0) 5) j) := fun j hj => ⟨fun h => by unfold w_ei; rw [s3.1, if_pos ⟨ad_28.symm, by rw [h]⟩], fun h => by unfold w_ei; rw [s3.1, if_neg (fun e => h (by have := e.2; omega))]⟩
  have hK_0_5 := elq_46 hD hth cr_0_5
  have hE_3_14_1 : ∀ j : Int, w_ei ws (w_ar ws (n_v vs 3) 14) j = w_ei w1 (w_ar ws (n_v vs 3) 14) j := el_kp s1.1 r33 cr_3_14 (by decide)
  have hE_3_14_2 : ∀ j : Int, w_ei w1 (w_ar ws (n_v vs 3) 14) j = w_ei w2 (w_ar ws (n_v vs 3) 14) j := el_kp s2.1 r29 cr_3_14 (by decide)
  have hE_3_14_3 : ∀ j : Int, w_ei w2 (w_ar ws (n_v vs 3) 14) j = w_ei w3 (w_ar ws (n_v vs 3) 14) j := el_kp s3.1 r28 cr_3_14 (by decide)
  have hK_3_14 := elq_25 hD hth cr_3_14
  have hE_4_4_1 : ∀ j : Int, w_ei ws (w_ar ws (n_v vs 4) 4) j = w_ei w1 (w_ar ws (n_v vs 4) 4) j := el_kp s1.1 r33 cr_4_4 (by decide)
  have hE_4_4_2 : ∀ j : Int, w_ei w1 (w_ar ws (n_v vs 4) 4) j = w_ei w2 (w_ar ws (n_v vs 4) 4) j := el_kp s2.1 r29 cr_4_4 (by decide)
  have hE_4_4_3 : ∀ j : Int, w_ei w2 (w_ar ws (n_v vs 4) 4) j = w_ei w3 (w_ar ws (n_v vs 4) 4) j := el_kp s3.1 r28 cr_4_4 (by decide)
  have hK_4_4 := elq_29 hD hth cr_4_4
  have kz_3_0 := fdq_21 hD hth r3
  have nf0 : fc_1 PRD (20, [6, 14, 4, 27, 8, 34, 5, 11], [60, 1, 2, 683, 1000, 2, 2004]) ws (vs) := by
    refine ⟨nf_in hl rfl, sgq_424 ?_⟩
    · show WTI (w_fi ws (n_v vs 14) 0) (w_ei ws (w_ar ws (n_v vs 6) 2)) (w_ei ws (w_ar ws (n_v vs 4) 4)) (v_iv (n_v vs 27)) (v_iv (n_v vs 8)) (v_iv (n_v vs 34)) (v_iv (n_v vs 5)) (v_iv (n_v vs 11))
      simp only [q14, q8, q6]
      exact vc_Pl_walkTree_8_0 (v_iv (n_v vs 1)) (v_iv (n_v vs 2)) (v_iv (n_v vs 5)) (v_iv (n_v vs 7)) (v_iv (n_v vs 8)) (v_iv (n_v vs 9)) (v_iv (n_v vs 10)) (v_iv (n_v vs 11)) (v_iv (n_v vs 12)) (v_iv (n_v vs 13)) (v_iv (n_v vs 15)) (v_iv (n_v vs 16)) (v_iv (n_v vs 18)) (v_iv (n_v vs 19)) (v_iv (n_v vs 20)) (v_iv (n_v vs 21)) (v_iv (n_v vs 22)) (v_iv (n_v vs 23)) (v_iv (n_v vs 24)) (v_iv (n_v vs 25)) (v_iv (n_v vs 26)) (v_iv (n_v vs 27)) (v_iv (n_v vs 30)) (v_iv (n_v vs 31)) (v_iv (n_v vs 32)) (v_iv (n_v vs 34)) (v_iv (n_v vs 35)) (w_fi ws (n_v vs 3) 0) (w_ei ws (w_ar ws (n_v vs 3) 14)) (w_ei ws (w_ar ws (n_v vs 4) 4)) (w_ei w1 (w_ar ws (n_v vs 0) 2)) (w_ei w1 (w_ar ws (n_v vs 4) 4)) (w_fi w1 (n_v vs 3) 0) (w_ei w1 (w_ar ws (n_v vs 3) 14)) (w_ei w2 (w_ar ws (n_v vs 0) 4)) (w_ei w2 (w_ar ws (n_v vs 0) 2)) (w_ei w2 (w_ar ws (n_v vs 4) 4)) (w_fi w2 (n_v vs 3) 0) (w_ei w2 (w_ar ws (n_v vs 3) 14)) (w_ei w3 (w_ar ws (n_v vs 3) 14)) (w_ei w3 (w_ar ws (n_v vs 0) 2)) (w_ei w3 (w_ar ws (n_v vs 4) 4)) (w_fi w3 (n_v vs 3) 0) (w_ei w3 (w_ar ws (n_v vs 0) 5)) (w_ei w3 (w_ar ws (n_v vs 0) 4)) (w_ei ws (w_ar ws (n_v vs 0) 2)) (w_ei ws (w_ar ws (n_v vs 0) 4)) (w_ei w1 (w_ar ws (n_v vs 0) 4)) (w_ei ws (w_ar ws (n_v vs 0) 5)) (w_ei w1 (w_ar ws (n_v vs 0) 5)) (w_ei w2 (w_ar ws (n_v vs 0) 5)) k1 k2 k5 k7 k8 k9 k10 k11 k12 k13 k15 k16 k18 k19 k20 k21 k22 k23 k24 k25 k26 k27 k30 k31 k32 k34 k35 d0 d1 d2 d3 d4 d5 d6 d7 d8 d9 d10 d11 d12 d13 d14 g4 f5 f6 f7 f10 f14 f15 f16 f17 f19 h20 f21 f22 f23 f24 f26 f27 f28 f29 f30 f31 f32 f33 f34 f35 f36 h37 f38 f39 f40 f41 f42 f43 f44 fe_3_0_1 fe_3_0_2 fe_3_0_3 hE_0_2_1 hE_0_2_2 hE_0_2_3 hK_0_2 hE_0_4_1 hE_0_4_2 hE_0_4_3 hK_0_4 hE_0_5_1 hE_0_5_2 hE_0_5_3 hK_0_5 hE_3_14_1 hE_3_14_2 hE_3_14_3 hK_3_14 hE_4_4_1 hE_4_4_2 hE_4_4_3 hK_4_4 kz_3_0
  have nf1 : fc_1 PRD (20, [12, 6, 11], [50, 0, 1, 1002, 1, 2, 1, 0, 3, 1, 2, 1, 2]) ws (vs) := by
    refine ⟨nf_in hl rfl, sgq_428 ?_⟩
    · show v_iv (n_v vs 12) = w_ei ws (w_ar ws (n_v vs 6) 2) (v_iv (n_v vs 11))
      rw [q6]
      exact vc_Pl_walkTree_8_1 (v_iv (n_v vs 1)) (v_iv (n_v vs 2)) (v_iv (n_v vs 5)) (v_iv (n_v vs 7)) (v_iv (n_v vs 8)) (v_iv (n_v vs 9)) (v_iv (n_v vs 10)) (v_iv (n_v vs 11)) (v_iv (n_v vs 12)) (v_iv (n_v vs 13)) (v_iv (n_v vs 15)) (v_iv (n_v vs 16)) (v_iv (n_v vs 18)) (v_iv (n_v vs 19)) (v_iv (n_v vs 20)) (v_iv (n_v vs 21)) (v_iv (n_v vs 22)) (v_iv (n_v vs 23)) (v_iv (n_v vs 24)) (v_iv (n_v vs 25)) (v_iv (n_v vs 26)) (v_iv (n_v vs 27)) (v_iv (n_v vs 30)) (v_iv (n_v vs 31)) (v_iv (n_v vs 32)) (v_iv (n_v vs 34)) (v_iv (n_v vs 35)) (w_fi ws (n_v vs 3) 0) (w_ei ws (w_ar ws (n_v vs 3) 14)) (w_ei ws (w_ar ws (n_v vs 4) 4)) (w_ei w1 (w_ar ws (n_v vs 0) 2)) (w_ei w1 (w_ar ws (n_v vs 4) 4)) (w_fi w1 (n_v vs 3) 0) (w_ei w1 (w_ar ws (n_v vs 3) 14)) (w_ei w2 (w_ar ws (n_v vs 0) 4)) (w_ei w2 (w_ar ws (n_v vs 0) 2)) (w_ei w2 (w_ar ws (n_v vs 4) 4)) (w_fi w2 (n_v vs 3) 0) (w_ei w2 (w_ar ws (n_v vs 3) 14)) (w_ei w3 (w_ar ws (n_v vs 3) 14)) (w_ei w3 (w_ar ws (n_v vs 0) 2)) (w_ei w3 (w_ar ws (n_v vs 4) 4)) (w_fi w3 (n_v vs 3) 0) (w_ei w3 (w_ar ws (n_v vs 0) 5)) (w_ei w3 (w_ar ws (n_v vs 0) 4)) (w_ei ws (w_ar ws (n_v vs 0) 2)) (w_ei ws (w_ar ws (n_v vs 0) 4)) (w_ei w1 (w_ar ws (n_v vs 0) 4)) (w_ei ws (w_ar ws (n_v vs 0) 5)) (w_ei w1 (w_ar ws (n_v vs 0) 5)) (w_ei w2 (w_ar ws (n_v vs 0) 5)) k1 k2 k5 k7 k8 k9 k10 k11 k12 k13 k15 k16 k18 k19 k20 k21 k22 k23 k24 k25 k26 k27 k30 k31 k32 k34 k35 d0 d1 d2 d3 d4 d5 d6 d7 d8 d9 d10 d11 d12 d13 d14 g4 f5 f6 f7 f10 f14 f15 f16 f17 f19 h20 f21 f22 f23 f24 f26 f27 f28 f29 f30 f31 f32 f33 f34 f35 f36 h37 f38 f39 f40 f41 f42 f43 f44 fe_3_0_1 fe_3_0_2 fe_3_0_3 hE_0_2_1 hE_0_2_2 hE_0_2_3 hK_0_2 hE_0_4_1 hE_0_4_2 hE_0_4_3 hK_0_4 hE_0_5_1 hE_0_5_2 hE_0_5_3 hK_0_5 hE_3_14_1 hE_3_14_2 hE_3_14_3 hK_3_14 hE_4_4_1 hE_4_4_2 hE_4_4_3 hK_4_4 kz_3_0
  have nf2 : fc_1 PRD (20, [11, 34], [50, 0, 0, 0, 6, 4, 2, 1, 0, 0, 1, 1, 1]) ws (vs) := ⟨nf_in hl rfl, sgq_396 (vc_Pl_walkTree_8_2 (v_iv (n_v vs 1)) (v_iv (n_v vs 2)) (v_iv (n_v vs 5)) (v_iv (n_v vs 7)) (v_iv (n_v vs 8)) (v_iv (n_v vs 9)) (v_iv (n_v vs 10)) (v_iv (n_v vs 11)) (v_iv (n_v vs 12)) (v_iv (n_v vs 13)) (v_iv (n_v vs 15)) (v_iv (n_v vs 16)) (v_iv (n_v vs 18)) (v_iv (n_v vs 19)) (v_iv (n_v vs 20)) (v_iv (n_v vs 21)) (v_iv (n_v vs 22)) (v_iv (n_v vs 23)) (v_iv (n_v vs 24)) (v_iv (n_v vs 25)) (v_iv (n_v vs 26)) (v_iv (n_v vs 27)) (v_iv (n_v vs 30)) (v_iv (n_v vs 31)) (v_iv (n_v vs 32)) (v_iv (n_v vs 34)) (v_iv (n_v vs 35)) (w_fi ws (n_v vs 3) 0) (w_ei ws (w_ar ws (n_v vs 3) 14)) (w_ei ws (w_ar ws (n_v vs 4) 4)) (w_ei w1 (w_ar ws (n_v vs 0) 2)) (w_ei w1 (w_ar ws (n_v vs 4) 4)) (w_fi w1 (n_v vs 3) 0) (w_ei w1 (w_ar ws (n_v vs 3) 14)) (w_ei w2 (w_ar ws (n_v vs 0) 4)) (w_ei w2 (w_ar ws (n_v vs 0) 2)) (w_ei w2 (w_ar ws (n_v vs 4) 4)) (w_fi w2 (n_v vs 3) 0) (w_ei w2 (w_ar ws (n_v vs 3) 14)) (w_ei w3 (w_ar ws (n_v vs 3) 14)) (w_ei w3 (w_ar ws (n_v vs 0) 2)) (w_ei w3 (w_ar ws (n_v vs 4) 4)) (w_fi w3 (n_v vs 3) 0) (w_ei w3 (w_ar ws (n_v vs 0) 5)) (w_ei w3 (w_ar ws (n_v vs 0) 4)) (w_ei ws (w_ar ws (n_v vs 0) 2)) (w_ei ws (w_ar ws (n_v vs 0) 4)) (w_ei w1 (w_ar ws (n_v vs 0) 4)) (w_ei ws (w_ar ws (n_v vs 0) 5)) (w_ei w1 (w_ar ws (n_v vs 0) 5)) (w_ei w2 (w_ar ws (n_v vs 0) 5)) k1 k2 k5 k7 k8 k9 k10 k11 k12 k13 k15 k16 k18 k19 k20 k21 k22 k23 k24 k25 k26 k27 k30 k31 k32 k34 k35 d0 d1 d2 d3 d4 d5 d6 d7 d8 d9 d10 d11 d12 d13 d14 g4 f5 f6 f7 f10 f14 f15 f16 f17 f19 h20 f21 f22 f23 f24 f26 f27 f28 f29 f30 f31 f32 f33 f34 f35 f36 h37 f38 f39 f40 f41 f42 f43 f44 fe_3_0_1 fe_3_0_2 fe_3_0_3 hE_0_2_1 hE_0_2_2 hE_0_2_3 hK_0_2 hE_0_4_1 hE_0_4_2 hE_0_4_3 hK_0_4 hE_0_5_1 hE_0_5_2 hE_0_5_3 hK_0_5 hE_3_14_1 hE_3_14_2 hE_3_14_3 hK_3_14 hE_4_4_1 hE_4_4_2 hE_4_4_3 hK_4_4 kz_3_0)⟩
  have nf3 : fc_1 PRD (20, [6, 14, 4, 27, 8, 34, 5, 11, 35], [60, 1, 5, 857, 1000, 2, 5, 4, 1014, 2004]) ws (vs) := by
    refine ⟨nf_in hl rfl, sgq_429 ?_⟩
    · show TQI (w_fi ws (n_v vs 14) 0) (w_ei ws (w_ar ws (n_v vs 6) 2)) (w_ei ws (w_ar ws (n_v vs 6) 5)) (w_ei ws (w_ar ws (n_v vs 6) 4)) (w_ei ws (w_ar ws (n_v vs 14) 14)) (w_ei ws (w_ar ws (n_v vs 4) 4)) (v_iv (n_v vs 27)) (v_iv (n_v vs 8)) (v_iv (n_v vs 34)) (v_iv (n_v vs 5)) (v_iv (n_v vs 11)) (v_iv (n_v vs 35))
      simp only [q14, q8, q6]
      exact vc_Pl_walkTree_8_3 (v_iv (n_v vs 1)) (v_iv (n_v vs 2)) (v_iv (n_v vs 5)) (v_iv (n_v vs 7)) (v_iv (n_v vs 8)) (v_iv (n_v vs 9)) (v_iv (n_v vs 10)) (v_iv (n_v vs 11)) (v_iv (n_v vs 12)) (v_iv (n_v vs 13)) (v_iv (n_v vs 15)) (v_iv (n_v vs 16)) (v_iv (n_v vs 18)) (v_iv (n_v vs 19)) (v_iv (n_v vs 20)) (v_iv (n_v vs 21)) (v_iv (n_v vs 22)) (v_iv (n_v vs 23)) (v_iv (n_v vs 24)) (v_iv (n_v vs 25)) (v_iv (n_v vs 26)) (v_iv (n_v vs 27)) (v_iv (n_v vs 30)) (v_iv (n_v vs 31)) (v_iv (n_v vs 32)) (v_iv (n_v vs 34)) (v_iv (n_v vs 35)) (w_fi ws (n_v vs 3) 0) (w_ei ws (w_ar ws (n_v vs 3) 14)) (w_ei ws (w_ar ws (n_v vs 4) 4)) (w_ei w1 (w_ar ws (n_v vs 0) 2)) (w_ei w1 (w_ar ws (n_v vs 4) 4)) (w_fi w1 (n_v vs 3) 0) (w_ei w1 (w_ar ws (n_v vs 3) 14)) (w_ei w2 (w_ar ws (n_v vs 0) 4)) (w_ei w2 (w_ar ws (n_v vs 0) 2)) (w_ei w2 (w_ar ws (n_v vs 4) 4)) (w_fi w2 (n_v vs 3) 0) (w_ei w2 (w_ar ws (n_v vs 3) 14)) (w_ei w3 (w_ar ws (n_v vs 3) 14)) (w_ei w3 (w_ar ws (n_v vs 0) 2)) (w_ei w3 (w_ar ws (n_v vs 4) 4)) (w_fi w3 (n_v vs 3) 0) (w_ei w3 (w_ar ws (n_v vs 0) 5)) (w_ei w3 (w_ar ws (n_v vs 0) 4)) (w_ei ws (w_ar ws (n_v vs 0) 2)) (w_ei ws (w_ar ws (n_v vs 0) 4)) (w_ei w1 (w_ar ws (n_v vs 0) 4)) (w_ei ws (w_ar ws (n_v vs 0) 5)) (w_ei w1 (w_ar ws (n_v vs 0) 5)) (w_ei w2 (w_ar ws (n_v vs 0) 5)) k1 k2 k5 k7 k8 k9 k10 k11 k12 k13 k15 k16 k18 k19 k20 k21 k22 k23 k24 k25 k26 k27 k30 k31 k32 k34 k35 d0 d1 d2 d3 d4 d5 d6 d7 d8 d9 d10 d11 d12 d13 d14 g4 f5 f6 f7 f10 f14 f15 f16 f17 f19 h20 f21 f22 f23 f24 f26 f27 f28 f29 f30 f31 f32 f33 f34 f35 f36 h37 f38 f39 f40 f41 f42 f43 f44 fe_3_0_1 fe_3_0_2 fe_3_0_3 hE_0_2_1 hE_0_2_2 hE_0_2_3 hK_0_2 hE_0_4_1 hE_0_4_2 hE_0_4_3 hK_0_4 hE_0_5_1 hE_0_5_2 hE_0_5_3 hK_0_5 hE_3_14_1 hE_3_14_2 hE_3_14_3 hK_3_14 hE_4_4_1 hE_4_4_2 hE_4_4_3 hK_4_4 kz_3_0
  refine ⟨(fun _ h => (by cases h)), [], trivial, ?_, (fun _ h => (by cases h))⟩
  rw [List.append_nil]
  exact List.forall_mem_cons.mpr ⟨⟨show (20 : Nat) < 100 from by decide, nf0⟩, List.forall_mem_cons.mpr ⟨⟨show (20 : Nat) < 100 from by decide, nf1⟩, List.forall_mem_cons.mpr ⟨⟨show (20 : Nat) < 100 from by decide, nf2⟩, List.forall_mem_cons.mpr ⟨⟨show (20 : Nat) < 100 from by decide, nf3⟩, (fun _ h => (by cases h))⟩⟩⟩⟩
def n_Pl_walkTree_an : List an_T := [(33, [(0, (2, 0, 0, [6])), (1, (0, 0, 23, [])), (2, (0, 0, 23, [])), (3, (0, 0, 16777215, [])), (4, (0, 1, 24, [])), (5, (0, 0, 24, []))], [], (0, 0), [(0, 0, 99967), (1, 11, 24), (0, 0, 100000), (0, 0, 0), (0, 0, 0)], [(1, 7, (Int.negSucc 999999999999), 0), (2, 8, (Int.negSucc 999999999999), 0), (2, 9, (Int.negSucc 999999999999), 22), (2, 10, (Int.negSucc 999999999999), (Int.negSucc 0)), (2, 11, (Int.negSucc 999999999999), 0), (7, 1, (Int.negSucc 999999999999), 0), (8, 2, (Int.negSucc 999999999999), 0), (8, 9, (Int.negSucc 999999999999), 22), (8, 10, (Int.negSucc 999999999999), (Int.negSucc 0)), (8, 11, (Int.negSucc 999999999999), 0), (9, 10, (Int.negSucc 999999999999), 16777213), (9, 11, (Int.negSucc 999999999999), 16777214), (10, 11, (Int.negSucc 999999999999), 23), (11, 10, (Int.negSucc 999999999999), 0)], [((0, 0), (2, 0, 0, [3]))], [(2, 0, 0, [6]), (0, 0, 23, []), (0, 0, 23, []), (2, 0, 0, [3]), (2, 0, 0, [2]), (0, 0, 24, [])], 0, [], [(20, [6, 12, 4, 9, 8, 10, 5, 11], [60, 1, 2, 683, 1000, 2, 2004]), (20, [12, 4], [60, 1, 2, 671, 0, 14, 1004]), (24, [3, 12], []), (24, [2, 8], []), (20, [6, 12, 4, 9, 8, 10, 5, 11], [60, 1, 5, 858, 1000, 2, 5, 4, 1014, 2004]), (24, [0, 6], []), (24, [1, 7], []), (24, [2, 8], [])]), (52, [(0, (2, 0, 0, [6])), (1, (0, 0, 23, [])), (2, (0, 0, 23, [])), (3, (0, 0, 16777215, [])), (4, (0, 1, 24, [])), (5, (0, 0, 23, [])), (6, (0, 0, 23, [])), (7, (0, 0, 24, []))], [], (0, 0), [(0, 0, 99967), (1, 11, 24), (0, 0, 99948), (1, 13, 24), (0, 0, 100000)], [(1, 7, (Int.negSucc 999999999999), 0), (2, 8, (Int.negSucc 999999999999), 0), (2, 9, (Int.negSucc 999999999999), 22), (2, 10, (Int.negSucc 999999999999), (Int.negSucc 0)), (2, 11, (Int.negSucc 999999999999), 0), (7, 1, (Int.negSucc 999999999999), 0), (8, 2, (Int.negSucc 999999999999), 0), (8, 9, (Int.negSucc 999999999999), 22), (8, 10, (Int.negSucc 999999999999), (Int.negSucc 0)), (8, 11, (Int.negSucc 999999999999), 0), (9, 10, (Int.negSucc 999999999999), 16777213), (11, 10, (Int.negSucc 999999999999), (Int.negSucc 0))], [((0, 0), (2, 0, 0, [3]))], [(2, 0, 0, [6]), (0, 0, 23, []), (0, 0, 23, []), (2, 0, 0, [3]), (2, 0, 0, [2]), (0, 0, 24, [])], 0, [], [(20, [6, 14, 4, 9, 8, 10, 5, 11], [60, 1, 2, 683, 1000, 2, 2004]), (20, [14, 4], [60, 1, 2, 671, 0, 14, 1004]), (24, [3, 14], []), (24, [2, 8], []), (20, [12, 6, 11], [50, 0, 1, 1002, 1, 2, 1, 0, 3, 1, 2, 1, 2]), (20, [11, 10], [50, 0, 0, 0, 6, 4, 2, 1, 0, 0, 1, 1, 1]), (20, [6, 14, 4, 9, 8, 10, 5, 11, 13], [60, 1, 5, 857, 1000, 2, 5, 4, 1014, 2004]), (24, [0, 6], []), (24, [1, 7], []), (24, [2, 8], [])])]
def t_Pl_walkTree_ct : ct_L := []
set_option maxRecDepth 100000 in
theorem c_Pl_walkTree {l : Launch} {D : va_G} {kA : Nat → ClassId} : ct_ok PRD l D kA GG y_Pl_walkTree z_Pl_walkTree e_Pl_walkTree := chk_all_ok (FT := [(9, 6, 0), (19, 6, 2), (26, 6, 4), (29, 6, 5), (74, 3, 0), (138, 3, 14)]) (PT := []) (CT := t_Pl_walkTree_ct) (KT := []) (NT := []) (AN := n_Pl_walkTree_an) (OT := [o_Pl_walkTree_0, o_Pl_walkTree_1, o_Pl_walkTree_2, o_Pl_walkTree_3, o_Pl_walkTree_4, o_Pl_walkTree_5, o_Pl_walkTree_6, o_Pl_walkTree_7, o_Pl_walkTree_8]) 5 392 (List.forall_mem_cons.mpr ⟨oo_Pl_walkTree_0, List.forall_mem_cons.mpr ⟨oo_Pl_walkTree_1, List.forall_mem_cons.mpr ⟨oo_Pl_walkTree_2, List.forall_mem_cons.mpr ⟨oo_Pl_walkTree_3, List.forall_mem_cons.mpr ⟨oo_Pl_walkTree_4, List.forall_mem_cons.mpr ⟨oo_Pl_walkTree_5, List.forall_mem_cons.mpr ⟨oo_Pl_walkTree_6, List.forall_mem_cons.mpr ⟨oo_Pl_walkTree_7, List.forall_mem_cons.mpr ⟨oo_Pl_walkTree_8, List.forall_mem_nil _⟩⟩⟩⟩⟩⟩⟩⟩⟩) (by decide +kernel) ⟨List.forall_mem_cons.mpr ⟨gf_Pl_9, List.forall_mem_cons.mpr ⟨gf_Pl_19, List.forall_mem_cons.mpr ⟨gf_Pl_26, List.forall_mem_cons.mpr ⟨gf_Pl_29, List.forall_mem_cons.mpr ⟨gf_Pl_74, List.forall_mem_cons.mpr ⟨gf_Pl_138, List.forall_mem_nil _⟩⟩⟩⟩⟩⟩, List.forall_mem_nil _, List.forall_mem_nil _, List.forall_mem_nil _, List.forall_mem_nil _, GG_pl⟩ (by decide +kernel)
set_option maxHeartbeats 4000000 in
theorem vc_Pn_leftFace_0_0 (x2 : Int) (x11 : Int) (x12 : Int) (x13 : Int) (x14 : Int) (x15 : Int) (faceOf_0 : Int → Int) (k2 : 1 ≤ x2 ∧ x2 ≤ 47) (k11 : 2 ≤ x11 ∧ x11 ≤ 2) (k12 : 2 ≤ x12 ∧ x12 ≤ 94) (k13 : 1 ≤ x13 ∧ x13 ≤ 1) (k14 : 3 ≤ x14 ∧ x14 ≤ 95) (k15 : (-1) ≤ x15 ∧ x15 ≤ 143) (d0 : x12 + 1 ≤ x14 ∧ x14 ≤ x12 + 1) (h0 : x15 = faceOf_0 (x14)) (f1 : x14 = x12 + x13) (f2 : x12 = 2 * x2) (hK_0_16 : ∀ j : Int, 0 ≤ j → j < 144 → (-1) ≤ faceOf_0 j ∧ faceOf_0 j ≤ 143) : LFA (faceOf_0) (x2) (x15) := by
  first
    | exact lfa_0 (by assumption) (by omega)
    | exact lfa_1 (by assumption) (by omega)
  
def o_Pn_leftFace_0 : or_T := (45, 16, [(0, (2, 0, 0, [5])), (2, (0, 1, 47, [])), (11, (0, 2, 2, [])), (12, (0, 2, 94, [])), (13, (0, 1, 1, [])), (14, (0, 3, 95, [])), (15, (0, -1, 143, []))], [(10, [15, 10, 14], []), (1, [14, 12, 13], []), (3, [12, 11, 2], []), (9, [10, 0], [16])], [], [], [(20, [0, 2, 15], [60, 0, 1, 640, 16])], [], [(14, 12, 1, 1)])
theorem oo_Pn_leftFace_0 {kA : Nat → ClassId} : or_ok PRD kA GG o_Pn_leftFace_0 := by
  refine or_mk fun A ta ws vs hD hth hl => ?_
  intro t0 r0 t2 k2 t11 k11 t12 k12 t13 k13 t14 k14 t15 k15 d0 f0 f1 f2 f3
  replace f0 := shm_107 f0
  replace f2 := shm_38 f2
  rw [show v_iv (n_v vs 11) = 2 from by omega] at f2
  replace f3 := shm_176 f3
  have cr_0_16 := fdq_91 hD hth r0
  have ad_10 : v_ad (n_v vs 10) = w_ar ws (n_v vs 0) 16 := congrArg v_ad f3
  simp only [ad_10] at f0
  have h0 : v_iv (n_v vs 15) = w_ei ws (w_ar ws (n_v vs 0) 16) (v_iv (n_v vs 14)) := f0
  have hK_0_16 := elq_47 hD hth cr_0_16
  have nf0 : fc_1 PRD (20, [0, 2, 15], [60, 0, 1, 640, 16]) ws (vs) := ⟨nf_in hl rfl, sgq_430 (vc_Pn_leftFace_0_0 (v_iv (n_v vs 2)) (v_iv (n_v vs 11)) (v_iv (n_v vs 12)) (v_iv (n_v vs 13)) (v_iv (n_v vs 14)) (v_iv (n_v vs 15)) (w_ei ws (w_ar ws (n_v vs 0) 16)) k2 k11 k12 k13 k14 k15 d0 h0 (shm_12 f1) f2 hK_0_16)⟩
  refine ⟨(fun _ h => (by cases h)), [], trivial, ?_, (fun _ h => (by cases h))⟩
  rw [List.append_nil]
  exact List.forall_mem_cons.mpr ⟨⟨show (20 : Nat) < 100 from by decide, nf0⟩, (fun _ h => (by cases h))⟩
set_option maxHeartbeats 4000000 in
theorem vc_Pn_leftFace_1_0 (x2 : Int) (x11 : Int) (x12 : Int) (x13 : Int) (faceOf_0 : Int → Int) (k2 : 1 ≤ x2 ∧ x2 ≤ 47) (k11 : 2 ≤ x11 ∧ x11 ≤ 2) (k12 : 2 ≤ x12 ∧ x12 ≤ 94) (k13 : (-1) ≤ x13 ∧ x13 ≤ 143) (h0 : x13 = faceOf_0 (x12)) (f1 : x12 = 2 * x2) (hK_0_16 : ∀ j : Int, 0 ≤ j → j < 144 → (-1) ≤ faceOf_0 j ∧ faceOf_0 j ≤ 143) : LFA (faceOf_0) (x2) (x13) := by
  first
    | exact lfa_0 (by assumption) (by omega)
    | exact lfa_1 (by assumption) (by omega)
  
def o_Pn_leftFace_1 : or_T := (45, 14, [(0, (2, 0, 0, [5])), (2, (0, 1, 47, [])), (11, (0, 2, 2, [])), (12, (0, 2, 94, [])), (13, (0, -1, 143, []))], [(10, [13, 10, 12], []), (3, [12, 11, 2], []), (9, [10, 0], [16])], [], [], [(20, [0, 2, 13], [60, 0, 1, 640, 16])], [], [])
theorem oo_Pn_leftFace_1 {kA : Nat → ClassId} : or_ok PRD kA GG o_Pn_leftFace_1 := by
  refine or_mk fun A ta ws vs hD hth hl => ?_
  intro t0 r0 t2 k2 t11 k11 t12 k12 t13 k13 f0 f1 f2
  replace f0 := shm_107 f0
  replace f1 := shm_38 f1
  rw [show v_iv (n_v vs 11) = 2 from by omega] at f1
  replace f2 := shm_176 f2
  have cr_0_16 := fdq_91 hD hth r0
  have ad_10 : v_ad (n_v vs 10) = w_ar ws (n_v vs 0) 16 := congrArg v_ad f2
  simp only [ad_10] at f0
  have h0 : v_iv (n_v vs 13) = w_ei ws (w_ar ws (n_v vs 0) 16) (v_iv (n_v vs 12)) := f0
  have hK_0_16 := elq_47 hD hth cr_0_16
  have nf0 : fc_1 PRD (20, [0, 2, 13], [60, 0, 1, 640, 16]) ws (vs) := ⟨nf_in hl rfl, sgq_430 (vc_Pn_leftFace_1_0 (v_iv (n_v vs 2)) (v_iv (n_v vs 11)) (v_iv (n_v vs 12)) (v_iv (n_v vs 13)) (w_ei ws (w_ar ws (n_v vs 0) 16)) k2 k11 k12 k13 h0 f1 hK_0_16)⟩
  refine ⟨(fun _ h => (by cases h)), [], trivial, ?_, (fun _ h => (by cases h))⟩
  rw [List.append_nil]
  exact List.forall_mem_cons.mpr ⟨⟨show (20 : Nat) < 100 from by decide, nf0⟩, (fun _ h => (by cases h))⟩
def n_Pn_leftFace_an : List an_T := []
def t_Pn_leftFace_ct : ct_L := []
set_option maxRecDepth 100000 in
theorem c_Pn_leftFace {l : Launch} {D : va_G} {kA : Nat → ClassId} : ct_ok PRD l D kA GG y_Pn_leftFace z_Pn_leftFace e_Pn_leftFace := chk_all_ok (FT := [(162, 5, 7), (165, 5, 8), (228, 5, 16)]) (PT := []) (CT := t_Pn_leftFace_ct) (KT := []) (NT := []) (AN := n_Pn_leftFace_an) (OT := [o_Pn_leftFace_0, o_Pn_leftFace_1]) 0 200 (List.forall_mem_cons.mpr ⟨oo_Pn_leftFace_0, List.forall_mem_cons.mpr ⟨oo_Pn_leftFace_1, List.forall_mem_nil _⟩⟩) (by decide +kernel) ⟨List.forall_mem_cons.mpr ⟨gf_Pn_162, List.forall_mem_cons.mpr ⟨gf_Pn_165, List.forall_mem_cons.mpr ⟨gf_Pn_228, List.forall_mem_nil _⟩⟩⟩, List.forall_mem_nil _, List.forall_mem_nil _, List.forall_mem_nil _, List.forall_mem_nil _, GG_pl⟩ (by decide +kernel)
set_option maxHeartbeats 4000000 in
theorem vc_Pn_rightFace_0_0 (x2 : Int) (x11 : Int) (x12 : Int) (x13 : Int) (faceOf_0 : Int → Int) (k2 : 0 ≤ x2 ∧ x2 ≤ 47) (k11 : 2 ≤ x11 ∧ x11 ≤ 2) (k12 : 0 ≤ x12 ∧ x12 ≤ 94) (k13 : (-1) ≤ x13 ∧ x13 ≤ 143) (h0 : x13 = faceOf_0 (x12)) (f1 : x12 = 2 * x2) (hK_0_16 : ∀ j : Int, 0 ≤ j → j < 144 → (-1) ≤ faceOf_0 j ∧ faceOf_0 j ≤ 143) : LFA (faceOf_0) (x2) (x13) := by
  first
    | exact lfa_0 (by assumption) (by omega)
    | exact lfa_1 (by assumption) (by omega)
  
def o_Pn_rightFace_0 : or_T := (45, 14, [(0, (2, 0, 0, [5])), (2, (0, 0, 47, [])), (11, (0, 2, 2, [])), (12, (0, 0, 94, [])), (13, (0, -1, 143, []))], [(10, [13, 10, 12], []), (3, [12, 11, 2], []), (9, [10, 0], [16])], [], [], [(20, [0, 2, 13], [60, 0, 1, 640, 16])], [], [])
theorem oo_Pn_rightFace_0 {kA : Nat → ClassId} : or_ok PRD kA GG o_Pn_rightFace_0 := by
  refine or_mk fun A ta ws vs hD hth hl => ?_
  intro t0 r0 t2 k2 t11 k11 t12 k12 t13 k13 f0 f1 f2
  replace f0 := shm_107 f0
  replace f1 := shm_38 f1
  rw [show v_iv (n_v vs 11) = 2 from by omega] at f1
  replace f2 := shm_176 f2
  have cr_0_16 := fdq_91 hD hth r0
  have ad_10 : v_ad (n_v vs 10) = w_ar ws (n_v vs 0) 16 := congrArg v_ad f2
  simp only [ad_10] at f0
  have h0 : v_iv (n_v vs 13) = w_ei ws (w_ar ws (n_v vs 0) 16) (v_iv (n_v vs 12)) := f0
  have hK_0_16 := elq_47 hD hth cr_0_16
  have nf0 : fc_1 PRD (20, [0, 2, 13], [60, 0, 1, 640, 16]) ws (vs) := ⟨nf_in hl rfl, sgq_430 (vc_Pn_rightFace_0_0 (v_iv (n_v vs 2)) (v_iv (n_v vs 11)) (v_iv (n_v vs 12)) (v_iv (n_v vs 13)) (w_ei ws (w_ar ws (n_v vs 0) 16)) k2 k11 k12 k13 h0 f1 hK_0_16)⟩
  refine ⟨(fun _ h => (by cases h)), [], trivial, ?_, (fun _ h => (by cases h))⟩
  rw [List.append_nil]
  exact List.forall_mem_cons.mpr ⟨⟨show (20 : Nat) < 100 from by decide, nf0⟩, (fun _ h => (by cases h))⟩
set_option maxHeartbeats 4000000 in
theorem vc_Pn_rightFace_1_0 (x2 : Int) (x11 : Int) (x12 : Int) (x13 : Int) (x14 : Int) (x15 : Int) (faceOf_0 : Int → Int) (k2 : 0 ≤ x2 ∧ x2 ≤ 47) (k11 : 2 ≤ x11 ∧ x11 ≤ 2) (k12 : 0 ≤ x12 ∧ x12 ≤ 94) (k13 : 1 ≤ x13 ∧ x13 ≤ 1) (k14 : 1 ≤ x14 ∧ x14 ≤ 95) (k15 : (-1) ≤ x15 ∧ x15 ≤ 143) (d0 : x12 + 1 ≤ x14 ∧ x14 ≤ x12 + 1) (h0 : x15 = faceOf_0 (x14)) (f1 : x14 = x12 + x13) (f2 : x12 = 2 * x2) (hK_0_16 : ∀ j : Int, 0 ≤ j → j < 144 → (-1) ≤ faceOf_0 j ∧ faceOf_0 j ≤ 143) : LFA (faceOf_0) (x2) (x15) := by
  first
    | exact lfa_0 (by assumption) (by omega)
    | exact lfa_1 (by assumption) (by omega)
  
def o_Pn_rightFace_1 : or_T := (45, 16, [(0, (2, 0, 0, [5])), (2, (0, 0, 47, [])), (11, (0, 2, 2, [])), (12, (0, 0, 94, [])), (13, (0, 1, 1, [])), (14, (0, 1, 95, [])), (15, (0, -1, 143, []))], [(10, [15, 10, 14], []), (1, [14, 12, 13], []), (3, [12, 11, 2], []), (9, [10, 0], [16])], [], [], [(20, [0, 2, 15], [60, 0, 1, 640, 16])], [], [(14, 12, 1, 1)])
theorem oo_Pn_rightFace_1 {kA : Nat → ClassId} : or_ok PRD kA GG o_Pn_rightFace_1 := by
  refine or_mk fun A ta ws vs hD hth hl => ?_
  intro t0 r0 t2 k2 t11 k11 t12 k12 t13 k13 t14 k14 t15 k15 d0 f0 f1 f2 f3
  replace f0 := shm_107 f0
  replace f2 := shm_38 f2
  rw [show v_iv (n_v vs 11) = 2 from by omega] at f2
  replace f3 := shm_176 f3
  have cr_0_16 := fdq_91 hD hth r0
  have ad_10 : v_ad (n_v vs 10) = w_ar ws (n_v vs 0) 16 := congrArg v_ad f3
  simp only [ad_10] at f0
  have h0 : v_iv (n_v vs 15) = w_ei ws (w_ar ws (n_v vs 0) 16) (v_iv (n_v vs 14)) := f0
  have hK_0_16 := elq_47 hD hth cr_0_16
  have nf0 : fc_1 PRD (20, [0, 2, 15], [60, 0, 1, 640, 16]) ws (vs) := ⟨nf_in hl rfl, sgq_430 (vc_Pn_rightFace_1_0 (v_iv (n_v vs 2)) (v_iv (n_v vs 11)) (v_iv (n_v vs 12)) (v_iv (n_v vs 13)) (v_iv (n_v vs 14)) (v_iv (n_v vs 15)) (w_ei ws (w_ar ws (n_v vs 0) 16)) k2 k11 k12 k13 k14 k15 d0 h0 (shm_12 f1) f2 hK_0_16)⟩
  refine ⟨(fun _ h => (by cases h)), [], trivial, ?_, (fun _ h => (by cases h))⟩
  rw [List.append_nil]
  exact List.forall_mem_cons.mpr ⟨⟨show (20 : Nat) < 100 from by decide, nf0⟩, (fun _ h => (by cases h))⟩
def n_Pn_rightFace_an : List an_T := []
def t_Pn_rightFace_ct : ct_L := []
set_option maxRecDepth 100000 in
theorem c_Pn_rightFace {l : Launch} {D : va_G} {kA : Nat → ClassId} : ct_ok PRD l D kA GG y_Pn_rightFace z_Pn_rightFace e_Pn_rightFace := chk_all_ok (FT := [(162, 5, 7), (165, 5, 8), (228, 5, 16)]) (PT := []) (CT := t_Pn_rightFace_ct) (KT := []) (NT := []) (AN := n_Pn_rightFace_an) (OT := [o_Pn_rightFace_0, o_Pn_rightFace_1]) 0 200 (List.forall_mem_cons.mpr ⟨oo_Pn_rightFace_0, List.forall_mem_cons.mpr ⟨oo_Pn_rightFace_1, List.forall_mem_nil _⟩⟩) (by decide +kernel) ⟨List.forall_mem_cons.mpr ⟨gf_Pn_162, List.forall_mem_cons.mpr ⟨gf_Pn_165, List.forall_mem_cons.mpr ⟨gf_Pn_228, List.forall_mem_nil _⟩⟩⟩, List.forall_mem_nil _, List.forall_mem_nil _, List.forall_mem_nil _, List.forall_mem_nil _, GG_pl⟩ (by decide +kernel)
set_option maxHeartbeats 4000000 in
theorem vc_Pn_shiftUnder_0_0 (x2 : Int) (x3 : Int) (x4 : Int) (x5 : Int) (x6 : Int) (x7 : Int) (order_0 : Int → Int) (under_0 : Int → Int) (x_0o1 : Int → Int) (y_0o1 : Int → Int) (k2 : 0 ≤ x2 ∧ x2 ≤ 23) (k3 : 1 ≤ x3 ∧ x3 ≤ 2) (k4 : 3 ≤ x4 ∧ x4 ≤ 23) (k5 : 1 ≤ x5 ∧ x5 ≤ 23) (k6 : 0 ≤ x6 ∧ x6 ≤ 23) (k7 : 0 ≤ x7 ∧ x7 ≤ 0) (f0 : CO2 (order_0) (under_0) (x_0o1) (y_0o1) (x4) (x5) (x6)) (f1 : (1 ≤ x3) ∧ (x3 ≤ 2)) (f2 : TOQ (order_0) (x2) (x4)) (hK_0_1 : ∀ j : Int, 0 ≤ j → j < 24 → 0 ≤ order_0 j ∧ order_0 j ≤ 23) (hK_0_4 : ∀ j : Int, 0 ≤ j → j < 24 → 0 ≤ under_0 j ∧ under_0 j ≤ 16777215) (hK_1_2 : ∀ j : Int, 0 ≤ j → j < 24 → (-40000000) ≤ x_0o1 j ∧ x_0o1 j ≤ 690000000) (hK_1_3 : ∀ j : Int, 0 ≤ j → j < 24 → (-40000000) ≤ y_0o1 j ∧ y_0o1 j ≤ 690000000) : COS (order_0) (under_0) (x_0o1) (y_0o1) (x4) (x5) (x6) (x7) := by
  first
    | exact cgs_start ‹CO2 _ _ _ _ _ _ _›
    | exact cgs_step (d := x10) ‹COS _ _ _ _ _ _ _ _› (by omega) (by assumption) rfl (by omega) (by omega) (by omega)
    | exact cgs_skip ‹COS _ _ _ _ _ _ _ _› (by omega)
  
def o_Pn_shiftUnder_0 : or_T := (3, 8, [(0, (2, 0, 0, [7])), (1, (2, 0, 0, [0])), (2, (0, 0, 23, [])), (3, (0, 1, 2, [])), (4, (0, 3, 23, [])), (5, (0, 1, 23, [])), (6, (0, 0, 23, [])), (7, (0, 0, 0, []))], [(20, [0, 1, 4, 5, 6], [60, 0, 4, 885, 1, 4, 1002, 1003]), (20, [3], [50, 0, 0, 2, 6, 0, 2, 0, 1, 1, 0, 0, 2, 1, 0, 0, 2]), (20, [0, 2, 4], [60, 0, 1, 891, 1])], [], [], [(20, [0, 1, 4, 5, 6, 7], [60, 0, 4, 887, 1, 4, 1002, 1003]), (24, [0, 0], []), (24, [1, 1], [])], [], [])
theorem oo_Pn_shiftUnder_0 {kA : Nat → ClassId} : or_ok PRD kA GG o_Pn_shiftUnder_0 := by
  refine or_mk fun A ta ws vs hD hth hl => ?_
  intro t0 r0 t1 r1 t2 k2 t3 k3 t4 k4 t5 k5 t6 k6 t7 k7 f0 f1 f2
  have cr_0_1 := fdq_92 hD hth r0
  have cr_0_4 := fdq_93 hD hth r0
  have cr_1_2 := fdq_45 hD hth r1
  have cr_1_3 := fdq_48 hD hth r1
  have hK_0_1 := elq_48 hD hth cr_0_1
  have hK_0_4 := elq_49 hD hth cr_0_4
  have hK_1_2 := elq_10 hD hth cr_1_2
  have hK_1_3 := elq_13 hD hth cr_1_3
  have nf0 : fc_1 PRD (20, [0, 1, 4, 5, 6, 7], [60, 0, 4, 887, 1, 4, 1002, 1003]) ws (vs) := ⟨nf_in hl rfl, sgq_434 (vc_Pn_shiftUnder_0_0 (v_iv (n_v vs 2)) (v_iv (n_v vs 3)) (v_iv (n_v vs 4)) (v_iv (n_v vs 5)) (v_iv (n_v vs 6)) (v_iv (n_v vs 7)) (w_ei ws (w_ar ws (n_v vs 0) 1)) (w_ei ws (w_ar ws (n_v vs 0) 4)) (w_ei ws (w_ar ws (n_v vs 1) 2)) (w_ei ws (w_ar ws (n_v vs 1) 3)) k2 k3 k4 k5 k6 k7 (shm_431 f0) (shm_432 f1) (shm_433 f2) hK_0_1 hK_0_4 hK_1_2 hK_1_3)⟩
  have nf1 : fc_1 PRD (24, [0, 0], []) ws (vs) := by
    refine ⟨nf_in hl rfl, sgq_1 ?_⟩
    · show n_v vs 0 = n_v vs 0
      first | rfl | simp only [true_and]
  have nf2 : fc_1 PRD (24, [1, 1], []) ws (vs) := by
    refine ⟨nf_in hl rfl, sgq_1 ?_⟩
    · show n_v vs 1 = n_v vs 1
      first | rfl | simp only [true_and]
  refine ⟨(fun _ h => (by cases h)), [], trivial, ?_, (fun _ h => (by cases h))⟩
  rw [List.append_nil]
  exact List.forall_mem_cons.mpr ⟨⟨show (20 : Nat) < 100 from by decide, nf0⟩, List.forall_mem_cons.mpr ⟨⟨show (24 : Nat) < 100 from by decide, nf1⟩, List.forall_mem_cons.mpr ⟨⟨show (24 : Nat) < 100 from by decide, nf2⟩, (fun _ h => (by cases h))⟩⟩⟩
set_option maxHeartbeats 4000000 in
theorem vc_Pn_shiftUnder_1_0 (x4 : Int) (x5 : Int) (x6 : Int) (x9 : Int) (x10 : Int) (x11 : Int) (x13 : Int) (nodes_0o12 : Int) (order_0 : Int → Int) (under_0 : Int → Int) (x_0o1 : Int → Int) (y_0o1 : Int → Int) (k4 : 3 ≤ x4 ∧ x4 ≤ 23) (k5 : 1 ≤ x5 ∧ x5 ≤ 23) (k6 : 0 ≤ x6 ∧ x6 ≤ 23) (k9 : 0 ≤ x9 ∧ x9 ≤ 23) (k10 : 1 ≤ x10 ∧ x10 ≤ 2) (k11 : 0 ≤ x11 ∧ x11 ≤ 24) (k13 : 0 ≤ x13 ∧ x13 ≤ 24) (d0 : x13 + 0 ≤ x11 ∧ x11 ≤ x13 + 4294967296) (f0 : x13 ≤ x11) (g1 : x13 = nodes_0o12) (f2 : COS (order_0) (under_0) (x_0o1) (y_0o1) (x4) (x5) (x6) (x11)) (f3 : (1 ≤ x10) ∧ (x10 ≤ 2)) (f4 : TOQ (order_0) (x9) (x4)) (hK_0_1 : ∀ j : Int, 0 ≤ j → j < 24 → 0 ≤ order_0 j ∧ order_0 j ≤ 23) (hK_0_4 : ∀ j : Int, 0 ≤ j → j < 24 → 0 ≤ under_0 j ∧ under_0 j ≤ 16777215) (hK_1_2 : ∀ j : Int, 0 ≤ j → j < 24 → (-40000000) ≤ x_0o1 j ∧ x_0o1 j ≤ 690000000) (hK_1_3 : ∀ j : Int, 0 ≤ j → j < 24 → (-40000000) ≤ y_0o1 j ∧ y_0o1 j ≤ 690000000) (kz_12_5 : 0 ≤ nodes_0o12 ∧ nodes_0o12 ≤ 24) : CO2n (order_0) (under_0) (x_0o1) (y_0o1) (x4) (x5) (x6) := by
  first
    | exact cgs_end ‹COS _ _ _ _ _ _ _ _›
  
def o_Pn_shiftUnder_1 : or_T := (46, 14, [(0, (2, 0, 0, [7])), (1, (2, 0, 0, [0])), (4, (0, 3, 23, [])), (5, (0, 1, 23, [])), (6, (0, 0, 23, [])), (9, (0, 0, 23, [])), (10, (0, 1, 2, [])), (11, (0, 0, 24, [])), (12, (2, 0, 0, [294])), (13, (0, 0, 24, []))], [(7, [11, 13], [3]), (9, [13, 12], [5]), (20, [7, 8, 4, 5, 6, 11], [60, 0, 4, 887, 1, 4, 1002, 1003]), (20, [10], [50, 0, 0, 2, 6, 0, 2, 0, 1, 1, 0, 0, 2, 1, 0, 0, 2]), (20, [7, 9, 4], [60, 0, 1, 891, 1]), (24, [0, 7], []), (24, [1, 8], [])], [], [], [(20, [0, 1, 4, 5, 6], [60, 0, 4, 886, 1, 4, 1002, 1003])], [], [(11, 13, 0, 4294967296)])
theorem oo_Pn_shiftUnder_1 {kA : Nat → ClassId} : or_ok PRD kA GG o_Pn_shiftUnder_1 := by
  refine or_mk fun A ta ws vs hD hth hl => ?_
  intro t0 r0 t1 r1 t4 k4 t5 k5 t6 k6 t9 k9 t10 k10 t11 k11 t12 r12 t13 k13 d0 f0 f1 f2 f3 f4 f5 f6
  replace f1 := shm_110 f1
  replace f2 := shm_434 f2
  replace f4 := shm_433 f4
  replace f5 := shm_5 f5
  replace f6 := shm_5 f6
  have q7 : n_v vs 7 = n_v vs 0 := f5.symm
  have q8 : n_v vs 8 = n_v vs 1 := f6.symm
  simp only [q7, q8] at f2 f4
  have cr_0_1 := fdq_92 hD hth r0
  have cr_0_4 := fdq_93 hD hth r0
  have cr_1_2 := fdq_45 hD hth r1
  have cr_1_3 := fdq_48 hD hth r1
  have g1 : v_iv (n_v vs 13) = w_fi ws (n_v vs 12) 5 := congrArg v_iv f1
  have hK_0_1 := elq_48 hD hth cr_0_1
  have hK_0_4 := elq_49 hD hth cr_0_4
  have hK_1_2 := elq_10 hD hth cr_1_2
  have hK_1_3 := elq_13 hD hth cr_1_3
  have kz_12_5 := fdq_94 hD hth r12
  have nf0 : fc_1 PRD (20, [0, 1, 4, 5, 6], [60, 0, 4, 886, 1, 4, 1002, 1003]) ws (vs) := ⟨nf_in hl rfl, sgq_435 (vc_Pn_shiftUnder_1_0 (v_iv (n_v vs 4)) (v_iv (n_v vs 5)) (v_iv (n_v vs 6)) (v_iv (n_v vs 9)) (v_iv (n_v vs 10)) (v_iv (n_v vs 11)) (v_iv (n_v vs 13)) (w_fi ws (n_v vs 12) 5) (w_ei ws (w_ar ws (n_v vs 0) 1)) (w_ei ws (w_ar ws (n_v vs 0) 4)) (w_ei ws (w_ar ws (n_v vs 1) 2)) (w_ei ws (w_ar ws (n_v vs 1) 3)) k4 k5 k6 k9 k10 k11 k13 d0 (shm_2 f0) g1 f2 (shm_432 f3) f4 hK_0_1 hK_0_4 hK_1_2 hK_1_3 kz_12_5)⟩
  refine ⟨(fun _ h => (by cases h)), [], trivial, ?_, (fun _ h => (by cases h))⟩
  rw [List.append_nil]
  exact List.forall_mem_cons.mpr ⟨⟨show (20 : Nat) < 100 from by decide, nf0⟩, (fun _ h => (by cases h))⟩
set_option maxHeartbeats 4000000 in
theorem vc_Pn_shiftUnder_2_0 (x4 : Int) (x5 : Int) (x6 : Int) (x9 : Int) (x10 : Int) (x11 : Int) (x13 : Int) (x15 : Int) (x16 : Int) (x17 : Int) (x18 : Int) (x19 : Int) (under_0 : Int → Int) (nodes_0o12 : Int) (order_0 : Int → Int) (x_0o1 : Int → Int) (y_0o1 : Int → Int) (k4 : 3 ≤ x4 ∧ x4 ≤ 23) (k5 : 1 ≤ x5 ∧ x5 ≤ 23) (k6 : 0 ≤ x6 ∧ x6 ≤ 23) (k9 : 0 ≤ x9 ∧ x9 ≤ 23) (k10 : 1 ≤ x10 ∧ x10 ≤ 2) (k11 : 0 ≤ x11 ∧ x11 ≤ 23) (k13 : 1 ≤ x13 ∧ x13 ≤ 24) (k15 : 0 ≤ x15 ∧ x15 ≤ 16777215) (k16 : 0 ≤ x16 ∧ x16 ≤ 16777215) (k17 : 1 ≤ x17 ∧ x17 ≤ 1) (k18 : 0 ≤ x18 ∧ x18 ≤ 0) (k19 : 1 ≤ x19 ∧ x19 ≤ 24) (d0 : x11 + 1 ≤ x19 ∧ x19 ≤ x11 + 1) (d1 : x13 + (-4294967296) ≤ x19 ∧ x19 ≤ x13 + 0) (d2 : x13 + (-4294967296) ≤ x11 ∧ x11 ≤ x13 + (-1)) (f0 : x19 = x11 + 1) (f1 : x18 = 0) (f2 : x18 = x16 % 2) (f3 : bvp (x18) = bvp (x16) &&& bvp (x17)) (f4 : bvp (x16) = bvp (x15) >>> (x11).toNat) (h5 : x15 = under_0 (x9)) (f7 : x11 < x13) (g8 : x13 = nodes_0o12) (f9 : COS (order_0) (under_0) (x_0o1) (y_0o1) (x4) (x5) (x6) (x11)) (f10 : (1 ≤ x10) ∧ (x10 ≤ 2)) (f11 : TOQ (order_0) (x9) (x4)) (hK_0_1 : ∀ j : Int, 0 ≤ j → j < 24 → 0 ≤ order_0 j ∧ order_0 j ≤ 23) (hK_0_4 : ∀ j : Int, 0 ≤ j → j < 24 → 0 ≤ under_0 j ∧ under_0 j ≤ 16777215) (hK_1_2 : ∀ j : Int, 0 ≤ j → j < 24 → (-40000000) ≤ x_0o1 j ∧ x_0o1 j ≤ 690000000) (hK_1_3 : ∀ j : Int, 0 ≤ j → j < 24 → (-40000000) ≤ y_0o1 j ∧ y_0o1 j ≤ 690000000) (kz_12_5 : 0 ≤ nodes_0o12 ∧ nodes_0o12 ≤ 24) : COS (order_0) (under_0) (x_0o1) (y_0o1) (x4) (x5) (x6) (x19) := by
  first
    | exact cgs_start ‹CO2 _ _ _ _ _ _ _›
    | exact cgs_step (d := x10) ‹COS _ _ _ _ _ _ _ _› (by omega) (by assumption) rfl (by omega) (by omega) (by omega)
    | exact cgs_skip ‹COS _ _ _ _ _ _ _ _› (by omega)
  
def o_Pn_shiftUnder_2 : or_T := (3, 20, [(0, (2, 0, 0, [7])), (1, (2, 0, 0, [0])), (4, (0, 3, 23, [])), (5, (0, 1, 23, [])), (6, (0, 0, 23, [])), (9, (0, 0, 23, [])), (10, (0, 1, 2, [])), (11, (0, 0, 23, [])), (12, (2, 0, 0, [294])), (13, (0, 1, 24, [])), (15, (0, 0, 16777215, [])), (16, (0, 0, 16777215, [])), (17, (0, 1, 1, [])), (18, (0, 0, 0, [])), (19, (0, 1, 24, []))], [(6, [19, 11], [1]), (8, [18], [0]), (12, [18, 16], [2]), (16, [18, 16, 17], [0]), (16, [16, 15, 11], [4]), (10, [15, 14, 9], []), (9, [14, 7], [4]), (7, [11, 13], [2]), (9, [13, 12], [5]), (20, [7, 8, 4, 5, 6, 11], [60, 0, 4, 887, 1, 4, 1002, 1003]), (20, [10], [50, 0, 0, 2, 6, 0, 2, 0, 1, 1, 0, 0, 2, 1, 0, 0, 2]), (20, [7, 9, 4], [60, 0, 1, 891, 1]), (24, [0, 7], []), (24, [1, 8], [])], [], [], [(20, [7, 8, 4, 5, 6, 19], [60, 0, 4, 887, 1, 4, 1002, 1003])], [], [(19, 11, 1, 1), (19, 13, -4294967296, 0), (11, 13, -4294967296, -1)])
theorem oo_Pn_shiftUnder_2 {kA : Nat → ClassId} : or_ok PRD kA GG o_Pn_shiftUnder_2 := by
  refine or_mk fun A ta ws vs hD hth hl => ?_
  intro t0 r0 t1 r1 t4 k4 t5 k5 t6 k6 t9 k9 t10 k10 t11 k11 t12 r12 t13 k13 t15 k15 t16 k16 t17 k17 t18 k18 t19 k19 d0 d1 d2 f0 f1 f2 f3 f4 f5 f6 f7 f8 f9 f10 f11 f12 f13
  replace f0 := shm_4 f0
  replace f1 := shm_192 f1
  replace f2 := shm_364 f2
  replace f3 := shm_11 f3
  replace f4 := shm_13 f4
  replace f5 := shm_107 f5
  replace f6 := shm_108 f6
  replace f7 := shm_6 f7
  replace f8 := shm_110 f8
  replace f9 := shm_434 f9
  replace f10 := shm_432 f10
  replace f11 := shm_433 f11
  replace f12 := shm_5 f12
  replace f13 := shm_5 f13
  have q7 : n_v vs 7 = n_v vs 0 := f12.symm
  have q8 : n_v vs 8 = n_v vs 1 := f13.symm
  simp only [q7, q8] at f6 f9 f11
  have cr_0_1 := fdq_92 hD hth r0
  have cr_0_4 := fdq_93 hD hth r0
  have cr_1_2 := fdq_45 hD hth r1
  have cr_1_3 := fdq_48 hD hth r1
  have ad_14 : v_ad (n_v vs 14) = w_ar ws (n_v vs 0) 4 := congrArg v_ad f6
  simp only [ad_14] at f5
  have h5 : v_iv (n_v vs 15) = w_ei ws (w_ar ws (n_v vs 0) 4) (v_iv (n_v vs 9)) := f5
  have g8 : v_iv (n_v vs 13) = w_fi ws (n_v vs 12) 5 := congrArg v_iv f8
  have hK_0_1 := elq_48 hD hth cr_0_1
  have hK_0_4 := elq_49 hD hth cr_0_4
  have hK_1_2 := elq_10 hD hth cr_1_2
  have hK_1_3 := elq_13 hD hth cr_1_3
  have kz_12_5 := fdq_94 hD hth r12
  have nf0 : fc_1 PRD (20, [7, 8, 4, 5, 6, 19], [60, 0, 4, 887, 1, 4, 1002, 1003]) ws (vs) := by
    refine ⟨nf_in hl rfl, sgq_434 ?_⟩
    · show COS (w_ei ws (w_ar ws (n_v vs 7) 1)) (w_ei ws (w_ar ws (n_v vs 7) 4)) (w_ei ws (w_ar ws (n_v vs 8) 2)) (w_ei ws (w_ar ws (n_v vs 8) 3)) (v_iv (n_v vs 4)) (v_iv (n_v vs 5)) (v_iv (n_v vs 6)) (v_iv (n_v vs 19))
      simp only [q7, q8]
      exact vc_Pn_shiftUnder_2_0 (v_iv (n_v vs 4)) (v_iv (n_v vs 5)) (v_iv (n_v vs 6)) (v_iv (n_v vs 9)) (v_iv (n_v vs 10)) (v_iv (n_v vs 11)) (v_iv (n_v vs 13)) (v_iv (n_v vs 15)) (v_iv (n_v vs 16)) (v_iv (n_v vs 17)) (v_iv (n_v vs 18)) (v_iv (n_v vs 19)) (w_ei ws (w_ar ws (n_v vs 0) 4)) (w_fi ws (n_v vs 12) 5) (w_ei ws (w_ar ws (n_v vs 0) 1)) (w_ei ws (w_ar ws (n_v vs 1) 2)) (w_ei ws (w_ar ws (n_v vs 1) 3)) k4 k5 k6 k9 k10 k11 k13 k15 k16 k17 k18 k19 d0 d1 d2 f0 f1 f2 f3 f4 h5 f7 g8 f9 f10 f11 hK_0_1 hK_0_4 hK_1_2 hK_1_3 kz_12_5
  refine ⟨(fun _ h => (by cases h)), [], trivial, ?_, (fun _ h => (by cases h))⟩
  rw [List.append_nil]
  exact List.forall_mem_cons.mpr ⟨⟨show (20 : Nat) < 100 from by decide, nf0⟩, (fun _ h => (by cases h))⟩
set_option maxHeartbeats 4000000 in
theorem vc_Pn_shiftUnder_3_r0 (x4 : Int) (x5 : Int) (x6 : Int) (x9 : Int) (x10 : Int) (x11 : Int) (x13 : Int) (x15 : Int) (x16 : Int) (x17 : Int) (x18 : Int) (x20 : Int) (x21 : Int) (x_0o1 : Int → Int) (under_0 : Int → Int) (nodes_0o12 : Int) (order_0 : Int → Int) (y_0o1 : Int → Int) (k4 : 3 ≤ x4 ∧ x4 ≤ 23) (k5 : 1 ≤ x5 ∧ x5 ≤ 23) (k6 : 0 ≤ x6 ∧ x6 ≤ 23) (k9 : 0 ≤ x9 ∧ x9 ≤ 23) (k10 : 1 ≤ x10 ∧ x10 ≤ 2) (k11 : 0 ≤ x11 ∧ x11 ≤ 23) (k13 : 1 ≤ x13 ∧ x13 ≤ 24) (k15 : 0 ≤ x15 ∧ x15 ≤ 16777215) (k16 : 0 ≤ x16 ∧ x16 ≤ 16777215) (k17 : 1 ≤ x17 ∧ x17 ≤ 1) (k18 : 1 ≤ x18 ∧ x18 ≤ 1) (k20 : (-40000000) ≤ x20 ∧ x20 ≤ 690000000) (k21 : (-39999999) ≤ x21 ∧ x21 ≤ 690000002) (d0 : x10 + (-40000000) ≤ x21 ∧ x21 ≤ x10 + 690000000) (d1 : x20 + 1 ≤ x21 ∧ x21 ≤ x20 + 2) (d2 : x13 + (-4294967296) ≤ x11 ∧ x11 ≤ x13 + (-1)) (f0 : x21 = x20 + x10) (h1 : x20 = x_0o1 (x11)) (f3 : x18 ≠ 0) (f4 : x18 = x16 % 2) (f5 : bvp (x18) = bvp (x16) &&& bvp (x17)) (f6 : bvp (x16) = bvp (x15) >>> (x11).toNat) (h7 : x15 = under_0 (x9)) (f9 : x11 < x13) (g10 : x13 = nodes_0o12) (f11 : COS (order_0) (under_0) (x_0o1) (y_0o1) (x4) (x5) (x6) (x11)) (f12 : (1 ≤ x10) ∧ (x10 ≤ 2)) (f13 : TOQ (order_0) (x9) (x4)) (hK_0_1 : ∀ j : Int, 0 ≤ j → j < 24 → 0 ≤ order_0 j ∧ order_0 j ≤ 23) (hK_0_4 : ∀ j : Int, 0 ≤ j → j < 24 → 0 ≤ under_0 j ∧ under_0 j ≤ 16777215) (hK_1_2 : ∀ j : Int, 0 ≤ j → j < 24 → (-40000000) ≤ x_0o1 j ∧ x_0o1 j ≤ 690000000) (hK_1_3 : ∀ j : Int, 0 ≤ j → j < 24 → (-40000000) ≤ y_0o1 j ∧ y_0o1 j ≤ 690000000) (kz_12_5 : 0 ≤ nodes_0o12 ∧ nodes_0o12 ≤ 24) : (-900000) ≤ x21 ∧ x21 ≤ 900000 := by
  first
    | omega
    | (have b : bit x15 x11 := (bit_shr (n := x16) (by assumption) (by omega)).1 ((bit_and (n := x18) (by assumption) 0).1 ((bit_01 (by omega) (by omega)).2 (by omega))).1
       rw [‹x15 = under_0 x9›] at b
       have q := cos_val (u := x20) ‹COS _ _ _ _ _ _ _ _› ‹TOQ _ _ _› (by omega) (by omega) b (by assumption) (by omega) (by omega)
       omega)
  
def o_Pn_shiftUnder_3 : or_T := (39, 22, [(0, (2, 0, 0, [7])), (1, (2, 0, 0, [0])), (4, (0, 3, 23, [])), (5, (0, 1, 23, [])), (6, (0, 0, 23, [])), (7, (2, 0, 0, [7])), (8, (2, 0, 0, [0])), (9, (0, 0, 23, [])), (10, (0, 1, 2, [])), (11, (0, 0, 23, [])), (12, (2, 0, 0, [294])), (13, (0, 1, 24, [])), (14, (2, 0, 0, [104])), (15, (0, 0, 16777215, [])), (16, (0, 0, 16777215, [])), (17, (0, 1, 1, [])), (18, (0, 1, 1, [])), (19, (2, 0, 0, [14])), (20, (0, -40000000, 690000000, [])), (21, (0, -39999999, 690000002, []))], [(1, [21, 20, 10], []), (10, [20, 19, 11], []), (9, [19, 8], [2]), (8, [18], [1]), (12, [18, 16], [2]), (16, [18, 16, 17], [0]), (16, [16, 15, 11], [4]), (10, [15, 14, 9], []), (9, [14, 7], [4]), (7, [11, 13], [2]), (9, [13, 12], [5]), (20, [7, 8, 4, 5, 6, 11], [60, 0, 4, 887, 1, 4, 1002, 1003]), (20, [10], [50, 0, 0, 2, 6, 0, 2, 0, 1, 1, 0, 0, 2, 1, 0, 0, 2]), (20, [7, 9, 4], [60, 0, 1, 891, 1]), (24, [0, 7], []), (24, [1, 8], [])], [(21, (0, -900000, 900000, []))], [], [], [], [(21, 10, -40000000, 690000000), (21, 20, 1, 2), (11, 13, -4294967296, -1)])
theorem oo_Pn_shiftUnder_3 {kA : Nat → ClassId} : or_ok PRD kA GG o_Pn_shiftUnder_3 := by
  refine or_mk fun A ta ws vs hD hth hl => ?_
  intro t0 r0 t1 r1 t4 k4 t5 k5 t6 k6 t7 r7 t8 r8 t9 k9 t10 k10 t11 k11 t12 r12 t13 k13 t14 r14 t15 k15 t16 k16 t17 k17 t18 k18 t19 r19 t20 k20 t21 k21 d0 d1 d2 f0 f1 f2 f3 f4 f5 f6 f7 f8 f9 f10 f11 f12 f13 f14 f15
  replace f1 := shm_107 f1
  replace f2 := shm_120 f2
  replace f7 := shm_107 f7
  replace f8 := shm_108 f8
  replace f10 := shm_110 f10
  replace f11 := shm_434 f11
  replace f13 := shm_433 f13
  replace f14 := shm_5 f14
  replace f15 := shm_5 f15
  have q7 : n_v vs 7 = n_v vs 0 := f14.symm
  have q8 : n_v vs 8 = n_v vs 1 := f15.symm
  simp only [q8, q7] at f2 f8 f11 f13
  have cr_0_1 := fdq_92 hD hth r0
  have cr_0_4 := fdq_93 hD hth r0
  have cr_1_2 := fdq_45 hD hth r1
  have cr_1_3 := fdq_48 hD hth r1
  have ad_19 : v_ad (n_v vs 19) = w_ar ws (n_v vs 1) 2 := congrArg v_ad f2
  have ad_14 : v_ad (n_v vs 14) = w_ar ws (n_v vs 0) 4 := congrArg v_ad f8
  simp only [ad_19] at f1
  have h1 : v_iv (n_v vs 20) = w_ei ws (w_ar ws (n_v vs 1) 2) (v_iv (n_v vs 11)) := f1
  simp only [ad_14] at f7
  have h7 : v_iv (n_v vs 15) = w_ei ws (w_ar ws (n_v vs 0) 4) (v_iv (n_v vs 9)) := f7
  have g10 : v_iv (n_v vs 13) = w_fi ws (n_v vs 12) 5 := congrArg v_iv f10
  have hK_0_1 := elq_48 hD hth cr_0_1
  have hK_0_4 := elq_49 hD hth cr_0_4
  have hK_1_2 := elq_10 hD hth cr_1_2
  have hK_1_3 := elq_13 hD hth cr_1_3
  have kz_12_5 := fdq_94 hD hth r12
  have hrf0 : (-900000) ≤ v_iv (n_v vs 21) ∧ v_iv (n_v vs 21) ≤ 900000 := vc_Pn_shiftUnder_3_r0 (v_iv (n_v vs 4)) (v_iv (n_v vs 5)) (v_iv (n_v vs 6)) (v_iv (n_v vs 9)) (v_iv (n_v vs 10)) (v_iv (n_v vs 11)) (v_iv (n_v vs 13)) (v_iv (n_v vs 15)) (v_iv (n_v vs 16)) (v_iv (n_v vs 17)) (v_iv (n_v vs 18)) (v_iv (n_v vs 20)) (v_iv (n_v vs 21)) (w_ei ws (w_ar ws (n_v vs 1) 2)) (w_ei ws (w_ar ws (n_v vs 0) 4)) (w_fi ws (n_v vs 12) 5) (w_ei ws (w_ar ws (n_v vs 0) 1)) (w_ei ws (w_ar ws (n_v vs 1) 3)) k4 k5 k6 k9 k10 k11 k13 k15 k16 k17 k18 k20 k21 d0 d1 d2 (shm_12 f0) h1 (shm_142 f3) (shm_364 f4) (shm_11 f5) (shm_13 f6) h7 (shm_6 f9) g10 f11 (shm_432 f12) f13 hK_0_1 hK_0_4 hK_1_2 hK_1_3 kz_12_5
  have rf21 : tv_ok ta (0, -900000, 900000, []) (n_v vs 21) := tv_in t21 (by first | omega | grind) (by first | omega | grind)
  refine ⟨List.forall_mem_cons.mpr ⟨rf21, (fun _ h => (by cases h))⟩, [], trivial, ?_, (fun _ h => (by cases h))⟩
  rw [List.append_nil]
  exact (fun _ h => (by cases h))
set_option maxHeartbeats 4000000 in
theorem vc_Pn_shiftUnder_4_0 (x4 : Int) (x5 : Int) (x6 : Int) (x9 : Int) (x10 : Int) (x11 : Int) (x13 : Int) (x15 : Int) (x16 : Int) (x17 : Int) (x18 : Int) (x20 : Int) (x21 : Int) (x22 : Int) (order_0 : Int → Int) (x_1o1 : Int → Int) (under_1 : Int → Int) (nodes_1o12 : Int) (order_1 : Int → Int) (y_1o1 : Int → Int) (nodes_0o12 : Int) (under_0 : Int → Int) (x_0o1 : Int → Int) (y_0o1 : Int → Int) (k4 : 3 ≤ x4 ∧ x4 ≤ 23) (k5 : 1 ≤ x5 ∧ x5 ≤ 23) (k6 : 0 ≤ x6 ∧ x6 ≤ 23) (k9 : 0 ≤ x9 ∧ x9 ≤ 23) (k10 : 1 ≤ x10 ∧ x10 ≤ 2) (k11 : 0 ≤ x11 ∧ x11 ≤ 23) (k13 : 1 ≤ x13 ∧ x13 ≤ 24) (k15 : 0 ≤ x15 ∧ x15 ≤ 16777215) (k16 : 0 ≤ x16 ∧ x16 ≤ 16777215) (k17 : 1 ≤ x17 ∧ x17 ≤ 1) (k18 : 1 ≤ x18 ∧ x18 ≤ 1) (k20 : (-40000000) ≤ x20 ∧ x20 ≤ 690000000) (k21 : (-900000) ≤ x21 ∧ x21 ≤ 900000) (k22 : 1 ≤ x22 ∧ x22 ≤ 24) (d0 : x11 + 1 ≤ x22 ∧ x22 ≤ x11 + 1) (d1 : x13 + (-4294967296) ≤ x22 ∧ x22 ≤ x13 + 0) (d2 : x20 + 1 ≤ x21 ∧ x21 ≤ x20 + 2) (d3 : x13 + (-4294967296) ≤ x11 ∧ x11 ≤ x13 + (-1)) (f0 : x22 = x11 + 1) (f1 : (1 ≤ x10) ∧ (x10 ≤ 2)) (f2 : TOQ (order_0) (x9) (x4)) (f6 : x21 = x20 + x10) (h7 : x20 = x_1o1 (x11)) (f9 : x18 ≠ 0) (f10 : x18 = x16 % 2) (f11 : bvp (x18) = bvp (x16) &&& bvp (x17)) (f12 : bvp (x16) = bvp (x15) >>> (x11).toNat) (h13 : x15 = under_1 (x9)) (f15 : x11 < x13) (g16 : x13 = nodes_1o12) (f17 : COS (order_1) (under_1) (x_1o1) (y_1o1) (x4) (x5) (x6) (x11)) (f18 : (1 ≤ x10) ∧ (x10 ≤ 2)) (f19 : TOQ (order_1) (x9) (x4)) (fe_12_5_1 : nodes_0o12 = nodes_1o12) (hE_0_1_1 : ∀ j : Int, order_0 j = order_1 j) (hK_0_1 : ∀ j : Int, 0 ≤ j → j < 24 → 0 ≤ order_0 j ∧ order_0 j ≤ 23) (hE_0_4_1 : ∀ j : Int, under_0 j = under_1 j) (hK_0_4 : ∀ j : Int, 0 ≤ j → j < 24 → 0 ≤ under_0 j ∧ under_0 j ≤ 16777215) (hE_1_2_1 : ∀ j : Int, 0 ≤ j → (j = x11 → x_0o1 j = x21) ∧ (j ≠ x11 → x_0o1 j = x_1o1 j)) (hK_1_2 : ∀ j : Int, 0 ≤ j → j < 24 → (-40000000) ≤ x_0o1 j ∧ x_0o1 j ≤ 690000000) (hE_1_3_1 : ∀ j : Int, y_0o1 j = y_1o1 j) (hK_1_3 : ∀ j : Int, 0 ≤ j → j < 24 → (-40000000) ≤ y_0o1 j ∧ y_0o1 j ≤ 690000000) (kz_12_5 : 0 ≤ nodes_0o12 ∧ nodes_0o12 ≤ 24) : COS (order_0) (under_0) (x_0o1) (y_0o1) (x4) (x5) (x6) (x22) := by
  subst fe_12_5_1
  have e_hE_0_1_1 := funext hE_0_1_1; subst e_hE_0_1_1
  have e_hE_0_4_1 := funext hE_0_4_1; subst e_hE_0_4_1
  have e_hE_1_3_1 := funext hE_1_3_1; subst e_hE_1_3_1
  first
    | exact cgs_start ‹CO2 _ _ _ _ _ _ _›
    | exact cgs_step (d := x10) ‹COS _ _ _ _ _ _ _ _› (by omega) (by assumption) rfl (by omega) (by omega) (by omega)
    | exact cgs_skip ‹COS _ _ _ _ _ _ _ _› (by omega)
  
def o_Pn_shiftUnder_4 : or_T := (3, 23, [(0, (2, 0, 0, [7])), (1, (2, 0, 0, [0])), (4, (0, 3, 23, [])), (5, (0, 1, 23, [])), (6, (0, 0, 23, [])), (9, (0, 0, 23, [])), (10, (0, 1, 2, [])), (11, (0, 0, 23, [])), (12, (2, 0, 0, [294])), (13, (0, 1, 24, [])), (15, (0, 0, 16777215, [])), (16, (0, 0, 16777215, [])), (17, (0, 1, 1, [])), (18, (0, 1, 1, [])), (19, (2, 0, 0, [14])), (20, (0, -40000000, 690000000, [])), (21, (0, -900000, 900000, [])), (22, (0, 1, 24, []))], [(6, [22, 11], [1]), (20, [10], [50, 0, 0, 2, 6, 0, 2, 0, 1, 1, 0, 0, 2, 1, 0, 0, 2]), (20, [7, 9, 4], [60, 0, 1, 891, 1]), (24, [0, 7], []), (24, [1, 8], []), (100, [19, 11, 21], []), (1, [21, 20, 10], []), (10, [20, 19, 11], []), (9, [19, 8], [2]), (8, [18], [1]), (12, [18, 16], [2]), (16, [18, 16, 17], [0]), (16, [16, 15, 11], [4]), (10, [15, 14, 9], []), (9, [14, 7], [4]), (7, [11, 13], [2]), (9, [13, 12], [5]), (20, [7, 8, 4, 5, 6, 11], [60, 0, 4, 887, 1, 4, 1002, 1003]), (20, [10], [50, 0, 0, 2, 6, 0, 2, 0, 1, 1, 0, 0, 2, 1, 0, 0, 2]), (20, [7, 9, 4], [60, 0, 1, 891, 1])], [], [], [(20, [7, 8, 4, 5, 6, 22], [60, 0, 4, 887, 1, 4, 1002, 1003])], [], [(22, 11, 1, 1), (22, 13, -4294967296, 0), (21, 20, 1, 2), (11, 13, -4294967296, -1)])
theorem oo_Pn_shiftUnder_4 {kA : Nat → ClassId} : or_ok PRD kA GG o_Pn_shiftUnder_4 := by
  refine or_mk fun A ta ws vs hD hth hl => ?_
  intro t0 r0 t1 r1 t4 k4 t5 k5 t6 k6 t9 k9 t10 k10 t11 k11 t12 r12 t13 k13 t15 k15 t16 k16 t17 k17 t18 k18 t19 r19 t20 k20 t21 k21 t22 k22 d0 d1 d2 d3 f0 f1 f2 f3 f4 ta1 w1 le1 s1 f6 f7 f8 f9 f10 f11 f12 f13 f14 f15 f16 f17 f18 f19
  replace f0 := shm_4 f0
  replace f1 := shm_432 f1
  replace f2 := shm_433 f2
  replace f3 := shm_5 f3
  replace f4 := shm_5 f4
  have s1 : (∀ b j, w_el ws b j = if b = v_ad (n_v vs 19) ∧ j = (v_iv (n_v vs 11)).toNat then v_iv (n_v vs 21) else w_el w1 b j) ∧ ∀ b k, w_fd ws b k = w_fd w1 b k := s1.2
  replace f6 := shm_12 f6
  replace f7 := shm_107 f7
  replace f8 := shm_120 f8
  replace f9 := shm_142 f9
  replace f10 := shm_364 f10
  replace f11 := shm_11 f11
  replace f12 := shm_13 f12
  replace f13 := shm_107 f13
  replace f14 := shm_108 f14
  replace f15 := shm_6 f15
  replace f16 := shm_110 f16
  replace f17 := shm_434 f17
  replace f18 := shm_432 f18
  replace f19 := shm_433 f19
  have q7 : n_v vs 7 = n_v vs 0 := f3.symm
  have q8 : n_v vs 8 = n_v vs 1 := f4.symm
  simp only [q7, q8] at f2 f8 f14 f17 f19
  have ar_0_1_1 : w_ar w1 (n_v vs 0) 1 = w_ar ws (n_v vs 0) 1 := congrArg v_ad (s1.2 _ _).symm
  have cr_0_1 := fdq_92 hD hth r0
  have ar_0_4_1 : w_ar w1 (n_v vs 0) 4 = w_ar ws (n_v vs 0) 4 := congrArg v_ad (s1.2 _ _).symm
  have cr_0_4 := fdq_93 hD hth r0
  have ar_1_2_1 : w_ar w1 (n_v vs 1) 2 = w_ar ws (n_v vs 1) 2 := congrArg v_ad (s1.2 _ _).symm
  have cr_1_2 := fdq_45 hD hth r1
  have ar_1_3_1 : w_ar w1 (n_v vs 1) 3 = w_ar ws (n_v vs 1) 3 := congrArg v_ad (s1.2 _ _).symm
  have cr_1_3 := fdq_48 hD hth r1
  have ad_19 : v_ad (n_v vs 19) = w_ar ws (n_v vs 1) 2 := (congrArg v_ad f8).trans ar_1_2_1
  have ad_14 : v_ad (n_v vs 14) = w_ar ws (n_v vs 0) 4 := (congrArg v_ad f14).trans ar_0_4_1
  simp only [ad_19] at f7
  have h7 : v_iv (n_v vs 20) = w_ei w1 (w_ar ws (n_v vs 1) 2) (v_iv (n_v vs 11)) := f7
  simp only [ad_14] at f13
  have h13 : v_iv (n_v vs 15) = w_ei w1 (w_ar ws (n_v vs 0) 4) (v_iv (n_v vs 9)) := f13
  have g16 : v_iv (n_v vs 13) = w_fi w1 (n_v vs 12) 5 := congrArg v_iv f16
  simp only [ar_0_1_1, ar_0_4_1, ar_1_2_1, ar_1_3_1] at f17 f19
  have fe_12_5_1 : w_fi ws (n_v vs 12) 5 = w_fi w1 (n_v vs 12) 5 := congrArg v_iv (s1.2 _ _)
  have hE_0_1_1 : ∀ j : Int, w_ei ws (w_ar ws (n_v vs 0) 1) j = w_ei w1 (w_ar ws (n_v vs 0) 1) j := el_kp s1.1 r19 cr_0_1 (by decide)
  have hK_0_1 := elq_48 hD hth cr_0_1
  have hE_0_4_1 : ∀ j : Int, w_ei ws (w_ar ws (n_v vs 0) 4) j = w_ei w1 (w_ar ws (n_v vs 0) 4) j := el_kp s1.1 r19 cr_0_4 (by decide)
  have hK_0_4 := elq_49 hD hth cr_0_4
  have hE_1_2_1 : ∀ j : Int, 0 ≤ j → (j = v_iv (n_v vs 11) → w_ei ws (w_ar ws (n_v vs 1) 2) j = v_iv (n_v vs 21)) ∧ (j ≠ v_iv (n_v vs 11) → w_ei ws (w_ar ws (n_v vs 1) 2) j = w_ei w1 (w_ar ws (n_v vs 1) 2) j) := fun j hj => ⟨fun h => by unfold w_ei; rw [s1.1, if_pos ⟨ad_19.symm, by rw [h]⟩], fun h => by unfold w_ei; rw [s1.1, if_neg (fun e => h (by have := e.2; omega))]⟩
  have hK_1_2 := elq_10 hD hth cr_1_2
  have hE_1_3_1 : ∀ j : Int, w_ei ws (w_ar ws (n_v vs 1) 3) j = w_ei w1 (w_ar ws (n_v vs 1) 3) j := el_kp s1.1 r19 cr_1_3 (by decide)
  have hK_1_3 := elq_13 hD hth cr_1_3
  have kz_12_5 := fdq_94 hD hth r12
  have nf0 : fc_1 PRD (20, [7, 8, 4, 5, 6, 22], [60, 0, 4, 887, 1, 4, 1002, 1003]) ws (vs) := by
    refine ⟨nf_in hl rfl, sgq_434 ?_⟩
    · show COS (w_ei ws (w_ar ws (n_v vs 7) 1)) (w_ei ws (w_ar ws (n_v vs 7) 4)) (w_ei ws (w_ar ws (n_v vs 8) 2)) (w_ei ws (w_ar ws (n_v vs 8) 3)) (v_iv (n_v vs 4)) (v_iv (n_v vs 5)) (v_iv (n_v vs 6)) (v_iv (n_v vs 22))
      simp only [q7, q8]
      exact vc_Pn_shiftUnder_4_0 (v_iv (n_v vs 4)) (v_iv (n_v vs 5)) (v_iv (n_v vs 6)) (v_iv (n_v vs 9)) (v_iv (n_v vs 10)) (v_iv (n_v vs 11)) (v_iv (n_v vs 13)) (v_iv (n_v vs 15)) (v_iv (n_v vs 16)) (v_iv (n_v vs 17)) (v_iv (n_v vs 18)) (v_iv (n_v vs 20)) (v_iv (n_v vs 21)) (v_iv (n_v vs 22)) (w_ei ws (w_ar ws (n_v vs 0) 1)) (w_ei w1 (w_ar ws (n_v vs 1) 2)) (w_ei w1 (w_ar ws (n_v vs 0) 4)) (w_fi w1 (n_v vs 12) 5) (w_ei w1 (w_ar ws (n_v vs 0) 1)) (w_ei w1 (w_ar ws (n_v vs 1) 3)) (w_fi ws (n_v vs 12) 5) (w_ei ws (w_ar ws (n_v vs 0) 4)) (w_ei ws (w_ar ws (n_v vs 1) 2)) (w_ei ws (w_ar ws (n_v vs 1) 3)) k4 k5 k6 k9 k10 k11 k13 k15 k16 k17 k18 k20 k21 k22 d0 d1 d2 d3 f0 f1 f2 f6 h7 f9 f10 f11 f12 h13 f15 g16 f17 f18 f19 fe_12_5_1 hE_0_1_1 hK_0_1 hE_0_4_1 hK_0_4 hE_1_2_1 hK_1_2 hE_1_3_1 hK_1_3 kz_12_5
  refine ⟨(fun _ h => (by cases h)), [], trivial, ?_, (fun _ h => (by cases h))⟩
  rw [List.append_nil]
  exact List.forall_mem_cons.mpr ⟨⟨show (20 : Nat) < 100 from by decide, nf0⟩, (fun _ h => (by cases h))⟩
def n_Pn_shiftUnder_an : List an_T := [(3, [(0, (2, 0, 0, [7])), (1, (2, 0, 0, [0])), (2, (0, 0, 23, [])), (3, (0, 1, 2, [])), (4, (0, 0, 24, []))], [], (0, 0), [(0, 0, 99997), (1, 11, 24), (0, 0, 100000)], [(2, 9, (Int.negSucc 999999999999), 0), (3, 10, (Int.negSucc 999999999999), 0), (9, 2, (Int.negSucc 999999999999), 0), (10, 3, (Int.negSucc 999999999999), 0)], [], [(2, 0, 0, [7]), (2, 0, 0, [0]), (0, 0, 23, []), (0, 1, 2, []), (0, 3, 23, []), (0, 1, 23, []), (0, 0, 23, [])], 0, [], [(20, [7, 8, 4, 5, 6, 11], [60, 0, 4, 887, 1, 4, 1002, 1003]), (20, [10], [50, 0, 0, 2, 6, 0, 2, 0, 1, 1, 0, 0, 2, 1, 0, 0, 2]), (20, [7, 9, 4], [60, 0, 1, 891, 1]), (24, [0, 7], []), (24, [1, 8], [])])]
def t_Pn_shiftUnder_ct : ct_L := []
set_option maxRecDepth 100000 in
theorem c_Pn_shiftUnder {l : Launch} {D : va_G} {kA : Nat → ClassId} : ct_ok PRD l D kA GG y_Pn_shiftUnder z_Pn_shiftUnder e_Pn_shiftUnder := chk_all_ok (FT := [(12, 7, 0), (29, 7, 4), (86, 5, 5), (177, 0, 2)]) (PT := []) (CT := t_Pn_shiftUnder_ct) (KT := []) (NT := []) (AN := n_Pn_shiftUnder_an) (OT := [o_Pn_shiftUnder_0, o_Pn_shiftUnder_1, o_Pn_shiftUnder_2, o_Pn_shiftUnder_3, o_Pn_shiftUnder_4]) 3 200 (List.forall_mem_cons.mpr ⟨oo_Pn_shiftUnder_0, List.forall_mem_cons.mpr ⟨oo_Pn_shiftUnder_1, List.forall_mem_cons.mpr ⟨oo_Pn_shiftUnder_2, List.forall_mem_cons.mpr ⟨oo_Pn_shiftUnder_3, List.forall_mem_cons.mpr ⟨oo_Pn_shiftUnder_4, List.forall_mem_nil _⟩⟩⟩⟩⟩) (by decide +kernel) ⟨List.forall_mem_cons.mpr ⟨gf_Pn_12, List.forall_mem_cons.mpr ⟨gf_Pn_29, List.forall_mem_cons.mpr ⟨gf_Pn_86, List.forall_mem_cons.mpr ⟨gf_Pn_177, List.forall_mem_nil _⟩⟩⟩⟩, List.forall_mem_nil _, List.forall_mem_nil _, List.forall_mem_nil _, List.forall_mem_nil _, GG_pl⟩ (by decide +kernel)

set_option maxHeartbeats 4000000 in
theorem vc_Re_append_at_g1_0_r0 (x2 : Int) (x6 : Int) (length_0 : Int) (tape_0 : Int → Int) (tape_0o3 : Int → Int) (k2 : 0 ≤ x2 ∧ x2 ≤ 1996) (k6 : 0 ≤ x6 ∧ x6 ≤ 2000) (g0 : x6 = length_0) (f2 : 1 * length_0 + ((-1) * x2 + 0) ≤ 0) (f3 : (-1) * length_0 + (1 * x2 + 0) ≤ 0) (hK_0_0 : ∀ j : Int, 0 ≤ j → j < 2000 → (-128) ≤ tape_0 j ∧ tape_0 j ≤ 127) (hK_3_1 : ∀ j : Int, 0 ≤ j → j < 2000 → (-128) ≤ tape_0o3 j ∧ tape_0o3 j ≤ 127) (kz_0_1 : 0 ≤ length_0 ∧ length_0 ≤ 2000) : 0 ≤ x6 ∧ x6 ≤ 1999 := by
  first | with_reducible assumption | ((try and_intros) <;> first | with_reducible assumption | (clear hK_0_0 hK_3_1; omega)) | omega
def o_Re_append_at_g1_0 : or_T := (19, 9, [(0, (2, 0, 0, [8])), (2, (0, 0, 1996, [])), (3, (2, 0, 0, [165])), (5, (2, 0, 0, [109])), (6, (0, 0, 2000, []))], [(9, [6, 0], [1]), (9, [5, 0], [0]), (20, [0, 2], [30, 0, 1, 1, 1, -1, 0, 0]), (20, [0, 2], [30, 0, -1, 1, 1, 1, 0, 0]), (20, [0, 3], [60, 1, 2, 1101, 1, 0, 1001])], [(6, (0, 0, 1999, []))], [], [], [], [])
theorem oo_Re_append_at_g1_0 {kA : Nat → ClassId} : or_ok PRD kA GG o_Re_append_at_g1_0 := by
  refine or_mk fun A ta ws vs hD hth hl => ?_
  intro t0 r0 t2 k2 t3 r3 t5 r5 t6 k6 f0 f1 f2 f3 f4
  replace f0 := shm_215 f0
  have cr_0_0 := fdq_95 hD hth r0
  have cr_3_1 := fdq_39 hD hth r3
  have g0 : v_iv (n_v vs 6) = w_fi ws (n_v vs 0) 1 := congrArg v_iv f0
  have hK_0_0 := elq_33 hD hth cr_0_0
  have hK_3_1 := elq_7 hD hth cr_3_1
  have kz_0_1 := fdq_96 hD hth r0
  have hrf0 : 0 ≤ v_iv (n_v vs 6) ∧ v_iv (n_v vs 6) ≤ 1999 := vc_Re_append_at_g1_0_r0 (v_iv (n_v vs 2)) (v_iv (n_v vs 6)) (w_fi ws (n_v vs 0) 1) (w_ei ws (w_ar ws (n_v vs 0) 0)) (w_ei ws (w_ar ws (n_v vs 3) 1)) k2 k6 g0 (shm_436 f2) (shm_437 f3) hK_0_0 hK_3_1 kz_0_1
  have rf6 : tv_ok ta (0, 0, 1999, []) (n_v vs 6) := tv_in t6 (by first | omega | grind) (by first | omega | grind)
  refine ⟨List.forall_mem_cons.mpr ⟨rf6, (fun _ h => (by cases h))⟩, [], trivial, ?_, (fun _ h => (by cases h))⟩
  rw [List.append_nil]
  exact (fun _ h => (by cases h))
set_option maxHeartbeats 4000000 in
theorem vc_Re_append_at_g1_1_r0 (x2 : Int) (x6 : Int) (x8 : Int) (x10 : Int) (length_0 : Int) (length_1 : Int) (length_2 : Int) (tape_2 : Int → Int) (tape_2o3 : Int → Int) (tape_0 : Int → Int) (tape_1 : Int → Int) (tape_0o3 : Int → Int) (tape_1o3 : Int → Int) (k2 : 0 ≤ x2 ∧ x2 ≤ 1996) (k6 : 0 ≤ x6 ∧ x6 ≤ 1999) (k8 : (-128) ≤ x8 ∧ x8 ≤ 127) (k10 : 1 ≤ x10 ∧ x10 ≤ 2000) (d0 : x6 + 1 ≤ x10 ∧ x10 ≤ x6 + 1) (g2 : x10 = length_0) (g6 : x6 = length_1) (f7 : 1 * length_1 + ((-1) * x2 + 0) ≤ 0) (f8 : (-1) * length_1 + (1 * x2 + 0) ≤ 0) (fe_0_1_2 : length_1 = length_2) (hE_0_0_1 : ∀ j : Int, tape_0 j = tape_1 j) (hE_0_0_2 : ∀ j : Int, 0 ≤ j → (j = x6 → tape_1 j = x8) ∧ (j ≠ x6 → tape_1 j = tape_2 j)) (hK_0_0 : ∀ j : Int, 0 ≤ j → j < 2000 → (-128) ≤ tape_0 j ∧ tape_0 j ≤ 127) (hE_3_1_1 : ∀ j : Int, tape_0o3 j = tape_1o3 j) (hE_3_1_2 : ∀ j : Int, tape_1o3 j = tape_2o3 j) (hK_3_1 : ∀ j : Int, 0 ≤ j → j < 2000 → (-128) ≤ tape_0o3 j ∧ tape_0o3 j ≤ 127) (kz_0_1 : 0 ≤ length_0 ∧ length_0 ≤ 2000) : 1 ≤ x10 ∧ x10 ≤ 1999 := by
  subst fe_0_1_2
  have e_hE_0_0_1 := funext hE_0_0_1; subst e_hE_0_0_1
  have e_hE_3_1_1 := funext hE_3_1_1; subst e_hE_3_1_1
  have e_hE_3_1_2 := funext hE_3_1_2; subst e_hE_3_1_2
  first | with_reducible assumption | ((try and_intros) <;> first | with_reducible assumption | (clear hE_0_0_1 hE_0_0_2 hK_0_0 hE_3_1_1 hE_3_1_2 hK_3_1; omega)) | omega
def o_Re_append_at_g1_1 : or_T := (19, 14, [(0, (2, 0, 0, [8])), (1, (0, -2147483648, 2147483647, [])), (2, (0, 0, 1996, [])), (3, (2, 0, 0, [165])), (5, (2, 0, 0, [109])), (6, (0, 0, 1999, [])), (7, (0, -2147483648, 2147483647, [])), (8, (0, -128, 127, [])), (9, (0, 1, 1, [])), (10, (0, 1, 2000, [])), (12, (0, -2147483648, 2147483647, [])), (13, (0, -128, 127, []))], [(17, [13, 12], []), (11, [12, 1], [65536]), (9, [10, 0], [1]), (9, [5, 0], [0]), (101, [0, 10], [1]), (1, [10, 6, 9], []), (9, [6, 0], [1]), (20, [0, 2], [30, 0, 1, 1, 1, -1, 0, 0]), (20, [0, 2], [30, 0, -1, 1, 1, 1, 0, 0]), (100, [5, 6, 8], []), (17, [8, 7], []), (11, [7, 1], [16777216]), (20, [0, 2], [30, 0, 1, 1, 1, -1, 0, 0]), (20, [0, 2], [30, 0, -1, 1, 1, 1, 0, 0]), (20, [0, 3], [60, 1, 2, 1101, 1, 0, 1001])], [(10, (0, 1, 1999, []))], [], [], [], [(10, 6, 1, 1)])
theorem oo_Re_append_at_g1_1 {kA : Nat → ClassId} : or_ok PRD kA GG o_Re_append_at_g1_1 := by
  refine or_mk fun A ta ws vs hD hth hl => ?_
  intro t0 r0 t1 k1 t2 k2 t3 r3 t5 r5 t6 k6 t7 k7 t8 k8 t9 k9 t10 k10 t12 k12 t13 k13 d0 f0 f1 f2 f3 ta1 w1 le1 s1 f5 f6 f7 f8 ta2 w2 le2 s2 f10 f11 f12 f13 f14
  replace f2 := shm_215 f2
  replace f3 := shm_163 f3
  have s1 : (∀ b j, w_el ws b j = w_el w1 b j) ∧ ∀ b j, w_fd ws b j = if b = v_ad (n_v vs 0) ∧ j = 1 then n_v vs 10 else w_fd w1 b j := s1.2
  replace f6 := shm_215 f6
  have s2 : (∀ b j, w_el w1 b j = if b = v_ad (n_v vs 5) ∧ j = (v_iv (n_v vs 6)).toNat then v_iv (n_v vs 8) else w_el w2 b j) ∧ ∀ b k, w_fd w1 b k = w_fd w2 b k := s2.2
  have cr_0_0 := fdq_95 hD hth r0
  have cr_3_1 := fdq_39 hD hth r3
  have ad_5 : v_ad (n_v vs 5) = w_ar ws (n_v vs 0) 0 := congrArg v_ad f3
  have g2 : v_iv (n_v vs 10) = w_fi ws (n_v vs 0) 1 := congrArg v_iv f2
  have g6 : v_iv (n_v vs 6) = w_fi w1 (n_v vs 0) 1 := congrArg v_iv f6
  have fe_0_1_2 : w_fi w1 (n_v vs 0) 1 = w_fi w2 (n_v vs 0) 1 := congrArg v_iv (s2.2 _ _)
  have hE_0_0_1 : ∀ j : Int, w_ei ws (w_ar ws (n_v vs 0) 0) j = w_ei w1 (w_ar ws (n_v vs 0) 0) j := fun j => s1.1 _ _
  have hE_0_0_2 : ∀ j : Int, 0 ≤ j → (j = v_iv (n_v vs 6) → w_ei w1 (w_ar ws (n_v vs 0) 0) j = v_iv (n_v vs 8)) ∧ (j ≠ v_iv (n_v vs 6) → w_ei w1 (w_ar ws (n_v vs 0) 0) j = w_ei w2 (w_ar ws (n_v vs 0) 0) j) := fun j hj => ⟨fun h => by unfold w_ei; rw [s2.1, if_pos ⟨ad_5.symm, by rw [h]⟩], fun h => by unfold w_ei; rw [s2.1, if_neg (fun e => h (by have := e.2; omega))]⟩
  have hK_0_0 := elq_33 hD hth cr_0_0
  have hE_3_1_1 : ∀ j : Int, w_ei ws (w_ar ws (n_v vs 3) 1) j = w_ei w1 (w_ar ws (n_v vs 3) 1) j := fun j => s1.1 _ _
  have hE_3_1_2 : ∀ j : Int, w_ei w1 (w_ar ws (n_v vs 3) 1) j = w_ei w2 (w_ar ws (n_v vs 3) 1) j := el_kp s2.1 r5 cr_3_1 (by decide)
  have hK_3_1 := elq_7 hD hth cr_3_1
  have kz_0_1 := fdq_96 hD hth r0
  have hrf0 : 1 ≤ v_iv (n_v vs 10) ∧ v_iv (n_v vs 10) ≤ 1999 := vc_Re_append_at_g1_1_r0 (v_iv (n_v vs 2)) (v_iv (n_v vs 6)) (v_iv (n_v vs 8)) (v_iv (n_v vs 10)) (w_fi ws (n_v vs 0) 1) (w_fi w1 (n_v vs 0) 1) (w_fi w2 (n_v vs 0) 1) (w_ei w2 (w_ar ws (n_v vs 0) 0)) (w_ei w2 (w_ar ws (n_v vs 3) 1)) (w_ei ws (w_ar ws (n_v vs 0) 0)) (w_ei w1 (w_ar ws (n_v vs 0) 0)) (w_ei ws (w_ar ws (n_v vs 3) 1)) (w_ei w1 (w_ar ws (n_v vs 3) 1)) k2 k6 k8 k10 d0 g2 g6 (shm_436 f7) (shm_437 f8) fe_0_1_2 hE_0_0_1 hE_0_0_2 hK_0_0 hE_3_1_1 hE_3_1_2 hK_3_1 kz_0_1
  have rf10 : tv_ok ta (0, 1, 1999, []) (n_v vs 10) := tv_in t10 (by first | omega | grind) (by first | omega | grind)
  refine ⟨List.forall_mem_cons.mpr ⟨rf10, (fun _ h => (by cases h))⟩, [], trivial, ?_, (fun _ h => (by cases h))⟩
  rw [List.append_nil]
  exact (fun _ h => (by cases h))
set_option maxHeartbeats 4000000 in
theorem vc_Re_append_at_g1_2_r0 (x2 : Int) (x6 : Int) (x8 : Int) (x10 : Int) (x13 : Int) (x15 : Int) (length_0 : Int) (length_1 : Int) (length_3 : Int) (length_4 : Int) (tape_4 : Int → Int) (tape_4o3 : Int → Int) (length_2 : Int) (tape_0 : Int → Int) (tape_1 : Int → Int) (tape_2 : Int → Int) (tape_3 : Int → Int) (tape_0o3 : Int → Int) (tape_1o3 : Int → Int) (tape_2o3 : Int → Int) (tape_3o3 : Int → Int) (k2 : 0 ≤ x2 ∧ x2 ≤ 1996) (k6 : 0 ≤ x6 ∧ x6 ≤ 1999) (k8 : (-128) ≤ x8 ∧ x8 ≤ 127) (k10 : 1 ≤ x10 ∧ x10 ≤ 1999) (k13 : (-128) ≤ x13 ∧ x13 ≤ 127) (k15 : 2 ≤ x15 ∧ x15 ≤ 2000) (d0 : x10 + 1 ≤ x15 ∧ x15 ≤ x10 + 1) (d1 : x6 + 2 ≤ x15 ∧ x15 ≤ x6 + 2) (g2 : x15 = length_0) (g6 : x10 = length_1) (g12 : x6 = length_3) (f13 : 1 * length_3 + ((-1) * x2 + 0) ≤ 0) (f14 : (-1) * length_3 + (1 * x2 + 0) ≤ 0) (fe_0_1_2 : length_1 = length_2) (fe_0_1_4 : length_3 = length_4) (hE_0_0_1 : ∀ j : Int, tape_0 j = tape_1 j) (hE_0_0_2 : ∀ j : Int, 0 ≤ j → (j = x10 → tape_1 j = x13) ∧ (j ≠ x10 → tape_1 j = tape_2 j)) (hE_0_0_3 : ∀ j : Int, tape_2 j = tape_3 j) (hE_0_0_4 : ∀ j : Int, 0 ≤ j → (j = x6 → tape_3 j = x8) ∧ (j ≠ x6 → tape_3 j = tape_4 j)) (hK_0_0 : ∀ j : Int, 0 ≤ j → j < 2000 → (-128) ≤ tape_0 j ∧ tape_0 j ≤ 127) (hE_3_1_1 : ∀ j : Int, tape_0o3 j = tape_1o3 j) (hE_3_1_2 : ∀ j : Int, tape_1o3 j = tape_2o3 j) (hE_3_1_3 : ∀ j : Int, tape_2o3 j = tape_3o3 j) (hE_3_1_4 : ∀ j : Int, tape_3o3 j = tape_4o3 j) (hK_3_1 : ∀ j : Int, 0 ≤ j → j < 2000 → (-128) ≤ tape_0o3 j ∧ tape_0o3 j ≤ 127) (kz_0_1 : 0 ≤ length_0 ∧ length_0 ≤ 2000) : 2 ≤ x15 ∧ x15 ≤ 1999 := by
  subst fe_0_1_2
  subst fe_0_1_4
  have e_hE_0_0_1 := funext hE_0_0_1; subst e_hE_0_0_1
  have e_hE_0_0_3 := funext hE_0_0_3; subst e_hE_0_0_3
  have e_hE_3_1_1 := funext hE_3_1_1; subst e_hE_3_1_1
  have e_hE_3_1_2 := funext hE_3_1_2; subst e_hE_3_1_2
  have e_hE_3_1_3 := funext hE_3_1_3; subst e_hE_3_1_3
  have e_hE_3_1_4 := funext hE_3_1_4; subst e_hE_3_1_4
  first | with_reducible assumption | ((try and_intros) <;> first | with_reducible assumption | (clear hE_0_0_1 hE_0_0_2 hE_0_0_3 hE_0_0_4 hK_0_0 hE_3_1_1 hE_3_1_2 hE_3_1_3 hE_3_1_4 hK_3_1; omega)) | omega
def o_Re_append_at_g1_2 : or_T := (19, 19, [(0, (2, 0, 0, [8])), (1, (0, -2147483648, 2147483647, [])), (2, (0, 0, 1996, [])), (3, (2, 0, 0, [165])), (5, (2, 0, 0, [109])), (6, (0, 0, 1999, [])), (7, (0, -2147483648, 2147483647, [])), (8, (0, -128, 127, [])), (9, (0, 1, 1, [])), (10, (0, 1, 1999, [])), (12, (0, -2147483648, 2147483647, [])), (13, (0, -128, 127, [])), (14, (0, 1, 1, [])), (15, (0, 2, 2000, [])), (17, (0, -2147483648, 2147483647, [])), (18, (0, -128, 127, []))], [(17, [18, 17], []), (11, [17, 1], [256]), (9, [15, 0], [1]), (9, [5, 0], [0]), (101, [0, 15], [1]), (1, [15, 10, 14], []), (9, [10, 0], [1]), (100, [5, 10, 13], []), (17, [13, 12], []), (11, [12, 1], [65536]), (101, [0, 10], [1]), (1, [10, 6, 9], []), (9, [6, 0], [1]), (20, [0, 2], [30, 0, 1, 1, 1, -1, 0, 0]), (20, [0, 2], [30, 0, -1, 1, 1, 1, 0, 0]), (100, [5, 6, 8], []), (17, [8, 7], []), (11, [7, 1], [16777216]), (20, [0, 2], [30, 0, 1, 1, 1, -1, 0, 0]), (20, [0, 2], [30, 0, -1, 1, 1, 1, 0, 0]), (20, [0, 3], [60, 1, 2, 1101, 1, 0, 1001])], [(15, (0, 2, 1999, []))], [], [], [], [(15, 10, 1, 1), (15, 6, 2, 2), (10, 6, 1, 1)])
theorem oo_Re_append_at_g1_2 {kA : Nat → ClassId} : or_ok PRD kA GG o_Re_append_at_g1_2 := by
  refine or_mk fun A ta ws vs hD hth hl => ?_
  intro t0 r0 t1 k1 t2 k2 t3 r3 t5 r5 t6 k6 t7 k7 t8 k8 t9 k9 t10 k10 t12 k12 t13 k13 t14 k14 t15 k15 t17 k17 t18 k18 d0 d1 d2 f0 f1 f2 f3 ta1 w1 le1 s1 f5 f6 ta2 w2 le2 s2 f8 f9 ta3 w3 le3 s3 f11 f12 f13 f14 ta4 w4 le4 s4 f16 f17 f18 f19 f20
  replace f2 := shm_215 f2
  replace f3 := shm_163 f3
  have s1 : (∀ b j, w_el ws b j = w_el w1 b j) ∧ ∀ b j, w_fd ws b j = if b = v_ad (n_v vs 0) ∧ j = 1 then n_v vs 15 else w_fd w1 b j := s1.2
  replace f6 := shm_215 f6
  have s2 : (∀ b j, w_el w1 b j = if b = v_ad (n_v vs 5) ∧ j = (v_iv (n_v vs 10)).toNat then v_iv (n_v vs 13) else w_el w2 b j) ∧ ∀ b k, w_fd w1 b k = w_fd w2 b k := s2.2
  have s3 : (∀ b j, w_el w2 b j = w_el w3 b j) ∧ ∀ b j, w_fd w2 b j = if b = v_ad (n_v vs 0) ∧ j = 1 then n_v vs 10 else w_fd w3 b j := s3.2
  replace f12 := shm_215 f12
  have s4 : (∀ b j, w_el w3 b j = if b = v_ad (n_v vs 5) ∧ j = (v_iv (n_v vs 6)).toNat then v_iv (n_v vs 8) else w_el w4 b j) ∧ ∀ b k, w_fd w3 b k = w_fd w4 b k := s4.2
  have cr_0_0 := fdq_95 hD hth r0
  have cr_3_1 := fdq_39 hD hth r3
  have ad_5 : v_ad (n_v vs 5) = w_ar ws (n_v vs 0) 0 := congrArg v_ad f3
  have g2 : v_iv (n_v vs 15) = w_fi ws (n_v vs 0) 1 := congrArg v_iv f2
  have g6 : v_iv (n_v vs 10) = w_fi w1 (n_v vs 0) 1 := congrArg v_iv f6
  have g12 : v_iv (n_v vs 6) = w_fi w3 (n_v vs 0) 1 := congrArg v_iv f12
  have fe_0_1_2 : w_fi w1 (n_v vs 0) 1 = w_fi w2 (n_v vs 0) 1 := congrArg v_iv (s2.2 _ _)
  have fe_0_1_4 : w_fi w3 (n_v vs 0) 1 = w_fi w4 (n_v vs 0) 1 := congrArg v_iv (s4.2 _ _)
  have hE_0_0_1 : ∀ j : Int, w_ei ws (w_ar ws (n_v vs 0) 0) j = w_ei w1 (w_ar ws (n_v vs 0) 0) j := fun j => s1.1 _ _
  have hE_0_0_2 : ∀ j : Int, 0 ≤ j → (j = v_iv (n_v vs 10) → w_ei w1 (w_ar ws (n_v vs 0) 0) j = v_iv (n_v vs 13)) ∧ (j ≠ v_iv (n_v vs 10) → w_ei w1 (w_ar ws (n_v vs 0) 0) j = w_ei w2 (w_ar ws (n_v vs 0) 0) j) := fun j hj => ⟨fun h => by unfold w_ei; rw [s2.1, if_pos ⟨ad_5.symm, by rw [h]⟩], fun h => by unfold w_ei; rw [s2.1, if_neg (fun e => h (by have := e.2; omega))]⟩
  have hE_0_0_3 : ∀ j : Int, w_ei w2 (w_ar ws (n_v vs 0) 0) j = w_ei w3 (w_ar ws (n_v vs 0) 0) j := fun j => s3.1 _ _
  have hE_0_0_4 : ∀ j : Int, 0 ≤ j → (j = v_iv (n_v vs 6) → w_ei w3 (w_ar ws (n_v vs 0) 0) j = v_iv (n_v vs 8)) ∧ (j ≠ v_iv (n_v vs 6) → w_ei w3 (w_ar ws (n_v vs 0) 0) j = w_ei w4 (w_ar ws (n_v vs 0) 0) j) := fun j hj => ⟨fun h => by unfold w_ei; rw [s4.1, if_pos ⟨ad_5.symm, by rw [h]⟩], fun h => by unfold w_ei; rw [s4.1, if_neg (fun e => h (by have := e.2; omega))]⟩
  have hK_0_0 := elq_33 hD hth cr_0_0
  have hE_3_1_1 : ∀ j : Int, w_ei ws (w_ar ws (n_v vs 3) 1) j = w_ei w1 (w_ar ws (n_v vs 3) 1) j := fun j => s1.1 _ _
  have hE_3_1_2 : ∀ j : Int, w_ei w1 (w_ar ws (n_v vs 3) 1) j = w_ei w2 (w_ar ws (n_v vs 3) 1) j := el_kp s2.1 r5 cr_3_1 (by decide)
  have hE_3_1_3 : ∀ j : Int, w_ei w2 (w_ar ws (n_v vs 3) 1) j = w_ei w3 (w_ar ws (n_v vs 3) 1) j := fun j => s3.1 _ _
  have hE_3_1_4 : ∀ j : Int, w_ei w3 (w_ar ws (n_v vs 3) 1) j = w_ei w4 (w_ar ws (n_v vs 3) 1) j := el_kp s4.1 r5 cr_3_1 (by decide)
  have hK_3_1 := elq_7 hD hth cr_3_1
  have kz_0_1 := fdq_96 hD hth r0
  have hrf0 : 2 ≤ v_iv (n_v vs 15) ∧ v_iv (n_v vs 15) ≤ 1999 := vc_Re_append_at_g1_2_r0 (v_iv (n_v vs 2)) (v_iv (n_v vs 6)) (v_iv (n_v vs 8)) (v_iv (n_v vs 10)) (v_iv (n_v vs 13)) (v_iv (n_v vs 15)) (w_fi ws (n_v vs 0) 1) (w_fi w1 (n_v vs 0) 1) (w_fi w3 (n_v vs 0) 1) (w_fi w4 (n_v vs 0) 1) (w_ei w4 (w_ar ws (n_v vs 0) 0)) (w_ei w4 (w_ar ws (n_v vs 3) 1)) (w_fi w2 (n_v vs 0) 1) (w_ei ws (w_ar ws (n_v vs 0) 0)) (w_ei w1 (w_ar ws (n_v vs 0) 0)) (w_ei w2 (w_ar ws (n_v vs 0) 0)) (w_ei w3 (w_ar ws (n_v vs 0) 0)) (w_ei ws (w_ar ws (n_v vs 3) 1)) (w_ei w1 (w_ar ws (n_v vs 3) 1)) (w_ei w2 (w_ar ws (n_v vs 3) 1)) (w_ei w3 (w_ar ws (n_v vs 3) 1)) k2 k6 k8 k10 k13 k15 d0 d1 g2 g6 g12 (shm_436 f13) (shm_437 f14) fe_0_1_2 fe_0_1_4 hE_0_0_1 hE_0_0_2 hE_0_0_3 hE_0_0_4 hK_0_0 hE_3_1_1 hE_3_1_2 hE_3_1_3 hE_3_1_4 hK_3_1 kz_0_1
  have rf15 : tv_ok ta (0, 2, 1999, []) (n_v vs 15) := tv_in t15 (by first | omega | grind) (by first | omega | grind)
  refine ⟨List.forall_mem_cons.mpr ⟨rf15, (fun _ h => (by cases h))⟩, [], trivial, ?_, (fun _ h => (by cases h))⟩
  rw [List.append_nil]
  exact (fun _ h => (by cases h))
set_option maxHeartbeats 4000000 in
theorem vc_Re_append_at_g1_3_r0 (x2 : Int) (x6 : Int) (x8 : Int) (x10 : Int) (x13 : Int) (x15 : Int) (x18 : Int) (x20 : Int) (length_0 : Int) (length_1 : Int) (length_3 : Int) (length_5 : Int) (length_6 : Int) (tape_6 : Int → Int) (tape_6o3 : Int → Int) (length_2 : Int) (length_4 : Int) (tape_0 : Int → Int) (tape_1 : Int → Int) (tape_2 : Int → Int) (tape_3 : Int → Int) (tape_4 : Int → Int) (tape_5 : Int → Int) (tape_0o3 : Int → Int) (tape_1o3 : Int → Int) (tape_2o3 : Int → Int) (tape_3o3 : Int → Int) (tape_4o3 : Int → Int) (tape_5o3 : Int → Int) (k2 : 0 ≤ x2 ∧ x2 ≤ 1996) (k6 : 0 ≤ x6 ∧ x6 ≤ 1999) (k8 : (-128) ≤ x8 ∧ x8 ≤ 127) (k10 : 1 ≤ x10 ∧ x10 ≤ 1999) (k13 : (-128) ≤ x13 ∧ x13 ≤ 127) (k15 : 2 ≤ x15 ∧ x15 ≤ 1999) (k18 : (-128) ≤ x18 ∧ x18 ≤ 127) (k20 : 3 ≤ x20 ∧ x20 ≤ 2000) (d0 : x15 + 1 ≤ x20 ∧ x20 ≤ x15 + 1) (d1 : x10 + 2 ≤ x20 ∧ x20 ≤ x10 + 2) (d2 : x6 + 3 ≤ x20 ∧ x20 ≤ x6 + 3) (g2 : x20 = length_0) (g6 : x15 = length_1) (g12 : x10 = length_3) (g18 : x6 = length_5) (f19 : 1 * length_5 + ((-1) * x2 + 0) ≤ 0) (f20 : (-1) * length_5 + (1 * x2 + 0) ≤ 0) (fe_0_1_2 : length_1 = length_2) (fe_0_1_4 : length_3 = length_4) (fe_0_1_6 : length_5 = length_6) (hE_0_0_1 : ∀ j : Int, tape_0 j = tape_1 j) (hE_0_0_2 : ∀ j : Int, 0 ≤ j → (j = x15 → tape_1 j = x18) ∧ (j ≠ x15 → tape_1 j = tape_2 j)) (hE_0_0_3 : ∀ j : Int, tape_2 j = tape_3 j) (hE_0_0_4 : ∀ j : Int, 0 ≤ j → (j = x10 → tape_3 j = x13) ∧ (j ≠ x10 → tape_3 j = tape_4 j)) (hE_0_0_5 : ∀ j : Int, tape_4 j = tape_5 j) (hE_0_0_6 : ∀ j : Int, 0 ≤ j → (j = x6 → tape_5 j = x8) ∧ (j ≠ x6 → tape_5 j = tape_6 j)) (hK_0_0 : ∀ j : Int, 0 ≤ j → j < 2000 → (-128) ≤ tape_0 j ∧ tape_0 j ≤ 127) (hE_3_1_1 : ∀ j : Int, tape_0o3 j = tape_1o3 j) (hE_3_1_2 : ∀ j : Int, tape_1o3 j = tape_2o3 j) (hE_3_1_3 : ∀ j : Int, tape_2o3 j = tape_3o3 j) (hE_3_1_4 : ∀ j : Int, tape_3o3 j = tape_4o3 j) (hE_3_1_5 : ∀ j : Int, tape_4o3 j = tape_5o3 j) (hE_3_1_6 : ∀ j : Int, tape_5o3 j = tape_6o3 j) (hK_3_1 : ∀ j : Int, 0 ≤ j → j < 2000 → (-128) ≤ tape_0o3 j ∧ tape_0o3 j ≤ 127) (kz_0_1 : 0 ≤ length_0 ∧ length_0 ≤ 2000) : 3 ≤ x20 ∧ x20 ≤ 1999 := by
  subst fe_0_1_2
  subst fe_0_1_4
  subst fe_0_1_6
  have e_hE_0_0_1 := funext hE_0_0_1; subst e_hE_0_0_1
  have e_hE_0_0_3 := funext hE_0_0_3; subst e_hE_0_0_3
  have e_hE_0_0_5 := funext hE_0_0_5; subst e_hE_0_0_5
  have e_hE_3_1_1 := funext hE_3_1_1; subst e_hE_3_1_1
  have e_hE_3_1_2 := funext hE_3_1_2; subst e_hE_3_1_2
  have e_hE_3_1_3 := funext hE_3_1_3; subst e_hE_3_1_3
  have e_hE_3_1_4 := funext hE_3_1_4; subst e_hE_3_1_4
  have e_hE_3_1_5 := funext hE_3_1_5; subst e_hE_3_1_5
  have e_hE_3_1_6 := funext hE_3_1_6; subst e_hE_3_1_6
  first | with_reducible assumption | ((try and_intros) <;> first | with_reducible assumption | (clear hE_0_0_1 hE_0_0_2 hE_0_0_3 hE_0_0_4 hE_0_0_5 hE_0_0_6 hK_0_0 hE_3_1_1 hE_3_1_2 hE_3_1_3 hE_3_1_4 hE_3_1_5 hE_3_1_6 hK_3_1; omega)) | omega
def o_Re_append_at_g1_3 : or_T := (19, 24, [(0, (2, 0, 0, [8])), (1, (0, -2147483648, 2147483647, [])), (2, (0, 0, 1996, [])), (3, (2, 0, 0, [165])), (5, (2, 0, 0, [109])), (6, (0, 0, 1999, [])), (7, (0, -2147483648, 2147483647, [])), (8, (0, -128, 127, [])), (9, (0, 1, 1, [])), (10, (0, 1, 1999, [])), (12, (0, -2147483648, 2147483647, [])), (13, (0, -128, 127, [])), (14, (0, 1, 1, [])), (15, (0, 2, 1999, [])), (17, (0, -2147483648, 2147483647, [])), (18, (0, -128, 127, [])), (19, (0, 1, 1, [])), (20, (0, 3, 2000, [])), (22, (0, -2147483648, 2147483647, [])), (23, (0, -128, 127, []))], [(17, [23, 22], []), (11, [22, 1], [1]), (9, [20, 0], [1]), (9, [5, 0], [0]), (101, [0, 20], [1]), (1, [20, 15, 19], []), (9, [15, 0], [1]), (100, [5, 15, 18], []), (17, [18, 17], []), (11, [17, 1], [256]), (101, [0, 15], [1]), (1, [15, 10, 14], []), (9, [10, 0], [1]), (100, [5, 10, 13], []), (17, [13, 12], []), (11, [12, 1], [65536]), (101, [0, 10], [1]), (1, [10, 6, 9], []), (9, [6, 0], [1]), (20, [0, 2], [30, 0, 1, 1, 1, -1, 0, 0]), (20, [0, 2], [30, 0, -1, 1, 1, 1, 0, 0]), (100, [5, 6, 8], []), (17, [8, 7], []), (11, [7, 1], [16777216]), (20, [0, 2], [30, 0, 1, 1, 1, -1, 0, 0]), (20, [0, 2], [30, 0, -1, 1, 1, 1, 0, 0]), (20, [0, 3], [60, 1, 2, 1101, 1, 0, 1001])], [(20, (0, 3, 1999, []))], [], [], [], [(20, 15, 1, 1), (20, 10, 2, 2), (20, 6, 3, 3), (15, 10, 1, 1), (15, 6, 2, 2), (10, 6, 1, 1)])
theorem oo_Re_append_at_g1_3 {kA : Nat → ClassId} : or_ok PRD kA GG o_Re_append_at_g1_3 := by
  refine or_mk fun A ta ws vs hD hth hl => ?_
  intro t0 r0 t1 k1 t2 k2 t3 r3 t5 r5 t6 k6 t7 k7 t8 k8 t9 k9 t10 k10 t12 k12 t13 k13 t14 k14 t15 k15 t17 k17 t18 k18 t19 k19 t20 k20 t22 k22 t23 k23 d0 d1 d2 d3 d4 d5 f0 f1 f2 f3 ta1 w1 le1 s1 f5 f6 ta2 w2 le2 s2 f8 f9 ta3 w3 le3 s3 f11 f12 ta4 w4 le4 s4 f14 f15 ta5 w5 le5 s5 f17 f18 f19 f20 ta6 w6 le6 s6 f22 f23 f24 f25 f26
  replace f2 := shm_215 f2
  replace f3 := shm_163 f3
  have s1 : (∀ b j, w_el ws b j = w_el w1 b j) ∧ ∀ b j, w_fd ws b j = if b = v_ad (n_v vs 0) ∧ j = 1 then n_v vs 20 else w_fd w1 b j := s1.2
  replace f6 := shm_215 f6
  have s2 : (∀ b j, w_el w1 b j = if b = v_ad (n_v vs 5) ∧ j = (v_iv (n_v vs 15)).toNat then v_iv (n_v vs 18) else w_el w2 b j) ∧ ∀ b k, w_fd w1 b k = w_fd w2 b k := s2.2
  have s3 : (∀ b j, w_el w2 b j = w_el w3 b j) ∧ ∀ b j, w_fd w2 b j = if b = v_ad (n_v vs 0) ∧ j = 1 then n_v vs 15 else w_fd w3 b j := s3.2
  replace f12 := shm_215 f12
  have s4 : (∀ b j, w_el w3 b j = if b = v_ad (n_v vs 5) ∧ j = (v_iv (n_v vs 10)).toNat then v_iv (n_v vs 13) else w_el w4 b j) ∧ ∀ b k, w_fd w3 b k = w_fd w4 b k := s4.2
  have s5 : (∀ b j, w_el w4 b j = w_el w5 b j) ∧ ∀ b j, w_fd w4 b j = if b = v_ad (n_v vs 0) ∧ j = 1 then n_v vs 10 else w_fd w5 b j := s5.2
  replace f18 := shm_215 f18
  have s6 : (∀ b j, w_el w5 b j = if b = v_ad (n_v vs 5) ∧ j = (v_iv (n_v vs 6)).toNat then v_iv (n_v vs 8) else w_el w6 b j) ∧ ∀ b k, w_fd w5 b k = w_fd w6 b k := s6.2
  have cr_0_0 := fdq_95 hD hth r0
  have cr_3_1 := fdq_39 hD hth r3
  have ad_5 : v_ad (n_v vs 5) = w_ar ws (n_v vs 0) 0 := congrArg v_ad f3
  have g2 : v_iv (n_v vs 20) = w_fi ws (n_v vs 0) 1 := congrArg v_iv f2
  have g6 : v_iv (n_v vs 15) = w_fi w1 (n_v vs 0) 1 := congrArg v_iv f6
  have g12 : v_iv (n_v vs 10) = w_fi w3 (n_v vs 0) 1 := congrArg v_iv f12
  have g18 : v_iv (n_v vs 6) = w_fi w5 (n_v vs 0) 1 := congrArg v_iv f18
  have fe_0_1_2 : w_fi w1 (n_v vs 0) 1 = w_fi w2 (n_v vs 0) 1 := congrArg v_iv (s2.2 _ _)
  have fe_0_1_4 : w_fi w3 (n_v vs 0) 1 = w_fi w4 (n_v vs 0) 1 := congrArg v_iv (s4.2 _ _)
  have fe_0_1_6 : w_fi w5 (n_v vs 0) 1 = w_fi w6 (n_v vs 0) 1 := congrArg v_iv (s6.2 _ _)
  have hE_0_0_1 : ∀ j : Int, w_ei ws (w_ar ws (n_v vs 0) 0) j = w_ei w1 (w_ar ws (n_v vs 0) 0) j := fun j => s1.1 _ _
  have hE_0_0_2 : ∀ j : Int, 0 ≤ j → (j = v_iv (n_v vs 15) → w_ei w1 (w_ar ws (n_v vs 0) 0) j = v_iv (n_v vs 18)) ∧ (j ≠ v_iv (n_v vs 15) → w_ei w1 (w_ar ws (n_v vs 0) 0) j = w_ei w2 (w_ar ws (n_v vs 0) 0) j) := fun j hj => ⟨fun h => by unfold w_ei; rw [s2.1, if_pos ⟨ad_5.symm, by rw [h]⟩], fun h => by unfold w_ei; rw [s2.1, if_neg (fun e => h (by have := e.2; omega))]⟩
  have hE_0_0_3 : ∀ j : Int, w_ei w2 (w_ar ws (n_v vs 0) 0) j = w_ei w3 (w_ar ws (n_v vs 0) 0) j := fun j => s3.1 _ _
  have hE_0_0_4 : ∀ j : Int, 0 ≤ j → (j = v_iv (n_v vs 10) → w_ei w3 (w_ar ws (n_v vs 0) 0) j = v_iv (n_v vs 13)) ∧ (j ≠ v_iv (n_v vs 10) → w_ei w3 (w_ar ws (n_v vs 0) 0) j = w_ei w4 (w_ar ws (n_v vs 0) 0) j) := fun j hj => ⟨fun h => by unfold w_ei; rw [s4.1, if_pos ⟨ad_5.symm, by rw [h]⟩], fun h => by unfold w_ei; rw [s4.1, if_neg (fun e => h (by have := e.2; omega))]⟩
  have hE_0_0_5 : ∀ j : Int, w_ei w4 (w_ar ws (n_v vs 0) 0) j = w_ei w5 (w_ar ws (n_v vs 0) 0) j := fun j => s5.1 _ _
  have hE_0_0_6 : ∀ j : Int, 0 ≤ j → (j = v_iv (n_v vs 6) → w_ei w5 (w_ar ws (n_v vs 0) 0) j = v_iv (n_v vs 8)) ∧ (j ≠ v_iv (n_v vs 6) → w_ei w5 (w_ar ws (n_v vs 0) 0) j = w_ei w6 (w_ar ws (n_v vs 0) 0) j) := fun j hj => ⟨fun h => by unfold w_ei; rw [s6.1, if_pos ⟨ad_5.symm, by rw [h]⟩], fun h => by unfold w_ei; rw [s6.1, if_neg (fun e => h (by have := e.2; omega))]⟩
  have hK_0_0 := elq_33 hD hth cr_0_0
  have hE_3_1_1 : ∀ j : Int, w_ei ws (w_ar ws (n_v vs 3) 1) j = w_ei w1 (w_ar ws (n_v vs 3) 1) j := fun j => s1.1 _ _
  have hE_3_1_2 : ∀ j : Int, w_ei w1 (w_ar ws (n_v vs 3) 1) j = w_ei w2 (w_ar ws (n_v vs 3) 1) j := el_kp s2.1 r5 cr_3_1 (by decide)
  have hE_3_1_3 : ∀ j : Int, w_ei w2 (w_ar ws (n_v vs 3) 1) j = w_ei w3 (w_ar ws (n_v vs 3) 1) j := fun j => s3.1 _ _
  have hE_3_1_4 : ∀ j : Int, w_ei w3 (w_ar ws (n_v vs 3) 1) j = w_ei w4 (w_ar ws (n_v vs 3) 1) j := el_kp s4.1 r5 cr_3_1 (by decide)
  have hE_3_1_5 : ∀ j : Int, w_ei w4 (w_ar ws (n_v vs 3) 1) j = w_ei w5 (w_ar ws (n_v vs 3) 1) j := fun j => s5.1 _ _
  have hE_3_1_6 : ∀ j : Int, w_ei w5 (w_ar ws (n_v vs 3) 1) j = w_ei w6 (w_ar ws (n_v vs 3) 1) j := el_kp s6.1 r5 cr_3_1 (by decide)
  have hK_3_1 := elq_7 hD hth cr_3_1
  have kz_0_1 := fdq_96 hD hth r0
  have hrf0 : 3 ≤ v_iv (n_v vs 20) ∧ v_iv (n_v vs 20) ≤ 1999 := vc_Re_append_at_g1_3_r0 (v_iv (n_v vs 2)) (v_iv (n_v vs 6)) (v_iv (n_v vs 8)) (v_iv (n_v vs 10)) (v_iv (n_v vs 13)) (v_iv (n_v vs 15)) (v_iv (n_v vs 18)) (v_iv (n_v vs 20)) (w_fi ws (n_v vs 0) 1) (w_fi w1 (n_v vs 0) 1) (w_fi w3 (n_v vs 0) 1) (w_fi w5 (n_v vs 0) 1) (w_fi w6 (n_v vs 0) 1) (w_ei w6 (w_ar ws (n_v vs 0) 0)) (w_ei w6 (w_ar ws (n_v vs 3) 1)) (w_fi w2 (n_v vs 0) 1) (w_fi w4 (n_v vs 0) 1) (w_ei ws (w_ar ws (n_v vs 0) 0)) (w_ei w1 (w_ar ws (n_v vs 0) 0)) (w_ei w2 (w_ar ws (n_v vs 0) 0)) (w_ei w3 (w_ar ws (n_v vs 0) 0)) (w_ei w4 (w_ar ws (n_v vs 0) 0)) (w_ei w5 (w_ar ws (n_v vs 0) 0)) (w_ei ws (w_ar ws (n_v vs 3) 1)) (w_ei w1 (w_ar ws (n_v vs 3) 1)) (w_ei w2 (w_ar ws (n_v vs 3) 1)) (w_ei w3 (w_ar ws (n_v vs 3) 1)) (w_ei w4 (w_ar ws (n_v vs 3) 1)) (w_ei w5 (w_ar ws (n_v vs 3) 1)) k2 k6 k8 k10 k13 k15 k18 k20 d0 d1 d2 g2 g6 g12 g18 (shm_436 f19) (shm_437 f20) fe_0_1_2 fe_0_1_4 fe_0_1_6 hE_0_0_1 hE_0_0_2 hE_0_0_3 hE_0_0_4 hE_0_0_5 hE_0_0_6 hK_0_0 hE_3_1_1 hE_3_1_2 hE_3_1_3 hE_3_1_4 hE_3_1_5 hE_3_1_6 hK_3_1 kz_0_1
  have rf20 : tv_ok ta (0, 3, 1999, []) (n_v vs 20) := tv_in t20 (by first | omega | grind) (by first | omega | grind)
  refine ⟨List.forall_mem_cons.mpr ⟨rf20, (fun _ h => (by cases h))⟩, [], trivial, ?_, (fun _ h => (by cases h))⟩
  rw [List.append_nil]
  exact (fun _ h => (by cases h))
set_option maxHeartbeats 4000000 in
theorem vc_Re_append_at_g1_4_0 (x2 : Int) (x6 : Int) (x8 : Int) (x10 : Int) (x13 : Int) (x15 : Int) (x18 : Int) (x20 : Int) (x23 : Int) (x25 : Int) (length_0 : Int) (length_1 : Int) (length_3 : Int) (length_5 : Int) (length_7 : Int) (length_8 : Int) (tape_8 : Int → Int) (tape_8o3 : Int → Int) (length_2 : Int) (length_4 : Int) (length_6 : Int) (tape_0 : Int → Int) (tape_1 : Int → Int) (tape_2 : Int → Int) (tape_3 : Int → Int) (tape_4 : Int → Int) (tape_5 : Int → Int) (tape_6 : Int → Int) (tape_7 : Int → Int) (tape_0o3 : Int → Int) (tape_1o3 : Int → Int) (tape_2o3 : Int → Int) (tape_3o3 : Int → Int) (tape_4o3 : Int → Int) (tape_5o3 : Int → Int) (tape_6o3 : Int → Int) (tape_7o3 : Int → Int) (k2 : 0 ≤ x2 ∧ x2 ≤ 1996) (k6 : 0 ≤ x6 ∧ x6 ≤ 1999) (k8 : (-128) ≤ x8 ∧ x8 ≤ 127) (k10 : 1 ≤ x10 ∧ x10 ≤ 1999) (k13 : (-128) ≤ x13 ∧ x13 ≤ 127) (k15 : 2 ≤ x15 ∧ x15 ≤ 1999) (k18 : (-128) ≤ x18 ∧ x18 ≤ 127) (k20 : 3 ≤ x20 ∧ x20 ≤ 1999) (k23 : (-128) ≤ x23 ∧ x23 ≤ 127) (k25 : 4 ≤ x25 ∧ x25 ≤ 2000) (d0 : x20 + 1 ≤ x25 ∧ x25 ≤ x20 + 1) (d1 : x15 + 2 ≤ x25 ∧ x25 ≤ x15 + 2) (d2 : x10 + 3 ≤ x25 ∧ x25 ≤ x10 + 3) (d3 : x6 + 4 ≤ x25 ∧ x25 ≤ x6 + 4) (g0 : x25 = length_0) (g4 : x20 = length_1) (g10 : x15 = length_3) (g16 : x10 = length_5) (g22 : x6 = length_7) (f23 : 1 * length_7 + ((-1) * x2 + 0) ≤ 0) (f24 : (-1) * length_7 + (1 * x2 + 0) ≤ 0) (fe_0_1_2 : length_1 = length_2) (fe_0_1_4 : length_3 = length_4) (fe_0_1_6 : length_5 = length_6) (fe_0_1_8 : length_7 = length_8) (hE_0_0_1 : ∀ j : Int, tape_0 j = tape_1 j) (hE_0_0_2 : ∀ j : Int, 0 ≤ j → (j = x20 → tape_1 j = x23) ∧ (j ≠ x20 → tape_1 j = tape_2 j)) (hE_0_0_3 : ∀ j : Int, tape_2 j = tape_3 j) (hE_0_0_4 : ∀ j : Int, 0 ≤ j → (j = x15 → tape_3 j = x18) ∧ (j ≠ x15 → tape_3 j = tape_4 j)) (hE_0_0_5 : ∀ j : Int, tape_4 j = tape_5 j) (hE_0_0_6 : ∀ j : Int, 0 ≤ j → (j = x10 → tape_5 j = x13) ∧ (j ≠ x10 → tape_5 j = tape_6 j)) (hE_0_0_7 : ∀ j : Int, tape_6 j = tape_7 j) (hE_0_0_8 : ∀ j : Int, 0 ≤ j → (j = x6 → tape_7 j = x8) ∧ (j ≠ x6 → tape_7 j = tape_8 j)) (hK_0_0 : ∀ j : Int, 0 ≤ j → j < 2000 → (-128) ≤ tape_0 j ∧ tape_0 j ≤ 127) (hE_3_1_1 : ∀ j : Int, tape_0o3 j = tape_1o3 j) (hE_3_1_2 : ∀ j : Int, tape_1o3 j = tape_2o3 j) (hE_3_1_3 : ∀ j : Int, tape_2o3 j = tape_3o3 j) (hE_3_1_4 : ∀ j : Int, tape_3o3 j = tape_4o3 j) (hE_3_1_5 : ∀ j : Int, tape_4o3 j = tape_5o3 j) (hE_3_1_6 : ∀ j : Int, tape_5o3 j = tape_6o3 j) (hE_3_1_7 : ∀ j : Int, tape_6o3 j = tape_7o3 j) (hE_3_1_8 : ∀ j : Int, tape_7o3 j = tape_8o3 j) (hK_3_1 : ∀ j : Int, 0 ≤ j → j < 2000 → (-128) ≤ tape_0o3 j ∧ tape_0o3 j ≤ 127) (kz_0_1 : 0 ≤ length_0 ∧ length_0 ≤ 2000) : 1 * length_0 + ((-1) * x2 + 0) ≤ 4 := by
  subst fe_0_1_2
  subst fe_0_1_4
  subst fe_0_1_6
  subst fe_0_1_8
  have e_hE_0_0_1 := funext hE_0_0_1; subst e_hE_0_0_1
  have e_hE_0_0_3 := funext hE_0_0_3; subst e_hE_0_0_3
  have e_hE_0_0_5 := funext hE_0_0_5; subst e_hE_0_0_5
  have e_hE_0_0_7 := funext hE_0_0_7; subst e_hE_0_0_7
  have e_hE_3_1_1 := funext hE_3_1_1; subst e_hE_3_1_1
  have e_hE_3_1_2 := funext hE_3_1_2; subst e_hE_3_1_2
  have e_hE_3_1_3 := funext hE_3_1_3; subst e_hE_3_1_3
  have e_hE_3_1_4 := funext hE_3_1_4; subst e_hE_3_1_4
  have e_hE_3_1_5 := funext hE_3_1_5; subst e_hE_3_1_5
  have e_hE_3_1_6 := funext hE_3_1_6; subst e_hE_3_1_6
  have e_hE_3_1_7 := funext hE_3_1_7; subst e_hE_3_1_7
  have e_hE_3_1_8 := funext hE_3_1_8; subst e_hE_3_1_8
  first | with_reducible assumption | ((try and_intros) <;> first | with_reducible assumption | (clear hE_0_0_1 hE_0_0_2 hE_0_0_3 hE_0_0_4 hE_0_0_5 hE_0_0_6 hE_0_0_7 hE_0_0_8 hK_0_0 hE_3_1_1 hE_3_1_2 hE_3_1_3 hE_3_1_4 hE_3_1_5 hE_3_1_6 hE_3_1_7 hE_3_1_8 hK_3_1; omega)) | omega
set_option maxHeartbeats 4000000 in
theorem vc_Re_append_at_g1_4_1 (x2 : Int) (x6 : Int) (x8 : Int) (x10 : Int) (x13 : Int) (x15 : Int) (x18 : Int) (x20 : Int) (x23 : Int) (x25 : Int) (length_0 : Int) (length_1 : Int) (length_3 : Int) (length_5 : Int) (length_7 : Int) (length_8 : Int) (tape_8 : Int → Int) (tape_8o3 : Int → Int) (length_2 : Int) (length_4 : Int) (length_6 : Int) (tape_0 : Int → Int) (tape_1 : Int → Int) (tape_2 : Int → Int) (tape_3 : Int → Int) (tape_4 : Int → Int) (tape_5 : Int → Int) (tape_6 : Int → Int) (tape_7 : Int → Int) (tape_0o3 : Int → Int) (tape_1o3 : Int → Int) (tape_2o3 : Int → Int) (tape_3o3 : Int → Int) (tape_4o3 : Int → Int) (tape_5o3 : Int → Int) (tape_6o3 : Int → Int) (tape_7o3 : Int → Int) (k2 : 0 ≤ x2 ∧ x2 ≤ 1996) (k6 : 0 ≤ x6 ∧ x6 ≤ 1999) (k8 : (-128) ≤ x8 ∧ x8 ≤ 127) (k10 : 1 ≤ x10 ∧ x10 ≤ 1999) (k13 : (-128) ≤ x13 ∧ x13 ≤ 127) (k15 : 2 ≤ x15 ∧ x15 ≤ 1999) (k18 : (-128) ≤ x18 ∧ x18 ≤ 127) (k20 : 3 ≤ x20 ∧ x20 ≤ 1999) (k23 : (-128) ≤ x23 ∧ x23 ≤ 127) (k25 : 4 ≤ x25 ∧ x25 ≤ 2000) (d0 : x20 + 1 ≤ x25 ∧ x25 ≤ x20 + 1) (d1 : x15 + 2 ≤ x25 ∧ x25 ≤ x15 + 2) (d2 : x10 + 3 ≤ x25 ∧ x25 ≤ x10 + 3) (d3 : x6 + 4 ≤ x25 ∧ x25 ≤ x6 + 4) (g0 : x25 = length_0) (g4 : x20 = length_1) (g10 : x15 = length_3) (g16 : x10 = length_5) (g22 : x6 = length_7) (f23 : 1 * length_7 + ((-1) * x2 + 0) ≤ 0) (f24 : (-1) * length_7 + (1 * x2 + 0) ≤ 0) (fe_0_1_2 : length_1 = length_2) (fe_0_1_4 : length_3 = length_4) (fe_0_1_6 : length_5 = length_6) (fe_0_1_8 : length_7 = length_8) (hE_0_0_1 : ∀ j : Int, tape_0 j = tape_1 j) (hE_0_0_2 : ∀ j : Int, 0 ≤ j → (j = x20 → tape_1 j = x23) ∧ (j ≠ x20 → tape_1 j = tape_2 j)) (hE_0_0_3 : ∀ j : Int, tape_2 j = tape_3 j) (hE_0_0_4 : ∀ j : Int, 0 ≤ j → (j = x15 → tape_3 j = x18) ∧ (j ≠ x15 → tape_3 j = tape_4 j)) (hE_0_0_5 : ∀ j : Int, tape_4 j = tape_5 j) (hE_0_0_6 : ∀ j : Int, 0 ≤ j → (j = x10 → tape_5 j = x13) ∧ (j ≠ x10 → tape_5 j = tape_6 j)) (hE_0_0_7 : ∀ j : Int, tape_6 j = tape_7 j) (hE_0_0_8 : ∀ j : Int, 0 ≤ j → (j = x6 → tape_7 j = x8) ∧ (j ≠ x6 → tape_7 j = tape_8 j)) (hK_0_0 : ∀ j : Int, 0 ≤ j → j < 2000 → (-128) ≤ tape_0 j ∧ tape_0 j ≤ 127) (hE_3_1_1 : ∀ j : Int, tape_0o3 j = tape_1o3 j) (hE_3_1_2 : ∀ j : Int, tape_1o3 j = tape_2o3 j) (hE_3_1_3 : ∀ j : Int, tape_2o3 j = tape_3o3 j) (hE_3_1_4 : ∀ j : Int, tape_3o3 j = tape_4o3 j) (hE_3_1_5 : ∀ j : Int, tape_4o3 j = tape_5o3 j) (hE_3_1_6 : ∀ j : Int, tape_5o3 j = tape_6o3 j) (hE_3_1_7 : ∀ j : Int, tape_6o3 j = tape_7o3 j) (hE_3_1_8 : ∀ j : Int, tape_7o3 j = tape_8o3 j) (hK_3_1 : ∀ j : Int, 0 ≤ j → j < 2000 → (-128) ≤ tape_0o3 j ∧ tape_0o3 j ≤ 127) (kz_0_1 : 0 ≤ length_0 ∧ length_0 ≤ 2000) : (-1) * length_0 + (1 * x2 + 0) ≤ (-4) := by
  subst fe_0_1_2
  subst fe_0_1_4
  subst fe_0_1_6
  subst fe_0_1_8
  have e_hE_0_0_1 := funext hE_0_0_1; subst e_hE_0_0_1
  have e_hE_0_0_3 := funext hE_0_0_3; subst e_hE_0_0_3
  have e_hE_0_0_5 := funext hE_0_0_5; subst e_hE_0_0_5
  have e_hE_0_0_7 := funext hE_0_0_7; subst e_hE_0_0_7
  have e_hE_3_1_1 := funext hE_3_1_1; subst e_hE_3_1_1
  have e_hE_3_1_2 := funext hE_3_1_2; subst e_hE_3_1_2
  have e_hE_3_1_3 := funext hE_3_1_3; subst e_hE_3_1_3
  have e_hE_3_1_4 := funext hE_3_1_4; subst e_hE_3_1_4
  have e_hE_3_1_5 := funext hE_3_1_5; subst e_hE_3_1_5
  have e_hE_3_1_6 := funext hE_3_1_6; subst e_hE_3_1_6
  have e_hE_3_1_7 := funext hE_3_1_7; subst e_hE_3_1_7
  have e_hE_3_1_8 := funext hE_3_1_8; subst e_hE_3_1_8
  first | with_reducible assumption | ((try and_intros) <;> first | with_reducible assumption | (clear hE_0_0_1 hE_0_0_2 hE_0_0_3 hE_0_0_4 hE_0_0_5 hE_0_0_6 hE_0_0_7 hE_0_0_8 hK_0_0 hE_3_1_1 hE_3_1_2 hE_3_1_3 hE_3_1_4 hE_3_1_5 hE_3_1_6 hE_3_1_7 hE_3_1_8 hK_3_1; omega)) | omega
set_option maxHeartbeats 4000000 in
theorem vc_Re_append_at_g1_4_2 (x1 : Int) (x6 : Int) (x7 : Int) (x8 : Int) (x10 : Int) (x12 : Int) (x13 : Int) (x15 : Int) (x17 : Int) (x18 : Int) (x20 : Int) (x22 : Int) (x23 : Int) (x25 : Int) (length_0 : Int) (length_1 : Int) (length_3 : Int) (length_5 : Int) (length_7 : Int) (length_8 : Int) (tape_8 : Int → Int) (tape_8o3 : Int → Int) (length_2 : Int) (length_4 : Int) (length_6 : Int) (tape_0 : Int → Int) (tape_1 : Int → Int) (tape_2 : Int → Int) (tape_3 : Int → Int) (tape_4 : Int → Int) (tape_5 : Int → Int) (tape_6 : Int → Int) (tape_7 : Int → Int) (tape_0o3 : Int → Int) (tape_1o3 : Int → Int) (tape_2o3 : Int → Int) (tape_3o3 : Int → Int) (tape_4o3 : Int → Int) (tape_5o3 : Int → Int) (tape_6o3 : Int → Int) (tape_7o3 : Int → Int) (k1 : (-2147483648) ≤ x1 ∧ x1 ≤ 2147483647) (k6 : 0 ≤ x6 ∧ x6 ≤ 1999) (k7 : (-2147483648) ≤ x7 ∧ x7 ≤ 2147483647) (k8 : (-128) ≤ x8 ∧ x8 ≤ 127) (k10 : 1 ≤ x10 ∧ x10 ≤ 1999) (k12 : (-2147483648) ≤ x12 ∧ x12 ≤ 2147483647) (k13 : (-128) ≤ x13 ∧ x13 ≤ 127) (k15 : 2 ≤ x15 ∧ x15 ≤ 1999) (k17 : (-2147483648) ≤ x17 ∧ x17 ≤ 2147483647) (k18 : (-128) ≤ x18 ∧ x18 ≤ 127) (k20 : 3 ≤ x20 ∧ x20 ≤ 1999) (k22 : (-2147483648) ≤ x22 ∧ x22 ≤ 2147483647) (k23 : (-128) ≤ x23 ∧ x23 ≤ 127) (k25 : 4 ≤ x25 ∧ x25 ≤ 2000) (d0 : x20 + 1 ≤ x25 ∧ x25 ≤ x20 + 1) (d1 : x15 + 2 ≤ x25 ∧ x25 ≤ x15 + 2) (d2 : x10 + 3 ≤ x25 ∧ x25 ≤ x10 + 3) (d3 : x6 + 4 ≤ x25 ∧ x25 ≤ x6 + 4) (g0 : x25 = length_0) (g4 : x20 = length_1) (f6 : x23 = (x22 + 128) % 256 - 128) (f7 : x22 = x1 / 1) (g10 : x15 = length_3) (f12 : x18 = (x17 + 128) % 256 - 128) (f13 : x17 = x1 / 256) (g16 : x10 = length_5) (f18 : x13 = (x12 + 128) % 256 - 128) (f19 : x12 = x1 / 65536) (g22 : x6 = length_7) (f26 : x8 = (x7 + 128) % 256 - 128) (f27 : x7 = x1 / 16777216) (f30 : TE0 (length_8) (tape_8) (tape_8o3)) (fe_0_1_2 : length_1 = length_2) (fe_0_1_4 : length_3 = length_4) (fe_0_1_6 : length_5 = length_6) (fe_0_1_8 : length_7 = length_8) (hE_0_0_1 : ∀ j : Int, tape_0 j = tape_1 j) (hE_0_0_2 : ∀ j : Int, 0 ≤ j → (j = x20 → tape_1 j = x23) ∧ (j ≠ x20 → tape_1 j = tape_2 j)) (hE_0_0_3 : ∀ j : Int, tape_2 j = tape_3 j) (hE_0_0_4 : ∀ j : Int, 0 ≤ j → (j = x15 → tape_3 j = x18) ∧ (j ≠ x15 → tape_3 j = tape_4 j)) (hE_0_0_5 : ∀ j : Int, tape_4 j = tape_5 j) (hE_0_0_6 : ∀ j : Int, 0 ≤ j → (j = x10 → tape_5 j = x13) ∧ (j ≠ x10 → tape_5 j = tape_6 j)) (hE_0_0_7 : ∀ j : Int, tape_6 j = tape_7 j) (hE_0_0_8 : ∀ j : Int, 0 ≤ j → (j = x6 → tape_7 j = x8) ∧ (j ≠ x6 → tape_7 j = tape_8 j)) (hE_3_1_1 : ∀ j : Int, tape_0o3 j = tape_1o3 j) (hE_3_1_2 : ∀ j : Int, tape_1o3 j = tape_2o3 j) (hE_3_1_3 : ∀ j : Int, tape_2o3 j = tape_3o3 j) (hE_3_1_4 : ∀ j : Int, tape_3o3 j = tape_4o3 j) (hE_3_1_5 : ∀ j : Int, tape_4o3 j = tape_5o3 j) (hE_3_1_6 : ∀ j : Int, tape_5o3 j = tape_6o3 j) (hE_3_1_7 : ∀ j : Int, tape_6o3 j = tape_7o3 j) (hE_3_1_8 : ∀ j : Int, tape_7o3 j = tape_8o3 j) (kz_0_1 : 0 ≤ length_0 ∧ length_0 ≤ 2000) : TE1 (length_0) (tape_0) (tape_0o3) (x1) := by
  subst fe_0_1_2
  subst fe_0_1_4
  subst fe_0_1_6
  subst fe_0_1_8
  have e_hE_0_0_1 := funext hE_0_0_1; subst e_hE_0_0_1
  have e_hE_0_0_3 := funext hE_0_0_3; subst e_hE_0_0_3
  have e_hE_0_0_5 := funext hE_0_0_5; subst e_hE_0_0_5
  have e_hE_0_0_7 := funext hE_0_0_7; subst e_hE_0_0_7
  have e_hE_3_1_1 := funext hE_3_1_1; subst e_hE_3_1_1
  have e_hE_3_1_2 := funext hE_3_1_2; subst e_hE_3_1_2
  have e_hE_3_1_3 := funext hE_3_1_3; subst e_hE_3_1_3
  have e_hE_3_1_4 := funext hE_3_1_4; subst e_hE_3_1_4
  have e_hE_3_1_5 := funext hE_3_1_5; subst e_hE_3_1_5
  have e_hE_3_1_6 := funext hE_3_1_6; subst e_hE_3_1_6
  have e_hE_3_1_7 := funext hE_3_1_7; subst e_hE_3_1_7
  have e_hE_3_1_8 := funext hE_3_1_8; subst e_hE_3_1_8
  first | subst g0 | skip
  first | subst g4 | skip
  first | subst g10 | skip
  first | subst g16 | skip
  first | subst g22 | skip
  exact te_s1 ‹TE0 _ _ _› (by assumption) (by assumption) (by assumption) (by assumption) (by omega) (by omega) (by omega) (by omega) (by omega) (by omega) (by omega) (by omega) (by omega) (by omega)
def o_Re_append_at_g1_4 : or_T := (36, 27, [(0, (2, 0, 0, [8])), (1, (0, -2147483648, 2147483647, [])), (2, (0, 0, 1996, [])), (3, (2, 0, 0, [165])), (5, (2, 0, 0, [109])), (6, (0, 0, 1999, [])), (7, (0, -2147483648, 2147483647, [])), (8, (0, -128, 127, [])), (10, (0, 1, 1999, [])), (12, (0, -2147483648, 2147483647, [])), (13, (0, -128, 127, [])), (15, (0, 2, 1999, [])), (17, (0, -2147483648, 2147483647, [])), (18, (0, -128, 127, [])), (20, (0, 3, 1999, [])), (22, (0, -2147483648, 2147483647, [])), (23, (0, -128, 127, [])), (25, (0, 4, 2000, []))], [(9, [25, 0], [1]), (9, [5, 0], [0]), (101, [0, 25], [1]), (9, [20, 0], [1]), (100, [5, 20, 23], []), (17, [23, 22], []), (11, [22, 1], [1]), (101, [0, 20], [1]), (9, [15, 0], [1]), (100, [5, 15, 18], []), (17, [18, 17], []), (11, [17, 1], [256]), (101, [0, 15], [1]), (9, [10, 0], [1]), (100, [5, 10, 13], []), (17, [13, 12], []), (11, [12, 1], [65536]), (101, [0, 10], [1]), (9, [6, 0], [1]), (20, [0, 2], [30, 0, 1, 1, 1, -1, 0, 0]), (20, [0, 2], [30, 0, -1, 1, 1, 1, 0, 0]), (100, [5, 6, 8], []), (17, [8, 7], []), (11, [7, 1], [16777216]), (20, [0, 3], [60, 1, 2, 1101, 1, 0, 1001])], [], [], [(20, [0, 2], [30, 4, 1, 1, 1, -1, 0, 0]), (20, [0, 2], [30, -4, -1, 1, 1, 1, 0, 0]), (20, [0, 3, 1], [60, 1, 2, 1102, 1, 0, 1001])], [], [(25, 20, 1, 1), (25, 15, 2, 2), (25, 10, 3, 3), (25, 6, 4, 4), (20, 15, 1, 1), (20, 10, 2, 2), (20, 6, 3, 3), (15, 10, 1, 1), (15, 6, 2, 2), (10, 6, 1, 1)])
theorem oo_Re_append_at_g1_4 {kA : Nat → ClassId} : or_ok PRD kA GG o_Re_append_at_g1_4 := by
  refine or_mk fun A ta ws vs hD hth hl => ?_
  intro t0 r0 t1 k1 t2 k2 t3 r3 t5 r5 t6 k6 t7 k7 t8 k8 t10 k10 t12 k12 t13 k13 t15 k15 t17 k17 t18 k18 t20 k20 t22 k22 t23 k23 t25 k25 d0 d1 d2 d3 d4 d5 d6 d7 d8 d9 f0 f1 ta1 w1 le1 s1 f4 ta2 w2 le2 s2 f6 f7 ta3 w3 le3 s3 f10 ta4 w4 le4 s4 f12 f13 ta5 w5 le5 s5 f16 ta6 w6 le6 s6 f18 f19 ta7 w7 le7 s7 f22 f23 f24 ta8 w8 le8 s8 f26 f27 f30
  replace f0 := shm_215 f0
  replace f1 := shm_163 f1
  have s1 : (∀ b j, w_el ws b j = w_el w1 b j) ∧ ∀ b j, w_fd ws b j = if b = v_ad (n_v vs 0) ∧ j = 1 then n_v vs 25 else w_fd w1 b j := s1.2
  replace f4 := shm_215 f4
  have s2 : (∀ b j, w_el w1 b j = if b = v_ad (n_v vs 5) ∧ j = (v_iv (n_v vs 20)).toNat then v_iv (n_v vs 23) else w_el w2 b j) ∧ ∀ b k, w_fd w1 b k = w_fd w2 b k := s2.2
  have s3 : (∀ b j, w_el w2 b j = w_el w3 b j) ∧ ∀ b j, w_fd w2 b j = if b = v_ad (n_v vs 0) ∧ j = 1 then n_v vs 20 else w_fd w3 b j := s3.2
  replace f10 := shm_215 f10
  have s4 : (∀ b j, w_el w3 b j = if b = v_ad (n_v vs 5) ∧ j = (v_iv (n_v vs 15)).toNat then v_iv (n_v vs 18) else w_el w4 b j) ∧ ∀ b k, w_fd w3 b k = w_fd w4 b k := s4.2
  have s5 : (∀ b j, w_el w4 b j = w_el w5 b j) ∧ ∀ b j, w_fd w4 b j = if b = v_ad (n_v vs 0) ∧ j = 1 then n_v vs 15 else w_fd w5 b j := s5.2
  replace f16 := shm_215 f16
  have s6 : (∀ b j, w_el w5 b j = if b = v_ad (n_v vs 5) ∧ j = (v_iv (n_v vs 10)).toNat then v_iv (n_v vs 13) else w_el w6 b j) ∧ ∀ b k, w_fd w5 b k = w_fd w6 b k := s6.2
  have s7 : (∀ b j, w_el w6 b j = w_el w7 b j) ∧ ∀ b j, w_fd w6 b j = if b = v_ad (n_v vs 0) ∧ j = 1 then n_v vs 10 else w_fd w7 b j := s7.2
  replace f22 := shm_215 f22
  have s8 : (∀ b j, w_el w7 b j = if b = v_ad (n_v vs 5) ∧ j = (v_iv (n_v vs 6)).toNat then v_iv (n_v vs 8) else w_el w8 b j) ∧ ∀ b k, w_fd w7 b k = w_fd w8 b k := s8.2
  replace f30 := shm_438 f30
  have ar_0_0_1 : w_ar w1 (n_v vs 0) 0 = w_ar ws (n_v vs 0) 0 := by show v_ad (w_fd w1 _ _) = v_ad (w_fd ws _ _); rw [s1.2, if_neg (fun e => absurd e.2 (by decide))]
  have ar_0_0_2 : w_ar w2 (n_v vs 0) 0 = w_ar ws (n_v vs 0) 0 := by rw [← ar_0_0_1]; show v_ad (w_fd w2 _ _) = v_ad (w_fd w1 _ _); rw [s2.2]
  have ar_0_0_3 : w_ar w3 (n_v vs 0) 0 = w_ar ws (n_v vs 0) 0 := by rw [← ar_0_0_2]; show v_ad (w_fd w3 _ _) = v_ad (w_fd w2 _ _); rw [s3.2, if_neg (fun e => absurd e.2 (by decide))]
  have ar_0_0_4 : w_ar w4 (n_v vs 0) 0 = w_ar ws (n_v vs 0) 0 := by rw [← ar_0_0_3]; show v_ad (w_fd w4 _ _) = v_ad (w_fd w3 _ _); rw [s4.2]
  have ar_0_0_5 : w_ar w5 (n_v vs 0) 0 = w_ar ws (n_v vs 0) 0 := by rw [← ar_0_0_4]; show v_ad (w_fd w5 _ _) = v_ad (w_fd w4 _ _); rw [s5.2, if_neg (fun e => absurd e.2 (by decide))]
  have ar_0_0_6 : w_ar w6 (n_v vs 0) 0 = w_ar ws (n_v vs 0) 0 := by rw [← ar_0_0_5]; show v_ad (w_fd w6 _ _) = v_ad (w_fd w5 _ _); rw [s6.2]
  have ar_0_0_7 : w_ar w7 (n_v vs 0) 0 = w_ar ws (n_v vs 0) 0 := by rw [← ar_0_0_6]; show v_ad (w_fd w7 _ _) = v_ad (w_fd w6 _ _); rw [s7.2, if_neg (fun e => absurd e.2 (by decide))]
  have ar_0_0_8 : w_ar w8 (n_v vs 0) 0 = w_ar ws (n_v vs 0) 0 := by rw [← ar_0_0_7]; show v_ad (w_fd w8 _ _) = v_ad (w_fd w7 _ _); rw [s8.2]
  have cr_0_0 := fdq_95 hD hth r0
  have ar_3_1_1 : w_ar w1 (n_v vs 3) 1 = w_ar ws (n_v vs 3) 1 := by show v_ad (w_fd w1 _ _) = v_ad (w_fd ws _ _); rw [s1.2, if_neg (fun e => by have e1 := e.1; have e2 := r3; rw [e1, r0] at e2; exact absurd (Option.some.inj e2) (by decide))]
  have ar_3_1_2 : w_ar w2 (n_v vs 3) 1 = w_ar ws (n_v vs 3) 1 := by rw [← ar_3_1_1]; show v_ad (w_fd w2 _ _) = v_ad (w_fd w1 _ _); rw [s2.2]
  have ar_3_1_3 : w_ar w3 (n_v vs 3) 1 = w_ar ws (n_v vs 3) 1 := by rw [← ar_3_1_2]; show v_ad (w_fd w3 _ _) = v_ad (w_fd w2 _ _); rw [s3.2, if_neg (fun e => by have e1 := e.1; have e2 := r3; rw [e1, r0] at e2; exact absurd (Option.some.inj e2) (by decide))]
  have ar_3_1_4 : w_ar w4 (n_v vs 3) 1 = w_ar ws (n_v vs 3) 1 := by rw [← ar_3_1_3]; show v_ad (w_fd w4 _ _) = v_ad (w_fd w3 _ _); rw [s4.2]
  have ar_3_1_5 : w_ar w5 (n_v vs 3) 1 = w_ar ws (n_v vs 3) 1 := by rw [← ar_3_1_4]; show v_ad (w_fd w5 _ _) = v_ad (w_fd w4 _ _); rw [s5.2, if_neg (fun e => by have e1 := e.1; have e2 := r3; rw [e1, r0] at e2; exact absurd (Option.some.inj e2) (by decide))]
  have ar_3_1_6 : w_ar w6 (n_v vs 3) 1 = w_ar ws (n_v vs 3) 1 := by rw [← ar_3_1_5]; show v_ad (w_fd w6 _ _) = v_ad (w_fd w5 _ _); rw [s6.2]
  have ar_3_1_7 : w_ar w7 (n_v vs 3) 1 = w_ar ws (n_v vs 3) 1 := by rw [← ar_3_1_6]; show v_ad (w_fd w7 _ _) = v_ad (w_fd w6 _ _); rw [s7.2, if_neg (fun e => by have e1 := e.1; have e2 := r3; rw [e1, r0] at e2; exact absurd (Option.some.inj e2) (by decide))]
  have ar_3_1_8 : w_ar w8 (n_v vs 3) 1 = w_ar ws (n_v vs 3) 1 := by rw [← ar_3_1_7]; show v_ad (w_fd w8 _ _) = v_ad (w_fd w7 _ _); rw [s8.2]
  have cr_3_1 := fdq_39 hD hth r3
  have ad_5 : v_ad (n_v vs 5) = w_ar ws (n_v vs 0) 0 := congrArg v_ad f1
  have g0 : v_iv (n_v vs 25) = w_fi ws (n_v vs 0) 1 := congrArg v_iv f0
  have g4 : v_iv (n_v vs 20) = w_fi w1 (n_v vs 0) 1 := congrArg v_iv f4
  have g10 : v_iv (n_v vs 15) = w_fi w3 (n_v vs 0) 1 := congrArg v_iv f10
  have g16 : v_iv (n_v vs 10) = w_fi w5 (n_v vs 0) 1 := congrArg v_iv f16
  have g22 : v_iv (n_v vs 6) = w_fi w7 (n_v vs 0) 1 := congrArg v_iv f22
  simp only [ar_0_0_8, ar_3_1_8] at f30
  have fe_0_1_2 : w_fi w1 (n_v vs 0) 1 = w_fi w2 (n_v vs 0) 1 := congrArg v_iv (s2.2 _ _)
  have fe_0_1_4 : w_fi w3 (n_v vs 0) 1 = w_fi w4 (n_v vs 0) 1 := congrArg v_iv (s4.2 _ _)
  have fe_0_1_6 : w_fi w5 (n_v vs 0) 1 = w_fi w6 (n_v vs 0) 1 := congrArg v_iv (s6.2 _ _)
  have fe_0_1_8 : w_fi w7 (n_v vs 0) 1 = w_fi w8 (n_v vs 0) 1 := congrArg v_iv (s8.2 _ _)
  have hE_0_0_1 : ∀ j : Int, w_ei ws (w_ar ws (n_v vs 0) 0) j = w_ei w1 (w_ar ws (n_v vs 0) 0) j := fun j => s1.1 _ _
  have hE_0_0_2 : ∀ j : Int, 0 ≤ j → (j = v_iv (n_v vs 20) → w_ei w1 (w_ar ws (n_v vs 0) 0) j = v_iv (n_v vs 23)) ∧ (j ≠ v_iv (n_v vs 20) → w_ei w1 (w_ar ws (n_v vs 0) 0) j = w_ei w2 (w_ar ws (n_v vs 0) 0) j) := fun j hj => ⟨fun h => by unfold w_ei; rw [s2.1, if_pos ⟨ad_5.symm, by rw [h]⟩], fun h => by unfold w_ei; rw [s2.1, if_neg (fun e => h (by have := e.2; omega))]⟩
  have hE_0_0_3 : ∀ j : Int, w_ei w2 (w_ar ws (n_v vs 0) 0) j = w_ei w3 (w_ar ws (n_v vs 0) 0) j := fun j => s3.1 _ _
  have hE_0_0_4 : ∀ j : Int, 0 ≤ j → (j = v_iv (n_v vs 15) → w_ei w3 (w_ar ws (n_v vs 0) 0) j = v_iv (n_v vs 18)) ∧ (j ≠ v_iv (n_v vs 15) → w_ei w3 (w_ar ws (n_v vs 0) 0) j = w_ei w4 (w_ar ws (n_v vs 0) 0) j) := fun j hj => ⟨fun h => by unfold w_ei; rw [s4.1, if_pos ⟨ad_5.symm, by rw [h]⟩], fun h => by unfold w_ei; rw [s4.1, if_neg (fun e => h (by have := e.2; omega))]⟩
  have hE_0_0_5 : ∀ j : Int, w_ei w4 (w_ar ws (n_v vs 0) 0) j = w_ei w5 (w_ar ws (n_v vs 0) 0) j := fun j => s5.1 _ _
  have hE_0_0_6 : ∀ j : Int, 0 ≤ j → (j = v_iv (n_v vs 10) → w_ei w5 (w_ar ws (n_v vs 0) 0) j = v_iv (n_v vs 13)) ∧ (j ≠ v_iv (n_v vs 10) → w_ei w5 (w_ar ws (n_v vs 0) 0) j = w_ei w6 (w_ar ws (n_v vs 0) 0) j) := fun j hj => ⟨fun h => by unfold w_ei; rw [s6.1, if_pos ⟨ad_5.symm, by rw [h]⟩], fun h => by unfold w_ei; rw [s6.1, if_neg (fun e => h (by have := e.2; omega))]⟩
  have hE_0_0_7 : ∀ j : Int, w_ei w6 (w_ar ws (n_v vs 0) 0) j = w_ei w7 (w_ar ws (n_v vs 0) 0) j := fun j => s7.1 _ _
  have hE_0_0_8 : ∀ j : Int, 0 ≤ j → (j = v_iv (n_v vs 6) → w_ei w7 (w_ar ws (n_v vs 0) 0) j = v_iv (n_v vs 8)) ∧ (j ≠ v_iv (n_v vs 6) → w_ei w7 (w_ar ws (n_v vs 0) 0) j = w_ei w8 (w_ar ws (n_v vs 0) 0) j) := fun j hj => ⟨fun h => by unfold w_ei; rw [s8.1, if_pos ⟨ad_5.symm, by rw [h]⟩], fun h => by unfold w_ei; rw [s8.1, if_neg (fun e => h (by have := e.2; omega))]⟩
  have hK_0_0 := elq_33 hD hth cr_0_0
  have hE_3_1_1 : ∀ j : Int, w_ei ws (w_ar ws (n_v vs 3) 1) j = w_ei w1 (w_ar ws (n_v vs 3) 1) j := fun j => s1.1 _ _
  have hE_3_1_2 : ∀ j : Int, w_ei w1 (w_ar ws (n_v vs 3) 1) j = w_ei w2 (w_ar ws (n_v vs 3) 1) j := el_kp s2.1 r5 cr_3_1 (by decide)
  have hE_3_1_3 : ∀ j : Int, w_ei w2 (w_ar ws (n_v vs 3) 1) j = w_ei w3 (w_ar ws (n_v vs 3) 1) j := fun j => s3.1 _ _
  have hE_3_1_4 : ∀ j : Int, w_ei w3 (w_ar ws (n_v vs 3) 1) j = w_ei w4 (w_ar ws (n_v vs 3) 1) j := el_kp s4.1 r5 cr_3_1 (by decide)
  have hE_3_1_5 : ∀ j : Int, w_ei w4 (w_ar ws (n_v vs 3) 1) j = w_ei w5 (w_ar ws (n_v vs 3) 1) j := fun j => s5.1 _ _
  have hE_3_1_6 : ∀ j : Int, w_ei w5 (w_ar ws (n_v vs 3) 1) j = w_ei w6 (w_ar ws (n_v vs 3) 1) j := el_kp s6.1 r5 cr_3_1 (by decide)
  have hE_3_1_7 : ∀ j : Int, w_ei w6 (w_ar ws (n_v vs 3) 1) j = w_ei w7 (w_ar ws (n_v vs 3) 1) j := fun j => s7.1 _ _
  have hE_3_1_8 : ∀ j : Int, w_ei w7 (w_ar ws (n_v vs 3) 1) j = w_ei w8 (w_ar ws (n_v vs 3) 1) j := el_kp s8.1 r5 cr_3_1 (by decide)
  have hK_3_1 := elq_7 hD hth cr_3_1
  have kz_0_1 := fdq_96 hD hth r0
  have nf0 : fc_1 PRD (20, [0, 2], [30, 4, 1, 1, 1, -1, 0, 0]) ws (vs) := ⟨nf_in hl rfl, sgq_444 (vc_Re_append_at_g1_4_0 (v_iv (n_v vs 2)) (v_iv (n_v vs 6)) (v_iv (n_v vs 8)) (v_iv (n_v vs 10)) (v_iv (n_v vs 13)) (v_iv (n_v vs 15)) (v_iv (n_v vs 18)) (v_iv (n_v vs 20)) (v_iv (n_v vs 23)) (v_iv (n_v vs 25)) (w_fi ws (n_v vs 0) 1) (w_fi w1 (n_v vs 0) 1) (w_fi w3 (n_v vs 0) 1) (w_fi w5 (n_v vs 0) 1) (w_fi w7 (n_v vs 0) 1) (w_fi w8 (n_v vs 0) 1) (w_ei w8 (w_ar ws (n_v vs 0) 0)) (w_ei w8 (w_ar ws (n_v vs 3) 1)) (w_fi w2 (n_v vs 0) 1) (w_fi w4 (n_v vs 0) 1) (w_fi w6 (n_v vs 0) 1) (w_ei ws (w_ar ws (n_v vs 0) 0)) (w_ei w1 (w_ar ws (n_v vs 0) 0)) (w_ei w2 (w_ar ws (n_v vs 0) 0)) (w_ei w3 (w_ar ws (n_v vs 0) 0)) (w_ei w4 (w_ar ws (n_v vs 0) 0)) (w_ei w5 (w_ar ws (n_v vs 0) 0)) (w_ei w6 (w_ar ws (n_v vs 0) 0)) (w_ei w7 (w_ar ws (n_v vs 0) 0)) (w_ei ws (w_ar ws (n_v vs 3) 1)) (w_ei w1 (w_ar ws (n_v vs 3) 1)) (w_ei w2 (w_ar ws (n_v vs 3) 1)) (w_ei w3 (w_ar ws (n_v vs 3) 1)) (w_ei w4 (w_ar ws (n_v vs 3) 1)) (w_ei w5 (w_ar ws (n_v vs 3) 1)) (w_ei w6 (w_ar ws (n_v vs 3) 1)) (w_ei w7 (w_ar ws (n_v vs 3) 1)) k2 k6 k8 k10 k13 k15 k18 k20 k23 k25 d0 d1 d2 d3 g0 g4 g10 g16 g22 (shm_436 f23) (shm_437 f24) fe_0_1_2 fe_0_1_4 fe_0_1_6 fe_0_1_8 hE_0_0_1 hE_0_0_2 hE_0_0_3 hE_0_0_4 hE_0_0_5 hE_0_0_6 hE_0_0_7 hE_0_0_8 hK_0_0 hE_3_1_1 hE_3_1_2 hE_3_1_3 hE_3_1_4 hE_3_1_5 hE_3_1_6 hE_3_1_7 hE_3_1_8 hK_3_1 kz_0_1)⟩
  have nf1 : fc_1 PRD (20, [0, 2], [30, -4, -1, 1, 1, 1, 0, 0]) ws (vs) := ⟨nf_in hl rfl, sgq_445 (vc_Re_append_at_g1_4_1 (v_iv (n_v vs 2)) (v_iv (n_v vs 6)) (v_iv (n_v vs 8)) (v_iv (n_v vs 10)) (v_iv (n_v vs 13)) (v_iv (n_v vs 15)) (v_iv (n_v vs 18)) (v_iv (n_v vs 20)) (v_iv (n_v vs 23)) (v_iv (n_v vs 25)) (w_fi ws (n_v vs 0) 1) (w_fi w1 (n_v vs 0) 1) (w_fi w3 (n_v vs 0) 1) (w_fi w5 (n_v vs 0) 1) (w_fi w7 (n_v vs 0) 1) (w_fi w8 (n_v vs 0) 1) (w_ei w8 (w_ar ws (n_v vs 0) 0)) (w_ei w8 (w_ar ws (n_v vs 3) 1)) (w_fi w2 (n_v vs 0) 1) (w_fi w4 (n_v vs 0) 1) (w_fi w6 (n_v vs 0) 1) (w_ei ws (w_ar ws (n_v vs 0) 0)) (w_ei w1 (w_ar ws (n_v vs 0) 0)) (w_ei w2 (w_ar ws (n_v vs 0) 0)) (w_ei w3 (w_ar ws (n_v vs 0) 0)) (w_ei w4 (w_ar ws (n_v vs 0) 0)) (w_ei w5 (w_ar ws (n_v vs 0) 0)) (w_ei w6 (w_ar ws (n_v vs 0) 0)) (w_ei w7 (w_ar ws (n_v vs 0) 0)) (w_ei ws (w_ar ws (n_v vs 3) 1)) (w_ei w1 (w_ar ws (n_v vs 3) 1)) (w_ei w2 (w_ar ws (n_v vs 3) 1)) (w_ei w3 (w_ar ws (n_v vs 3) 1)) (w_ei w4 (w_ar ws (n_v vs 3) 1)) (w_ei w5 (w_ar ws (n_v vs 3) 1)) (w_ei w6 (w_ar ws (n_v vs 3) 1)) (w_ei w7 (w_ar ws (n_v vs 3) 1)) k2 k6 k8 k10 k13 k15 k18 k20 k23 k25 d0 d1 d2 d3 g0 g4 g10 g16 g22 (shm_436 f23) (shm_437 f24) fe_0_1_2 fe_0_1_4 fe_0_1_6 fe_0_1_8 hE_0_0_1 hE_0_0_2 hE_0_0_3 hE_0_0_4 hE_0_0_5 hE_0_0_6 hE_0_0_7 hE_0_0_8 hK_0_0 hE_3_1_1 hE_3_1_2 hE_3_1_3 hE_3_1_4 hE_3_1_5 hE_3_1_6 hE_3_1_7 hE_3_1_8 hK_3_1 kz_0_1)⟩
  have nf2 : fc_1 PRD (20, [0, 3, 1], [60, 1, 2, 1102, 1, 0, 1001]) ws (vs) := ⟨nf_in hl rfl, sgq_446 (vc_Re_append_at_g1_4_2 (v_iv (n_v vs 1)) (v_iv (n_v vs 6)) (v_iv (n_v vs 7)) (v_iv (n_v vs 8)) (v_iv (n_v vs 10)) (v_iv (n_v vs 12)) (v_iv (n_v vs 13)) (v_iv (n_v vs 15)) (v_iv (n_v vs 17)) (v_iv (n_v vs 18)) (v_iv (n_v vs 20)) (v_iv (n_v vs 22)) (v_iv (n_v vs 23)) (v_iv (n_v vs 25)) (w_fi ws (n_v vs 0) 1) (w_fi w1 (n_v vs 0) 1) (w_fi w3 (n_v vs 0) 1) (w_fi w5 (n_v vs 0) 1) (w_fi w7 (n_v vs 0) 1) (w_fi w8 (n_v vs 0) 1) (w_ei w8 (w_ar ws (n_v vs 0) 0)) (w_ei w8 (w_ar ws (n_v vs 3) 1)) (w_fi w2 (n_v vs 0) 1) (w_fi w4 (n_v vs 0) 1) (w_fi w6 (n_v vs 0) 1) (w_ei ws (w_ar ws (n_v vs 0) 0)) (w_ei w1 (w_ar ws (n_v vs 0) 0)) (w_ei w2 (w_ar ws (n_v vs 0) 0)) (w_ei w3 (w_ar ws (n_v vs 0) 0)) (w_ei w4 (w_ar ws (n_v vs 0) 0)) (w_ei w5 (w_ar ws (n_v vs 0) 0)) (w_ei w6 (w_ar ws (n_v vs 0) 0)) (w_ei w7 (w_ar ws (n_v vs 0) 0)) (w_ei ws (w_ar ws (n_v vs 3) 1)) (w_ei w1 (w_ar ws (n_v vs 3) 1)) (w_ei w2 (w_ar ws (n_v vs 3) 1)) (w_ei w3 (w_ar ws (n_v vs 3) 1)) (w_ei w4 (w_ar ws (n_v vs 3) 1)) (w_ei w5 (w_ar ws (n_v vs 3) 1)) (w_ei w6 (w_ar ws (n_v vs 3) 1)) (w_ei w7 (w_ar ws (n_v vs 3) 1)) k1 k6 k7 k8 k10 k12 k13 k15 k17 k18 k20 k22 k23 k25 d0 d1 d2 d3 g0 g4 (shm_439 f6) (shm_443 f7) g10 (shm_439 f12) (shm_442 f13) g16 (shm_439 f18) (shm_440 f19) g22 (shm_439 f26) (shm_441 f27) f30 fe_0_1_2 fe_0_1_4 fe_0_1_6 fe_0_1_8 hE_0_0_1 hE_0_0_2 hE_0_0_3 hE_0_0_4 hE_0_0_5 hE_0_0_6 hE_0_0_7 hE_0_0_8 hE_3_1_1 hE_3_1_2 hE_3_1_3 hE_3_1_4 hE_3_1_5 hE_3_1_6 hE_3_1_7 hE_3_1_8 kz_0_1)⟩
  refine ⟨(fun _ h => (by cases h)), [], trivial, ?_, (fun _ h => (by cases h))⟩
  rw [List.append_nil]
  exact List.forall_mem_cons.mpr ⟨⟨show (20 : Nat) < 100 from by decide, nf0⟩, List.forall_mem_cons.mpr ⟨⟨show (20 : Nat) < 100 from by decide, nf1⟩, List.forall_mem_cons.mpr ⟨⟨show (20 : Nat) < 100 from by decide, nf2⟩, (fun _ h => (by cases h))⟩⟩⟩
def n_Re_append_at_g1_an : List an_T := []
def t_Re_append_at_g1_ct : ct_L := []
set_option maxRecDepth 100000 in
theorem c_Re_append_at_g1 {l : Launch} {D : va_G} {kA : Nat → ClassId} : ct_ok PRD l D kA GG y_Re_append_at_g1 z_Re_append_at_g1 e_Re_append_at_g1 := chk_all_ok (FT := [(9, 8, 0), (15, 8, 1)]) (PT := [(15, 8, 1, .int)]) (CT := t_Re_append_at_g1_ct) (KT := []) (NT := []) (AN := n_Re_append_at_g1_an) (OT := [o_Re_append_at_g1_0, o_Re_append_at_g1_1, o_Re_append_at_g1_2, o_Re_append_at_g1_3, o_Re_append_at_g1_4]) 0 324 (List.forall_mem_cons.mpr ⟨oo_Re_append_at_g1_0, List.forall_mem_cons.mpr ⟨oo_Re_append_at_g1_1, List.forall_mem_cons.mpr ⟨oo_Re_append_at_g1_2, List.forall_mem_cons.mpr ⟨oo_Re_append_at_g1_3, List.forall_mem_cons.mpr ⟨oo_Re_append_at_g1_4, List.forall_mem_nil _⟩⟩⟩⟩⟩) (by decide +kernel) ⟨List.forall_mem_cons.mpr ⟨gf_Re_9, List.forall_mem_cons.mpr ⟨gf_Re_15, List.forall_mem_nil _⟩⟩, List.forall_mem_cons.mpr ⟨pf_Re_15, List.forall_mem_nil _⟩, List.forall_mem_nil _, List.forall_mem_nil _, List.forall_mem_nil _, GG_pl⟩ (by decide +kernel)
set_option maxHeartbeats 4000000 in
theorem vc_Re_append_at_g2_0_r0 (x2 : Int) (x7 : Int) (length_0 : Int) (tape_0 : Int → Int) (tape_0o3 : Int → Int) (k2 : 0 ≤ x2 ∧ x2 ≤ 1996) (k7 : 0 ≤ x7 ∧ x7 ≤ 2000) (g0 : x7 = length_0) (f2 : 1 * length_0 + ((-1) * x2 + 0) ≤ 0) (f3 : (-1) * length_0 + (1 * x2 + 0) ≤ 0) (hK_0_0 : ∀ j : Int, 0 ≤ j → j < 2000 → (-128) ≤ tape_0 j ∧ tape_0 j ≤ 127) (hK_3_1 : ∀ j : Int, 0 ≤ j → j < 2000 → (-128) ≤ tape_0o3 j ∧ tape_0o3 j ≤ 127) (kz_0_1 : 0 ≤ length_0 ∧ length_0 ≤ 2000) : 0 ≤ x7 ∧ x7 ≤ 1999 := by
  first | with_reducible assumption | ((try and_intros) <;> first | with_reducible assumption | (clear hK_0_0 hK_3_1; omega)) | omega
def o_Re_append_at_g2_0 : or_T := (19, 10, [(0, (2, 0, 0, [8])), (2, (0, 0, 1996, [])), (3, (2, 0, 0, [165])), (4, (0, -2147483648, 2147483647, [])), (6, (2, 0, 0, [109])), (7, (0, 0, 2000, []))], [(9, [7, 0], [1]), (9, [6, 0], [0]), (20, [0, 2], [30, 0, 1, 1, 1, -1, 0, 0]), (20, [0, 2], [30, 0, -1, 1, 1, 1, 0, 0]), (20, [0, 3, 4], [60, 1, 2, 1102, 1, 0, 1001])], [(7, (0, 0, 1999, []))], [], [], [], [])
theorem oo_Re_append_at_g2_0 {kA : Nat → ClassId} : or_ok PRD kA GG o_Re_append_at_g2_0 := by
  refine or_mk fun A ta ws vs hD hth hl => ?_
  intro t0 r0 t2 k2 t3 r3 t4 k4 t6 r6 t7 k7 f0 f1 f2 f3 f4
  replace f0 := shm_215 f0
  have cr_0_0 := fdq_95 hD hth r0
  have cr_3_1 := fdq_39 hD hth r3
  have g0 : v_iv (n_v vs 7) = w_fi ws (n_v vs 0) 1 := congrArg v_iv f0
  have hK_0_0 := elq_33 hD hth cr_0_0
  have hK_3_1 := elq_7 hD hth cr_3_1
  have kz_0_1 := fdq_96 hD hth r0
  have hrf0 : 0 ≤ v_iv (n_v vs 7) ∧ v_iv (n_v vs 7) ≤ 1999 := vc_Re_append_at_g2_0_r0 (v_iv (n_v vs 2)) (v_iv (n_v vs 7)) (w_fi ws (n_v vs 0) 1) (w_ei ws (w_ar ws (n_v vs 0) 0)) (w_ei ws (w_ar ws (n_v vs 3) 1)) k2 k7 g0 (shm_436 f2) (shm_437 f3) hK_0_0 hK_3_1 kz_0_1
  have rf7 : tv_ok ta (0, 0, 1999, []) (n_v vs 7) := tv_in t7 (by first | omega | grind) (by first | omega | grind)
  refine ⟨List.forall_mem_cons.mpr ⟨rf7, (fun _ h => (by cases h))⟩, [], trivial, ?_, (fun _ h => (by cases h))⟩
  rw [List.append_nil]
  exact (fun _ h => (by cases h))
set_option maxHeartbeats 4000000 in
theorem vc_Re_append_at_g2_1_r0 (x2 : Int) (x7 : Int) (x9 : Int) (x11 : Int) (length_0 : Int) (length_1 : Int) (length_2 : Int) (tape_2 : Int → Int) (tape_2o3 : Int → Int) (tape_0 : Int → Int) (tape_1 : Int → Int) (tape_0o3 : Int → Int) (tape_1o3 : Int → Int) (k2 : 0 ≤ x2 ∧ x2 ≤ 1996) (k7 : 0 ≤ x7 ∧ x7 ≤ 1999) (k9 : (-128) ≤ x9 ∧ x9 ≤ 127) (k11 : 1 ≤ x11 ∧ x11 ≤ 2000) (d0 : x7 + 1 ≤ x11 ∧ x11 ≤ x7 + 1) (g2 : x11 = length_0) (g6 : x7 = length_1) (f7 : 1 * length_1 + ((-1) * x2 + 0) ≤ 0) (f8 : (-1) * length_1 + (1 * x2 + 0) ≤ 0) (fe_0_1_2 : length_1 = length_2) (hE_0_0_1 : ∀ j : Int, tape_0 j = tape_1 j) (hE_0_0_2 : ∀ j : Int, 0 ≤ j → (j = x7 → tape_1 j = x9) ∧ (j ≠ x7 → tape_1 j = tape_2 j)) (hK_0_0 : ∀ j : Int, 0 ≤ j → j < 2000 → (-128) ≤ tape_0 j ∧ tape_0 j ≤ 127) (hE_3_1_1 : ∀ j : Int, tape_0o3 j = tape_1o3 j) (hE_3_1_2 : ∀ j : Int, tape_1o3 j = tape_2o3 j) (hK_3_1 : ∀ j : Int, 0 ≤ j → j < 2000 → (-128) ≤ tape_0o3 j ∧ tape_0o3 j ≤ 127) (kz_0_1 : 0 ≤ length_0 ∧ length_0 ≤ 2000) : 1 ≤ x11 ∧ x11 ≤ 1999 := by
  subst fe_0_1_2
  have e_hE_0_0_1 := funext hE_0_0_1; subst e_hE_0_0_1
  have e_hE_3_1_1 := funext hE_3_1_1; subst e_hE_3_1_1
  have e_hE_3_1_2 := funext hE_3_1_2; subst e_hE_3_1_2
  first | with_reducible assumption | ((try and_intros) <;> first | with_reducible assumption | (clear hE_0_0_1 hE_0_0_2 hK_0_0 hE_3_1_1 hE_3_1_2 hK_3_1; omega)) | omega
def o_Re_append_at_g2_1 : or_T := (19, 15, [(0, (2, 0, 0, [8])), (1, (0, -2147483648, 2147483647, [])), (2, (0, 0, 1996, [])), (3, (2, 0, 0, [165])), (4, (0, -2147483648, 2147483647, [])), (6, (2, 0, 0, [109])), (7, (0, 0, 1999, [])), (8, (0, -2147483648, 2147483647, [])), (9, (0, -128, 127, [])), (10, (0, 1, 1, [])), (11, (0, 1, 2000, [])), (13, (0, -2147483648, 2147483647, [])), (14, (0, -128, 127, []))], [(17, [14, 13], []), (11, [13, 1], [65536]), (9, [11, 0], [1]), (9, [6, 0], [0]), (101, [0, 11], [1]), (1, [11, 7, 10], []), (9, [7, 0], [1]), (20, [0, 2], [30, 0, 1, 1, 1, -1, 0, 0]), (20, [0, 2], [30, 0, -1, 1, 1, 1, 0, 0]), (100, [6, 7, 9], []), (17, [9, 8], []), (11, [8, 1], [16777216]), (20, [0, 2], [30, 0, 1, 1, 1, -1, 0, 0]), (20, [0, 2], [30, 0, -1, 1, 1, 1, 0, 0]), (20, [0, 3, 4], [60, 1, 2, 1102, 1, 0, 1001])], [(11, (0, 1, 1999, []))], [], [], [], [(11, 7, 1, 1)])
theorem oo_Re_append_at_g2_1 {kA : Nat → ClassId} : or_ok PRD kA GG o_Re_append_at_g2_1 := by
  refine or_mk fun A ta ws vs hD hth hl => ?_
  intro t0 r0 t1 k1 t2 k2 t3 r3 t4 k4 t6 r6 t7 k7 t8 k8 t9 k9 t10 k10 t11 k11 t13 k13 t14 k14 d0 f0 f1 f2 f3 ta1 w1 le1 s1 f5 f6 f7 f8 ta2 w2 le2 s2 f10 f11 f12 f13 f14
  replace f2 := shm_215 f2
  replace f3 := shm_163 f3
  have s1 : (∀ b j, w_el ws b j = w_el w1 b j) ∧ ∀ b j, w_fd ws b j = if b = v_ad (n_v vs 0) ∧ j = 1 then n_v vs 11 else w_fd w1 b j := s1.2
  replace f6 := shm_215 f6
  have s2 : (∀ b j, w_el w1 b j = if b = v_ad (n_v vs 6) ∧ j = (v_iv (n_v vs 7)).toNat then v_iv (n_v vs 9) else w_el w2 b j) ∧ ∀ b k, w_fd w1 b k = w_fd w2 b k := s2.2
  have cr_0_0 := fdq_95 hD hth r0
  have cr_3_1 := fdq_39 hD hth r3
  have ad_6 : v_ad (n_v vs 6) = w_ar ws (n_v vs 0) 0 := congrArg v_ad f3
  have g2 : v_iv (n_v vs 11) = w_fi ws (n_v vs 0) 1 := congrArg v_iv f2
  have g6 : v_iv (n_v vs 7) = w_fi w1 (n_v vs 0) 1 := congrArg v_iv f6
  have fe_0_1_2 : w_fi w1 (n_v vs 0) 1 = w_fi w2 (n_v vs 0) 1 := congrArg v_iv (s2.2 _ _)
  have hE_0_0_1 : ∀ j : Int, w_ei ws (w_ar ws (n_v vs 0) 0) j = w_ei w1 (w_ar ws (n_v vs 0) 0) j := fun j => s1.1 _ _
  have hE_0_0_2 : ∀ j : Int, 0 ≤ j → (j = v_iv (n_v vs 7) → w_ei w1 (w_ar ws (n_v vs 0) 0) j = v_iv (n_v vs 9)) ∧ (j ≠ v_iv (n_v vs 7) → w_ei w1 (w_ar ws (n_v vs 0) 0) j = w_ei w2 (w_ar ws (n_v vs 0) 0) j) := fun j hj => ⟨fun h => by unfold w_ei; rw [s2.1, if_pos ⟨ad_6.symm, by rw [h]⟩], fun h => by unfold w_ei; rw [s2.1, if_neg (fun e => h (by have := e.2; omega))]⟩
  have hK_0_0 := elq_33 hD hth cr_0_0
  have hE_3_1_1 : ∀ j : Int, w_ei ws (w_ar ws (n_v vs 3) 1) j = w_ei w1 (w_ar ws (n_v vs 3) 1) j := fun j => s1.1 _ _
  have hE_3_1_2 : ∀ j : Int, w_ei w1 (w_ar ws (n_v vs 3) 1) j = w_ei w2 (w_ar ws (n_v vs 3) 1) j := el_kp s2.1 r6 cr_3_1 (by decide)
  have hK_3_1 := elq_7 hD hth cr_3_1
  have kz_0_1 := fdq_96 hD hth r0
  have hrf0 : 1 ≤ v_iv (n_v vs 11) ∧ v_iv (n_v vs 11) ≤ 1999 := vc_Re_append_at_g2_1_r0 (v_iv (n_v vs 2)) (v_iv (n_v vs 7)) (v_iv (n_v vs 9)) (v_iv (n_v vs 11)) (w_fi ws (n_v vs 0) 1) (w_fi w1 (n_v vs 0) 1) (w_fi w2 (n_v vs 0) 1) (w_ei w2 (w_ar ws (n_v vs 0) 0)) (w_ei w2 (w_ar ws (n_v vs 3) 1)) (w_ei ws (w_ar ws (n_v vs 0) 0)) (w_ei w1 (w_ar ws (n_v vs 0) 0)) (w_ei ws (w_ar ws (n_v vs 3) 1)) (w_ei w1 (w_ar ws (n_v vs 3) 1)) k2 k7 k9 k11 d0 g2 g6 (shm_436 f7) (shm_437 f8) fe_0_1_2 hE_0_0_1 hE_0_0_2 hK_0_0 hE_3_1_1 hE_3_1_2 hK_3_1 kz_0_1
  have rf11 : tv_ok ta (0, 1, 1999, []) (n_v vs 11) := tv_in t11 (by first | omega | grind) (by first | omega | grind)
  refine ⟨List.forall_mem_cons.mpr ⟨rf11, (fun _ h => (by cases h))⟩, [], trivial, ?_, (fun _ h => (by cases h))⟩
  rw [List.append_nil]
  exact (fun _ h => (by cases h))
set_option maxHeartbeats 4000000 in
theorem vc_Re_append_at_g2_2_r0 (x2 : Int) (x7 : Int) (x9 : Int) (x11 : Int) (x14 : Int) (x16 : Int) (length_0 : Int) (length_1 : Int) (length_3 : Int) (length_4 : Int) (tape_4 : Int → Int) (tape_4o3 : Int → Int) (length_2 : Int) (tape_0 : Int → Int) (tape_1 : Int → Int) (tape_2 : Int → Int) (tape_3 : Int → Int) (tape_0o3 : Int → Int) (tape_1o3 : Int → Int) (tape_2o3 : Int → Int) (tape_3o3 : Int → Int) (k2 : 0 ≤ x2 ∧ x2 ≤ 1996) (k7 : 0 ≤ x7 ∧ x7 ≤ 1999) (k9 : (-128) ≤ x9 ∧ x9 ≤ 127) (k11 : 1 ≤ x11 ∧ x11 ≤ 1999) (k14 : (-128) ≤ x14 ∧ x14 ≤ 127) (k16 : 2 ≤ x16 ∧ x16 ≤ 2000) (d0 : x11 + 1 ≤ x16 ∧ x16 ≤ x11 + 1) (d1 : x7 + 2 ≤ x16 ∧ x16 ≤ x7 + 2) (g2 : x16 = length_0) (g6 : x11 = length_1) (g12 : x7 = length_3) (f13 : 1 * length_3 + ((-1) * x2 + 0) ≤ 0) (f14 : (-1) * length_3 + (1 * x2 + 0) ≤ 0) (fe_0_1_2 : length_1 = length_2) (fe_0_1_4 : length_3 = length_4) (hE_0_0_1 : ∀ j : Int, tape_0 j = tape_1 j) (hE_0_0_2 : ∀ j : Int, 0 ≤ j → (j = x11 → tape_1 j = x14) ∧ (j ≠ x11 → tape_1 j = tape_2 j)) (hE_0_0_3 : ∀ j : Int, tape_2 j = tape_3 j) (hE_0_0_4 : ∀ j : Int, 0 ≤ j → (j = x7 → tape_3 j = x9) ∧ (j ≠ x7 → tape_3 j = tape_4 j)) (hK_0_0 : ∀ j : Int, 0 ≤ j → j < 2000 → (-128) ≤ tape_0 j ∧ tape_0 j ≤ 127) (hE_3_1_1 : ∀ j : Int, tape_0o3 j = tape_1o3 j) (hE_3_1_2 : ∀ j : Int, tape_1o3 j = tape_2o3 j) (hE_3_1_3 : ∀ j : Int, tape_2o3 j = tape_3o3 j) (hE_3_1_4 : ∀ j : Int, tape_3o3 j = tape_4o3 j) (hK_3_1 : ∀ j : Int, 0 ≤ j → j < 2000 → (-128) ≤ tape_0o3 j ∧ tape_0o3 j ≤ 127) (kz_0_1 : 0 ≤ length_0 ∧ length_0 ≤ 2000) : 2 ≤ x16 ∧ x16 ≤ 1999 := by
  subst fe_0_1_2
  subst fe_0_1_4
  have e_hE_0_0_1 := funext hE_0_0_1; subst e_hE_0_0_1
  have e_hE_0_0_3 := funext hE_0_0_3; subst e_hE_0_0_3
  have e_hE_3_1_1 := funext hE_3_1_1; subst e_hE_3_1_1
  have e_hE_3_1_2 := funext hE_3_1_2; subst e_hE_3_1_2
  have e_hE_3_1_3 := funext hE_3_1_3; subst e_hE_3_1_3
  have e_hE_3_1_4 := funext hE_3_1_4; subst e_hE_3_1_4
  first | with_reducible assumption | ((try and_intros) <;> first | with_reducible assumption | (clear hE_0_0_1 hE_0_0_2 hE_0_0_3 hE_0_0_4 hK_0_0 hE_3_1_1 hE_3_1_2 hE_3_1_3 hE_3_1_4 hK_3_1; omega)) | omega
def o_Re_append_at_g2_2 : or_T := (19, 20, [(0, (2, 0, 0, [8])), (1, (0, -2147483648, 2147483647, [])), (2, (0, 0, 1996, [])), (3, (2, 0, 0, [165])), (4, (0, -2147483648, 2147483647, [])), (6, (2, 0, 0, [109])), (7, (0, 0, 1999, [])), (8, (0, -2147483648, 2147483647, [])), (9, (0, -128, 127, [])), (10, (0, 1, 1, [])), (11, (0, 1, 1999, [])), (13, (0, -2147483648, 2147483647, [])), (14, (0, -128, 127, [])), (15, (0, 1, 1, [])), (16, (0, 2, 2000, [])), (18, (0, -2147483648, 2147483647, [])), (19, (0, -128, 127, []))], [(17, [19, 18], []), (11, [18, 1], [256]), (9, [16, 0], [1]), (9, [6, 0], [0]), (101, [0, 16], [1]), (1, [16, 11, 15], []), (9, [11, 0], [1]), (100, [6, 11, 14], []), (17, [14, 13], []), (11, [13, 1], [65536]), (101, [0, 11], [1]), (1, [11, 7, 10], []), (9, [7, 0], [1]), (20, [0, 2], [30, 0, 1, 1, 1, -1, 0, 0]), (20, [0, 2], [30, 0, -1, 1, 1, 1, 0, 0]), (100, [6, 7, 9], []), (17, [9, 8], []), (11, [8, 1], [16777216]), (20, [0, 2], [30, 0, 1, 1, 1, -1, 0, 0]), (20, [0, 2], [30, 0, -1, 1, 1, 1, 0, 0]), (20, [0, 3, 4], [60, 1, 2, 1102, 1, 0, 1001])], [(16, (0, 2, 1999, []))], [], [], [], [(16, 11, 1, 1), (16, 7, 2, 2), (11, 7, 1, 1)])
theorem oo_Re_append_at_g2_2 {kA : Nat → ClassId} : or_ok PRD kA GG o_Re_append_at_g2_2 := by
  refine or_mk fun A ta ws vs hD hth hl => ?_
  intro t0 r0 t1 k1 t2 k2 t3 r3 t4 k4 t6 r6 t7 k7 t8 k8 t9 k9 t10 k10 t11 k11 t13 k13 t14 k14 t15 k15 t16 k16 t18 k18 t19 k19 d0 d1 d2 f0 f1 f2 f3 ta1 w1 le1 s1 f5 f6 ta2 w2 le2 s2 f8 f9 ta3 w3 le3 s3 f11 f12 f13 f14 ta4 w4 le4 s4 f16 f17 f18 f19 f20
  replace f2 := shm_215 f2
  replace f3 := shm_163 f3
  have s1 : (∀ b j, w_el ws b j = w_el w1 b j) ∧ ∀ b j, w_fd ws b j = if b = v_ad (n_v vs 0) ∧ j = 1 then n_v vs 16 else w_fd w1 b j := s1.2
  replace f6 := shm_215 f6
  have s2 : (∀ b j, w_el w1 b j = if b = v_ad (n_v vs 6) ∧ j = (v_iv (n_v vs 11)).toNat then v_iv (n_v vs 14) else w_el w2 b j) ∧ ∀ b k, w_fd w1 b k = w_fd w2 b k := s2.2
  have s3 : (∀ b j, w_el w2 b j = w_el w3 b j) ∧ ∀ b j, w_fd w2 b j = if b = v_ad (n_v vs 0) ∧ j = 1 then n_v vs 11 else w_fd w3 b j := s3.2
  replace f12 := shm_215 f12
  have s4 : (∀ b j, w_el w3 b j = if b = v_ad (n_v vs 6) ∧ j = (v_iv (n_v vs 7)).toNat then v_iv (n_v vs 9) else w_el w4 b j) ∧ ∀ b k, w_fd w3 b k = w_fd w4 b k := s4.2
  have cr_0_0 := fdq_95 hD hth r0
  have cr_3_1 := fdq_39 hD hth r3
  have ad_6 : v_ad (n_v vs 6) = w_ar ws (n_v vs 0) 0 := congrArg v_ad f3
  have g2 : v_iv (n_v vs 16) = w_fi ws (n_v vs 0) 1 := congrArg v_iv f2
  have g6 : v_iv (n_v vs 11) = w_fi w1 (n_v vs 0) 1 := congrArg v_iv f6
  have g12 : v_iv (n_v vs 7) = w_fi w3 (n_v vs 0) 1 := congrArg v_iv f12
  have fe_0_1_2 : w_fi w1 (n_v vs 0) 1 = w_fi w2 (n_v vs 0) 1 := congrArg v_iv (s2.2 _ _)
  have fe_0_1_4 : w_fi w3 (n_v vs 0) 1 = w_fi w4 (n_v vs 0) 1 := congrArg v_iv (s4.2 _ _)
  have hE_0_0_1 : ∀ j : Int, w_ei ws (w_ar ws (n_v vs 0) 0) j = w_ei w1 (w_ar ws (n_v vs 0) 0) j := fun j => s1.1 _ _
  have hE_0_0_2 : ∀ j : Int, 0 ≤ j → (j = v_iv (n_v vs 11) → w_ei w1 (w_ar ws (n_v vs 0) 0) j = v_iv (n_v vs 14)) ∧ (j ≠ v_iv (n_v vs 11) → w_ei w1 (w_ar ws (n_v vs 0) 0) j = w_ei w2 (w_ar ws (n_v vs 0) 0) j) := fun j hj => ⟨fun h => by unfold w_ei; rw [s2.1, if_pos ⟨ad_6.symm, by rw [h]⟩], fun h => by unfold w_ei; rw [s2.1, if_neg (fun e => h (by have := e.2; omega))]⟩
  have hE_0_0_3 : ∀ j : Int, w_ei w2 (w_ar ws (n_v vs 0) 0) j = w_ei w3 (w_ar ws (n_v vs 0) 0) j := fun j => s3.1 _ _
  have hE_0_0_4 : ∀ j : Int, 0 ≤ j → (j = v_iv (n_v vs 7) → w_ei w3 (w_ar ws (n_v vs 0) 0) j = v_iv (n_v vs 9)) ∧ (j ≠ v_iv (n_v vs 7) → w_ei w3 (w_ar ws (n_v vs 0) 0) j = w_ei w4 (w_ar ws (n_v vs 0) 0) j) := fun j hj => ⟨fun h => by unfold w_ei; rw [s4.1, if_pos ⟨ad_6.symm, by rw [h]⟩], fun h => by unfold w_ei; rw [s4.1, if_neg (fun e => h (by have := e.2; omega))]⟩
  have hK_0_0 := elq_33 hD hth cr_0_0
  have hE_3_1_1 : ∀ j : Int, w_ei ws (w_ar ws (n_v vs 3) 1) j = w_ei w1 (w_ar ws (n_v vs 3) 1) j := fun j => s1.1 _ _
  have hE_3_1_2 : ∀ j : Int, w_ei w1 (w_ar ws (n_v vs 3) 1) j = w_ei w2 (w_ar ws (n_v vs 3) 1) j := el_kp s2.1 r6 cr_3_1 (by decide)
  have hE_3_1_3 : ∀ j : Int, w_ei w2 (w_ar ws (n_v vs 3) 1) j = w_ei w3 (w_ar ws (n_v vs 3) 1) j := fun j => s3.1 _ _
  have hE_3_1_4 : ∀ j : Int, w_ei w3 (w_ar ws (n_v vs 3) 1) j = w_ei w4 (w_ar ws (n_v vs 3) 1) j := el_kp s4.1 r6 cr_3_1 (by decide)
  have hK_3_1 := elq_7 hD hth cr_3_1
  have kz_0_1 := fdq_96 hD hth r0
  have hrf0 : 2 ≤ v_iv (n_v vs 16) ∧ v_iv (n_v vs 16) ≤ 1999 := vc_Re_append_at_g2_2_r0 (v_iv (n_v vs 2)) (v_iv (n_v vs 7)) (v_iv (n_v vs 9)) (v_iv (n_v vs 11)) (v_iv (n_v vs 14)) (v_iv (n_v vs 16)) (w_fi ws (n_v vs 0) 1) (w_fi w1 (n_v vs 0) 1) (w_fi w3 (n_v vs 0) 1) (w_fi w4 (n_v vs 0) 1) (w_ei w4 (w_ar ws (n_v vs 0) 0)) (w_ei w4 (w_ar ws (n_v vs 3) 1)) (w_fi w2 (n_v vs 0) 1) (w_ei ws (w_ar ws (n_v vs 0) 0)) (w_ei w1 (w_ar ws (n_v vs 0) 0)) (w_ei w2 (w_ar ws (n_v vs 0) 0)) (w_ei w3 (w_ar ws (n_v vs 0) 0)) (w_ei ws (w_ar ws (n_v vs 3) 1)) (w_ei w1 (w_ar ws (n_v vs 3) 1)) (w_ei w2 (w_ar ws (n_v vs 3) 1)) (w_ei w3 (w_ar ws (n_v vs 3) 1)) k2 k7 k9 k11 k14 k16 d0 d1 g2 g6 g12 (shm_436 f13) (shm_437 f14) fe_0_1_2 fe_0_1_4 hE_0_0_1 hE_0_0_2 hE_0_0_3 hE_0_0_4 hK_0_0 hE_3_1_1 hE_3_1_2 hE_3_1_3 hE_3_1_4 hK_3_1 kz_0_1
  have rf16 : tv_ok ta (0, 2, 1999, []) (n_v vs 16) := tv_in t16 (by first | omega | grind) (by first | omega | grind)
  refine ⟨List.forall_mem_cons.mpr ⟨rf16, (fun _ h => (by cases h))⟩, [], trivial, ?_, (fun _ h => (by cases h))⟩
  rw [List.append_nil]
  exact (fun _ h => (by cases h))
set_option maxHeartbeats 4000000 in
theorem vc_Re_append_at_g2_3_r0 (x2 : Int) (x7 : Int) (x9 : Int) (x11 : Int) (x14 : Int) (x16 : Int) (x19 : Int) (x21 : Int) (length_0 : Int) (length_1 : Int) (length_3 : Int) (length_5 : Int) (length_6 : Int) (tape_6 : Int → Int) (tape_6o3 : Int → Int) (length_2 : Int) (length_4 : Int) (tape_0 : Int → Int) (tape_1 : Int → Int) (tape_2 : Int → Int) (tape_3 : Int → Int) (tape_4 : Int → Int) (tape_5 : Int → Int) (tape_0o3 : Int → Int) (tape_1o3 : Int → Int) (tape_2o3 : Int → Int) (tape_3o3 : Int → Int) (tape_4o3 : Int → Int) (tape_5o3 : Int → Int) (k2 : 0 ≤ x2 ∧ x2 ≤ 1996) (k7 : 0 ≤ x7 ∧ x7 ≤ 1999) (k9 : (-128) ≤ x9 ∧ x9 ≤ 127) (k11 : 1 ≤ x11 ∧ x11 ≤ 1999) (k14 : (-128) ≤ x14 ∧ x14 ≤ 127) (k16 : 2 ≤ x16 ∧ x16 ≤ 1999) (k19 : (-128) ≤ x19 ∧ x19 ≤ 127) (k21 : 3 ≤ x21 ∧ x21 ≤ 2000) (d0 : x16 + 1 ≤ x21 ∧ x21 ≤ x16 + 1) (d1 : x11 + 2 ≤ x21 ∧ x21 ≤ x11 + 2) (d2 : x7 + 3 ≤ x21 ∧ x21 ≤ x7 + 3) (g2 : x21 = length_0) (g6 : x16 = length_1) (g12 : x11 = length_3) (g18 : x7 = length_5) (f19 : 1 * length_5 + ((-1) * x2 + 0) ≤ 0) (f20 : (-1) * length_5 + (1 * x2 + 0) ≤ 0) (fe_0_1_2 : length_1 = length_2) (fe_0_1_4 : length_3 = length_4) (fe_0_1_6 : length_5 = length_6) (hE_0_0_1 : ∀ j : Int, tape_0 j = tape_1 j) (hE_0_0_2 : ∀ j : Int, 0 ≤ j → (j = x16 → tape_1 j = x19) ∧ (j ≠ x16 → tape_1 j = tape_2 j)) (hE_0_0_3 : ∀ j : Int, tape_2 j = tape_3 j) (hE_0_0_4 : ∀ j : Int, 0 ≤ j → (j = x11 → tape_3 j = x14) ∧ (j ≠ x11 → tape_3 j = tape_4 j)) (hE_0_0_5 : ∀ j : Int, tape_4 j = tape_5 j) (hE_0_0_6 : ∀ j : Int, 0 ≤ j → (j = x7 → tape_5 j = x9) ∧ (j ≠ x7 → tape_5 j = tape_6 j)) (hK_0_0 : ∀ j : Int, 0 ≤ j → j < 2000 → (-128) ≤ tape_0 j ∧ tape_0 j ≤ 127) (hE_3_1_1 : ∀ j : Int, tape_0o3 j = tape_1o3 j) (hE_3_1_2 : ∀ j : Int, tape_1o3 j = tape_2o3 j) (hE_3_1_3 : ∀ j : Int, tape_2o3 j = tape_3o3 j) (hE_3_1_4 : ∀ j : Int, tape_3o3 j = tape_4o3 j) (hE_3_1_5 : ∀ j : Int, tape_4o3 j = tape_5o3 j) (hE_3_1_6 : ∀ j : Int, tape_5o3 j = tape_6o3 j) (hK_3_1 : ∀ j : Int, 0 ≤ j → j < 2000 → (-128) ≤ tape_0o3 j ∧ tape_0o3 j ≤ 127) (kz_0_1 : 0 ≤ length_0 ∧ length_0 ≤ 2000) : 3 ≤ x21 ∧ x21 ≤ 1999 := by
  subst fe_0_1_2
  subst fe_0_1_4
  subst fe_0_1_6
  have e_hE_0_0_1 := funext hE_0_0_1; subst e_hE_0_0_1
  have e_hE_0_0_3 := funext hE_0_0_3; subst e_hE_0_0_3
  have e_hE_0_0_5 := funext hE_0_0_5; subst e_hE_0_0_5
  have e_hE_3_1_1 := funext hE_3_1_1; subst e_hE_3_1_1
  have e_hE_3_1_2 := funext hE_3_1_2; subst e_hE_3_1_2
  have e_hE_3_1_3 := funext hE_3_1_3; subst e_hE_3_1_3
  have e_hE_3_1_4 := funext hE_3_1_4; subst e_hE_3_1_4
  have e_hE_3_1_5 := funext hE_3_1_5; subst e_hE_3_1_5
  have e_hE_3_1_6 := funext hE_3_1_6; subst e_hE_3_1_6
  first | with_reducible assumption | ((try and_intros) <;> first | with_reducible assumption | (clear hE_0_0_1 hE_0_0_2 hE_0_0_3 hE_0_0_4 hE_0_0_5 hE_0_0_6 hK_0_0 hE_3_1_1 hE_3_1_2 hE_3_1_3 hE_3_1_4 hE_3_1_5 hE_3_1_6 hK_3_1; omega)) | omega
def o_Re_append_at_g2_3 : or_T := (19, 25, [(0, (2, 0, 0, [8])), (1, (0, -2147483648, 2147483647, [])), (2, (0, 0, 1996, [])), (3, (2, 0, 0, [165])), (4, (0, -2147483648, 2147483647, [])), (6, (2, 0, 0, [109])), (7, (0, 0, 1999, [])), (8, (0, -2147483648, 2147483647, [])), (9, (0, -128, 127, [])), (10, (0, 1, 1, [])), (11, (0, 1, 1999, [])), (13, (0, -2147483648, 2147483647, [])), (14, (0, -128, 127, [])), (15, (0, 1, 1, [])), (16, (0, 2, 1999, [])), (18, (0, -2147483648, 2147483647, [])), (19, (0, -128, 127, [])), (20, (0, 1, 1, [])), (21, (0, 3, 2000, [])), (23, (0, -2147483648, 2147483647, [])), (24, (0, -128, 127, []))], [(17, [24, 23], []), (11, [23, 1], [1]), (9, [21, 0], [1]), (9, [6, 0], [0]), (101, [0, 21], [1]), (1, [21, 16, 20], []), (9, [16, 0], [1]), (100, [6, 16, 19], []), (17, [19, 18], []), (11, [18, 1], [256]), (101, [0, 16], [1]), (1, [16, 11, 15], []), (9, [11, 0], [1]), (100, [6, 11, 14], []), (17, [14, 13], []), (11, [13, 1], [65536]), (101, [0, 11], [1]), (1, [11, 7, 10], []), (9, [7, 0], [1]), (20, [0, 2], [30, 0, 1, 1, 1, -1, 0, 0]), (20, [0, 2], [30, 0, -1, 1, 1, 1, 0, 0]), (100, [6, 7, 9], []), (17, [9, 8], []), (11, [8, 1], [16777216]), (20, [0, 2], [30, 0, 1, 1, 1, -1, 0, 0]), (20, [0, 2], [30, 0, -1, 1, 1, 1, 0, 0]), (20, [0, 3, 4], [60, 1, 2, 1102, 1, 0, 1001])], [(21, (0, 3, 1999, []))], [], [], [], [(21, 16, 1, 1), (21, 11, 2, 2), (21, 7, 3, 3), (16, 11, 1, 1), (16, 7, 2, 2), (11, 7, 1, 1)])
theorem oo_Re_append_at_g2_3 {kA : Nat → ClassId} : or_ok PRD kA GG o_Re_append_at_g2_3 := by
  refine or_mk fun A ta ws vs hD hth hl => ?_
  intro t0 r0 t1 k1 t2 k2 t3 r3 t4 k4 t6 r6 t7 k7 t8 k8 t9 k9 t10 k10 t11 k11 t13 k13 t14 k14 t15 k15 t16 k16 t18 k18 t19 k19 t20 k20 t21 k21 t23 k23 t24 k24 d0 d1 d2 d3 d4 d5 f0 f1 f2 f3 ta1 w1 le1 s1 f5 f6 ta2 w2 le2 s2 f8 f9 ta3 w3 le3 s3 f11 f12 ta4 w4 le4 s4 f14 f15 ta5 w5 le5 s5 f17 f18 f19 f20 ta6 w6 le6 s6 f22 f23 f24 f25 f26
  replace f2 := shm_215 f2
  replace f3 := shm_163 f3
  have s1 : (∀ b j, w_el ws b j = w_el w1 b j) ∧ ∀ b j, w_fd ws b j = if b = v_ad (n_v vs 0) ∧ j = 1 then n_v vs 21 else w_fd w1 b j := s1.2
  replace f6 := shm_215 f6
  have s2 : (∀ b j, w_el w1 b j = if b = v_ad (n_v vs 6) ∧ j = (v_iv (n_v vs 16)).toNat then v_iv (n_v vs 19) else w_el w2 b j) ∧ ∀ b k, w_fd w1 b k = w_fd w2 b k := s2.2
  have s3 : (∀ b j, w_el w2 b j = w_el w3 b j) ∧ ∀ b j, w_fd w2 b j = if b = v_ad (n_v vs 0) ∧ j = 1 then n_v vs 16 else w_fd w3 b j := s3.2
  replace f12 := shm_215 f12
  have s4 : (∀ b j, w_el w3 b j = if b = v_ad (n_v vs 6) ∧ j = (v_iv (n_v vs 11)).toNat then v_iv (n_v vs 14) else w_el w4 b j) ∧ ∀ b k, w_fd w3 b k = w_fd w4 b k := s4.2
  have s5 : (∀ b j, w_el w4 b j = w_el w5 b j) ∧ ∀ b j, w_fd w4 b j = if b = v_ad (n_v vs 0) ∧ j = 1 then n_v vs 11 else w_fd w5 b j := s5.2
  replace f18 := shm_215 f18
  have s6 : (∀ b j, w_el w5 b j = if b = v_ad (n_v vs 6) ∧ j = (v_iv (n_v vs 7)).toNat then v_iv (n_v vs 9) else w_el w6 b j) ∧ ∀ b k, w_fd w5 b k = w_fd w6 b k := s6.2
  have cr_0_0 := fdq_95 hD hth r0
  have cr_3_1 := fdq_39 hD hth r3
  have ad_6 : v_ad (n_v vs 6) = w_ar ws (n_v vs 0) 0 := congrArg v_ad f3
  have g2 : v_iv (n_v vs 21) = w_fi ws (n_v vs 0) 1 := congrArg v_iv f2
  have g6 : v_iv (n_v vs 16) = w_fi w1 (n_v vs 0) 1 := congrArg v_iv f6
  have g12 : v_iv (n_v vs 11) = w_fi w3 (n_v vs 0) 1 := congrArg v_iv f12
  have g18 : v_iv (n_v vs 7) = w_fi w5 (n_v vs 0) 1 := congrArg v_iv f18
  have fe_0_1_2 : w_fi w1 (n_v vs 0) 1 = w_fi w2 (n_v vs 0) 1 := congrArg v_iv (s2.2 _ _)
  have fe_0_1_4 : w_fi w3 (n_v vs 0) 1 = w_fi w4 (n_v vs 0) 1 := congrArg v_iv (s4.2 _ _)
  have fe_0_1_6 : w_fi w5 (n_v vs 0) 1 = w_fi w6 (n_v vs 0) 1 := congrArg v_iv (s6.2 _ _)
  have hE_0_0_1 : ∀ j : Int, w_ei ws (w_ar ws (n_v vs 0) 0) j = w_ei w1 (w_ar ws (n_v vs 0) 0) j := fun j => s1.1 _ _
  have hE_0_0_2 : ∀ j : Int, 0 ≤ j → (j = v_iv (n_v vs 16) → w_ei w1 (w_ar ws (n_v vs 0) 0) j = v_iv (n_v vs 19)) ∧ (j ≠ v_iv (n_v vs 16) → w_ei w1 (w_ar ws (n_v vs 0) 0) j = w_ei w2 (w_ar ws (n_v vs 0) 0) j) := fun j hj => ⟨fun h => by unfold w_ei; rw [s2.1, if_pos ⟨ad_6.symm, by rw [h]⟩], fun h => by unfold w_ei; rw [s2.1, if_neg (fun e => h (by have := e.2; omega))]⟩
  have hE_0_0_3 : ∀ j : Int, w_ei w2 (w_ar ws (n_v vs 0) 0) j = w_ei w3 (w_ar ws (n_v vs 0) 0) j := fun j => s3.1 _ _
  have hE_0_0_4 : ∀ j : Int, 0 ≤ j → (j = v_iv (n_v vs 11) → w_ei w3 (w_ar ws (n_v vs 0) 0) j = v_iv (n_v vs 14)) ∧ (j ≠ v_iv (n_v vs 11) → w_ei w3 (w_ar ws (n_v vs 0) 0) j = w_ei w4 (w_ar ws (n_v vs 0) 0) j) := fun j hj => ⟨fun h => by unfold w_ei; rw [s4.1, if_pos ⟨ad_6.symm, by rw [h]⟩], fun h => by unfold w_ei; rw [s4.1, if_neg (fun e => h (by have := e.2; omega))]⟩
  have hE_0_0_5 : ∀ j : Int, w_ei w4 (w_ar ws (n_v vs 0) 0) j = w_ei w5 (w_ar ws (n_v vs 0) 0) j := fun j => s5.1 _ _
  have hE_0_0_6 : ∀ j : Int, 0 ≤ j → (j = v_iv (n_v vs 7) → w_ei w5 (w_ar ws (n_v vs 0) 0) j = v_iv (n_v vs 9)) ∧ (j ≠ v_iv (n_v vs 7) → w_ei w5 (w_ar ws (n_v vs 0) 0) j = w_ei w6 (w_ar ws (n_v vs 0) 0) j) := fun j hj => ⟨fun h => by unfold w_ei; rw [s6.1, if_pos ⟨ad_6.symm, by rw [h]⟩], fun h => by unfold w_ei; rw [s6.1, if_neg (fun e => h (by have := e.2; omega))]⟩
  have hK_0_0 := elq_33 hD hth cr_0_0
  have hE_3_1_1 : ∀ j : Int, w_ei ws (w_ar ws (n_v vs 3) 1) j = w_ei w1 (w_ar ws (n_v vs 3) 1) j := fun j => s1.1 _ _
  have hE_3_1_2 : ∀ j : Int, w_ei w1 (w_ar ws (n_v vs 3) 1) j = w_ei w2 (w_ar ws (n_v vs 3) 1) j := el_kp s2.1 r6 cr_3_1 (by decide)
  have hE_3_1_3 : ∀ j : Int, w_ei w2 (w_ar ws (n_v vs 3) 1) j = w_ei w3 (w_ar ws (n_v vs 3) 1) j := fun j => s3.1 _ _
  have hE_3_1_4 : ∀ j : Int, w_ei w3 (w_ar ws (n_v vs 3) 1) j = w_ei w4 (w_ar ws (n_v vs 3) 1) j := el_kp s4.1 r6 cr_3_1 (by decide)
  have hE_3_1_5 : ∀ j : Int, w_ei w4 (w_ar ws (n_v vs 3) 1) j = w_ei w5 (w_ar ws (n_v vs 3) 1) j := fun j => s5.1 _ _
  have hE_3_1_6 : ∀ j : Int, w_ei w5 (w_ar ws (n_v vs 3) 1) j = w_ei w6 (w_ar ws (n_v vs 3) 1) j := el_kp s6.1 r6 cr_3_1 (by decide)
  have hK_3_1 := elq_7 hD hth cr_3_1
  have kz_0_1 := fdq_96 hD hth r0
  have hrf0 : 3 ≤ v_iv (n_v vs 21) ∧ v_iv (n_v vs 21) ≤ 1999 := vc_Re_append_at_g2_3_r0 (v_iv (n_v vs 2)) (v_iv (n_v vs 7)) (v_iv (n_v vs 9)) (v_iv (n_v vs 11)) (v_iv (n_v vs 14)) (v_iv (n_v vs 16)) (v_iv (n_v vs 19)) (v_iv (n_v vs 21)) (w_fi ws (n_v vs 0) 1) (w_fi w1 (n_v vs 0) 1) (w_fi w3 (n_v vs 0) 1) (w_fi w5 (n_v vs 0) 1) (w_fi w6 (n_v vs 0) 1) (w_ei w6 (w_ar ws (n_v vs 0) 0)) (w_ei w6 (w_ar ws (n_v vs 3) 1)) (w_fi w2 (n_v vs 0) 1) (w_fi w4 (n_v vs 0) 1) (w_ei ws (w_ar ws (n_v vs 0) 0)) (w_ei w1 (w_ar ws (n_v vs 0) 0)) (w_ei w2 (w_ar ws (n_v vs 0) 0)) (w_ei w3 (w_ar ws (n_v vs 0) 0)) (w_ei w4 (w_ar ws (n_v vs 0) 0)) (w_ei w5 (w_ar ws (n_v vs 0) 0)) (w_ei ws (w_ar ws (n_v vs 3) 1)) (w_ei w1 (w_ar ws (n_v vs 3) 1)) (w_ei w2 (w_ar ws (n_v vs 3) 1)) (w_ei w3 (w_ar ws (n_v vs 3) 1)) (w_ei w4 (w_ar ws (n_v vs 3) 1)) (w_ei w5 (w_ar ws (n_v vs 3) 1)) k2 k7 k9 k11 k14 k16 k19 k21 d0 d1 d2 g2 g6 g12 g18 (shm_436 f19) (shm_437 f20) fe_0_1_2 fe_0_1_4 fe_0_1_6 hE_0_0_1 hE_0_0_2 hE_0_0_3 hE_0_0_4 hE_0_0_5 hE_0_0_6 hK_0_0 hE_3_1_1 hE_3_1_2 hE_3_1_3 hE_3_1_4 hE_3_1_5 hE_3_1_6 hK_3_1 kz_0_1
  have rf21 : tv_ok ta (0, 3, 1999, []) (n_v vs 21) := tv_in t21 (by first | omega | grind) (by first | omega | grind)
  refine ⟨List.forall_mem_cons.mpr ⟨rf21, (fun _ h => (by cases h))⟩, [], trivial, ?_, (fun _ h => (by cases h))⟩
  rw [List.append_nil]
  exact (fun _ h => (by cases h))
set_option maxHeartbeats 4000000 in
theorem vc_Re_append_at_g2_4_0 (x2 : Int) (x7 : Int) (x9 : Int) (x11 : Int) (x14 : Int) (x16 : Int) (x19 : Int) (x21 : Int) (x24 : Int) (x26 : Int) (length_0 : Int) (length_1 : Int) (length_3 : Int) (length_5 : Int) (length_7 : Int) (length_8 : Int) (tape_8 : Int → Int) (tape_8o3 : Int → Int) (length_2 : Int) (length_4 : Int) (length_6 : Int) (tape_0 : Int → Int) (tape_1 : Int → Int) (tape_2 : Int → Int) (tape_3 : Int → Int) (tape_4 : Int → Int) (tape_5 : Int → Int) (tape_6 : Int → Int) (tape_7 : Int → Int) (tape_0o3 : Int → Int) (tape_1o3 : Int → Int) (tape_2o3 : Int → Int) (tape_3o3 : Int → Int) (tape_4o3 : Int → Int) (tape_5o3 : Int → Int) (tape_6o3 : Int → Int) (tape_7o3 : Int → Int) (k2 : 0 ≤ x2 ∧ x2 ≤ 1996) (k7 : 0 ≤ x7 ∧ x7 ≤ 1999) (k9 : (-128) ≤ x9 ∧ x9 ≤ 127) (k11 : 1 ≤ x11 ∧ x11 ≤ 1999) (k14 : (-128) ≤ x14 ∧ x14 ≤ 127) (k16 : 2 ≤ x16 ∧ x16 ≤ 1999) (k19 : (-128) ≤ x19 ∧ x19 ≤ 127) (k21 : 3 ≤ x21 ∧ x21 ≤ 1999) (k24 : (-128) ≤ x24 ∧ x24 ≤ 127) (k26 : 4 ≤ x26 ∧ x26 ≤ 2000) (d0 : x21 + 1 ≤ x26 ∧ x26 ≤ x21 + 1) (d1 : x16 + 2 ≤ x26 ∧ x26 ≤ x16 + 2) (d2 : x11 + 3 ≤ x26 ∧ x26 ≤ x11 + 3) (d3 : x7 + 4 ≤ x26 ∧ x26 ≤ x7 + 4) (g0 : x26 = length_0) (g4 : x21 = length_1) (g10 : x16 = length_3) (g16 : x11 = length_5) (g22 : x7 = length_7) (f23 : 1 * length_7 + ((-1) * x2 + 0) ≤ 0) (f24 : (-1) * length_7 + (1 * x2 + 0) ≤ 0) (fe_0_1_2 : length_1 = length_2) (fe_0_1_4 : length_3 = length_4) (fe_0_1_6 : length_5 = length_6) (fe_0_1_8 : length_7 = length_8) (hE_0_0_1 : ∀ j : Int, tape_0 j = tape_1 j) (hE_0_0_2 : ∀ j : Int, 0 ≤ j → (j = x21 → tape_1 j = x24) ∧ (j ≠ x21 → tape_1 j = tape_2 j)) (hE_0_0_3 : ∀ j : Int, tape_2 j = tape_3 j) (hE_0_0_4 : ∀ j : Int, 0 ≤ j → (j = x16 → tape_3 j = x19) ∧ (j ≠ x16 → tape_3 j = tape_4 j)) (hE_0_0_5 : ∀ j : Int, tape_4 j = tape_5 j) (hE_0_0_6 : ∀ j : Int, 0 ≤ j → (j = x11 → tape_5 j = x14) ∧ (j ≠ x11 → tape_5 j = tape_6 j)) (hE_0_0_7 : ∀ j : Int, tape_6 j = tape_7 j) (hE_0_0_8 : ∀ j : Int, 0 ≤ j → (j = x7 → tape_7 j = x9) ∧ (j ≠ x7 → tape_7 j = tape_8 j)) (hK_0_0 : ∀ j : Int, 0 ≤ j → j < 2000 → (-128) ≤ tape_0 j ∧ tape_0 j ≤ 127) (hE_3_1_1 : ∀ j : Int, tape_0o3 j = tape_1o3 j) (hE_3_1_2 : ∀ j : Int, tape_1o3 j = tape_2o3 j) (hE_3_1_3 : ∀ j : Int, tape_2o3 j = tape_3o3 j) (hE_3_1_4 : ∀ j : Int, tape_3o3 j = tape_4o3 j) (hE_3_1_5 : ∀ j : Int, tape_4o3 j = tape_5o3 j) (hE_3_1_6 : ∀ j : Int, tape_5o3 j = tape_6o3 j) (hE_3_1_7 : ∀ j : Int, tape_6o3 j = tape_7o3 j) (hE_3_1_8 : ∀ j : Int, tape_7o3 j = tape_8o3 j) (hK_3_1 : ∀ j : Int, 0 ≤ j → j < 2000 → (-128) ≤ tape_0o3 j ∧ tape_0o3 j ≤ 127) (kz_0_1 : 0 ≤ length_0 ∧ length_0 ≤ 2000) : 1 * length_0 + ((-1) * x2 + 0) ≤ 4 := by
  subst fe_0_1_2
  subst fe_0_1_4
  subst fe_0_1_6
  subst fe_0_1_8
  have e_hE_0_0_1 := funext hE_0_0_1; subst e_hE_0_0_1
  have e_hE_0_0_3 := funext hE_0_0_3; subst e_hE_0_0_3
  have e_hE_0_0_5 := funext hE_0_0_5; subst e_hE_0_0_5
  have e_hE_0_0_7 := funext hE_0_0_7; subst e_hE_0_0_7
  have e_hE_3_1_1 := funext hE_3_1_1; subst e_hE_3_1_1
  have e_hE_3_1_2 := funext hE_3_1_2; subst e_hE_3_1_2
  have e_hE_3_1_3 := funext hE_3_1_3; subst e_hE_3_1_3
  have e_hE_3_1_4 := funext hE_3_1_4; subst e_hE_3_1_4
  have e_hE_3_1_5 := funext hE_3_1_5; subst e_hE_3_1_5
  have e_hE_3_1_6 := funext hE_3_1_6; subst e_hE_3_1_6
  have e_hE_3_1_7 := funext hE_3_1_7; subst e_hE_3_1_7
  have e_hE_3_1_8 := funext hE_3_1_8; subst e_hE_3_1_8
  first | with_reducible assumption | ((try and_intros) <;> first | with_reducible assumption | (clear hE_0_0_1 hE_0_0_2 hE_0_0_3 hE_0_0_4 hE_0_0_5 hE_0_0_6 hE_0_0_7 hE_0_0_8 hK_0_0 hE_3_1_1 hE_3_1_2 hE_3_1_3 hE_3_1_4 hE_3_1_5 hE_3_1_6 hE_3_1_7 hE_3_1_8 hK_3_1; omega)) | omega
set_option maxHeartbeats 4000000 in
theorem vc_Re_append_at_g2_4_1 (x2 : Int) (x7 : Int) (x9 : Int) (x11 : Int) (x14 : Int) (x16 : Int) (x19 : Int) (x21 : Int) (x24 : Int) (x26 : Int) (length_0 : Int) (length_1 : Int) (length_3 : Int) (length_5 : Int) (length_7 : Int) (length_8 : Int) (tape_8 : Int → Int) (tape_8o3 : Int → Int) (length_2 : Int) (length_4 : Int) (length_6 : Int) (tape_0 : Int → Int) (tape_1 : Int → Int) (tape_2 : Int → Int) (tape_3 : Int → Int) (tape_4 : Int → Int) (tape_5 : Int → Int) (tape_6 : Int → Int) (tape_7 : Int → Int) (tape_0o3 : Int → Int) (tape_1o3 : Int → Int) (tape_2o3 : Int → Int) (tape_3o3 : Int → Int) (tape_4o3 : Int → Int) (tape_5o3 : Int → Int) (tape_6o3 : Int → Int) (tape_7o3 : Int → Int) (k2 : 0 ≤ x2 ∧ x2 ≤ 1996) (k7 : 0 ≤ x7 ∧ x7 ≤ 1999) (k9 : (-128) ≤ x9 ∧ x9 ≤ 127) (k11 : 1 ≤ x11 ∧ x11 ≤ 1999) (k14 : (-128) ≤ x14 ∧ x14 ≤ 127) (k16 : 2 ≤ x16 ∧ x16 ≤ 1999) (k19 : (-128) ≤ x19 ∧ x19 ≤ 127) (k21 : 3 ≤ x21 ∧ x21 ≤ 1999) (k24 : (-128) ≤ x24 ∧ x24 ≤ 127) (k26 : 4 ≤ x26 ∧ x26 ≤ 2000) (d0 : x21 + 1 ≤ x26 ∧ x26 ≤ x21 + 1) (d1 : x16 + 2 ≤ x26 ∧ x26 ≤ x16 + 2) (d2 : x11 + 3 ≤ x26 ∧ x26 ≤ x11 + 3) (d3 : x7 + 4 ≤ x26 ∧ x26 ≤ x7 + 4) (g0 : x26 = length_0) (g4 : x21 = length_1) (g10 : x16 = length_3) (g16 : x11 = length_5) (g22 : x7 = length_7) (f23 : 1 * length_7 + ((-1) * x2 + 0) ≤ 0) (f24 : (-1) * length_7 + (1 * x2 + 0) ≤ 0) (fe_0_1_2 : length_1 = length_2) (fe_0_1_4 : length_3 = length_4) (fe_0_1_6 : length_5 = length_6) (fe_0_1_8 : length_7 = length_8) (hE_0_0_1 : ∀ j : Int, tape_0 j = tape_1 j) (hE_0_0_2 : ∀ j : Int, 0 ≤ j → (j = x21 → tape_1 j = x24) ∧ (j ≠ x21 → tape_1 j = tape_2 j)) (hE_0_0_3 : ∀ j : Int, tape_2 j = tape_3 j) (hE_0_0_4 : ∀ j : Int, 0 ≤ j → (j = x16 → tape_3 j = x19) ∧ (j ≠ x16 → tape_3 j = tape_4 j)) (hE_0_0_5 : ∀ j : Int, tape_4 j = tape_5 j) (hE_0_0_6 : ∀ j : Int, 0 ≤ j → (j = x11 → tape_5 j = x14) ∧ (j ≠ x11 → tape_5 j = tape_6 j)) (hE_0_0_7 : ∀ j : Int, tape_6 j = tape_7 j) (hE_0_0_8 : ∀ j : Int, 0 ≤ j → (j = x7 → tape_7 j = x9) ∧ (j ≠ x7 → tape_7 j = tape_8 j)) (hK_0_0 : ∀ j : Int, 0 ≤ j → j < 2000 → (-128) ≤ tape_0 j ∧ tape_0 j ≤ 127) (hE_3_1_1 : ∀ j : Int, tape_0o3 j = tape_1o3 j) (hE_3_1_2 : ∀ j : Int, tape_1o3 j = tape_2o3 j) (hE_3_1_3 : ∀ j : Int, tape_2o3 j = tape_3o3 j) (hE_3_1_4 : ∀ j : Int, tape_3o3 j = tape_4o3 j) (hE_3_1_5 : ∀ j : Int, tape_4o3 j = tape_5o3 j) (hE_3_1_6 : ∀ j : Int, tape_5o3 j = tape_6o3 j) (hE_3_1_7 : ∀ j : Int, tape_6o3 j = tape_7o3 j) (hE_3_1_8 : ∀ j : Int, tape_7o3 j = tape_8o3 j) (hK_3_1 : ∀ j : Int, 0 ≤ j → j < 2000 → (-128) ≤ tape_0o3 j ∧ tape_0o3 j ≤ 127) (kz_0_1 : 0 ≤ length_0 ∧ length_0 ≤ 2000) : (-1) * length_0 + (1 * x2 + 0) ≤ (-4) := by
  subst fe_0_1_2
  subst fe_0_1_4
  subst fe_0_1_6
  subst fe_0_1_8
  have e_hE_0_0_1 := funext hE_0_0_1; subst e_hE_0_0_1
  have e_hE_0_0_3 := funext hE_0_0_3; subst e_hE_0_0_3
  have e_hE_0_0_5 := funext hE_0_0_5; subst e_hE_0_0_5
  have e_hE_0_0_7 := funext hE_0_0_7; subst e_hE_0_0_7
  have e_hE_3_1_1 := funext hE_3_1_1; subst e_hE_3_1_1
  have e_hE_3_1_2 := funext hE_3_1_2; subst e_hE_3_1_2
  have e_hE_3_1_3 := funext hE_3_1_3; subst e_hE_3_1_3
  have e_hE_3_1_4 := funext hE_3_1_4; subst e_hE_3_1_4
  have e_hE_3_1_5 := funext hE_3_1_5; subst e_hE_3_1_5
  have e_hE_3_1_6 := funext hE_3_1_6; subst e_hE_3_1_6
  have e_hE_3_1_7 := funext hE_3_1_7; subst e_hE_3_1_7
  have e_hE_3_1_8 := funext hE_3_1_8; subst e_hE_3_1_8
  first | with_reducible assumption | ((try and_intros) <;> first | with_reducible assumption | (clear hE_0_0_1 hE_0_0_2 hE_0_0_3 hE_0_0_4 hE_0_0_5 hE_0_0_6 hE_0_0_7 hE_0_0_8 hK_0_0 hE_3_1_1 hE_3_1_2 hE_3_1_3 hE_3_1_4 hE_3_1_5 hE_3_1_6 hE_3_1_7 hE_3_1_8 hK_3_1; omega)) | omega
set_option maxHeartbeats 4000000 in
theorem vc_Re_append_at_g2_4_2 (x1 : Int) (x4 : Int) (x7 : Int) (x8 : Int) (x9 : Int) (x11 : Int) (x13 : Int) (x14 : Int) (x16 : Int) (x18 : Int) (x19 : Int) (x21 : Int) (x23 : Int) (x24 : Int) (x26 : Int) (length_0 : Int) (length_1 : Int) (length_3 : Int) (length_5 : Int) (length_7 : Int) (length_8 : Int) (tape_8 : Int → Int) (tape_8o3 : Int → Int) (length_2 : Int) (length_4 : Int) (length_6 : Int) (tape_0 : Int → Int) (tape_1 : Int → Int) (tape_2 : Int → Int) (tape_3 : Int → Int) (tape_4 : Int → Int) (tape_5 : Int → Int) (tape_6 : Int → Int) (tape_7 : Int → Int) (tape_0o3 : Int → Int) (tape_1o3 : Int → Int) (tape_2o3 : Int → Int) (tape_3o3 : Int → Int) (tape_4o3 : Int → Int) (tape_5o3 : Int → Int) (tape_6o3 : Int → Int) (tape_7o3 : Int → Int) (k1 : (-2147483648) ≤ x1 ∧ x1 ≤ 2147483647) (k4 : (-2147483648) ≤ x4 ∧ x4 ≤ 2147483647) (k7 : 0 ≤ x7 ∧ x7 ≤ 1999) (k8 : (-2147483648) ≤ x8 ∧ x8 ≤ 2147483647) (k9 : (-128) ≤ x9 ∧ x9 ≤ 127) (k11 : 1 ≤ x11 ∧ x11 ≤ 1999) (k13 : (-2147483648) ≤ x13 ∧ x13 ≤ 2147483647) (k14 : (-128) ≤ x14 ∧ x14 ≤ 127) (k16 : 2 ≤ x16 ∧ x16 ≤ 1999) (k18 : (-2147483648) ≤ x18 ∧ x18 ≤ 2147483647) (k19 : (-128) ≤ x19 ∧ x19 ≤ 127) (k21 : 3 ≤ x21 ∧ x21 ≤ 1999) (k23 : (-2147483648) ≤ x23 ∧ x23 ≤ 2147483647) (k24 : (-128) ≤ x24 ∧ x24 ≤ 127) (k26 : 4 ≤ x26 ∧ x26 ≤ 2000) (d0 : x21 + 1 ≤ x26 ∧ x26 ≤ x21 + 1) (d1 : x16 + 2 ≤ x26 ∧ x26 ≤ x16 + 2) (d2 : x11 + 3 ≤ x26 ∧ x26 ≤ x11 + 3) (d3 : x7 + 4 ≤ x26 ∧ x26 ≤ x7 + 4) (g0 : x26 = length_0) (g4 : x21 = length_1) (f6 : x24 = (x23 + 128) % 256 - 128) (f7 : x23 = x1 / 1) (g10 : x16 = length_3) (f12 : x19 = (x18 + 128) % 256 - 128) (f13 : x18 = x1 / 256) (g16 : x11 = length_5) (f18 : x14 = (x13 + 128) % 256 - 128) (f19 : x13 = x1 / 65536) (g22 : x7 = length_7) (f26 : x9 = (x8 + 128) % 256 - 128) (f27 : x8 = x1 / 16777216) (f30 : TE1 (length_8) (tape_8) (tape_8o3) (x4)) (fe_0_1_2 : length_1 = length_2) (fe_0_1_4 : length_3 = length_4) (fe_0_1_6 : length_5 = length_6) (fe_0_1_8 : length_7 = length_8) (hE_0_0_1 : ∀ j : Int, tape_0 j = tape_1 j) (hE_0_0_2 : ∀ j : Int, 0 ≤ j → (j = x21 → tape_1 j = x24) ∧ (j ≠ x21 → tape_1 j = tape_2 j)) (hE_0_0_3 : ∀ j : Int, tape_2 j = tape_3 j) (hE_0_0_4 : ∀ j : Int, 0 ≤ j → (j = x16 → tape_3 j = x19) ∧ (j ≠ x16 → tape_3 j = tape_4 j)) (hE_0_0_5 : ∀ j : Int, tape_4 j = tape_5 j) (hE_0_0_6 : ∀ j : Int, 0 ≤ j → (j = x11 → tape_5 j = x14) ∧ (j ≠ x11 → tape_5 j = tape_6 j)) (hE_0_0_7 : ∀ j : Int, tape_6 j = tape_7 j) (hE_0_0_8 : ∀ j : Int, 0 ≤ j → (j = x7 → tape_7 j = x9) ∧ (j ≠ x7 → tape_7 j = tape_8 j)) (hE_3_1_1 : ∀ j : Int, tape_0o3 j = tape_1o3 j) (hE_3_1_2 : ∀ j : Int, tape_1o3 j = tape_2o3 j) (hE_3_1_3 : ∀ j : Int, tape_2o3 j = tape_3o3 j) (hE_3_1_4 : ∀ j : Int, tape_3o3 j = tape_4o3 j) (hE_3_1_5 : ∀ j : Int, tape_4o3 j = tape_5o3 j) (hE_3_1_6 : ∀ j : Int, tape_5o3 j = tape_6o3 j) (hE_3_1_7 : ∀ j : Int, tape_6o3 j = tape_7o3 j) (hE_3_1_8 : ∀ j : Int, tape_7o3 j = tape_8o3 j) (kz_0_1 : 0 ≤ length_0 ∧ length_0 ≤ 2000) : TE2 (length_0) (tape_0) (tape_0o3) (x4) (x1) := by
  subst fe_0_1_2
  subst fe_0_1_4
  subst fe_0_1_6
  subst fe_0_1_8
  have e_hE_0_0_1 := funext hE_0_0_1; subst e_hE_0_0_1
  have e_hE_0_0_3 := funext hE_0_0_3; subst e_hE_0_0_3
  have e_hE_0_0_5 := funext hE_0_0_5; subst e_hE_0_0_5
  have e_hE_0_0_7 := funext hE_0_0_7; subst e_hE_0_0_7
  have e_hE_3_1_1 := funext hE_3_1_1; subst e_hE_3_1_1
  have e_hE_3_1_2 := funext hE_3_1_2; subst e_hE_3_1_2
  have e_hE_3_1_3 := funext hE_3_1_3; subst e_hE_3_1_3
  have e_hE_3_1_4 := funext hE_3_1_4; subst e_hE_3_1_4
  have e_hE_3_1_5 := funext hE_3_1_5; subst e_hE_3_1_5
  have e_hE_3_1_6 := funext hE_3_1_6; subst e_hE_3_1_6
  have e_hE_3_1_7 := funext hE_3_1_7; subst e_hE_3_1_7
  have e_hE_3_1_8 := funext hE_3_1_8; subst e_hE_3_1_8
  first | subst g0 | skip
  first | subst g4 | skip
  first | subst g10 | skip
  first | subst g16 | skip
  first | subst g22 | skip
  exact te_s2 ‹TE1 _ _ _ _› (by assumption) (by assumption) (by assumption) (by assumption) (by omega) (by omega) (by omega) (by omega) (by omega) (by omega) (by omega) (by omega) (by omega) (by omega)
def o_Re_append_at_g2_4 : or_T := (36, 28, [(0, (2, 0, 0, [8])), (1, (0, -2147483648, 2147483647, [])), (2, (0, 0, 1996, [])), (3, (2, 0, 0, [165])), (4, (0, -2147483648, 2147483647, [])), (6, (2, 0, 0, [109])), (7, (0, 0, 1999, [])), (8, (0, -2147483648, 2147483647, [])), (9, (0, -128, 127, [])), (11, (0, 1, 1999, [])), (13, (0, -2147483648, 2147483647, [])), (14, (0, -128, 127, [])), (16, (0, 2, 1999, [])), (18, (0, -2147483648, 2147483647, [])), (19, (0, -128, 127, [])), (21, (0, 3, 1999, [])), (23, (0, -2147483648, 2147483647, [])), (24, (0, -128, 127, [])), (26, (0, 4, 2000, []))], [(9, [26, 0], [1]), (9, [6, 0], [0]), (101, [0, 26], [1]), (9, [21, 0], [1]), (100, [6, 21, 24], []), (17, [24, 23], []), (11, [23, 1], [1]), (101, [0, 21], [1]), (9, [16, 0], [1]), (100, [6, 16, 19], []), (17, [19, 18], []), (11, [18, 1], [256]), (101, [0, 16], [1]), (9, [11, 0], [1]), (100, [6, 11, 14], []), (17, [14, 13], []), (11, [13, 1], [65536]), (101, [0, 11], [1]), (9, [7, 0], [1]), (20, [0, 2], [30, 0, 1, 1, 1, -1, 0, 0]), (20, [0, 2], [30, 0, -1, 1, 1, 1, 0, 0]), (100, [6, 7, 9], []), (17, [9, 8], []), (11, [8, 1], [16777216]), (20, [0, 3, 4], [60, 1, 2, 1102, 1, 0, 1001])], [], [], [(20, [0, 2], [30, 4, 1, 1, 1, -1, 0, 0]), (20, [0, 2], [30, -4, -1, 1, 1, 1, 0, 0]), (20, [0, 3, 4, 1], [60, 1, 2, 1103, 1, 0, 1001])], [], [(26, 21, 1, 1), (26, 16, 2, 2), (26, 11, 3, 3), (26, 7, 4, 4), (21, 16, 1, 1), (21, 11, 2, 2), (21, 7, 3, 3), (16, 11, 1, 1), (16, 7, 2, 2), (11, 7, 1, 1)])
def n_Re_append_at_g2_an : List an_T := []
def t_Re_append_at_g2_ct : ct_L := []
def n_Re_append_at_g3_an : List an_T := []
def t_Re_append_at_g3_ct : ct_L := []
set_option maxHeartbeats 4000000 in
theorem vc_Re_append_at_g4_0_r0 (x2 : Int) (x9 : Int) (length_0 : Int) (tape_0 : Int → Int) (tape_0o3 : Int → Int) (k2 : 0 ≤ x2 ∧ x2 ≤ 1996) (k9 : 0 ≤ x9 ∧ x9 ≤ 2000) (g0 : x9 = length_0) (f2 : 1 * length_0 + ((-1) * x2 + 0) ≤ 0) (f3 : (-1) * length_0 + (1 * x2 + 0) ≤ 0) (hK_0_0 : ∀ j : Int, 0 ≤ j → j < 2000 → (-128) ≤ tape_0 j ∧ tape_0 j ≤ 127) (hK_3_1 : ∀ j : Int, 0 ≤ j → j < 2000 → (-128) ≤ tape_0o3 j ∧ tape_0o3 j ≤ 127) (kz_0_1 : 0 ≤ length_0 ∧ length_0 ≤ 2000) : 0 ≤ x9 ∧ x9 ≤ 1999 := by
  first | with_reducible assumption | ((try and_intros) <;> first | with_reducible assumption | (clear hK_0_0 hK_3_1; omega)) | omega
def o_Re_append_at_g4_0 : or_T := (19, 12, [(0, (2, 0, 0, [8])), (2, (0, 0, 1996, [])), (3, (2, 0, 0, [165])), (4, (0, -2147483648, 2147483647, [])), (5, (0, -2147483648, 2147483647, [])), (6, (0, -2147483648, 2147483647, [])), (8, (2, 0, 0, [109])), (9, (0, 0, 2000, []))], [(9, [9, 0], [1]), (9, [8, 0], [0]), (20, [0, 2], [30, 0, 1, 1, 1, -1, 0, 0]), (20, [0, 2], [30, 0, -1, 1, 1, 1, 0, 0]), (20, [0, 3, 4, 5, 6], [60, 1, 2, 1104, 1, 0, 1001])], [(9, (0, 0, 1999, []))], [], [], [], [])
theorem oo_Re_append_at_g4_0 {kA : Nat → ClassId} : or_ok PRD kA GG o_Re_append_at_g4_0 := by
  refine or_mk fun A ta ws vs hD hth hl => ?_
  intro t0 r0 t2 k2 t3 r3 t4 k4 t5 k5 t6 k6 t8 r8 t9 k9 f0 f1 f2 f3 f4
  replace f0 := shm_215 f0
  have cr_0_0 := fdq_95 hD hth r0
  have cr_3_1 := fdq_39 hD hth r3
  have g0 : v_iv (n_v vs 9) = w_fi ws (n_v vs 0) 1 := congrArg v_iv f0
  have hK_0_0 := elq_33 hD hth cr_0_0
  have hK_3_1 := elq_7 hD hth cr_3_1
  have kz_0_1 := fdq_96 hD hth r0
  have hrf0 : 0 ≤ v_iv (n_v vs 9) ∧ v_iv (n_v vs 9) ≤ 1999 := vc_Re_append_at_g4_0_r0 (v_iv (n_v vs 2)) (v_iv (n_v vs 9)) (w_fi ws (n_v vs 0) 1) (w_ei ws (w_ar ws (n_v vs 0) 0)) (w_ei ws (w_ar ws (n_v vs 3) 1)) k2 k9 g0 (shm_436 f2) (shm_437 f3) hK_0_0 hK_3_1 kz_0_1
  have rf9 : tv_ok ta (0, 0, 1999, []) (n_v vs 9) := tv_in t9 (by first | omega | grind) (by first | omega | grind)
  refine ⟨List.forall_mem_cons.mpr ⟨rf9, (fun _ h => (by cases h))⟩, [], trivial, ?_, (fun _ h => (by cases h))⟩
  rw [List.append_nil]
  exact (fun _ h => (by cases h))
set_option maxHeartbeats 4000000 in
theorem vc_Re_append_at_g4_1_r0 (x2 : Int) (x9 : Int) (x11 : Int) (x13 : Int) (length_0 : Int) (length_1 : Int) (length_2 : Int) (tape_2 : Int → Int) (tape_2o3 : Int → Int) (tape_0 : Int → Int) (tape_1 : Int → Int) (tape_0o3 : Int → Int) (tape_1o3 : Int → Int) (k2 : 0 ≤ x2 ∧ x2 ≤ 1996) (k9 : 0 ≤ x9 ∧ x9 ≤ 1999) (k11 : (-128) ≤ x11 ∧ x11 ≤ 127) (k13 : 1 ≤ x13 ∧ x13 ≤ 2000) (d0 : x9 + 1 ≤ x13 ∧ x13 ≤ x9 + 1) (g2 : x13 = length_0) (g6 : x9 = length_1) (f7 : 1 * length_1 + ((-1) * x2 + 0) ≤ 0) (f8 : (-1) * length_1 + (1 * x2 + 0) ≤ 0) (fe_0_1_2 : length_1 = length_2) (hE_0_0_1 : ∀ j : Int, tape_0 j = tape_1 j) (hE_0_0_2 : ∀ j : Int, 0 ≤ j → (j = x9 → tape_1 j = x11) ∧ (j ≠ x9 → tape_1 j = tape_2 j)) (hK_0_0 : ∀ j : Int, 0 ≤ j → j < 2000 → (-128) ≤ tape_0 j ∧ tape_0 j ≤ 127) (hE_3_1_1 : ∀ j : Int, tape_0o3 j = tape_1o3 j) (hE_3_1_2 : ∀ j : Int, tape_1o3 j = tape_2o3 j) (hK_3_1 : ∀ j : Int, 0 ≤ j → j < 2000 → (-128) ≤ tape_0o3 j ∧ tape_0o3 j ≤ 127) (kz_0_1 : 0 ≤ length_0 ∧ length_0 ≤ 2000) : 1 ≤ x13 ∧ x13 ≤ 1999 := by
  subst fe_0_1_2
  have e_hE_0_0_1 := funext hE_0_0_1; subst e_hE_0_0_1
  have e_hE_3_1_1 := funext hE_3_1_1; subst e_hE_3_1_1
  have e_hE_3_1_2 := funext hE_3_1_2; subst e_hE_3_1_2
  first | with_reducible assumption | ((try and_intros) <;> first | with_reducible assumption | (clear hE_0_0_1 hE_0_0_2 hK_0_0 hE_3_1_1 hE_3_1_2 hK_3_1; omega)) | omega
def o_Re_append_at_g4_1 : or_T := (19, 17, [(0, (2, 0, 0, [8])), (1, (0, -2147483648, 2147483647, [])), (2, (0, 0, 1996, [])), (3, (2, 0, 0, [165])), (4, (0, -2147483648, 2147483647, [])), (5, (0, -2147483648, 2147483647, [])), (6, (0, -2147483648, 2147483647, [])), (8, (2, 0, 0, [109])), (9, (0, 0, 1999, [])), (10, (0, -2147483648, 2147483647, [])), (11, (0, -128, 127, [])), (12, (0, 1, 1, [])), (13, (0, 1, 2000, [])), (15, (0, -2147483648, 2147483647, [])), (16, (0, -128, 127, []))], [(17, [16, 15], []), (11, [15, 1], [65536]), (9, [13, 0], [1]), (9, [8, 0], [0]), (101, [0, 13], [1]), (1, [13, 9, 12], []), (9, [9, 0], [1]), (20, [0, 2], [30, 0, 1, 1, 1, -1, 0, 0]), (20, [0, 2], [30, 0, -1, 1, 1, 1, 0, 0]), (100, [8, 9, 11], []), (17, [11, 10], []), (11, [10, 1], [16777216]), (20, [0, 2], [30, 0, 1, 1, 1, -1, 0, 0]), (20, [0, 2], [30, 0, -1, 1, 1, 1, 0, 0]), (20, [0, 3, 4, 5, 6], [60, 1, 2, 1104, 1, 0, 1001])], [(13, (0, 1, 1999, []))], [], [], [], [(13, 9, 1, 1)])
theorem oo_Re_append_at_g4_1 {kA : Nat → ClassId} : or_ok PRD kA GG o_Re_append_at_g4_1 := by
  refine or_mk fun A ta ws vs hD hth hl => ?_
  intro t0 r0 t1 k1 t2 k2 t3 r3 t4 k4 t5 k5 t6 k6 t8 r8 t9 k9 t10 k10 t11 k11 t12 k12 t13 k13 t15 k15 t16 k16 d0 f0 f1 f2 f3 ta1 w1 le1 s1 f5 f6 f7 f8 ta2 w2 le2 s2 f10 f11 f12 f13 f14
  replace f2 := shm_215 f2
  replace f3 := shm_163 f3
  have s1 : (∀ b j, w_el ws b j = w_el w1 b j) ∧ ∀ b j, w_fd ws b j = if b = v_ad (n_v vs 0) ∧ j = 1 then n_v vs 13 else w_fd w1 b j := s1.2
  replace f6 := shm_215 f6
  have s2 : (∀ b j, w_el w1 b j = if b = v_ad (n_v vs 8) ∧ j = (v_iv (n_v vs 9)).toNat then v_iv (n_v vs 11) else w_el w2 b j) ∧ ∀ b k, w_fd w1 b k = w_fd w2 b k := s2.2
  have cr_0_0 := fdq_95 hD hth r0
  have cr_3_1 := fdq_39 hD hth r3
  have ad_8 : v_ad (n_v vs 8) = w_ar ws (n_v vs 0) 0 := congrArg v_ad f3
  have g2 : v_iv (n_v vs 13) = w_fi ws (n_v vs 0) 1 := congrArg v_iv f2
  have g6 : v_iv (n_v vs 9) = w_fi w1 (n_v vs 0) 1 := congrArg v_iv f6
  have fe_0_1_2 : w_fi w1 (n_v vs 0) 1 = w_fi w2 (n_v vs 0) 1 := congrArg v_iv (s2.2 _ _)
  have hE_0_0_1 : ∀ j : Int, w_ei ws (w_ar ws (n_v vs 0) 0) j = w_ei w1 (w_ar ws (n_v vs 0) 0) j := fun j => s1.1 _ _
  have hE_0_0_2 : ∀ j : Int, 0 ≤ j → (j = v_iv (n_v vs 9) → w_ei w1 (w_ar ws (n_v vs 0) 0) j = v_iv (n_v vs 11)) ∧ (j ≠ v_iv (n_v vs 9) → w_ei w1 (w_ar ws (n_v vs 0) 0) j = w_ei w2 (w_ar ws (n_v vs 0) 0) j) := fun j hj => ⟨fun h => by unfold w_ei; rw [s2.1, if_pos ⟨ad_8.symm, by rw [h]⟩], fun h => by unfold w_ei; rw [s2.1, if_neg (fun e => h (by have := e.2; omega))]⟩
  have hK_0_0 := elq_33 hD hth cr_0_0
  have hE_3_1_1 : ∀ j : Int, w_ei ws (w_ar ws (n_v vs 3) 1) j = w_ei w1 (w_ar ws (n_v vs 3) 1) j := fun j => s1.1 _ _
  have hE_3_1_2 : ∀ j : Int, w_ei w1 (w_ar ws (n_v vs 3) 1) j = w_ei w2 (w_ar ws (n_v vs 3) 1) j := el_kp s2.1 r8 cr_3_1 (by decide)
  have hK_3_1 := elq_7 hD hth cr_3_1
  have kz_0_1 := fdq_96 hD hth r0
  have hrf0 : 1 ≤ v_iv (n_v vs 13) ∧ v_iv (n_v vs 13) ≤ 1999 := vc_Re_append_at_g4_1_r0 (v_iv (n_v vs 2)) (v_iv (n_v vs 9)) (v_iv (n_v vs 11)) (v_iv (n_v vs 13)) (w_fi ws (n_v vs 0) 1) (w_fi w1 (n_v vs 0) 1) (w_fi w2 (n_v vs 0) 1) (w_ei w2 (w_ar ws (n_v vs 0) 0)) (w_ei w2 (w_ar ws (n_v vs 3) 1)) (w_ei ws (w_ar ws (n_v vs 0) 0)) (w_ei w1 (w_ar ws (n_v vs 0) 0)) (w_ei ws (w_ar ws (n_v vs 3) 1)) (w_ei w1 (w_ar ws (n_v vs 3) 1)) k2 k9 k11 k13 d0 g2 g6 (shm_436 f7) (shm_437 f8) fe_0_1_2 hE_0_0_1 hE_0_0_2 hK_0_0 hE_3_1_1 hE_3_1_2 hK_3_1 kz_0_1
  have rf13 : tv_ok ta (0, 1, 1999, []) (n_v vs 13) := tv_in t13 (by first | omega | grind) (by first | omega | grind)
  refine ⟨List.forall_mem_cons.mpr ⟨rf13, (fun _ h => (by cases h))⟩, [], trivial, ?_, (fun _ h => (by cases h))⟩
  rw [List.append_nil]
  exact (fun _ h => (by cases h))
set_option maxHeartbeats 4000000 in
theorem vc_Re_append_at_g4_2_r0 (x2 : Int) (x9 : Int) (x11 : Int) (x13 : Int) (x16 : Int) (x18 : Int) (length_0 : Int) (length_1 : Int) (length_3 : Int) (length_4 : Int) (tape_4 : Int → Int) (tape_4o3 : Int → Int) (length_2 : Int) (tape_0 : Int → Int) (tape_1 : Int → Int) (tape_2 : Int → Int) (tape_3 : Int → Int) (tape_0o3 : Int → Int) (tape_1o3 : Int → Int) (tape_2o3 : Int → Int) (tape_3o3 : Int → Int) (k2 : 0 ≤ x2 ∧ x2 ≤ 1996) (k9 : 0 ≤ x9 ∧ x9 ≤ 1999) (k11 : (-128) ≤ x11 ∧ x11 ≤ 127) (k13 : 1 ≤ x13 ∧ x13 ≤ 1999) (k16 : (-128) ≤ x16 ∧ x16 ≤ 127) (k18 : 2 ≤ x18 ∧ x18 ≤ 2000) (d0 : x13 + 1 ≤ x18 ∧ x18 ≤ x13 + 1) (d1 : x9 + 2 ≤ x18 ∧ x18 ≤ x9 + 2) (g2 : x18 = length_0) (g6 : x13 = length_1) (g12 : x9 = length_3) (f13 : 1 * length_3 + ((-1) * x2 + 0) ≤ 0) (f14 : (-1) * length_3 + (1 * x2 + 0) ≤ 0) (fe_0_1_2 : length_1 = length_2) (fe_0_1_4 : length_3 = length_4) (hE_0_0_1 : ∀ j : Int, tape_0 j = tape_1 j) (hE_0_0_2 : ∀ j : Int, 0 ≤ j → (j = x13 → tape_1 j = x16) ∧ (j ≠ x13 → tape_1 j = tape_2 j)) (hE_0_0_3 : ∀ j : Int, tape_2 j = tape_3 j) (hE_0_0_4 : ∀ j : Int, 0 ≤ j → (j = x9 → tape_3 j = x11) ∧ (j ≠ x9 → tape_3 j = tape_4 j)) (hK_0_0 : ∀ j : Int, 0 ≤ j → j < 2000 → (-128) ≤ tape_0 j ∧ tape_0 j ≤ 127) (hE_3_1_1 : ∀ j : Int, tape_0o3 j = tape_1o3 j) (hE_3_1_2 : ∀ j : Int, tape_1o3 j = tape_2o3 j) (hE_3_1_3 : ∀ j : Int, tape_2o3 j = tape_3o3 j) (hE_3_1_4 : ∀ j : Int, tape_3o3 j = tape_4o3 j) (hK_3_1 : ∀ j : Int, 0 ≤ j → j < 2000 → (-128) ≤ tape_0o3 j ∧ tape_0o3 j ≤ 127) (kz_0_1 : 0 ≤ length_0 ∧ length_0 ≤ 2000) : 2 ≤ x18 ∧ x18 ≤ 1999 := by
  subst fe_0_1_2
  subst fe_0_1_4
  have e_hE_0_0_1 := funext hE_0_0_1; subst e_hE_0_0_1
  have e_hE_0_0_3 := funext hE_0_0_3; subst e_hE_0_0_3
  have e_hE_3_1_1 := funext hE_3_1_1; subst e_hE_3_1_1
  have e_hE_3_1_2 := funext hE_3_1_2; subst e_hE_3_1_2
  have e_hE_3_1_3 := funext hE_3_1_3; subst e_hE_3_1_3
  have e_hE_3_1_4 := funext hE_3_1_4; subst e_hE_3_1_4
  first | with_reducible assumption | ((try and_intros) <;> first | with_reducible assumption | (clear hE_0_0_1 hE_0_0_2 hE_0_0_3 hE_0_0_4 hK_0_0 hE_3_1_1 hE_3_1_2 hE_3_1_3 hE_3_1_4 hK_3_1; omega)) | omega
def o_Re_append_at_g4_2 : or_T := (19, 22, [(0, (2, 0, 0, [8])), (1, (0, -2147483648, 2147483647, [])), (2, (0, 0, 1996, [])), (3, (2, 0, 0, [165])), (4, (0, -2147483648, 2147483647, [])), (5, (0, -2147483648, 2147483647, [])), (6, (0, -2147483648, 2147483647, [])), (8, (2, 0, 0, [109])), (9, (0, 0, 1999, [])), (10, (0, -2147483648, 2147483647, [])), (11, (0, -128, 127, [])), (12, (0, 1, 1, [])), (13, (0, 1, 1999, [])), (15, (0, -2147483648, 2147483647, [])), (16, (0, -128, 127, [])), (17, (0, 1, 1, [])), (18, (0, 2, 2000, [])), (20, (0, -2147483648, 2147483647, [])), (21, (0, -128, 127, []))], [(17, [21, 20], []), (11, [20, 1], [256]), (9, [18, 0], [1]), (9, [8, 0], [0]), (101, [0, 18], [1]), (1, [18, 13, 17], []), (9, [13, 0], [1]), (100, [8, 13, 16], []), (17, [16, 15], []), (11, [15, 1], [65536]), (101, [0, 13], [1]), (1, [13, 9, 12], []), (9, [9, 0], [1]), (20, [0, 2], [30, 0, 1, 1, 1, -1, 0, 0]), (20, [0, 2], [30, 0, -1, 1, 1, 1, 0, 0]), (100, [8, 9, 11], []), (17, [11, 10], []), (11, [10, 1], [16777216]), (20, [0, 2], [30, 0, 1, 1, 1, -1, 0, 0]), (20, [0, 2], [30, 0, -1, 1, 1, 1, 0, 0]), (20, [0, 3, 4, 5, 6], [60, 1, 2, 1104, 1, 0, 1001])], [(18, (0, 2, 1999, []))], [], [], [], [(18, 13, 1, 1), (18, 9, 2, 2), (13, 9, 1, 1)])
theorem oo_Re_append_at_g4_2 {kA : Nat → ClassId} : or_ok PRD kA GG o_Re_append_at_g4_2 := by
  refine or_mk fun A ta ws vs hD hth hl => ?_
  intro t0 r0 t1 k1 t2 k2 t3 r3 t4 k4 t5 k5 t6 k6 t8 r8 t9 k9 t10 k10 t11 k11 t12 k12 t13 k13 t15 k15 t16 k16 t17 k17 t18 k18 t20 k20 t21 k21 d0 d1 d2 f0 f1 f2 f3 ta1 w1 le1 s1 f5 f6 ta2 w2 le2 s2 f8 f9 ta3 w3 le3 s3 f11 f12 f13 f14 ta4 w4 le4 s4 f16 f17 f18 f19 f20
  replace f2 := shm_215 f2
  replace f3 := shm_163 f3
  have s1 : (∀ b j, w_el ws b j = w_el w1 b j) ∧ ∀ b j, w_fd ws b j = if b = v_ad (n_v vs 0) ∧ j = 1 then n_v vs 18 else w_fd w1 b j := s1.2
  replace f6 := shm_215 f6
  have s2 : (∀ b j, w_el w1 b j = if b = v_ad (n_v vs 8) ∧ j = (v_iv (n_v vs 13)).toNat then v_iv (n_v vs 16) else w_el w2 b j) ∧ ∀ b k, w_fd w1 b k = w_fd w2 b k := s2.2
  have s3 : (∀ b j, w_el w2 b j = w_el w3 b j) ∧ ∀ b j, w_fd w2 b j = if b = v_ad (n_v vs 0) ∧ j = 1 then n_v vs 13 else w_fd w3 b j := s3.2
  replace f12 := shm_215 f12
  have s4 : (∀ b j, w_el w3 b j = if b = v_ad (n_v vs 8) ∧ j = (v_iv (n_v vs 9)).toNat then v_iv (n_v vs 11) else w_el w4 b j) ∧ ∀ b k, w_fd w3 b k = w_fd w4 b k := s4.2
  have cr_0_0 := fdq_95 hD hth r0
  have cr_3_1 := fdq_39 hD hth r3
  have ad_8 : v_ad (n_v vs 8) = w_ar ws (n_v vs 0) 0 := congrArg v_ad f3
  have g2 : v_iv (n_v vs 18) = w_fi ws (n_v vs 0) 1 := congrArg v_iv f2
  have g6 : v_iv (n_v vs 13) = w_fi w1 (n_v vs 0) 1 := congrArg v_iv f6
  have g12 : v_iv (n_v vs 9) = w_fi w3 (n_v vs 0) 1 := congrArg v_iv f12
  have fe_0_1_2 : w_fi w1 (n_v vs 0) 1 = w_fi w2 (n_v vs 0) 1 := congrArg v_iv (s2.2 _ _)
  have fe_0_1_4 : w_fi w3 (n_v vs 0) 1 = w_fi w4 (n_v vs 0) 1 := congrArg v_iv (s4.2 _ _)
  have hE_0_0_1 : ∀ j : Int, w_ei ws (w_ar ws (n_v vs 0) 0) j = w_ei w1 (w_ar ws (n_v vs 0) 0) j := fun j => s1.1 _ _
  have hE_0_0_2 : ∀ j : Int, 0 ≤ j → (j = v_iv (n_v vs 13) → w_ei w1 (w_ar ws (n_v vs 0) 0) j = v_iv (n_v vs 16)) ∧ (j ≠ v_iv (n_v vs 13) → w_ei w1 (w_ar ws (n_v vs 0) 0) j = w_ei w2 (w_ar ws (n_v vs 0) 0) j) := fun j hj => ⟨fun h => by unfold w_ei; rw [s2.1, if_pos ⟨ad_8.symm, by rw [h]⟩], fun h => by unfold w_ei; rw [s2.1, if_neg (fun e => h (by have := e.2; omega))]⟩
  have hE_0_0_3 : ∀ j : Int, w_ei w2 (w_ar ws (n_v vs 0) 0) j = w_ei w3 (w_ar ws (n_v vs 0) 0) j := fun j => s3.1 _ _
  have hE_0_0_4 : ∀ j : Int, 0 ≤ j → (j = v_iv (n_v vs 9) → w_ei w3 (w_ar ws (n_v vs 0) 0) j = v_iv (n_v vs 11)) ∧ (j ≠ v_iv (n_v vs 9) → w_ei w3 (w_ar ws (n_v vs 0) 0) j = w_ei w4 (w_ar ws (n_v vs 0) 0) j) := fun j hj => ⟨fun h => by unfold w_ei; rw [s4.1, if_pos ⟨ad_8.symm, by rw [h]⟩], fun h => by unfold w_ei; rw [s4.1, if_neg (fun e => h (by have := e.2; omega))]⟩
  have hK_0_0 := elq_33 hD hth cr_0_0
  have hE_3_1_1 : ∀ j : Int, w_ei ws (w_ar ws (n_v vs 3) 1) j = w_ei w1 (w_ar ws (n_v vs 3) 1) j := fun j => s1.1 _ _
  have hE_3_1_2 : ∀ j : Int, w_ei w1 (w_ar ws (n_v vs 3) 1) j = w_ei w2 (w_ar ws (n_v vs 3) 1) j := el_kp s2.1 r8 cr_3_1 (by decide)
  have hE_3_1_3 : ∀ j : Int, w_ei w2 (w_ar ws (n_v vs 3) 1) j = w_ei w3 (w_ar ws (n_v vs 3) 1) j := fun j => s3.1 _ _
  have hE_3_1_4 : ∀ j : Int, w_ei w3 (w_ar ws (n_v vs 3) 1) j = w_ei w4 (w_ar ws (n_v vs 3) 1) j := el_kp s4.1 r8 cr_3_1 (by decide)
  have hK_3_1 := elq_7 hD hth cr_3_1
  have kz_0_1 := fdq_96 hD hth r0
  have hrf0 : 2 ≤ v_iv (n_v vs 18) ∧ v_iv (n_v vs 18) ≤ 1999 := vc_Re_append_at_g4_2_r0 (v_iv (n_v vs 2)) (v_iv (n_v vs 9)) (v_iv (n_v vs 11)) (v_iv (n_v vs 13)) (v_iv (n_v vs 16)) (v_iv (n_v vs 18)) (w_fi ws (n_v vs 0) 1) (w_fi w1 (n_v vs 0) 1) (w_fi w3 (n_v vs 0) 1) (w_fi w4 (n_v vs 0) 1) (w_ei w4 (w_ar ws (n_v vs 0) 0)) (w_ei w4 (w_ar ws (n_v vs 3) 1)) (w_fi w2 (n_v vs 0) 1) (w_ei ws (w_ar ws (n_v vs 0) 0)) (w_ei w1 (w_ar ws (n_v vs 0) 0)) (w_ei w2 (w_ar ws (n_v vs 0) 0)) (w_ei w3 (w_ar ws (n_v vs 0) 0)) (w_ei ws (w_ar ws (n_v vs 3) 1)) (w_ei w1 (w_ar ws (n_v vs 3) 1)) (w_ei w2 (w_ar ws (n_v vs 3) 1)) (w_ei w3 (w_ar ws (n_v vs 3) 1)) k2 k9 k11 k13 k16 k18 d0 d1 g2 g6 g12 (shm_436 f13) (shm_437 f14) fe_0_1_2 fe_0_1_4 hE_0_0_1 hE_0_0_2 hE_0_0_3 hE_0_0_4 hK_0_0 hE_3_1_1 hE_3_1_2 hE_3_1_3 hE_3_1_4 hK_3_1 kz_0_1
  have rf18 : tv_ok ta (0, 2, 1999, []) (n_v vs 18) := tv_in t18 (by first | omega | grind) (by first | omega | grind)
  refine ⟨List.forall_mem_cons.mpr ⟨rf18, (fun _ h => (by cases h))⟩, [], trivial, ?_, (fun _ h => (by cases h))⟩
  rw [List.append_nil]
  exact (fun _ h => (by cases h))
set_option maxHeartbeats 4000000 in
theorem vc_Re_append_at_g4_3_r0 (x2 : Int) (x9 : Int) (x11 : Int) (x13 : Int) (x16 : Int) (x18 : Int) (x21 : Int) (x23 : Int) (length_0 : Int) (length_1 : Int) (length_3 : Int) (length_5 : Int) (length_6 : Int) (tape_6 : Int → Int) (tape_6o3 : Int → Int) (length_2 : Int) (length_4 : Int) (tape_0 : Int → Int) (tape_1 : Int → Int) (tape_2 : Int → Int) (tape_3 : Int → Int) (tape_4 : Int → Int) (tape_5 : Int → Int) (tape_0o3 : Int → Int) (tape_1o3 : Int → Int) (tape_2o3 : Int → Int) (tape_3o3 : Int → Int) (tape_4o3 : Int → Int) (tape_5o3 : Int → Int) (k2 : 0 ≤ x2 ∧ x2 ≤ 1996) (k9 : 0 ≤ x9 ∧ x9 ≤ 1999) (k11 : (-128) ≤ x11 ∧ x11 ≤ 127) (k13 : 1 ≤ x13 ∧ x13 ≤ 1999) (k16 : (-128) ≤ x16 ∧ x16 ≤ 127) (k18 : 2 ≤ x18 ∧ x18 ≤ 1999) (k21 : (-128) ≤ x21 ∧ x21 ≤ 127) (k23 : 3 ≤ x23 ∧ x23 ≤ 2000) (d0 : x18 + 1 ≤ x23 ∧ x23 ≤ x18 + 1) (d1 : x13 + 2 ≤ x23 ∧ x23 ≤ x13 + 2) (d2 : x9 + 3 ≤ x23 ∧ x23 ≤ x9 + 3) (g2 : x23 = length_0) (g6 : x18 = length_1) (g12 : x13 = length_3) (g18 : x9 = length_5) (f19 : 1 * length_5 + ((-1) * x2 + 0) ≤ 0) (f20 : (-1) * length_5 + (1 * x2 + 0) ≤ 0) (fe_0_1_2 : length_1 = length_2) (fe_0_1_4 : length_3 = length_4) (fe_0_1_6 : length_5 = length_6) (hE_0_0_1 : ∀ j : Int, tape_0 j = tape_1 j) (hE_0_0_2 : ∀ j : Int, 0 ≤ j → (j = x18 → tape_1 j = x21) ∧ (j ≠ x18 → tape_1 j = tape_2 j)) (hE_0_0_3 : ∀ j : Int, tape_2 j = tape_3 j) (hE_0_0_4 : ∀ j : Int, 0 ≤ j → (j = x13 → tape_3 j = x16) ∧ (j ≠ x13 → tape_3 j = tape_4 j)) (hE_0_0_5 : ∀ j : Int, tape_4 j = tape_5 j) (hE_0_0_6 : ∀ j : Int, 0 ≤ j → (j = x9 → tape_5 j = x11) ∧ (j ≠ x9 → tape_5 j = tape_6 j)) (hK_0_0 : ∀ j : Int, 0 ≤ j → j < 2000 → (-128) ≤ tape_0 j ∧ tape_0 j ≤ 127) (hE_3_1_1 : ∀ j : Int, tape_0o3 j = tape_1o3 j) (hE_3_1_2 : ∀ j : Int, tape_1o3 j = tape_2o3 j) (hE_3_1_3 : ∀ j : Int, tape_2o3 j = tape_3o3 j) (hE_3_1_4 : ∀ j : Int, tape_3o3 j = tape_4o3 j) (hE_3_1_5 : ∀ j : Int, tape_4o3 j = tape_5o3 j) (hE_3_1_6 : ∀ j : Int, tape_5o3 j = tape_6o3 j) (hK_3_1 : ∀ j : Int, 0 ≤ j → j < 2000 → (-128) ≤ tape_0o3 j ∧ tape_0o3 j ≤ 127) (kz_0_1 : 0 ≤ length_0 ∧ length_0 ≤ 2000) : 3 ≤ x23 ∧ x23 ≤ 1999 := by
  subst fe_0_1_2
  subst fe_0_1_4
  subst fe_0_1_6
  have e_hE_0_0_1 := funext hE_0_0_1; subst e_hE_0_0_1
  have e_hE_0_0_3 := funext hE_0_0_3; subst e_hE_0_0_3
  have e_hE_0_0_5 := funext hE_0_0_5; subst e_hE_0_0_5
  have e_hE_3_1_1 := funext hE_3_1_1; subst e_hE_3_1_1
  have e_hE_3_1_2 := funext hE_3_1_2; subst e_hE_3_1_2
  have e_hE_3_1_3 := funext hE_3_1_3; subst e_hE_3_1_3
  have e_hE_3_1_4 := funext hE_3_1_4; subst e_hE_3_1_4
  have e_hE_3_1_5 := funext hE_3_1_5; subst e_hE_3_1_5
  have e_hE_3_1_6 := funext hE_3_1_6; subst e_hE_3_1_6
  first | with_reducible assumption | ((try and_intros) <;> first | with_reducible assumption | (clear hE_0_0_1 hE_0_0_2 hE_0_0_3 hE_0_0_4 hE_0_0_5 hE_0_0_6 hK_0_0 hE_3_1_1 hE_3_1_2 hE_3_1_3 hE_3_1_4 hE_3_1_5 hE_3_1_6 hK_3_1; omega)) | omega
def o_Re_append_at_g4_3 : or_T := (19, 27, [(0, (2, 0, 0, [8])), (1, (0, -2147483648, 2147483647, [])), (2, (0, 0, 1996, [])), (3, (2, 0, 0, [165])), (4, (0, -2147483648, 2147483647, [])), (5, (0, -2147483648, 2147483647, [])), (6, (0, -2147483648, 2147483647, [])), (8, (2, 0, 0, [109])), (9, (0, 0, 1999, [])), (10, (0, -2147483648, 2147483647, [])), (11, (0, -128, 127, [])), (12, (0, 1, 1, [])), (13, (0, 1, 1999, [])), (15, (0, -2147483648, 2147483647, [])), (16, (0, -128, 127, [])), (17, (0, 1, 1, [])), (18, (0, 2, 1999, [])), (20, (0, -2147483648, 2147483647, [])), (21, (0, -128, 127, [])), (22, (0, 1, 1, [])), (23, (0, 3, 2000, [])), (25, (0, -2147483648, 2147483647, [])), (26, (0, -128, 127, []))], [(17, [26, 25], []), (11, [25, 1], [1]), (9, [23, 0], [1]), (9, [8, 0], [0]), (101, [0, 23], [1]), (1, [23, 18, 22], []), (9, [18, 0], [1]), (100, [8, 18, 21], []), (17, [21, 20], []), (11, [20, 1], [256]), (101, [0, 18], [1]), (1, [18, 13, 17], []), (9, [13, 0], [1]), (100, [8, 13, 16], []), (17, [16, 15], []), (11, [15, 1], [65536]), (101, [0, 13], [1]), (1, [13, 9, 12], []), (9, [9, 0], [1]), (20, [0, 2], [30, 0, 1, 1, 1, -1, 0, 0]), (20, [0, 2], [30, 0, -1, 1, 1, 1, 0, 0]), (100, [8, 9, 11], []), (17, [11, 10], []), (11, [10, 1], [16777216]), (20, [0, 2], [30, 0, 1, 1, 1, -1, 0, 0]), (20, [0, 2], [30, 0, -1, 1, 1, 1, 0, 0]), (20, [0, 3, 4, 5, 6], [60, 1, 2, 1104, 1, 0, 1001])], [(23, (0, 3, 1999, []))], [], [], [], [(23, 18, 1, 1), (23, 13, 2, 2), (23, 9, 3, 3), (18, 13, 1, 1), (18, 9, 2, 2), (13, 9, 1, 1)])
theorem oo_Re_append_at_g4_3 {kA : Nat → ClassId} : or_ok PRD kA GG o_Re_append_at_g4_3 := by
  refine or_mk fun A ta ws vs hD hth hl => ?_
  intro t0 r0 t1 k1 t2 k2 t3 r3 t4 k4 t5 k5 t6 k6 t8 r8 t9 k9 t10 k10 t11 k11 t12 k12 t13 k13 t15 k15 t16 k16 t17 k17 t18 k18 t20 k20 t21 k21 t22 k22 t23 k23 t25 k25 t26 k26 d0 d1 d2 d3 d4 d5 f0 f1 f2 f3 ta1 w1 le1 s1 f5 f6 ta2 w2 le2 s2 f8 f9 ta3 w3 le3 s3 f11 f12 ta4 w4 le4 s4 f14 f15 ta5 w5 le5 s5 f17 f18 f19 f20 ta6 w6 le6 s6 f22 f23 f24 f25 f26
  replace f2 := shm_215 f2
  replace f3 := shm_163 f3
  have s1 : (∀ b j, w_el ws b j = w_el w1 b j) ∧ ∀ b j, w_fd ws b j = if b = v_ad (n_v vs 0) ∧ j = 1 then n_v vs 23 else w_fd w1 b j := s1.2
  replace f6 := shm_215 f6
  have s2 : (∀ b j, w_el w1 b j = if b = v_ad (n_v vs 8) ∧ j = (v_iv (n_v vs 18)).toNat then v_iv (n_v vs 21) else w_el w2 b j) ∧ ∀ b k, w_fd w1 b k = w_fd w2 b k := s2.2
  have s3 : (∀ b j, w_el w2 b j = w_el w3 b j) ∧ ∀ b j, w_fd w2 b j = if b = v_ad (n_v vs 0) ∧ j = 1 then n_v vs 18 else w_fd w3 b j := s3.2
  replace f12 := shm_215 f12
  have s4 : (∀ b j, w_el w3 b j = if b = v_ad (n_v vs 8) ∧ j = (v_iv (n_v vs 13)).toNat then v_iv (n_v vs 16) else w_el w4 b j) ∧ ∀ b k, w_fd w3 b k = w_fd w4 b k := s4.2
  have s5 : (∀ b j, w_el w4 b j = w_el w5 b j) ∧ ∀ b j, w_fd w4 b j = if b = v_ad (n_v vs 0) ∧ j = 1 then n_v vs 13 else w_fd w5 b j := s5.2
  replace f18 := shm_215 f18
  have s6 : (∀ b j, w_el w5 b j = if b = v_ad (n_v vs 8) ∧ j = (v_iv (n_v vs 9)).toNat then v_iv (n_v vs 11) else w_el w6 b j) ∧ ∀ b k, w_fd w5 b k = w_fd w6 b k := s6.2
  have cr_0_0 := fdq_95 hD hth r0
  have cr_3_1 := fdq_39 hD hth r3
  have ad_8 : v_ad (n_v vs 8) = w_ar ws (n_v vs 0) 0 := congrArg v_ad f3
  have g2 : v_iv (n_v vs 23) = w_fi ws (n_v vs 0) 1 := congrArg v_iv f2
  have g6 : v_iv (n_v vs 18) = w_fi w1 (n_v vs 0) 1 := congrArg v_iv f6
  have g12 : v_iv (n_v vs 13) = w_fi w3 (n_v vs 0) 1 := congrArg v_iv f12
  have g18 : v_iv (n_v vs 9) = w_fi w5 (n_v vs 0) 1 := congrArg v_iv f18
  have fe_0_1_2 : w_fi w1 (n_v vs 0) 1 = w_fi w2 (n_v vs 0) 1 := congrArg v_iv (s2.2 _ _)
  have fe_0_1_4 : w_fi w3 (n_v vs 0) 1 = w_fi w4 (n_v vs 0) 1 := congrArg v_iv (s4.2 _ _)
  have fe_0_1_6 : w_fi w5 (n_v vs 0) 1 = w_fi w6 (n_v vs 0) 1 := congrArg v_iv (s6.2 _ _)
  have hE_0_0_1 : ∀ j : Int, w_ei ws (w_ar ws (n_v vs 0) 0) j = w_ei w1 (w_ar ws (n_v vs 0) 0) j := fun j => s1.1 _ _
  have hE_0_0_2 : ∀ j : Int, 0 ≤ j → (j = v_iv (n_v vs 18) → w_ei w1 (w_ar ws (n_v vs 0) 0) j = v_iv (n_v vs 21)) ∧ (j ≠ v_iv (n_v vs 18) → w_ei w1 (w_ar ws (n_v vs 0) 0) j = w_ei w2 (w_ar ws (n_v vs 0) 0) j) := fun j hj => ⟨fun h => by unfold w_ei; rw [s2.1, if_pos ⟨ad_8.symm, by rw [h]⟩], fun h => by unfold w_ei; rw [s2.1, if_neg (fun e => h (by have := e.2; omega))]⟩
  have hE_0_0_3 : ∀ j : Int, w_ei w2 (w_ar ws (n_v vs 0) 0) j = w_ei w3 (w_ar ws (n_v vs 0) 0) j := fun j => s3.1 _ _
  have hE_0_0_4 : ∀ j : Int, 0 ≤ j → (j = v_iv (n_v vs 13) → w_ei w3 (w_ar ws (n_v vs 0) 0) j = v_iv (n_v vs 16)) ∧ (j ≠ v_iv (n_v vs 13) → w_ei w3 (w_ar ws (n_v vs 0) 0) j = w_ei w4 (w_ar ws (n_v vs 0) 0) j) := fun j hj => ⟨fun h => by unfold w_ei; rw [s4.1, if_pos ⟨ad_8.symm, by rw [h]⟩], fun h => by unfold w_ei; rw [s4.1, if_neg (fun e => h (by have := e.2; omega))]⟩
  have hE_0_0_5 : ∀ j : Int, w_ei w4 (w_ar ws (n_v vs 0) 0) j = w_ei w5 (w_ar ws (n_v vs 0) 0) j := fun j => s5.1 _ _
  have hE_0_0_6 : ∀ j : Int, 0 ≤ j → (j = v_iv (n_v vs 9) → w_ei w5 (w_ar ws (n_v vs 0) 0) j = v_iv (n_v vs 11)) ∧ (j ≠ v_iv (n_v vs 9) → w_ei w5 (w_ar ws (n_v vs 0) 0) j = w_ei w6 (w_ar ws (n_v vs 0) 0) j) := fun j hj => ⟨fun h => by unfold w_ei; rw [s6.1, if_pos ⟨ad_8.symm, by rw [h]⟩], fun h => by unfold w_ei; rw [s6.1, if_neg (fun e => h (by have := e.2; omega))]⟩
  have hK_0_0 := elq_33 hD hth cr_0_0
  have hE_3_1_1 : ∀ j : Int, w_ei ws (w_ar ws (n_v vs 3) 1) j = w_ei w1 (w_ar ws (n_v vs 3) 1) j := fun j => s1.1 _ _
  have hE_3_1_2 : ∀ j : Int, w_ei w1 (w_ar ws (n_v vs 3) 1) j = w_ei w2 (w_ar ws (n_v vs 3) 1) j := el_kp s2.1 r8 cr_3_1 (by decide)
  have hE_3_1_3 : ∀ j : Int, w_ei w2 (w_ar ws (n_v vs 3) 1) j = w_ei w3 (w_ar ws (n_v vs 3) 1) j := fun j => s3.1 _ _
  have hE_3_1_4 : ∀ j : Int, w_ei w3 (w_ar ws (n_v vs 3) 1) j = w_ei w4 (w_ar ws (n_v vs 3) 1) j := el_kp s4.1 r8 cr_3_1 (by decide)
  have hE_3_1_5 : ∀ j : Int, w_ei w4 (w_ar ws (n_v vs 3) 1) j = w_ei w5 (w_ar ws (n_v vs 3) 1) j := fun j => s5.1 _ _
  have hE_3_1_6 : ∀ j : Int, w_ei w5 (w_ar ws (n_v vs 3) 1) j = w_ei w6 (w_ar ws (n_v vs 3) 1) j := el_kp s6.1 r8 cr_3_1 (by decide)
  have hK_3_1 := elq_7 hD hth cr_3_1
  have kz_0_1 := fdq_96 hD hth r0
  have hrf0 : 3 ≤ v_iv (n_v vs 23) ∧ v_iv (n_v vs 23) ≤ 1999 := vc_Re_append_at_g4_3_r0 (v_iv (n_v vs 2)) (v_iv (n_v vs 9)) (v_iv (n_v vs 11)) (v_iv (n_v vs 13)) (v_iv (n_v vs 16)) (v_iv (n_v vs 18)) (v_iv (n_v vs 21)) (v_iv (n_v vs 23)) (w_fi ws (n_v vs 0) 1) (w_fi w1 (n_v vs 0) 1) (w_fi w3 (n_v vs 0) 1) (w_fi w5 (n_v vs 0) 1) (w_fi w6 (n_v vs 0) 1) (w_ei w6 (w_ar ws (n_v vs 0) 0)) (w_ei w6 (w_ar ws (n_v vs 3) 1)) (w_fi w2 (n_v vs 0) 1) (w_fi w4 (n_v vs 0) 1) (w_ei ws (w_ar ws (n_v vs 0) 0)) (w_ei w1 (w_ar ws (n_v vs 0) 0)) (w_ei w2 (w_ar ws (n_v vs 0) 0)) (w_ei w3 (w_ar ws (n_v vs 0) 0)) (w_ei w4 (w_ar ws (n_v vs 0) 0)) (w_ei w5 (w_ar ws (n_v vs 0) 0)) (w_ei ws (w_ar ws (n_v vs 3) 1)) (w_ei w1 (w_ar ws (n_v vs 3) 1)) (w_ei w2 (w_ar ws (n_v vs 3) 1)) (w_ei w3 (w_ar ws (n_v vs 3) 1)) (w_ei w4 (w_ar ws (n_v vs 3) 1)) (w_ei w5 (w_ar ws (n_v vs 3) 1)) k2 k9 k11 k13 k16 k18 k21 k23 d0 d1 d2 g2 g6 g12 g18 (shm_436 f19) (shm_437 f20) fe_0_1_2 fe_0_1_4 fe_0_1_6 hE_0_0_1 hE_0_0_2 hE_0_0_3 hE_0_0_4 hE_0_0_5 hE_0_0_6 hK_0_0 hE_3_1_1 hE_3_1_2 hE_3_1_3 hE_3_1_4 hE_3_1_5 hE_3_1_6 hK_3_1 kz_0_1
  have rf23 : tv_ok ta (0, 3, 1999, []) (n_v vs 23) := tv_in t23 (by first | omega | grind) (by first | omega | grind)
  refine ⟨List.forall_mem_cons.mpr ⟨rf23, (fun _ h => (by cases h))⟩, [], trivial, ?_, (fun _ h => (by cases h))⟩
  rw [List.append_nil]
  exact (fun _ h => (by cases h))
set_option maxHeartbeats 4000000 in
theorem vc_Re_append_at_g4_4_0 (x2 : Int) (x9 : Int) (x11 : Int) (x13 : Int) (x16 : Int) (x18 : Int) (x21 : Int) (x23 : Int) (x26 : Int) (x28 : Int) (length_0 : Int) (length_1 : Int) (length_3 : Int) (length_5 : Int) (length_7 : Int) (length_8 : Int) (tape_8 : Int → Int) (tape_8o3 : Int → Int) (length_2 : Int) (length_4 : Int) (length_6 : Int) (tape_0 : Int → Int) (tape_1 : Int → Int) (tape_2 : Int → Int) (tape_3 : Int → Int) (tape_4 : Int → Int) (tape_5 : Int → Int) (tape_6 : Int → Int) (tape_7 : Int → Int) (tape_0o3 : Int → Int) (tape_1o3 : Int → Int) (tape_2o3 : Int → Int) (tape_3o3 : Int → Int) (tape_4o3 : Int → Int) (tape_5o3 : Int → Int) (tape_6o3 : Int → Int) (tape_7o3 : Int → Int) (k2 : 0 ≤ x2 ∧ x2 ≤ 1996) (k9 : 0 ≤ x9 ∧ x9 ≤ 1999) (k11 : (-128) ≤ x11 ∧ x11 ≤ 127) (k13 : 1 ≤ x13 ∧ x13 ≤ 1999) (k16 : (-128) ≤ x16 ∧ x16 ≤ 127) (k18 : 2 ≤ x18 ∧ x18 ≤ 1999) (k21 : (-128) ≤ x21 ∧ x21 ≤ 127) (k23 : 3 ≤ x23 ∧ x23 ≤ 1999) (k26 : (-128) ≤ x26 ∧ x26 ≤ 127) (k28 : 4 ≤ x28 ∧ x28 ≤ 2000) (d0 : x23 + 1 ≤ x28 ∧ x28 ≤ x23 + 1) (d1 : x18 + 2 ≤ x28 ∧ x28 ≤ x18 + 2) (d2 : x13 + 3 ≤ x28 ∧ x28 ≤ x13 + 3) (d3 : x9 + 4 ≤ x28 ∧ x28 ≤ x9 + 4) (g0 : x28 = length_0) (g4 : x23 = length_1) (g10 : x18 = length_3) (g16 : x13 = length_5) (g22 : x9 = length_7) (f23 : 1 * length_7 + ((-1) * x2 + 0) ≤ 0) (f24 : (-1) * length_7 + (1 * x2 + 0) ≤ 0) (fe_0_1_2 : length_1 = length_2) (fe_0_1_4 : length_3 = length_4) (fe_0_1_6 : length_5 = length_6) (fe_0_1_8 : length_7 = length_8) (hE_0_0_1 : ∀ j : Int, tape_0 j = tape_1 j) (hE_0_0_2 : ∀ j : Int, 0 ≤ j → (j = x23 → tape_1 j = x26) ∧ (j ≠ x23 → tape_1 j = tape_2 j)) (hE_0_0_3 : ∀ j : Int, tape_2 j = tape_3 j) (hE_0_0_4 : ∀ j : Int, 0 ≤ j → (j = x18 → tape_3 j = x21) ∧ (j ≠ x18 → tape_3 j = tape_4 j)) (hE_0_0_5 : ∀ j : Int, tape_4 j = tape_5 j) (hE_0_0_6 : ∀ j : Int, 0 ≤ j → (j = x13 → tape_5 j = x16) ∧ (j ≠ x13 → tape_5 j = tape_6 j)) (hE_0_0_7 : ∀ j : Int, tape_6 j = tape_7 j) (hE_0_0_8 : ∀ j : Int, 0 ≤ j → (j = x9 → tape_7 j = x11) ∧ (j ≠ x9 → tape_7 j = tape_8 j)) (hK_0_0 : ∀ j : Int, 0 ≤ j → j < 2000 → (-128) ≤ tape_0 j ∧ tape_0 j ≤ 127) (hE_3_1_1 : ∀ j : Int, tape_0o3 j = tape_1o3 j) (hE_3_1_2 : ∀ j : Int, tape_1o3 j = tape_2o3 j) (hE_3_1_3 : ∀ j : Int, tape_2o3 j = tape_3o3 j) (hE_3_1_4 : ∀ j : Int, tape_3o3 j = tape_4o3 j) (hE_3_1_5 : ∀ j : Int, tape_4o3 j = tape_5o3 j) (hE_3_1_6 : ∀ j : Int, tape_5o3 j = tape_6o3 j) (hE_3_1_7 : ∀ j : Int, tape_6o3 j = tape_7o3 j) (hE_3_1_8 : ∀ j : Int, tape_7o3 j = tape_8o3 j) (hK_3_1 : ∀ j : Int, 0 ≤ j → j < 2000 → (-128) ≤ tape_0o3 j ∧ tape_0o3 j ≤ 127) (kz_0_1 : 0 ≤ length_0 ∧ length_0 ≤ 2000) : 1 * length_0 + ((-1) * x2 + 0) ≤ 4 := by
  subst fe_0_1_2
  subst fe_0_1_4
  subst fe_0_1_6
  subst fe_0_1_8
  have e_hE_0_0_1 := funext hE_0_0_1; subst e_hE_0_0_1
  have e_hE_0_0_3 := funext hE_0_0_3; subst e_hE_0_0_3
  have e_hE_0_0_5 := funext hE_0_0_5; subst e_hE_0_0_5
  have e_hE_0_0_7 := funext hE_0_0_7; subst e_hE_0_0_7
  have e_hE_3_1_1 := funext hE_3_1_1; subst e_hE_3_1_1
  have e_hE_3_1_2 := funext hE_3_1_2; subst e_hE_3_1_2
  have e_hE_3_1_3 := funext hE_3_1_3; subst e_hE_3_1_3
  have e_hE_3_1_4 := funext hE_3_1_4; subst e_hE_3_1_4
  have e_hE_3_1_5 := funext hE_3_1_5; subst e_hE_3_1_5
  have e_hE_3_1_6 := funext hE_3_1_6; subst e_hE_3_1_6
  have e_hE_3_1_7 := funext hE_3_1_7; subst e_hE_3_1_7
  have e_hE_3_1_8 := funext hE_3_1_8; subst e_hE_3_1_8
  first | with_reducible assumption | ((try and_intros) <;> first | with_reducible assumption | (clear hE_0_0_1 hE_0_0_2 hE_0_0_3 hE_0_0_4 hE_0_0_5 hE_0_0_6 hE_0_0_7 hE_0_0_8 hK_0_0 hE_3_1_1 hE_3_1_2 hE_3_1_3 hE_3_1_4 hE_3_1_5 hE_3_1_6 hE_3_1_7 hE_3_1_8 hK_3_1; omega)) | omega
set_option maxHeartbeats 4000000 in
theorem vc_Re_append_at_g4_4_1 (x2 : Int) (x9 : Int) (x11 : Int) (x13 : Int) (x16 : Int) (x18 : Int) (x21 : Int) (x23 : Int) (x26 : Int) (x28 : Int) (length_0 : Int) (length_1 : Int) (length_3 : Int) (length_5 : Int) (length_7 : Int) (length_8 : Int) (tape_8 : Int → Int) (tape_8o3 : Int → Int) (length_2 : Int) (length_4 : Int) (length_6 : Int) (tape_0 : Int → Int) (tape_1 : Int → Int) (tape_2 : Int → Int) (tape_3 : Int → Int) (tape_4 : Int → Int) (tape_5 : Int → Int) (tape_6 : Int → Int) (tape_7 : Int → Int) (tape_0o3 : Int → Int) (tape_1o3 : Int → Int) (tape_2o3 : Int → Int) (tape_3o3 : Int → Int) (tape_4o3 : Int → Int) (tape_5o3 : Int → Int) (tape_6o3 : Int → Int) (tape_7o3 : Int → Int) (k2 : 0 ≤ x2 ∧ x2 ≤ 1996) (k9 : 0 ≤ x9 ∧ x9 ≤ 1999) (k11 : (-128) ≤ x11 ∧ x11 ≤ 127) (k13 : 1 ≤ x13 ∧ x13 ≤ 1999) (k16 : (-128) ≤ x16 ∧ x16 ≤ 127) (k18 : 2 ≤ x18 ∧ x18 ≤ 1999) (k21 : (-128) ≤ x21 ∧ x21 ≤ 127) (k23 : 3 ≤ x23 ∧ x23 ≤ 1999) (k26 : (-128) ≤ x26 ∧ x26 ≤ 127) (k28 : 4 ≤ x28 ∧ x28 ≤ 2000) (d0 : x23 + 1 ≤ x28 ∧ x28 ≤ x23 + 1) (d1 : x18 + 2 ≤ x28 ∧ x28 ≤ x18 + 2) (d2 : x13 + 3 ≤ x28 ∧ x28 ≤ x13 + 3) (d3 : x9 + 4 ≤ x28 ∧ x28 ≤ x9 + 4) (g0 : x28 = length_0) (g4 : x23 = length_1) (g10 : x18 = length_3) (g16 : x13 = length_5) (g22 : x9 = length_7) (f23 : 1 * length_7 + ((-1) * x2 + 0) ≤ 0) (f24 : (-1) * length_7 + (1 * x2 + 0) ≤ 0) (fe_0_1_2 : length_1 = length_2) (fe_0_1_4 : length_3 = length_4) (fe_0_1_6 : length_5 = length_6) (fe_0_1_8 : length_7 = length_8) (hE_0_0_1 : ∀ j : Int, tape_0 j = tape_1 j) (hE_0_0_2 : ∀ j : Int, 0 ≤ j → (j = x23 → tape_1 j = x26) ∧ (j ≠ x23 → tape_1 j = tape_2 j)) (hE_0_0_3 : ∀ j : Int, tape_2 j = tape_3 j) (hE_0_0_4 : ∀ j : Int, 0 ≤ j → (j = x18 → tape_3 j = x21) ∧ (j ≠ x18 → tape_3 j = tape_4 j)) (hE_0_0_5 : ∀ j : Int, tape_4 j = tape_5 j) (hE_0_0_6 : ∀ j : Int, 0 ≤ j → (j = x13 → tape_5 j = x16) ∧ (j ≠ x13 → tape_5 j = tape_6 j)) (hE_0_0_7 : ∀ j : Int, tape_6 j = tape_7 j) (hE_0_0_8 : ∀ j : Int, 0 ≤ j → (j = x9 → tape_7 j = x11) ∧ (j ≠ x9 → tape_7 j = tape_8 j)) (hK_0_0 : ∀ j : Int, 0 ≤ j → j < 2000 → (-128) ≤ tape_0 j ∧ tape_0 j ≤ 127) (hE_3_1_1 : ∀ j : Int, tape_0o3 j = tape_1o3 j) (hE_3_1_2 : ∀ j : Int, tape_1o3 j = tape_2o3 j) (hE_3_1_3 : ∀ j : Int, tape_2o3 j = tape_3o3 j) (hE_3_1_4 : ∀ j : Int, tape_3o3 j = tape_4o3 j) (hE_3_1_5 : ∀ j : Int, tape_4o3 j = tape_5o3 j) (hE_3_1_6 : ∀ j : Int, tape_5o3 j = tape_6o3 j) (hE_3_1_7 : ∀ j : Int, tape_6o3 j = tape_7o3 j) (hE_3_1_8 : ∀ j : Int, tape_7o3 j = tape_8o3 j) (hK_3_1 : ∀ j : Int, 0 ≤ j → j < 2000 → (-128) ≤ tape_0o3 j ∧ tape_0o3 j ≤ 127) (kz_0_1 : 0 ≤ length_0 ∧ length_0 ≤ 2000) : (-1) * length_0 + (1 * x2 + 0) ≤ (-4) := by
  subst fe_0_1_2
  subst fe_0_1_4
  subst fe_0_1_6
  subst fe_0_1_8
  have e_hE_0_0_1 := funext hE_0_0_1; subst e_hE_0_0_1
  have e_hE_0_0_3 := funext hE_0_0_3; subst e_hE_0_0_3
  have e_hE_0_0_5 := funext hE_0_0_5; subst e_hE_0_0_5
  have e_hE_0_0_7 := funext hE_0_0_7; subst e_hE_0_0_7
  have e_hE_3_1_1 := funext hE_3_1_1; subst e_hE_3_1_1
  have e_hE_3_1_2 := funext hE_3_1_2; subst e_hE_3_1_2
  have e_hE_3_1_3 := funext hE_3_1_3; subst e_hE_3_1_3
  have e_hE_3_1_4 := funext hE_3_1_4; subst e_hE_3_1_4
  have e_hE_3_1_5 := funext hE_3_1_5; subst e_hE_3_1_5
  have e_hE_3_1_6 := funext hE_3_1_6; subst e_hE_3_1_6
  have e_hE_3_1_7 := funext hE_3_1_7; subst e_hE_3_1_7
  have e_hE_3_1_8 := funext hE_3_1_8; subst e_hE_3_1_8
  first | with_reducible assumption | ((try and_intros) <;> first | with_reducible assumption | (clear hE_0_0_1 hE_0_0_2 hE_0_0_3 hE_0_0_4 hE_0_0_5 hE_0_0_6 hE_0_0_7 hE_0_0_8 hK_0_0 hE_3_1_1 hE_3_1_2 hE_3_1_3 hE_3_1_4 hE_3_1_5 hE_3_1_6 hE_3_1_7 hE_3_1_8 hK_3_1; omega)) | omega
set_option maxHeartbeats 4000000 in
theorem vc_Re_append_at_g4_4_2 (x1 : Int) (x4 : Int) (x5 : Int) (x6 : Int) (x9 : Int) (x10 : Int) (x11 : Int) (x13 : Int) (x15 : Int) (x16 : Int) (x18 : Int) (x20 : Int) (x21 : Int) (x23 : Int) (x25 : Int) (x26 : Int) (x28 : Int) (length_0 : Int) (length_1 : Int) (length_3 : Int) (length_5 : Int) (length_7 : Int) (length_8 : Int) (tape_8 : Int → Int) (tape_8o3 : Int → Int) (length_2 : Int) (length_4 : Int) (length_6 : Int) (tape_0 : Int → Int) (tape_1 : Int → Int) (tape_2 : Int → Int) (tape_3 : Int → Int) (tape_4 : Int → Int) (tape_5 : Int → Int) (tape_6 : Int → Int) (tape_7 : Int → Int) (tape_0o3 : Int → Int) (tape_1o3 : Int → Int) (tape_2o3 : Int → Int) (tape_3o3 : Int → Int) (tape_4o3 : Int → Int) (tape_5o3 : Int → Int) (tape_6o3 : Int → Int) (tape_7o3 : Int → Int) (k1 : (-2147483648) ≤ x1 ∧ x1 ≤ 2147483647) (k4 : (-2147483648) ≤ x4 ∧ x4 ≤ 2147483647) (k5 : (-2147483648) ≤ x5 ∧ x5 ≤ 2147483647) (k6 : (-2147483648) ≤ x6 ∧ x6 ≤ 2147483647) (k9 : 0 ≤ x9 ∧ x9 ≤ 1999) (k10 : (-2147483648) ≤ x10 ∧ x10 ≤ 2147483647) (k11 : (-128) ≤ x11 ∧ x11 ≤ 127) (k13 : 1 ≤ x13 ∧ x13 ≤ 1999) (k15 : (-2147483648) ≤ x15 ∧ x15 ≤ 2147483647) (k16 : (-128) ≤ x16 ∧ x16 ≤ 127) (k18 : 2 ≤ x18 ∧ x18 ≤ 1999) (k20 : (-2147483648) ≤ x20 ∧ x20 ≤ 2147483647) (k21 : (-128) ≤ x21 ∧ x21 ≤ 127) (k23 : 3 ≤ x23 ∧ x23 ≤ 1999) (k25 : (-2147483648) ≤ x25 ∧ x25 ≤ 2147483647) (k26 : (-128) ≤ x26 ∧ x26 ≤ 127) (k28 : 4 ≤ x28 ∧ x28 ≤ 2000) (d0 : x23 + 1 ≤ x28 ∧ x28 ≤ x23 + 1) (d1 : x18 + 2 ≤ x28 ∧ x28 ≤ x18 + 2) (d2 : x13 + 3 ≤ x28 ∧ x28 ≤ x13 + 3) (d3 : x9 + 4 ≤ x28 ∧ x28 ≤ x9 + 4) (g0 : x28 = length_0) (g4 : x23 = length_1) (f6 : x26 = (x25 + 128) % 256 - 128) (f7 : x25 = x1 / 1) (g10 : x18 = length_3) (f12 : x21 = (x20 + 128) % 256 - 128) (f13 : x20 = x1 / 256) (g16 : x13 = length_5) (f18 : x16 = (x15 + 128) % 256 - 128) (f19 : x15 = x1 / 65536) (g22 : x9 = length_7) (f26 : x11 = (x10 + 128) % 256 - 128) (f27 : x10 = x1 / 16777216) (f30 : TE3 (length_8) (tape_8) (tape_8o3) (x4) (x5) (x6)) (fe_0_1_2 : length_1 = length_2) (fe_0_1_4 : length_3 = length_4) (fe_0_1_6 : length_5 = length_6) (fe_0_1_8 : length_7 = length_8) (hE_0_0_1 : ∀ j : Int, tape_0 j = tape_1 j) (hE_0_0_2 : ∀ j : Int, 0 ≤ j → (j = x23 → tape_1 j = x26) ∧ (j ≠ x23 → tape_1 j = tape_2 j)) (hE_0_0_3 : ∀ j : Int, tape_2 j = tape_3 j) (hE_0_0_4 : ∀ j : Int, 0 ≤ j → (j = x18 → tape_3 j = x21) ∧ (j ≠ x18 → tape_3 j = tape_4 j)) (hE_0_0_5 : ∀ j : Int, tape_4 j = tape_5 j) (hE_0_0_6 : ∀ j : Int, 0 ≤ j → (j = x13 → tape_5 j = x16) ∧ (j ≠ x13 → tape_5 j = tape_6 j)) (hE_0_0_7 : ∀ j : Int, tape_6 j = tape_7 j) (hE_0_0_8 : ∀ j : Int, 0 ≤ j → (j = x9 → tape_7 j = x11) ∧ (j ≠ x9 → tape_7 j = tape_8 j)) (hE_3_1_1 : ∀ j : Int, tape_0o3 j = tape_1o3 j) (hE_3_1_2 : ∀ j : Int, tape_1o3 j = tape_2o3 j) (hE_3_1_3 : ∀ j : Int, tape_2o3 j = tape_3o3 j) (hE_3_1_4 : ∀ j : Int, tape_3o3 j = tape_4o3 j) (hE_3_1_5 : ∀ j : Int, tape_4o3 j = tape_5o3 j) (hE_3_1_6 : ∀ j : Int, tape_5o3 j = tape_6o3 j) (hE_3_1_7 : ∀ j : Int, tape_6o3 j = tape_7o3 j) (hE_3_1_8 : ∀ j : Int, tape_7o3 j = tape_8o3 j) (kz_0_1 : 0 ≤ length_0 ∧ length_0 ≤ 2000) : TE4 (length_0) (tape_0) (tape_0o3) (x4) (x5) (x6) (x1) := by
  subst fe_0_1_2
  subst fe_0_1_4
  subst fe_0_1_6
  subst fe_0_1_8
  have e_hE_0_0_1 := funext hE_0_0_1; subst e_hE_0_0_1
  have e_hE_0_0_3 := funext hE_0_0_3; subst e_hE_0_0_3
  have e_hE_0_0_5 := funext hE_0_0_5; subst e_hE_0_0_5
  have e_hE_0_0_7 := funext hE_0_0_7; subst e_hE_0_0_7
  have e_hE_3_1_1 := funext hE_3_1_1; subst e_hE_3_1_1
  have e_hE_3_1_2 := funext hE_3_1_2; subst e_hE_3_1_2
  have e_hE_3_1_3 := funext hE_3_1_3; subst e_hE_3_1_3
  have e_hE_3_1_4 := funext hE_3_1_4; subst e_hE_3_1_4
  have e_hE_3_1_5 := funext hE_3_1_5; subst e_hE_3_1_5
  have e_hE_3_1_6 := funext hE_3_1_6; subst e_hE_3_1_6
  have e_hE_3_1_7 := funext hE_3_1_7; subst e_hE_3_1_7
  have e_hE_3_1_8 := funext hE_3_1_8; subst e_hE_3_1_8
  first | subst g0 | skip
  first | subst g4 | skip
  first | subst g10 | skip
  first | subst g16 | skip
  first | subst g22 | skip
  exact te_s4 ‹TE3 _ _ _ _ _ _› (by assumption) (by assumption) (by assumption) (by assumption) (by omega) (by omega) (by omega) (by omega) (by omega) (by omega) (by omega) (by omega) (by omega) (by omega)
def o_Re_append_at_g4_4 : or_T := (36, 30, [(0, (2, 0, 0, [8])), (1, (0, -2147483648, 2147483647, [])), (2, (0, 0, 1996, [])), (3, (2, 0, 0, [165])), (4, (0, -2147483648, 2147483647, [])), (5, (0, -2147483648, 2147483647, [])), (6, (0, -2147483648, 2147483647, [])), (8, (2, 0, 0, [109])), (9, (0, 0, 1999, [])), (10, (0, -2147483648, 2147483647, [])), (11, (0, -128, 127, [])), (13, (0, 1, 1999, [])), (15, (0, -2147483648, 2147483647, [])), (16, (0, -128, 127, [])), (18, (0, 2, 1999, [])), (20, (0, -2147483648, 2147483647, [])), (21, (0, -128, 127, [])), (23, (0, 3, 1999, [])), (25, (0, -2147483648, 2147483647, [])), (26, (0, -128, 127, [])), (28, (0, 4, 2000, []))], [(9, [28, 0], [1]), (9, [8, 0], [0]), (101, [0, 28], [1]), (9, [23, 0], [1]), (100, [8, 23, 26], []), (17, [26, 25], []), (11, [25, 1], [1]), (101, [0, 23], [1]), (9, [18, 0], [1]), (100, [8, 18, 21], []), (17, [21, 20], []), (11, [20, 1], [256]), (101, [0, 18], [1]), (9, [13, 0], [1]), (100, [8, 13, 16], []), (17, [16, 15], []), (11, [15, 1], [65536]), (101, [0, 13], [1]), (9, [9, 0], [1]), (20, [0, 2], [30, 0, 1, 1, 1, -1, 0, 0]), (20, [0, 2], [30, 0, -1, 1, 1, 1, 0, 0]), (100, [8, 9, 11], []), (17, [11, 10], []), (11, [10, 1], [16777216]), (20, [0, 3, 4, 5, 6], [60, 1, 2, 1104, 1, 0, 1001])], [], [], [(20, [0, 2], [30, 4, 1, 1, 1, -1, 0, 0]), (20, [0, 2], [30, -4, -1, 1, 1, 1, 0, 0]), (20, [0, 3, 4, 5, 6, 1], [60, 1, 2, 1105, 1, 0, 1001])], [], [(28, 23, 1, 1), (28, 18, 2, 2), (28, 13, 3, 3), (28, 9, 4, 4), (23, 18, 1, 1), (23, 13, 2, 2), (23, 9, 3, 3), (18, 13, 1, 1), (18, 9, 2, 2), (13, 9, 1, 1)])
theorem oo_Re_append_at_g4_4 {kA : Nat → ClassId} : or_ok PRD kA GG o_Re_append_at_g4_4 := by
  refine or_mk fun A ta ws vs hD hth hl => ?_
  intro t0 r0 t1 k1 t2 k2 t3 r3 t4 k4 t5 k5 t6 k6 t8 r8 t9 k9 t10 k10 t11 k11 t13 k13 t15 k15 t16 k16 t18 k18 t20 k20 t21 k21 t23 k23 t25 k25 t26 k26 t28 k28 d0 d1 d2 d3 d4 d5 d6 d7 d8 d9 f0 f1 ta1 w1 le1 s1 f4 ta2 w2 le2 s2 f6 f7 ta3 w3 le3 s3 f10 ta4 w4 le4 s4 f12 f13 ta5 w5 le5 s5 f16 ta6 w6 le6 s6 f18 f19 ta7 w7 le7 s7 f22 f23 f24 ta8 w8 le8 s8 f26 f27 f30
  replace f0 := shm_215 f0
  replace f1 := shm_163 f1
  have s1 : (∀ b j, w_el ws b j = w_el w1 b j) ∧ ∀ b j, w_fd ws b j = if b = v_ad (n_v vs 0) ∧ j = 1 then n_v vs 28 else w_fd w1 b j := s1.2
  replace f4 := shm_215 f4
  have s2 : (∀ b j, w_el w1 b j = if b = v_ad (n_v vs 8) ∧ j = (v_iv (n_v vs 23)).toNat then v_iv (n_v vs 26) else w_el w2 b j) ∧ ∀ b k, w_fd w1 b k = w_fd w2 b k := s2.2
  have s3 : (∀ b j, w_el w2 b j = w_el w3 b j) ∧ ∀ b j, w_fd w2 b j = if b = v_ad (n_v vs 0) ∧ j = 1 then n_v vs 23 else w_fd w3 b j := s3.2
  replace f10 := shm_215 f10
  have s4 : (∀ b j, w_el w3 b j = if b = v_ad (n_v vs 8) ∧ j = (v_iv (n_v vs 18)).toNat then v_iv (n_v vs 21) else w_el w4 b j) ∧ ∀ b k, w_fd w3 b k = w_fd w4 b k := s4.2
  have s5 : (∀ b j, w_el w4 b j = w_el w5 b j) ∧ ∀ b j, w_fd w4 b j = if b = v_ad (n_v vs 0) ∧ j = 1 then n_v vs 18 else w_fd w5 b j := s5.2
  replace f16 := shm_215 f16
  have s6 : (∀ b j, w_el w5 b j = if b = v_ad (n_v vs 8) ∧ j = (v_iv (n_v vs 13)).toNat then v_iv (n_v vs 16) else w_el w6 b j) ∧ ∀ b k, w_fd w5 b k = w_fd w6 b k := s6.2
  have s7 : (∀ b j, w_el w6 b j = w_el w7 b j) ∧ ∀ b j, w_fd w6 b j = if b = v_ad (n_v vs 0) ∧ j = 1 then n_v vs 13 else w_fd w7 b j := s7.2
  replace f22 := shm_215 f22
  have s8 : (∀ b j, w_el w7 b j = if b = v_ad (n_v vs 8) ∧ j = (v_iv (n_v vs 9)).toNat then v_iv (n_v vs 11) else w_el w8 b j) ∧ ∀ b k, w_fd w7 b k = w_fd w8 b k := s8.2
  replace f30 := shm_448 f30
  have ar_0_0_1 : w_ar w1 (n_v vs 0) 0 = w_ar ws (n_v vs 0) 0 := by show v_ad (w_fd w1 _ _) = v_ad (w_fd ws _ _); rw [s1.2, if_neg (fun e => absurd e.2 (by decide))]
  have ar_0_0_2 : w_ar w2 (n_v vs 0) 0 = w_ar ws (n_v vs 0) 0 := by rw [← ar_0_0_1]; show v_ad (w_fd w2 _ _) = v_ad (w_fd w1 _ _); rw [s2.2]
  have ar_0_0_3 : w_ar w3 (n_v vs 0) 0 = w_ar ws (n_v vs 0) 0 := by rw [← ar_0_0_2]; show v_ad (w_fd w3 _ _) = v_ad (w_fd w2 _ _); rw [s3.2, if_neg (fun e => absurd e.2 (by decide))]
  have ar_0_0_4 : w_ar w4 (n_v vs 0) 0 = w_ar ws (n_v vs 0) 0 := by rw [← ar_0_0_3]; show v_ad (w_fd w4 _ _) = v_ad (w_fd w3 _ _); rw [s4.2]
  have ar_0_0_5 : w_ar w5 (n_v vs 0) 0 = w_ar ws (n_v vs 0) 0 := by rw [← ar_0_0_4]; show v_ad (w_fd w5 _ _) = v_ad (w_fd w4 _ _); rw [s5.2, if_neg (fun e => absurd e.2 (by decide))]
  have ar_0_0_6 : w_ar w6 (n_v vs 0) 0 = w_ar ws (n_v vs 0) 0 := by rw [← ar_0_0_5]; show v_ad (w_fd w6 _ _) = v_ad (w_fd w5 _ _); rw [s6.2]
  have ar_0_0_7 : w_ar w7 (n_v vs 0) 0 = w_ar ws (n_v vs 0) 0 := by rw [← ar_0_0_6]; show v_ad (w_fd w7 _ _) = v_ad (w_fd w6 _ _); rw [s7.2, if_neg (fun e => absurd e.2 (by decide))]
  have ar_0_0_8 : w_ar w8 (n_v vs 0) 0 = w_ar ws (n_v vs 0) 0 := by rw [← ar_0_0_7]; show v_ad (w_fd w8 _ _) = v_ad (w_fd w7 _ _); rw [s8.2]
  have cr_0_0 := fdq_95 hD hth r0
  have ar_3_1_1 : w_ar w1 (n_v vs 3) 1 = w_ar ws (n_v vs 3) 1 := by show v_ad (w_fd w1 _ _) = v_ad (w_fd ws _ _); rw [s1.2, if_neg (fun e => by have e1 := e.1; have e2 := r3; rw [e1, r0] at e2; exact absurd (Option.some.inj e2) (by decide))]
  have ar_3_1_2 : w_ar w2 (n_v vs 3) 1 = w_ar ws (n_v vs 3) 1 := by rw [← ar_3_1_1]; show v_ad (w_fd w2 _ _) = v_ad (w_fd w1 _ _); rw [s2.2]
  have ar_3_1_3 : w_ar w3 (n_v vs 3) 1 = w_ar ws (n_v vs 3) 1 := by rw [← ar_3_1_2]; show v_ad (w_fd w3 _ _) = v_ad (w_fd w2 _ _); rw [s3.2, if_neg (fun e => by have e1 := e.1; have e2 := r3; rw [e1, r0] at e2; exact absurd (Option.some.inj e2) (by decide))]
  have ar_3_1_4 : w_ar w4 (n_v vs 3) 1 = w_ar ws (n_v vs 3) 1 := by rw [← ar_3_1_3]; show v_ad (w_fd w4 _ _) = v_ad (w_fd w3 _ _); rw [s4.2]
  have ar_3_1_5 : w_ar w5 (n_v vs 3) 1 = w_ar ws (n_v vs 3) 1 := by rw [← ar_3_1_4]; show v_ad (w_fd w5 _ _) = v_ad (w_fd w4 _ _); rw [s5.2, if_neg (fun e => by have e1 := e.1; have e2 := r3; rw [e1, r0] at e2; exact absurd (Option.some.inj e2) (by decide))]
  have ar_3_1_6 : w_ar w6 (n_v vs 3) 1 = w_ar ws (n_v vs 3) 1 := by rw [← ar_3_1_5]; show v_ad (w_fd w6 _ _) = v_ad (w_fd w5 _ _); rw [s6.2]
  have ar_3_1_7 : w_ar w7 (n_v vs 3) 1 = w_ar ws (n_v vs 3) 1 := by rw [← ar_3_1_6]; show v_ad (w_fd w7 _ _) = v_ad (w_fd w6 _ _); rw [s7.2, if_neg (fun e => by have e1 := e.1; have e2 := r3; rw [e1, r0] at e2; exact absurd (Option.some.inj e2) (by decide))]
  have ar_3_1_8 : w_ar w8 (n_v vs 3) 1 = w_ar ws (n_v vs 3) 1 := by rw [← ar_3_1_7]; show v_ad (w_fd w8 _ _) = v_ad (w_fd w7 _ _); rw [s8.2]
  have cr_3_1 := fdq_39 hD hth r3
  have ad_8 : v_ad (n_v vs 8) = w_ar ws (n_v vs 0) 0 := congrArg v_ad f1
  have g0 : v_iv (n_v vs 28) = w_fi ws (n_v vs 0) 1 := congrArg v_iv f0
  have g4 : v_iv (n_v vs 23) = w_fi w1 (n_v vs 0) 1 := congrArg v_iv f4
  have g10 : v_iv (n_v vs 18) = w_fi w3 (n_v vs 0) 1 := congrArg v_iv f10
  have g16 : v_iv (n_v vs 13) = w_fi w5 (n_v vs 0) 1 := congrArg v_iv f16
  have g22 : v_iv (n_v vs 9) = w_fi w7 (n_v vs 0) 1 := congrArg v_iv f22
  simp only [ar_0_0_8, ar_3_1_8] at f30
  have fe_0_1_2 : w_fi w1 (n_v vs 0) 1 = w_fi w2 (n_v vs 0) 1 := congrArg v_iv (s2.2 _ _)
  have fe_0_1_4 : w_fi w3 (n_v vs 0) 1 = w_fi w4 (n_v vs 0) 1 := congrArg v_iv (s4.2 _ _)
  have fe_0_1_6 : w_fi w5 (n_v vs 0) 1 = w_fi w6 (n_v vs 0) 1 := congrArg v_iv (s6.2 _ _)
  have fe_0_1_8 : w_fi w7 (n_v vs 0) 1 = w_fi w8 (n_v vs 0) 1 := congrArg v_iv (s8.2 _ _)
  have hE_0_0_1 : ∀ j : Int, w_ei ws (w_ar ws (n_v vs 0) 0) j = w_ei w1 (w_ar ws (n_v vs 0) 0) j := fun j => s1.1 _ _
  have hE_0_0_2 : ∀ j : Int, 0 ≤ j → (j = v_iv (n_v vs 23) → w_ei w1 (w_ar ws (n_v vs 0) 0) j = v_iv (n_v vs 26)) ∧ (j ≠ v_iv (n_v vs 23) → w_ei w1 (w_ar ws (n_v vs 0) 0) j = w_ei w2 (w_ar ws (n_v vs 0) 0) j) := fun j hj => ⟨fun h => by unfold w_ei; rw [s2.1, if_pos ⟨ad_8.symm, by rw [h]⟩], fun h => by unfold w_ei; rw [s2.1, if_neg (fun e => h (by have := e.2; omega))]⟩
  have hE_0_0_3 : ∀ j : Int, w_ei w2 (w_ar ws (n_v vs 0) 0) j = w_ei w3 (w_ar ws (n_v vs 0) 0) j := fun j => s3.1 _ _
  have hE_0_0_4 : ∀ j : Int, 0 ≤ j → (j = v_iv (n_v vs 18) → w_ei w3 (w_ar ws (n_v vs 0) 0) j = v_iv (n_v vs 21)) ∧ (j ≠ v_iv (n_v vs 18) → w_ei w3 (w_ar ws (n_v vs 0) 0) j = w_ei w4 (w_ar ws (n_v vs 0) 0) j) := fun j hj => ⟨fun h => by unfold w_ei; rw [s4.1, if_pos ⟨ad_8.symm, by rw [h]⟩], fun h => by unfold w_ei; rw [s4.1, if_neg (fun e => h (by have := e.2; omega))]⟩
  have hE_0_0_5 : ∀ j : Int, w_ei w4 (w_ar ws (n_v vs 0) 0) j = w_ei w5 (w_ar ws (n_v vs 0) 0) j := fun j => s5.1 _ _
  have hE_0_0_6 : ∀ j : Int, 0 ≤ j → (j = v_iv (n_v vs 13) → w_ei w5 (w_ar ws (n_v vs 0) 0) j = v_iv (n_v vs 16)) ∧ (j ≠ v_iv (n_v vs 13) → w_ei w5 (w_ar ws (n_v vs 0) 0) j = w_ei w6 (w_ar ws (n_v vs 0) 0) j) := fun j hj => ⟨fun h => by unfold w_ei; rw [s6.1, if_pos ⟨ad_8.symm, by rw [h]⟩], fun h => by unfold w_ei; rw [s6.1, if_neg (fun e => h (by have := e.2; omega))]⟩
  have hE_0_0_7 : ∀ j : Int, w_ei w6 (w_ar ws (n_v vs 0) 0) j = w_ei w7 (w_ar ws (n_v vs 0) 0) j := fun j => s7.1 _ _
  have hE_0_0_8 : ∀ j : Int, 0 ≤ j → (j = v_iv (n_v vs 9) → w_ei w7 (w_ar ws (n_v vs 0) 0) j = v_iv (n_v vs 11)) ∧ (j ≠ v_iv (n_v vs 9) → w_ei w7 (w_ar ws (n_v vs 0) 0) j = w_ei w8 (w_ar ws (n_v vs 0) 0) j) := fun j hj => ⟨fun h => by unfold w_ei; rw [s8.1, if_pos ⟨ad_8.symm, by rw [h]⟩], fun h => by unfold w_ei; rw [s8.1, if_neg (fun e => h (by have := e.2; omega))]⟩
  have hK_0_0 := elq_33 hD hth cr_0_0
  have hE_3_1_1 : ∀ j : Int, w_ei ws (w_ar ws (n_v vs 3) 1) j = w_ei w1 (w_ar ws (n_v vs 3) 1) j := fun j => s1.1 _ _
  have hE_3_1_2 : ∀ j : Int, w_ei w1 (w_ar ws (n_v vs 3) 1) j = w_ei w2 (w_ar ws (n_v vs 3) 1) j := el_kp s2.1 r8 cr_3_1 (by decide)
  have hE_3_1_3 : ∀ j : Int, w_ei w2 (w_ar ws (n_v vs 3) 1) j = w_ei w3 (w_ar ws (n_v vs 3) 1) j := fun j => s3.1 _ _
  have hE_3_1_4 : ∀ j : Int, w_ei w3 (w_ar ws (n_v vs 3) 1) j = w_ei w4 (w_ar ws (n_v vs 3) 1) j := el_kp s4.1 r8 cr_3_1 (by decide)
  have hE_3_1_5 : ∀ j : Int, w_ei w4 (w_ar ws (n_v vs 3) 1) j = w_ei w5 (w_ar ws (n_v vs 3) 1) j := fun j => s5.1 _ _
  have hE_3_1_6 : ∀ j : Int, w_ei w5 (w_ar ws (n_v vs 3) 1) j = w_ei w6 (w_ar ws (n_v vs 3) 1) j := el_kp s6.1 r8 cr_3_1 (by decide)
  have hE_3_1_7 : ∀ j : Int, w_ei w6 (w_ar ws (n_v vs 3) 1) j = w_ei w7 (w_ar ws (n_v vs 3) 1) j := fun j => s7.1 _ _
  have hE_3_1_8 : ∀ j : Int, w_ei w7 (w_ar ws (n_v vs 3) 1) j = w_ei w8 (w_ar ws (n_v vs 3) 1) j := el_kp s8.1 r8 cr_3_1 (by decide)
  have hK_3_1 := elq_7 hD hth cr_3_1
  have kz_0_1 := fdq_96 hD hth r0
  have nf0 : fc_1 PRD (20, [0, 2], [30, 4, 1, 1, 1, -1, 0, 0]) ws (vs) := ⟨nf_in hl rfl, sgq_444 (vc_Re_append_at_g4_4_0 (v_iv (n_v vs 2)) (v_iv (n_v vs 9)) (v_iv (n_v vs 11)) (v_iv (n_v vs 13)) (v_iv (n_v vs 16)) (v_iv (n_v vs 18)) (v_iv (n_v vs 21)) (v_iv (n_v vs 23)) (v_iv (n_v vs 26)) (v_iv (n_v vs 28)) (w_fi ws (n_v vs 0) 1) (w_fi w1 (n_v vs 0) 1) (w_fi w3 (n_v vs 0) 1) (w_fi w5 (n_v vs 0) 1) (w_fi w7 (n_v vs 0) 1) (w_fi w8 (n_v vs 0) 1) (w_ei w8 (w_ar ws (n_v vs 0) 0)) (w_ei w8 (w_ar ws (n_v vs 3) 1)) (w_fi w2 (n_v vs 0) 1) (w_fi w4 (n_v vs 0) 1) (w_fi w6 (n_v vs 0) 1) (w_ei ws (w_ar ws (n_v vs 0) 0)) (w_ei w1 (w_ar ws (n_v vs 0) 0)) (w_ei w2 (w_ar ws (n_v vs 0) 0)) (w_ei w3 (w_ar ws (n_v vs 0) 0)) (w_ei w4 (w_ar ws (n_v vs 0) 0)) (w_ei w5 (w_ar ws (n_v vs 0) 0)) (w_ei w6 (w_ar ws (n_v vs 0) 0)) (w_ei w7 (w_ar ws (n_v vs 0) 0)) (w_ei ws (w_ar ws (n_v vs 3) 1)) (w_ei w1 (w_ar ws (n_v vs 3) 1)) (w_ei w2 (w_ar ws (n_v vs 3) 1)) (w_ei w3 (w_ar ws (n_v vs 3) 1)) (w_ei w4 (w_ar ws (n_v vs 3) 1)) (w_ei w5 (w_ar ws (n_v vs 3) 1)) (w_ei w6 (w_ar ws (n_v vs 3) 1)) (w_ei w7 (w_ar ws (n_v vs 3) 1)) k2 k9 k11 k13 k16 k18 k21 k23 k26 k28 d0 d1 d2 d3 g0 g4 g10 g16 g22 (shm_436 f23) (shm_437 f24) fe_0_1_2 fe_0_1_4 fe_0_1_6 fe_0_1_8 hE_0_0_1 hE_0_0_2 hE_0_0_3 hE_0_0_4 hE_0_0_5 hE_0_0_6 hE_0_0_7 hE_0_0_8 hK_0_0 hE_3_1_1 hE_3_1_2 hE_3_1_3 hE_3_1_4 hE_3_1_5 hE_3_1_6 hE_3_1_7 hE_3_1_8 hK_3_1 kz_0_1)⟩
  have nf1 : fc_1 PRD (20, [0, 2], [30, -4, -1, 1, 1, 1, 0, 0]) ws (vs) := ⟨nf_in hl rfl, sgq_445 (vc_Re_append_at_g4_4_1 (v_iv (n_v vs 2)) (v_iv (n_v vs 9)) (v_iv (n_v vs 11)) (v_iv (n_v vs 13)) (v_iv (n_v vs 16)) (v_iv (n_v vs 18)) (v_iv (n_v vs 21)) (v_iv (n_v vs 23)) (v_iv (n_v vs 26)) (v_iv (n_v vs 28)) (w_fi ws (n_v vs 0) 1) (w_fi w1 (n_v vs 0) 1) (w_fi w3 (n_v vs 0) 1) (w_fi w5 (n_v vs 0) 1) (w_fi w7 (n_v vs 0) 1) (w_fi w8 (n_v vs 0) 1) (w_ei w8 (w_ar ws (n_v vs 0) 0)) (w_ei w8 (w_ar ws (n_v vs 3) 1)) (w_fi w2 (n_v vs 0) 1) (w_fi w4 (n_v vs 0) 1) (w_fi w6 (n_v vs 0) 1) (w_ei ws (w_ar ws (n_v vs 0) 0)) (w_ei w1 (w_ar ws (n_v vs 0) 0)) (w_ei w2 (w_ar ws (n_v vs 0) 0)) (w_ei w3 (w_ar ws (n_v vs 0) 0)) (w_ei w4 (w_ar ws (n_v vs 0) 0)) (w_ei w5 (w_ar ws (n_v vs 0) 0)) (w_ei w6 (w_ar ws (n_v vs 0) 0)) (w_ei w7 (w_ar ws (n_v vs 0) 0)) (w_ei ws (w_ar ws (n_v vs 3) 1)) (w_ei w1 (w_ar ws (n_v vs 3) 1)) (w_ei w2 (w_ar ws (n_v vs 3) 1)) (w_ei w3 (w_ar ws (n_v vs 3) 1)) (w_ei w4 (w_ar ws (n_v vs 3) 1)) (w_ei w5 (w_ar ws (n_v vs 3) 1)) (w_ei w6 (w_ar ws (n_v vs 3) 1)) (w_ei w7 (w_ar ws (n_v vs 3) 1)) k2 k9 k11 k13 k16 k18 k21 k23 k26 k28 d0 d1 d2 d3 g0 g4 g10 g16 g22 (shm_436 f23) (shm_437 f24) fe_0_1_2 fe_0_1_4 fe_0_1_6 fe_0_1_8 hE_0_0_1 hE_0_0_2 hE_0_0_3 hE_0_0_4 hE_0_0_5 hE_0_0_6 hE_0_0_7 hE_0_0_8 hK_0_0 hE_3_1_1 hE_3_1_2 hE_3_1_3 hE_3_1_4 hE_3_1_5 hE_3_1_6 hE_3_1_7 hE_3_1_8 hK_3_1 kz_0_1)⟩
  have nf2 : fc_1 PRD (20, [0, 3, 4, 5, 6, 1], [60, 1, 2, 1105, 1, 0, 1001]) ws (vs) := ⟨nf_in hl rfl, sgq_449 (vc_Re_append_at_g4_4_2 (v_iv (n_v vs 1)) (v_iv (n_v vs 4)) (v_iv (n_v vs 5)) (v_iv (n_v vs 6)) (v_iv (n_v vs 9)) (v_iv (n_v vs 10)) (v_iv (n_v vs 11)) (v_iv (n_v vs 13)) (v_iv (n_v vs 15)) (v_iv (n_v vs 16)) (v_iv (n_v vs 18)) (v_iv (n_v vs 20)) (v_iv (n_v vs 21)) (v_iv (n_v vs 23)) (v_iv (n_v vs 25)) (v_iv (n_v vs 26)) (v_iv (n_v vs 28)) (w_fi ws (n_v vs 0) 1) (w_fi w1 (n_v vs 0) 1) (w_fi w3 (n_v vs 0) 1) (w_fi w5 (n_v vs 0) 1) (w_fi w7 (n_v vs 0) 1) (w_fi w8 (n_v vs 0) 1) (w_ei w8 (w_ar ws (n_v vs 0) 0)) (w_ei w8 (w_ar ws (n_v vs 3) 1)) (w_fi w2 (n_v vs 0) 1) (w_fi w4 (n_v vs 0) 1) (w_fi w6 (n_v vs 0) 1) (w_ei ws (w_ar ws (n_v vs 0) 0)) (w_ei w1 (w_ar ws (n_v vs 0) 0)) (w_ei w2 (w_ar ws (n_v vs 0) 0)) (w_ei w3 (w_ar ws (n_v vs 0) 0)) (w_ei w4 (w_ar ws (n_v vs 0) 0)) (w_ei w5 (w_ar ws (n_v vs 0) 0)) (w_ei w6 (w_ar ws (n_v vs 0) 0)) (w_ei w7 (w_ar ws (n_v vs 0) 0)) (w_ei ws (w_ar ws (n_v vs 3) 1)) (w_ei w1 (w_ar ws (n_v vs 3) 1)) (w_ei w2 (w_ar ws (n_v vs 3) 1)) (w_ei w3 (w_ar ws (n_v vs 3) 1)) (w_ei w4 (w_ar ws (n_v vs 3) 1)) (w_ei w5 (w_ar ws (n_v vs 3) 1)) (w_ei w6 (w_ar ws (n_v vs 3) 1)) (w_ei w7 (w_ar ws (n_v vs 3) 1)) k1 k4 k5 k6 k9 k10 k11 k13 k15 k16 k18 k20 k21 k23 k25 k26 k28 d0 d1 d2 d3 g0 g4 (shm_439 f6) (shm_443 f7) g10 (shm_439 f12) (shm_442 f13) g16 (shm_439 f18) (shm_440 f19) g22 (shm_439 f26) (shm_441 f27) f30 fe_0_1_2 fe_0_1_4 fe_0_1_6 fe_0_1_8 hE_0_0_1 hE_0_0_2 hE_0_0_3 hE_0_0_4 hE_0_0_5 hE_0_0_6 hE_0_0_7 hE_0_0_8 hE_3_1_1 hE_3_1_2 hE_3_1_3 hE_3_1_4 hE_3_1_5 hE_3_1_6 hE_3_1_7 hE_3_1_8 kz_0_1)⟩
  refine ⟨(fun _ h => (by cases h)), [], trivial, ?_, (fun _ h => (by cases h))⟩
  rw [List.append_nil]
  exact List.forall_mem_cons.mpr ⟨⟨show (20 : Nat) < 100 from by decide, nf0⟩, List.forall_mem_cons.mpr ⟨⟨show (20 : Nat) < 100 from by decide, nf1⟩, List.forall_mem_cons.mpr ⟨⟨show (20 : Nat) < 100 from by decide, nf2⟩, (fun _ h => (by cases h))⟩⟩⟩
def n_Re_append_at_g4_an : List an_T := []
def t_Re_append_at_g4_ct : ct_L := []
set_option maxRecDepth 100000 in
theorem c_Re_append_at_g4 {l : Launch} {D : va_G} {kA : Nat → ClassId} : ct_ok PRD l D kA GG y_Re_append_at_g4 z_Re_append_at_g4 e_Re_append_at_g4 := chk_all_ok (FT := [(9, 8, 0), (15, 8, 1)]) (PT := [(15, 8, 1, .int)]) (CT := t_Re_append_at_g4_ct) (KT := []) (NT := []) (AN := n_Re_append_at_g4_an) (OT := [o_Re_append_at_g4_0, o_Re_append_at_g4_1, o_Re_append_at_g4_2, o_Re_append_at_g4_3, o_Re_append_at_g4_4]) 0 324 (List.forall_mem_cons.mpr ⟨oo_Re_append_at_g4_0, List.forall_mem_cons.mpr ⟨oo_Re_append_at_g4_1, List.forall_mem_cons.mpr ⟨oo_Re_append_at_g4_2, List.forall_mem_cons.mpr ⟨oo_Re_append_at_g4_3, List.forall_mem_cons.mpr ⟨oo_Re_append_at_g4_4, List.forall_mem_nil _⟩⟩⟩⟩⟩) (by decide +kernel) ⟨List.forall_mem_cons.mpr ⟨gf_Re_9, List.forall_mem_cons.mpr ⟨gf_Re_15, List.forall_mem_nil _⟩⟩, List.forall_mem_cons.mpr ⟨pf_Re_15, List.forall_mem_nil _⟩, List.forall_mem_nil _, List.forall_mem_nil _, List.forall_mem_nil _, GG_pl⟩ (by decide +kernel)

set_option maxHeartbeats 4000000 in
theorem vc_Re_append_at_g5_0_r0 (x2 : Int) (x10 : Int) (length_0 : Int) (tape_0 : Int → Int) (tape_0o3 : Int → Int) (k2 : 0 ≤ x2 ∧ x2 ≤ 1996) (k10 : 0 ≤ x10 ∧ x10 ≤ 2000) (g0 : x10 = length_0) (f2 : 1 * length_0 + ((-1) * x2 + 0) ≤ 0) (f3 : (-1) * length_0 + (1 * x2 + 0) ≤ 0) (hK_0_0 : ∀ j : Int, 0 ≤ j → j < 2000 → (-128) ≤ tape_0 j ∧ tape_0 j ≤ 127) (hK_3_1 : ∀ j : Int, 0 ≤ j → j < 2000 → (-128) ≤ tape_0o3 j ∧ tape_0o3 j ≤ 127) (kz_0_1 : 0 ≤ length_0 ∧ length_0 ≤ 2000) : 0 ≤ x10 ∧ x10 ≤ 1999 := by
  first | with_reducible assumption | ((try and_intros) <;> first | with_reducible assumption | (clear hK_0_0 hK_3_1; omega)) | omega
def o_Re_append_at_g5_0 : or_T := (19, 13, [(0, (2, 0, 0, [8])), (2, (0, 0, 1996, [])), (3, (2, 0, 0, [165])), (4, (0, -2147483648, 2147483647, [])), (5, (0, -2147483648, 2147483647, [])), (6, (0, -2147483648, 2147483647, [])), (7, (0, -2147483648, 2147483647, [])), (9, (2, 0, 0, [109])), (10, (0, 0, 2000, []))], [(9, [10, 0], [1]), (9, [9, 0], [0]), (20, [0, 2], [30, 0, 1, 1, 1, -1, 0, 0]), (20, [0, 2], [30, 0, -1, 1, 1, 1, 0, 0]), (20, [0, 3, 4, 5, 6, 7], [60, 1, 2, 1105, 1, 0, 1001])], [(10, (0, 0, 1999, []))], [], [], [], [])
theorem oo_Re_append_at_g5_0 {kA : Nat → ClassId} : or_ok PRD kA GG o_Re_append_at_g5_0 := by
  refine or_mk fun A ta ws vs hD hth hl => ?_
  intro t0 r0 t2 k2 t3 r3 t4 k4 t5 k5 t6 k6 t7 k7 t9 r9 t10 k10 f0 f1 f2 f3 f4
  replace f0 := shm_215 f0
  have cr_0_0 := fdq_95 hD hth r0
  have cr_3_1 := fdq_39 hD hth r3
  have g0 : v_iv (n_v vs 10) = w_fi ws (n_v vs 0) 1 := congrArg v_iv f0
  have hK_0_0 := elq_33 hD hth cr_0_0
  have hK_3_1 := elq_7 hD hth cr_3_1
  have kz_0_1 := fdq_96 hD hth r0
  have hrf0 : 0 ≤ v_iv (n_v vs 10) ∧ v_iv (n_v vs 10) ≤ 1999 := vc_Re_append_at_g5_0_r0 (v_iv (n_v vs 2)) (v_iv (n_v vs 10)) (w_fi ws (n_v vs 0) 1) (w_ei ws (w_ar ws (n_v vs 0) 0)) (w_ei ws (w_ar ws (n_v vs 3) 1)) k2 k10 g0 (shm_436 f2) (shm_437 f3) hK_0_0 hK_3_1 kz_0_1
  have rf10 : tv_ok ta (0, 0, 1999, []) (n_v vs 10) := tv_in t10 (by first | omega | grind) (by first | omega | grind)
  refine ⟨List.forall_mem_cons.mpr ⟨rf10, (fun _ h => (by cases h))⟩, [], trivial, ?_, (fun _ h => (by cases h))⟩
  rw [List.append_nil]
  exact (fun _ h => (by cases h))
set_option maxHeartbeats 4000000 in
theorem vc_Re_append_at_g5_1_r0 (x2 : Int) (x10 : Int) (x12 : Int) (x14 : Int) (length_0 : Int) (length_1 : Int) (length_2 : Int) (tape_2 : Int → Int) (tape_2o3 : Int → Int) (tape_0 : Int → Int) (tape_1 : Int → Int) (tape_0o3 : Int → Int) (tape_1o3 : Int → Int) (k2 : 0 ≤ x2 ∧ x2 ≤ 1996) (k10 : 0 ≤ x10 ∧ x10 ≤ 1999) (k12 : (-128) ≤ x12 ∧ x12 ≤ 127) (k14 : 1 ≤ x14 ∧ x14 ≤ 2000) (d0 : x10 + 1 ≤ x14 ∧ x14 ≤ x10 + 1) (g2 : x14 = length_0) (g6 : x10 = length_1) (f7 : 1 * length_1 + ((-1) * x2 + 0) ≤ 0) (f8 : (-1) * length_1 + (1 * x2 + 0) ≤ 0) (fe_0_1_2 : length_1 = length_2) (hE_0_0_1 : ∀ j : Int, tape_0 j = tape_1 j) (hE_0_0_2 : ∀ j : Int, 0 ≤ j → (j = x10 → tape_1 j = x12) ∧ (j ≠ x10 → tape_1 j = tape_2 j)) (hK_0_0 : ∀ j : Int, 0 ≤ j → j < 2000 → (-128) ≤ tape_0 j ∧ tape_0 j ≤ 127) (hE_3_1_1 : ∀ j : Int, tape_0o3 j = tape_1o3 j) (hE_3_1_2 : ∀ j : Int, tape_1o3 j = tape_2o3 j) (hK_3_1 : ∀ j : Int, 0 ≤ j → j < 2000 → (-128) ≤ tape_0o3 j ∧ tape_0o3 j ≤ 127) (kz_0_1 : 0 ≤ length_0 ∧ length_0 ≤ 2000) : 1 ≤ x14 ∧ x14 ≤ 1999 := by
  subst fe_0_1_2
  have e_hE_0_0_1 := funext hE_0_0_1; subst e_hE_0_0_1
  have e_hE_3_1_1 := funext hE_3_1_1; subst e_hE_3_1_1
  have e_hE_3_1_2 := funext hE_3_1_2; subst e_hE_3_1_2
  first | with_reducible assumption | ((try and_intros) <;> first | with_reducible assumption | (clear hE_0_0_1 hE_0_0_2 hK_0_0 hE_3_1_1 hE_3_1_2 hK_3_1; omega)) | omega
def o_Re_append_at_g5_1 : or_T := (19, 18, [(0, (2, 0, 0, [8])), (1, (0, -2147483648, 2147483647, [])), (2, (0, 0, 1996, [])), (3, (2, 0, 0, [165])), (4, (0, -2147483648, 2147483647, [])), (5, (0, -2147483648, 2147483647, [])), (6, (0, -2147483648, 2147483647, [])), (7, (0, -2147483648, 2147483647, [])), (9, (2, 0, 0, [109])), (10, (0, 0, 1999, [])), (11, (0, -2147483648, 2147483647, [])), (12, (0, -128, 127, [])), (13, (0, 1, 1, [])), (14, (0, 1, 2000, [])), (16, (0, -2147483648, 2147483647, [])), (17, (0, -128, 127, []))], [(17, [17, 16], []), (11, [16, 1], [65536]), (9, [14, 0], [1]), (9, [9, 0], [0]), (101, [0, 14], [1]), (1, [14, 10, 13], []), (9, [10, 0], [1]), (20, [0, 2], [30, 0, 1, 1, 1, -1, 0, 0]), (20, [0, 2], [30, 0, -1, 1, 1, 1, 0, 0]), (100, [9, 10, 12], []), (17, [12, 11], []), (11, [11, 1], [16777216]), (20, [0, 2], [30, 0, 1, 1, 1, -1, 0, 0]), (20, [0, 2], [30, 0, -1, 1, 1, 1, 0, 0]), (20, [0, 3, 4, 5, 6, 7], [60, 1, 2, 1105, 1, 0, 1001])], [(14, (0, 1, 1999, []))], [], [], [], [(14, 10, 1, 1)])
theorem oo_Re_append_at_g5_1 {kA : Nat → ClassId} : or_ok PRD kA GG o_Re_append_at_g5_1 := by
  refine or_mk fun A ta ws vs hD hth hl => ?_
  intro t0 r0 t1 k1 t2 k2 t3 r3 t4 k4 t5 k5 t6 k6 t7 k7 t9 r9 t10 k10 t11 k11 t12 k12 t13 k13 t14 k14 t16 k16 t17 k17 d0 f0 f1 f2 f3 ta1 w1 le1 s1 f5 f6 f7 f8 ta2 w2 le2 s2 f10 f11 f12 f13 f14
  replace f2 := shm_215 f2
  replace f3 := shm_163 f3
  have s1 : (∀ b j, w_el ws b j = w_el w1 b j) ∧ ∀ b j, w_fd ws b j = if b = v_ad (n_v vs 0) ∧ j = 1 then n_v vs 14 else w_fd w1 b j := s1.2
  replace f6 := shm_215 f6
  have s2 : (∀ b j, w_el w1 b j = if b = v_ad (n_v vs 9) ∧ j = (v_iv (n_v vs 10)).toNat then v_iv (n_v vs 12) else w_el w2 b j) ∧ ∀ b k, w_fd w1 b k = w_fd w2 b k := s2.2
  have cr_0_0 := fdq_95 hD hth r0
  have cr_3_1 := fdq_39 hD hth r3
  have ad_9 : v_ad (n_v vs 9) = w_ar ws (n_v vs 0) 0 := congrArg v_ad f3
  have g2 : v_iv (n_v vs 14) = w_fi ws (n_v vs 0) 1 := congrArg v_iv f2
  have g6 : v_iv (n_v vs 10) = w_fi w1 (n_v vs 0) 1 := congrArg v_iv f6
  have fe_0_1_2 : w_fi w1 (n_v vs 0) 1 = w_fi w2 (n_v vs 0) 1 := congrArg v_iv (s2.2 _ _)
  have hE_0_0_1 : ∀ j : Int, w_ei ws (w_ar ws (n_v vs 0) 0) j = w_ei w1 (w_ar ws (n_v vs 0) 0) j := fun j => s1.1 _ _
  have hE_0_0_2 : ∀ j : Int, 0 ≤ j → (j = v_iv (n_v vs 10) → w_ei w1 (w_ar ws (n_v vs 0) 0) j = v_iv (n_v vs 12)) ∧ (j ≠ v_iv (n_v vs 10) → w_ei w1 (w_ar ws (n_v vs 0) 0) j = w_ei w2 (w_ar ws (n_v vs 0) 0) j) := fun j hj => ⟨fun h => by unfold w_ei; rw [s2.1, if_pos ⟨ad_9.symm, by rw [h]⟩], fun h => by unfold w_ei; rw [s2.1, if_neg (fun e => h (by have := e.2; omega))]⟩
  have hK_0_0 := elq_33 hD hth cr_0_0
  have hE_3_1_1 : ∀ j : Int, w_ei ws (w_ar ws (n_v vs 3) 1) j = w_ei w1 (w_ar ws (n_v vs 3) 1) j := fun j => s1.1 _ _
  have hE_3_1_2 : ∀ j : Int, w_ei w1 (w_ar ws (n_v vs 3) 1) j = w_ei w2 (w_ar ws (n_v vs 3) 1) j := el_kp s2.1 r9 cr_3_1 (by decide)
  have hK_3_1 := elq_7 hD hth cr_3_1
  have kz_0_1 := fdq_96 hD hth r0
  have hrf0 : 1 ≤ v_iv (n_v vs 14) ∧ v_iv (n_v vs 14) ≤ 1999 := vc_Re_append_at_g5_1_r0 (v_iv (n_v vs 2)) (v_iv (n_v vs 10)) (v_iv (n_v vs 12)) (v_iv (n_v vs 14)) (w_fi ws (n_v vs 0) 1) (w_fi w1 (n_v vs 0) 1) (w_fi w2 (n_v vs 0) 1) (w_ei w2 (w_ar ws (n_v vs 0) 0)) (w_ei w2 (w_ar ws (n_v vs 3) 1)) (w_ei ws (w_ar ws (n_v vs 0) 0)) (w_ei w1 (w_ar ws (n_v vs 0) 0)) (w_ei ws (w_ar ws (n_v vs 3) 1)) (w_ei w1 (w_ar ws (n_v vs 3) 1)) k2 k10 k12 k14 d0 g2 g6 (shm_436 f7) (shm_437 f8) fe_0_1_2 hE_0_0_1 hE_0_0_2 hK_0_0 hE_3_1_1 hE_3_1_2 hK_3_1 kz_0_1
  have rf14 : tv_ok ta (0, 1, 1999, []) (n_v vs 14) := tv_in t14 (by first | omega | grind) (by first | omega | grind)
  refine ⟨List.forall_mem_cons.mpr ⟨rf14, (fun _ h => (by cases h))⟩, [], trivial, ?_, (fun _ h => (by cases h))⟩
  rw [List.append_nil]
  exact (fun _ h => (by cases h))
set_option maxHeartbeats 4000000 in
theorem vc_Re_append_at_g5_2_r0 (x2 : Int) (x10 : Int) (x12 : Int) (x14 : Int) (x17 : Int) (x19 : Int) (length_0 : Int) (length_1 : Int) (length_3 : Int) (length_4 : Int) (tape_4 : Int → Int) (tape_4o3 : Int → Int) (length_2 : Int) (tape_0 : Int → Int) (tape_1 : Int → Int) (tape_2 : Int → Int) (tape_3 : Int → Int) (tape_0o3 : Int → Int) (tape_1o3 : Int → Int) (tape_2o3 : Int → Int) (tape_3o3 : Int → Int) (k2 : 0 ≤ x2 ∧ x2 ≤ 1996) (k10 : 0 ≤ x10 ∧ x10 ≤ 1999) (k12 : (-128) ≤ x12 ∧ x12 ≤ 127) (k14 : 1 ≤ x14 ∧ x14 ≤ 1999) (k17 : (-128) ≤ x17 ∧ x17 ≤ 127) (k19 : 2 ≤ x19 ∧ x19 ≤ 2000) (d0 : x14 + 1 ≤ x19 ∧ x19 ≤ x14 + 1) (d1 : x10 + 2 ≤ x19 ∧ x19 ≤ x10 + 2) (g2 : x19 = length_0) (g6 : x14 = length_1) (g12 : x10 = length_3) (f13 : 1 * length_3 + ((-1) * x2 + 0) ≤ 0) (f14 : (-1) * length_3 + (1 * x2 + 0) ≤ 0) (fe_0_1_2 : length_1 = length_2) (fe_0_1_4 : length_3 = length_4) (hE_0_0_1 : ∀ j : Int, tape_0 j = tape_1 j) (hE_0_0_2 : ∀ j : Int, 0 ≤ j → (j = x14 → tape_1 j = x17) ∧ (j ≠ x14 → tape_1 j = tape_2 j)) (hE_0_0_3 : ∀ j : Int, tape_2 j = tape_3 j) (hE_0_0_4 : ∀ j : Int, 0 ≤ j → (j = x10 → tape_3 j = x12) ∧ (j ≠ x10 → tape_3 j = tape_4 j)) (hK_0_0 : ∀ j : Int, 0 ≤ j → j < 2000 → (-128) ≤ tape_0 j ∧ tape_0 j ≤ 127) (hE_3_1_1 : ∀ j : Int, tape_0o3 j = tape_1o3 j) (hE_3_1_2 : ∀ j : Int, tape_1o3 j = tape_2o3 j) (hE_3_1_3 : ∀ j : Int, tape_2o3 j = tape_3o3 j) (hE_3_1_4 : ∀ j : Int, tape_3o3 j = tape_4o3 j) (hK_3_1 : ∀ j : Int, 0 ≤ j → j < 2000 → (-128) ≤ tape_0o3 j ∧ tape_0o3 j ≤ 127) (kz_0_1 : 0 ≤ length_0 ∧ length_0 ≤ 2000) : 2 ≤ x19 ∧ x19 ≤ 1999 := by
  subst fe_0_1_2
  subst fe_0_1_4
  have e_hE_0_0_1 := funext hE_0_0_1; subst e_hE_0_0_1
  have e_hE_0_0_3 := funext hE_0_0_3; subst e_hE_0_0_3
  have e_hE_3_1_1 := funext hE_3_1_1; subst e_hE_3_1_1
  have e_hE_3_1_2 := funext hE_3_1_2; subst e_hE_3_1_2
  have e_hE_3_1_3 := funext hE_3_1_3; subst e_hE_3_1_3
  have e_hE_3_1_4 := funext hE_3_1_4; subst e_hE_3_1_4
  first | with_reducible assumption | ((try and_intros) <;> first | with_reducible assumption | (clear hE_0_0_1 hE_0_0_2 hE_0_0_3 hE_0_0_4 hK_0_0 hE_3_1_1 hE_3_1_2 hE_3_1_3 hE_3_1_4 hK_3_1; omega)) | omega
def o_Re_append_at_g5_2 : or_T := (19, 23, [(0, (2, 0, 0, [8])), (1, (0, -2147483648, 2147483647, [])), (2, (0, 0, 1996, [])), (3, (2, 0, 0, [165])), (4, (0, -2147483648, 2147483647, [])), (5, (0, -2147483648, 2147483647, [])), (6, (0, -2147483648, 2147483647, [])), (7, (0, -2147483648, 2147483647, [])), (9, (2, 0, 0, [109])), (10, (0, 0, 1999, [])), (11, (0, -2147483648, 2147483647, [])), (12, (0, -128, 127, [])), (13, (0, 1, 1, [])), (14, (0, 1, 1999, [])), (16, (0, -2147483648, 2147483647, [])), (17, (0, -128, 127, [])), (18, (0, 1, 1, [])), (19, (0, 2, 2000, [])), (21, (0, -2147483648, 2147483647, [])), (22, (0, -128, 127, []))], [(17, [22, 21], []), (11, [21, 1], [256]), (9, [19, 0], [1]), (9, [9, 0], [0]), (101, [0, 19], [1]), (1, [19, 14, 18], []), (9, [14, 0], [1]), (100, [9, 14, 17], []), (17, [17, 16], []), (11, [16, 1], [65536]), (101, [0, 14], [1]), (1, [14, 10, 13], []), (9, [10, 0], [1]), (20, [0, 2], [30, 0, 1, 1, 1, -1, 0, 0]), (20, [0, 2], [30, 0, -1, 1, 1, 1, 0, 0]), (100, [9, 10, 12], []), (17, [12, 11], []), (11, [11, 1], [16777216]), (20, [0, 2], [30, 0, 1, 1, 1, -1, 0, 0]), (20, [0, 2], [30, 0, -1, 1, 1, 1, 0, 0]), (20, [0, 3, 4, 5, 6, 7], [60, 1, 2, 1105, 1, 0, 1001])], [(19, (0, 2, 1999, []))], [], [], [], [(19, 14, 1, 1), (19, 10, 2, 2), (14, 10, 1, 1)])
theorem oo_Re_append_at_g5_2 {kA : Nat → ClassId} : or_ok PRD kA GG o_Re_append_at_g5_2 := by
  refine or_mk fun A ta ws vs hD hth hl => ?_
  intro t0 r0 t1 k1 t2 k2 t3 r3 t4 k4 t5 k5 t6 k6 t7 k7 t9 r9 t10 k10 t11 k11 t12 k12 t13 k13 t14 k14 t16 k16 t17 k17 t18 k18 t19 k19 t21 k21 t22 k22 d0 d1 d2 f0 f1 f2 f3 ta1 w1 le1 s1 f5 f6 ta2 w2 le2 s2 f8 f9 ta3 w3 le3 s3 f11 f12 f13 f14 ta4 w4 le4 s4 f16 f17 f18 f19 f20
  replace f2 := shm_215 f2
  replace f3 := shm_163 f3
  have s1 : (∀ b j, w_el ws b j = w_el w1 b j) ∧ ∀ b j, w_fd ws b j = if b = v_ad (n_v vs 0) ∧ j = 1 then n_v vs 19 else w_fd w1 b j := s1.2
  replace f6 := shm_215 f6
  have s2 : (∀ b j, w_el w1 b j = if b = v_ad (n_v vs 9) ∧ j = (v_iv (n_v vs 14)).toNat then v_iv (n_v vs 17) else w_el w2 b j) ∧ ∀ b k, w_fd w1 b k = w_fd w2 b k := s2.2
  have s3 : (∀ b j, w_el w2 b j = w_el w3 b j) ∧ ∀ b j, w_fd w2 b j = if b = v_ad (n_v vs 0) ∧ j = 1 then n_v vs 14 else w_fd w3 b j := s3.2
  replace f12 := shm_215 f12
  have s4 : (∀ b j, w_el w3 b j = if b = v_ad (n_v vs 9) ∧ j = (v_iv (n_v vs 10)).toNat then v_iv (n_v vs 12) else w_el w4 b j) ∧ ∀ b k, w_fd w3 b k = w_fd w4 b k := s4.2
  have cr_0_0 := fdq_95 hD hth r0
  have cr_3_1 := fdq_39 hD hth r3
  have ad_9 : v_ad (n_v vs 9) = w_ar ws (n_v vs 0) 0 := congrArg v_ad f3
  have g2 : v_iv (n_v vs 19) = w_fi ws (n_v vs 0) 1 := congrArg v_iv f2
  have g6 : v_iv (n_v vs 14) = w_fi w1 (n_v vs 0) 1 := congrArg v_iv f6
  have g12 : v_iv (n_v vs 10) = w_fi w3 (n_v vs 0) 1 := congrArg v_iv f12
  have fe_0_1_2 : w_fi w1 (n_v vs 0) 1 = w_fi w2 (n_v vs 0) 1 := congrArg v_iv (s2.2 _ _)
  have fe_0_1_4 : w_fi w3 (n_v vs 0) 1 = w_fi w4 (n_v vs 0) 1 := congrArg v_iv (s4.2 _ _)
  have hE_0_0_1 : ∀ j : Int, w_ei ws (w_ar ws (n_v vs 0) 0) j = w_ei w1 (w_ar ws (n_v vs 0) 0) j := fun j => s1.1 _ _
  have hE_0_0_2 : ∀ j : Int, 0 ≤ j → (j = v_iv (n_v vs 14) → w_ei w1 (w_ar ws (n_v vs 0) 0) j = v_iv (n_v vs 17)) ∧ (j ≠ v_iv (n_v vs 14) → w_ei w1 (w_ar ws (n_v vs 0) 0) j = w_ei w2 (w_ar ws (n_v vs 0) 0) j) := fun j hj => ⟨fun h => by unfold w_ei; rw [s2.1, if_pos ⟨ad_9.symm, by rw [h]⟩], fun h => by unfold w_ei; rw [s2.1, if_neg (fun e => h (by have := e.2; omega))]⟩
  have hE_0_0_3 : ∀ j : Int, w_ei w2 (w_ar ws (n_v vs 0) 0) j = w_ei w3 (w_ar ws (n_v vs 0) 0) j := fun j => s3.1 _ _
  have hE_0_0_4 : ∀ j : Int, 0 ≤ j → (j = v_iv (n_v vs 10) → w_ei w3 (w_ar ws (n_v vs 0) 0) j = v_iv (n_v vs 12)) ∧ (j ≠ v_iv (n_v vs 10) → w_ei w3 (w_ar ws (n_v vs 0) 0) j = w_ei w4 (w_ar ws (n_v vs 0) 0) j) := fun j hj => ⟨fun h => by unfold w_ei; rw [s4.1, if_pos ⟨ad_9.symm, by rw [h]⟩], fun h => by unfold w_ei; rw [s4.1, if_neg (fun e => h (by have := e.2; omega))]⟩
  have hK_0_0 := elq_33 hD hth cr_0_0
  have hE_3_1_1 : ∀ j : Int, w_ei ws (w_ar ws (n_v vs 3) 1) j = w_ei w1 (w_ar ws (n_v vs 3) 1) j := fun j => s1.1 _ _
  have hE_3_1_2 : ∀ j : Int, w_ei w1 (w_ar ws (n_v vs 3) 1) j = w_ei w2 (w_ar ws (n_v vs 3) 1) j := el_kp s2.1 r9 cr_3_1 (by decide)
  have hE_3_1_3 : ∀ j : Int, w_ei w2 (w_ar ws (n_v vs 3) 1) j = w_ei w3 (w_ar ws (n_v vs 3) 1) j := fun j => s3.1 _ _
  have hE_3_1_4 : ∀ j : Int, w_ei w3 (w_ar ws (n_v vs 3) 1) j = w_ei w4 (w_ar ws (n_v vs 3) 1) j := el_kp s4.1 r9 cr_3_1 (by decide)
  have hK_3_1 := elq_7 hD hth cr_3_1
  have kz_0_1 := fdq_96 hD hth r0
  have hrf0 : 2 ≤ v_iv (n_v vs 19) ∧ v_iv (n_v vs 19) ≤ 1999 := vc_Re_append_at_g5_2_r0 (v_iv (n_v vs 2)) (v_iv (n_v vs 10)) (v_iv (n_v vs 12)) (v_iv (n_v vs 14)) (v_iv (n_v vs 17)) (v_iv (n_v vs 19)) (w_fi ws (n_v vs 0) 1) (w_fi w1 (n_v vs 0) 1) (w_fi w3 (n_v vs 0) 1) (w_fi w4 (n_v vs 0) 1) (w_ei w4 (w_ar ws (n_v vs 0) 0)) (w_ei w4 (w_ar ws (n_v vs 3) 1)) (w_fi w2 (n_v vs 0) 1) (w_ei ws (w_ar ws (n_v vs 0) 0)) (w_ei w1 (w_ar ws (n_v vs 0) 0)) (w_ei w2 (w_ar ws (n_v vs 0) 0)) (w_ei w3 (w_ar ws (n_v vs 0) 0)) (w_ei ws (w_ar ws (n_v vs 3) 1)) (w_ei w1 (w_ar ws (n_v vs 3) 1)) (w_ei w2 (w_ar ws (n_v vs 3) 1)) (w_ei w3 (w_ar ws (n_v vs 3) 1)) k2 k10 k12 k14 k17 k19 d0 d1 g2 g6 g12 (shm_436 f13) (shm_437 f14) fe_0_1_2 fe_0_1_4 hE_0_0_1 hE_0_0_2 hE_0_0_3 hE_0_0_4 hK_0_0 hE_3_1_1 hE_3_1_2 hE_3_1_3 hE_3_1_4 hK_3_1 kz_0_1
  have rf19 : tv_ok ta (0, 2, 1999, []) (n_v vs 19) := tv_in t19 (by first | omega | grind) (by first | omega | grind)
  refine ⟨List.forall_mem_cons.mpr ⟨rf19, (fun _ h => (by cases h))⟩, [], trivial, ?_, (fun _ h => (by cases h))⟩
  rw [List.append_nil]
  exact (fun _ h => (by cases h))
set_option maxHeartbeats 4000000 in
theorem vc_Re_append_at_g5_3_r0 (x2 : Int) (x10 : Int) (x12 : Int) (x14 : Int) (x17 : Int) (x19 : Int) (x22 : Int) (x24 : Int) (length_0 : Int) (length_1 : Int) (length_3 : Int) (length_5 : Int) (length_6 : Int) (tape_6 : Int → Int) (tape_6o3 : Int → Int) (length_2 : Int) (length_4 : Int) (tape_0 : Int → Int) (tape_1 : Int → Int) (tape_2 : Int → Int) (tape_3 : Int → Int) (tape_4 : Int → Int) (tape_5 : Int → Int) (tape_0o3 : Int → Int) (tape_1o3 : Int → Int) (tape_2o3 : Int → Int) (tape_3o3 : Int → Int) (tape_4o3 : Int → Int) (tape_5o3 : Int → Int) (k2 : 0 ≤ x2 ∧ x2 ≤ 1996) (k10 : 0 ≤ x10 ∧ x10 ≤ 1999) (k12 : (-128) ≤ x12 ∧ x12 ≤ 127) (k14 : 1 ≤ x14 ∧ x14 ≤ 1999) (k17 : (-128) ≤ x17 ∧ x17 ≤ 127) (k19 : 2 ≤ x19 ∧ x19 ≤ 1999) (k22 : (-128) ≤ x22 ∧ x22 ≤ 127) (k24 : 3 ≤ x24 ∧ x24 ≤ 2000) (d0 : x19 + 1 ≤ x24 ∧ x24 ≤ x19 + 1) (d1 : x14 + 2 ≤ x24 ∧ x24 ≤ x14 + 2) (d2 : x10 + 3 ≤ x24 ∧ x24 ≤ x10 + 3) (g2 : x24 = length_0) (g6 : x19 = length_1) (g12 : x14 = length_3) (g18 : x10 = length_5) (f19 : 1 * length_5 + ((-1) * x2 + 0) ≤ 0) (f20 : (-1) * length_5 + (1 * x2 + 0) ≤ 0) (fe_0_1_2 : length_1 = length_2) (fe_0_1_4 : length_3 = length_4) (fe_0_1_6 : length_5 = length_6) (hE_0_0_1 : ∀ j : Int, tape_0 j = tape_1 j) (hE_0_0_2 : ∀ j : Int, 0 ≤ j → (j = x19 → tape_1 j = x22) ∧ (j ≠ x19 → tape_1 j = tape_2 j)) (hE_0_0_3 : ∀ j : Int, tape_2 j = tape_3 j) (hE_0_0_4 : ∀ j : Int, 0 ≤ j → (j = x14 → tape_3 j = x17) ∧ (j ≠ x14 → tape_3 j = tape_4 j)) (hE_0_0_5 : ∀ j : Int, tape_4 j = tape_5 j) (hE_0_0_6 : ∀ j : Int, 0 ≤ j → (j = x10 → tape_5 j = x12) ∧ (j ≠ x10 → tape_5 j = tape_6 j)) (hK_0_0 : ∀ j : Int, 0 ≤ j → j < 2000 → (-128) ≤ tape_0 j ∧ tape_0 j ≤ 127) (hE_3_1_1 : ∀ j : Int, tape_0o3 j = tape_1o3 j) (hE_3_1_2 : ∀ j : Int, tape_1o3 j = tape_2o3 j) (hE_3_1_3 : ∀ j : Int, tape_2o3 j = tape_3o3 j) (hE_3_1_4 : ∀ j : Int, tape_3o3 j = tape_4o3 j) (hE_3_1_5 : ∀ j : Int, tape_4o3 j = tape_5o3 j) (hE_3_1_6 : ∀ j : Int, tape_5o3 j = tape_6o3 j) (hK_3_1 : ∀ j : Int, 0 ≤ j → j < 2000 → (-128) ≤ tape_0o3 j ∧ tape_0o3 j ≤ 127) (kz_0_1 : 0 ≤ length_0 ∧ length_0 ≤ 2000) : 3 ≤ x24 ∧ x24 ≤ 1999 := by
  subst fe_0_1_2
  subst fe_0_1_4
  subst fe_0_1_6
  have e_hE_0_0_1 := funext hE_0_0_1; subst e_hE_0_0_1
  have e_hE_0_0_3 := funext hE_0_0_3; subst e_hE_0_0_3
  have e_hE_0_0_5 := funext hE_0_0_5; subst e_hE_0_0_5
  have e_hE_3_1_1 := funext hE_3_1_1; subst e_hE_3_1_1
  have e_hE_3_1_2 := funext hE_3_1_2; subst e_hE_3_1_2
  have e_hE_3_1_3 := funext hE_3_1_3; subst e_hE_3_1_3
  have e_hE_3_1_4 := funext hE_3_1_4; subst e_hE_3_1_4
  have e_hE_3_1_5 := funext hE_3_1_5; subst e_hE_3_1_5
  have e_hE_3_1_6 := funext hE_3_1_6; subst e_hE_3_1_6
  first | with_reducible assumption | ((try and_intros) <;> first | with_reducible assumption | (clear hE_0_0_1 hE_0_0_2 hE_0_0_3 hE_0_0_4 hE_0_0_5 hE_0_0_6 hK_0_0 hE_3_1_1 hE_3_1_2 hE_3_1_3 hE_3_1_4 hE_3_1_5 hE_3_1_6 hK_3_1; omega)) | omega
def o_Re_append_at_g5_3 : or_T := (19, 28, [(0, (2, 0, 0, [8])), (1, (0, -2147483648, 2147483647, [])), (2, (0, 0, 1996, [])), (3, (2, 0, 0, [165])), (4, (0, -2147483648, 2147483647, [])), (5, (0, -2147483648, 2147483647, [])), (6, (0, -2147483648, 2147483647, [])), (7, (0, -2147483648, 2147483647, [])), (9, (2, 0, 0, [109])), (10, (0, 0, 1999, [])), (11, (0, -2147483648, 2147483647, [])), (12, (0, -128, 127, [])), (13, (0, 1, 1, [])), (14, (0, 1, 1999, [])), (16, (0, -2147483648, 2147483647, [])), (17, (0, -128, 127, [])), (18, (0, 1, 1, [])), (19, (0, 2, 1999, [])), (21, (0, -2147483648, 2147483647, [])), (22, (0, -128, 127, [])), (23, (0, 1, 1, [])), (24, (0, 3, 2000, [])), (26, (0, -2147483648, 2147483647, [])), (27, (0, -128, 127, []))], [(17, [27, 26], []), (11, [26, 1], [1]), (9, [24, 0], [1]), (9, [9, 0], [0]), (101, [0, 24], [1]), (1, [24, 19, 23], []), (9, [19, 0], [1]), (100, [9, 19, 22], []), (17, [22, 21], []), (11, [21, 1], [256]), (101, [0, 19], [1]), (1, [19, 14, 18], []), (9, [14, 0], [1]), (100, [9, 14, 17], []), (17, [17, 16], []), (11, [16, 1], [65536]), (101, [0, 14], [1]), (1, [14, 10, 13], []), (9, [10, 0], [1]), (20, [0, 2], [30, 0, 1, 1, 1, -1, 0, 0]), (20, [0, 2], [30, 0, -1, 1, 1, 1, 0, 0]), (100, [9, 10, 12], []), (17, [12, 11], []), (11, [11, 1], [16777216]), (20, [0, 2], [30, 0, 1, 1, 1, -1, 0, 0]), (20, [0, 2], [30, 0, -1, 1, 1, 1, 0, 0]), (20, [0, 3, 4, 5, 6, 7], [60, 1, 2, 1105, 1, 0, 1001])], [(24, (0, 3, 1999, []))], [], [], [], [(24, 19, 1, 1), (24, 14, 2, 2), (24, 10, 3, 3), (19, 14, 1, 1), (19, 10, 2, 2), (14, 10, 1, 1)])
theorem oo_Re_append_at_g5_3 {kA : Nat → ClassId} : or_ok PRD kA GG o_Re_append_at_g5_3 := by
  refine or_mk fun A ta ws vs hD hth hl => ?_
  intro t0 r0 t1 k1 t2 k2 t3 r3 t4 k4 t5 k5 t6 k6 t7 k7 t9 r9 t10 k10 t11 k11 t12 k12 t13 k13 t14 k14 t16 k16 t17 k17 t18 k18 t19 k19 t21 k21 t22 k22 t23 k23 t24 k24 t26 k26 t27 k27 d0 d1 d2 d3 d4 d5 f0 f1 f2 f3 ta1 w1 le1 s1 f5 f6 ta2 w2 le2 s2 f8 f9 ta3 w3 le3 s3 f11 f12 ta4 w4 le4 s4 f14 f15 ta5 w5 le5 s5 f17 f18 f19 f20 ta6 w6 le6 s6 f22 f23 f24 f25 f26
  replace f2 := shm_215 f2
  replace f3 := shm_163 f3
  have s1 : (∀ b j, w_el ws b j = w_el w1 b j) ∧ ∀ b j, w_fd ws b j = if b = v_ad (n_v vs 0) ∧ j = 1 then n_v vs 24 else w_fd w1 b j := s1.2
  replace f6 := shm_215 f6
  have s2 : (∀ b j, w_el w1 b j = if b = v_ad (n_v vs 9) ∧ j = (v_iv (n_v vs 19)).toNat then v_iv (n_v vs 22) else w_el w2 b j) ∧ ∀ b k, w_fd w1 b k = w_fd w2 b k := s2.2
  have s3 : (∀ b j, w_el w2 b j = w_el w3 b j) ∧ ∀ b j, w_fd w2 b j = if b = v_ad (n_v vs 0) ∧ j = 1 then n_v vs 19 else w_fd w3 b j := s3.2
  replace f12 := shm_215 f12
  have s4 : (∀ b j, w_el w3 b j = if b = v_ad (n_v vs 9) ∧ j = (v_iv (n_v vs 14)).toNat then v_iv (n_v vs 17) else w_el w4 b j) ∧ ∀ b k, w_fd w3 b k = w_fd w4 b k := s4.2
  have s5 : (∀ b j, w_el w4 b j = w_el w5 b j) ∧ ∀ b j, w_fd w4 b j = if b = v_ad (n_v vs 0) ∧ j = 1 then n_v vs 14 else w_fd w5 b j := s5.2
  replace f18 := shm_215 f18
  have s6 : (∀ b j, w_el w5 b j = if b = v_ad (n_v vs 9) ∧ j = (v_iv (n_v vs 10)).toNat then v_iv (n_v vs 12) else w_el w6 b j) ∧ ∀ b k, w_fd w5 b k = w_fd w6 b k := s6.2
  have cr_0_0 := fdq_95 hD hth r0
  have cr_3_1 := fdq_39 hD hth r3
  have ad_9 : v_ad (n_v vs 9) = w_ar ws (n_v vs 0) 0 := congrArg v_ad f3
  have g2 : v_iv (n_v vs 24) = w_fi ws (n_v vs 0) 1 := congrArg v_iv f2
  have g6 : v_iv (n_v vs 19) = w_fi w1 (n_v vs 0) 1 := congrArg v_iv f6
  have g12 : v_iv (n_v vs 14) = w_fi w3 (n_v vs 0) 1 := congrArg v_iv f12
  have g18 : v_iv (n_v vs 10) = w_fi w5 (n_v vs 0) 1 := congrArg v_iv f18
  have fe_0_1_2 : w_fi w1 (n_v vs 0) 1 = w_fi w2 (n_v vs 0) 1 := congrArg v_iv (s2.2 _ _)
  have fe_0_1_4 : w_fi w3 (n_v vs 0) 1 = w_fi w4 (n_v vs 0) 1 := congrArg v_iv (s4.2 _ _)
  have fe_0_1_6 : w_fi w5 (n_v vs 0) 1 = w_fi w6 (n_v vs 0) 1 := congrArg v_iv (s6.2 _ _)
  have hE_0_0_1 : ∀ j : Int, w_ei ws (w_ar ws (n_v vs 0) 0) j = w_ei w1 (w_ar ws (n_v vs 0) 0) j := fun j => s1.1 _ _
  have hE_0_0_2 : ∀ j : Int, 0 ≤ j → (j = v_iv (n_v vs 19) → w_ei w1 (w_ar ws (n_v vs 0) 0) j = v_iv (n_v vs 22)) ∧ (j ≠ v_iv (n_v vs 19) → w_ei w1 (w_ar ws (n_v vs 0) 0) j = w_ei w2 (w_ar ws (n_v vs 0) 0) j) := fun j hj => ⟨fun h => by unfold w_ei; rw [s2.1, if_pos ⟨ad_9.symm, by rw [h]⟩], fun h => by unfold w_ei; rw [s2.1, if_neg (fun e => h (by have := e.2; omega))]⟩
  have hE_0_0_3 : ∀ j : Int, w_ei w2 (w_ar ws (n_v vs 0) 0) j = w_ei w3 (w_ar ws (n_v vs 0) 0) j := fun j => s3.1 _ _
  have hE_0_0_4 : ∀ j : Int, 0 ≤ j → (j = v_iv (n_v vs 14) → w_ei w3 (w_ar ws (n_v vs 0) 0) j = v_iv (n_v vs 17)) ∧ (j ≠ v_iv (n_v vs 14) → w_ei w3 (w_ar ws (n_v vs 0) 0) j = w_ei w4 (w_ar ws (n_v vs 0) 0) j) := fun j hj => ⟨fun h => by unfold w_ei; rw [s4.1, if_pos ⟨ad_9.symm, by rw [h]⟩], fun h => by unfold w_ei; rw [s4.1, if_neg (fun e => h (by have := e.2; omega))]⟩
  have hE_0_0_5 : ∀ j : Int, w_ei w4 (w_ar ws (n_v vs 0) 0) j = w_ei w5 (w_ar ws (n_v vs 0) 0) j := fun j => s5.1 _ _
  have hE_0_0_6 : ∀ j : Int, 0 ≤ j → (j = v_iv (n_v vs 10) → w_ei w5 (w_ar ws (n_v vs 0) 0) j = v_iv (n_v vs 12)) ∧ (j ≠ v_iv (n_v vs 10) → w_ei w5 (w_ar ws (n_v vs 0) 0) j = w_ei w6 (w_ar ws (n_v vs 0) 0) j) := fun j hj => ⟨fun h => by unfold w_ei; rw [s6.1, if_pos ⟨ad_9.symm, by rw [h]⟩], fun h => by unfold w_ei; rw [s6.1, if_neg (fun e => h (by have := e.2; omega))]⟩
  have hK_0_0 := elq_33 hD hth cr_0_0
  have hE_3_1_1 : ∀ j : Int, w_ei ws (w_ar ws (n_v vs 3) 1) j = w_ei w1 (w_ar ws (n_v vs 3) 1) j := fun j => s1.1 _ _
  have hE_3_1_2 : ∀ j : Int, w_ei w1 (w_ar ws (n_v vs 3) 1) j = w_ei w2 (w_ar ws (n_v vs 3) 1) j := el_kp s2.1 r9 cr_3_1 (by decide)
  have hE_3_1_3 : ∀ j : Int, w_ei w2 (w_ar ws (n_v vs 3) 1) j = w_ei w3 (w_ar ws (n_v vs 3) 1) j := fun j => s3.1 _ _
  have hE_3_1_4 : ∀ j : Int, w_ei w3 (w_ar ws (n_v vs 3) 1) j = w_ei w4 (w_ar ws (n_v vs 3) 1) j := el_kp s4.1 r9 cr_3_1 (by decide)
  have hE_3_1_5 : ∀ j : Int, w_ei w4 (w_ar ws (n_v vs 3) 1) j = w_ei w5 (w_ar ws (n_v vs 3) 1) j := fun j => s5.1 _ _
  have hE_3_1_6 : ∀ j : Int, w_ei w5 (w_ar ws (n_v vs 3) 1) j = w_ei w6 (w_ar ws (n_v vs 3) 1) j := el_kp s6.1 r9 cr_3_1 (by decide)
  have hK_3_1 := elq_7 hD hth cr_3_1
  have kz_0_1 := fdq_96 hD hth r0
  have hrf0 : 3 ≤ v_iv (n_v vs 24) ∧ v_iv (n_v vs 24) ≤ 1999 := vc_Re_append_at_g5_3_r0 (v_iv (n_v vs 2)) (v_iv (n_v vs 10)) (v_iv (n_v vs 12)) (v_iv (n_v vs 14)) (v_iv (n_v vs 17)) (v_iv (n_v vs 19)) (v_iv (n_v vs 22)) (v_iv (n_v vs 24)) (w_fi ws (n_v vs 0) 1) (w_fi w1 (n_v vs 0) 1) (w_fi w3 (n_v vs 0) 1) (w_fi w5 (n_v vs 0) 1) (w_fi w6 (n_v vs 0) 1) (w_ei w6 (w_ar ws (n_v vs 0) 0)) (w_ei w6 (w_ar ws (n_v vs 3) 1)) (w_fi w2 (n_v vs 0) 1) (w_fi w4 (n_v vs 0) 1) (w_ei ws (w_ar ws (n_v vs 0) 0)) (w_ei w1 (w_ar ws (n_v vs 0) 0)) (w_ei w2 (w_ar ws (n_v vs 0) 0)) (w_ei w3 (w_ar ws (n_v vs 0) 0)) (w_ei w4 (w_ar ws (n_v vs 0) 0)) (w_ei w5 (w_ar ws (n_v vs 0) 0)) (w_ei ws (w_ar ws (n_v vs 3) 1)) (w_ei w1 (w_ar ws (n_v vs 3) 1)) (w_ei w2 (w_ar ws (n_v vs 3) 1)) (w_ei w3 (w_ar ws (n_v vs 3) 1)) (w_ei w4 (w_ar ws (n_v vs 3) 1)) (w_ei w5 (w_ar ws (n_v vs 3) 1)) k2 k10 k12 k14 k17 k19 k22 k24 d0 d1 d2 g2 g6 g12 g18 (shm_436 f19) (shm_437 f20) fe_0_1_2 fe_0_1_4 fe_0_1_6 hE_0_0_1 hE_0_0_2 hE_0_0_3 hE_0_0_4 hE_0_0_5 hE_0_0_6 hK_0_0 hE_3_1_1 hE_3_1_2 hE_3_1_3 hE_3_1_4 hE_3_1_5 hE_3_1_6 hK_3_1 kz_0_1
  have rf24 : tv_ok ta (0, 3, 1999, []) (n_v vs 24) := tv_in t24 (by first | omega | grind) (by first | omega | grind)
  refine ⟨List.forall_mem_cons.mpr ⟨rf24, (fun _ h => (by cases h))⟩, [], trivial, ?_, (fun _ h => (by cases h))⟩
  rw [List.append_nil]
  exact (fun _ h => (by cases h))
set_option maxHeartbeats 4000000 in
theorem vc_Re_append_at_g5_4_0 (x2 : Int) (x10 : Int) (x12 : Int) (x14 : Int) (x17 : Int) (x19 : Int) (x22 : Int) (x24 : Int) (x27 : Int) (x29 : Int) (length_0 : Int) (length_1 : Int) (length_3 : Int) (length_5 : Int) (length_7 : Int) (length_8 : Int) (tape_8 : Int → Int) (tape_8o3 : Int → Int) (length_2 : Int) (length_4 : Int) (length_6 : Int) (tape_0 : Int → Int) (tape_1 : Int → Int) (tape_2 : Int → Int) (tape_3 : Int → Int) (tape_4 : Int → Int) (tape_5 : Int → Int) (tape_6 : Int → Int) (tape_7 : Int → Int) (tape_0o3 : Int → Int) (tape_1o3 : Int → Int) (tape_2o3 : Int → Int) (tape_3o3 : Int → Int) (tape_4o3 : Int → Int) (tape_5o3 : Int → Int) (tape_6o3 : Int → Int) (tape_7o3 : Int → Int) (k2 : 0 ≤ x2 ∧ x2 ≤ 1996) (k10 : 0 ≤ x10 ∧ x10 ≤ 1999) (k12 : (-128) ≤ x12 ∧ x12 ≤ 127) (k14 : 1 ≤ x14 ∧ x14 ≤ 1999) (k17 : (-128) ≤ x17 ∧ x17 ≤ 127) (k19 : 2 ≤ x19 ∧ x19 ≤ 1999) (k22 : (-128) ≤ x22 ∧ x22 ≤ 127) (k24 : 3 ≤ x24 ∧ x24 ≤ 1999) (k27 : (-128) ≤ x27 ∧ x27 ≤ 127) (k29 : 4 ≤ x29 ∧ x29 ≤ 2000) (d0 : x24 + 1 ≤ x29 ∧ x29 ≤ x24 + 1) (d1 : x19 + 2 ≤ x29 ∧ x29 ≤ x19 + 2) (d2 : x14 + 3 ≤ x29 ∧ x29 ≤ x14 + 3) (d3 : x10 + 4 ≤ x29 ∧ x29 ≤ x10 + 4) (g0 : x29 = length_0) (g4 : x24 = length_1) (g10 : x19 = length_3) (g16 : x14 = length_5) (g22 : x10 = length_7) (f23 : 1 * length_7 + ((-1) * x2 + 0) ≤ 0) (f24 : (-1) * length_7 + (1 * x2 + 0) ≤ 0) (fe_0_1_2 : length_1 = length_2) (fe_0_1_4 : length_3 = length_4) (fe_0_1_6 : length_5 = length_6) (fe_0_1_8 : length_7 = length_8) (hE_0_0_1 : ∀ j : Int, tape_0 j = tape_1 j) (hE_0_0_2 : ∀ j : Int, 0 ≤ j → (j = x24 → tape_1 j = x27) ∧ (j ≠ x24 → tape_1 j = tape_2 j)) (hE_0_0_3 : ∀ j : Int, tape_2 j = tape_3 j) (hE_0_0_4 : ∀ j : Int, 0 ≤ j → (j = x19 → tape_3 j = x22) ∧ (j ≠ x19 → tape_3 j = tape_4 j)) (hE_0_0_5 : ∀ j : Int, tape_4 j = tape_5 j) (hE_0_0_6 : ∀ j : Int, 0 ≤ j → (j = x14 → tape_5 j = x17) ∧ (j ≠ x14 → tape_5 j = tape_6 j)) (hE_0_0_7 : ∀ j : Int, tape_6 j = tape_7 j) (hE_0_0_8 : ∀ j : Int, 0 ≤ j → (j = x10 → tape_7 j = x12) ∧ (j ≠ x10 → tape_7 j = tape_8 j)) (hK_0_0 : ∀ j : Int, 0 ≤ j → j < 2000 → (-128) ≤ tape_0 j ∧ tape_0 j ≤ 127) (hE_3_1_1 : ∀ j : Int, tape_0o3 j = tape_1o3 j) (hE_3_1_2 : ∀ j : Int, tape_1o3 j = tape_2o3 j) (hE_3_1_3 : ∀ j : Int, tape_2o3 j = tape_3o3 j) (hE_3_1_4 : ∀ j : Int, tape_3o3 j = tape_4o3 j) (hE_3_1_5 : ∀ j : Int, tape_4o3 j = tape_5o3 j) (hE_3_1_6 : ∀ j : Int, tape_5o3 j = tape_6o3 j) (hE_3_1_7 : ∀ j : Int, tape_6o3 j = tape_7o3 j) (hE_3_1_8 : ∀ j : Int, tape_7o3 j = tape_8o3 j) (hK_3_1 : ∀ j : Int, 0 ≤ j → j < 2000 → (-128) ≤ tape_0o3 j ∧ tape_0o3 j ≤ 127) (kz_0_1 : 0 ≤ length_0 ∧ length_0 ≤ 2000) : 1 * length_0 + ((-1) * x2 + 0) ≤ 4 := by
  subst fe_0_1_2
  subst fe_0_1_4
  subst fe_0_1_6
  subst fe_0_1_8
  have e_hE_0_0_1 := funext hE_0_0_1; subst e_hE_0_0_1
  have e_hE_0_0_3 := funext hE_0_0_3; subst e_hE_0_0_3
  have e_hE_0_0_5 := funext hE_0_0_5; subst e_hE_0_0_5
  have e_hE_0_0_7 := funext hE_0_0_7; subst e_hE_0_0_7
  have e_hE_3_1_1 := funext hE_3_1_1; subst e_hE_3_1_1
  have e_hE_3_1_2 := funext hE_3_1_2; subst e_hE_3_1_2
  have e_hE_3_1_3 := funext hE_3_1_3; subst e_hE_3_1_3
  have e_hE_3_1_4 := funext hE_3_1_4; subst e_hE_3_1_4
  have e_hE_3_1_5 := funext hE_3_1_5; subst e_hE_3_1_5
  have e_hE_3_1_6 := funext hE_3_1_6; subst e_hE_3_1_6
  have e_hE_3_1_7 := funext hE_3_1_7; subst e_hE_3_1_7
  have e_hE_3_1_8 := funext hE_3_1_8; subst e_hE_3_1_8
  first | with_reducible assumption | ((try and_intros) <;> first | with_reducible assumption | (clear hE_0_0_1 hE_0_0_2 hE_0_0_3 hE_0_0_4 hE_0_0_5 hE_0_0_6 hE_0_0_7 hE_0_0_8 hK_0_0 hE_3_1_1 hE_3_1_2 hE_3_1_3 hE_3_1_4 hE_3_1_5 hE_3_1_6 hE_3_1_7 hE_3_1_8 hK_3_1; omega)) | omega
set_option maxHeartbeats 4000000 in
theorem vc_Re_append_at_g5_4_1 (x2 : Int) (x10 : Int) (x12 : Int) (x14 : Int) (x17 : Int) (x19 : Int) (x22 : Int) (x24 : Int) (x27 : Int) (x29 : Int) (length_0 : Int) (length_1 : Int) (length_3 : Int) (length_5 : Int) (length_7 : Int) (length_8 : Int) (tape_8 : Int → Int) (tape_8o3 : Int → Int) (length_2 : Int) (length_4 : Int) (length_6 : Int) (tape_0 : Int → Int) (tape_1 : Int → Int) (tape_2 : Int → Int) (tape_3 : Int → Int) (tape_4 : Int → Int) (tape_5 : Int → Int) (tape_6 : Int → Int) (tape_7 : Int → Int) (tape_0o3 : Int → Int) (tape_1o3 : Int → Int) (tape_2o3 : Int → Int) (tape_3o3 : Int → Int) (tape_4o3 : Int → Int) (tape_5o3 : Int → Int) (tape_6o3 : Int → Int) (tape_7o3 : Int → Int) (k2 : 0 ≤ x2 ∧ x2 ≤ 1996) (k10 : 0 ≤ x10 ∧ x10 ≤ 1999) (k12 : (-128) ≤ x12 ∧ x12 ≤ 127) (k14 : 1 ≤ x14 ∧ x14 ≤ 1999) (k17 : (-128) ≤ x17 ∧ x17 ≤ 127) (k19 : 2 ≤ x19 ∧ x19 ≤ 1999) (k22 : (-128) ≤ x22 ∧ x22 ≤ 127) (k24 : 3 ≤ x24 ∧ x24 ≤ 1999) (k27 : (-128) ≤ x27 ∧ x27 ≤ 127) (k29 : 4 ≤ x29 ∧ x29 ≤ 2000) (d0 : x24 + 1 ≤ x29 ∧ x29 ≤ x24 + 1) (d1 : x19 + 2 ≤ x29 ∧ x29 ≤ x19 + 2) (d2 : x14 + 3 ≤ x29 ∧ x29 ≤ x14 + 3) (d3 : x10 + 4 ≤ x29 ∧ x29 ≤ x10 + 4) (g0 : x29 = length_0) (g4 : x24 = length_1) (g10 : x19 = length_3) (g16 : x14 = length_5) (g22 : x10 = length_7) (f23 : 1 * length_7 + ((-1) * x2 + 0) ≤ 0) (f24 : (-1) * length_7 + (1 * x2 + 0) ≤ 0) (fe_0_1_2 : length_1 = length_2) (fe_0_1_4 : length_3 = length_4) (fe_0_1_6 : length_5 = length_6) (fe_0_1_8 : length_7 = length_8) (hE_0_0_1 : ∀ j : Int, tape_0 j = tape_1 j) (hE_0_0_2 : ∀ j : Int, 0 ≤ j → (j = x24 → tape_1 j = x27) ∧ (j ≠ x24 → tape_1 j = tape_2 j)) (hE_0_0_3 : ∀ j : Int, tape_2 j = tape_3 j) (hE_0_0_4 : ∀ j : Int, 0 ≤ j → (j = x19 → tape_3 j = x22) ∧ (j ≠ x19 → tape_3 j = tape_4 j)) (hE_0_0_5 : ∀ j : Int, tape_4 j = tape_5 j) (hE_0_0_6 : ∀ j : Int, 0 ≤ j → (j = x14 → tape_5 j = x17) ∧ (j ≠ x14 → tape_5 j = tape_6 j)) (hE_0_0_7 : ∀ j : Int, tape_6 j = tape_7 j) (hE_0_0_8 : ∀ j : Int, 0 ≤ j → (j = x10 → tape_7 j = x12) ∧ (j ≠ x10 → tape_7 j = tape_8 j)) (hK_0_0 : ∀ j : Int, 0 ≤ j → j < 2000 → (-128) ≤ tape_0 j ∧ tape_0 j ≤ 127) (hE_3_1_1 : ∀ j : Int, tape_0o3 j = tape_1o3 j) (hE_3_1_2 : ∀ j : Int, tape_1o3 j = tape_2o3 j) (hE_3_1_3 : ∀ j : Int, tape_2o3 j = tape_3o3 j) (hE_3_1_4 : ∀ j : Int, tape_3o3 j = tape_4o3 j) (hE_3_1_5 : ∀ j : Int, tape_4o3 j = tape_5o3 j) (hE_3_1_6 : ∀ j : Int, tape_5o3 j = tape_6o3 j) (hE_3_1_7 : ∀ j : Int, tape_6o3 j = tape_7o3 j) (hE_3_1_8 : ∀ j : Int, tape_7o3 j = tape_8o3 j) (hK_3_1 : ∀ j : Int, 0 ≤ j → j < 2000 → (-128) ≤ tape_0o3 j ∧ tape_0o3 j ≤ 127) (kz_0_1 : 0 ≤ length_0 ∧ length_0 ≤ 2000) : (-1) * length_0 + (1 * x2 + 0) ≤ (-4) := by
  subst fe_0_1_2
  subst fe_0_1_4
  subst fe_0_1_6
  subst fe_0_1_8
  have e_hE_0_0_1 := funext hE_0_0_1; subst e_hE_0_0_1
  have e_hE_0_0_3 := funext hE_0_0_3; subst e_hE_0_0_3
  have e_hE_0_0_5 := funext hE_0_0_5; subst e_hE_0_0_5
  have e_hE_0_0_7 := funext hE_0_0_7; subst e_hE_0_0_7
  have e_hE_3_1_1 := funext hE_3_1_1; subst e_hE_3_1_1
  have e_hE_3_1_2 := funext hE_3_1_2; subst e_hE_3_1_2
  have e_hE_3_1_3 := funext hE_3_1_3; subst e_hE_3_1_3
  have e_hE_3_1_4 := funext hE_3_1_4; subst e_hE_3_1_4
  have e_hE_3_1_5 := funext hE_3_1_5; subst e_hE_3_1_5
  have e_hE_3_1_6 := funext hE_3_1_6; subst e_hE_3_1_6
  have e_hE_3_1_7 := funext hE_3_1_7; subst e_hE_3_1_7
  have e_hE_3_1_8 := funext hE_3_1_8; subst e_hE_3_1_8
  first | with_reducible assumption | ((try and_intros) <;> first | with_reducible assumption | (clear hE_0_0_1 hE_0_0_2 hE_0_0_3 hE_0_0_4 hE_0_0_5 hE_0_0_6 hE_0_0_7 hE_0_0_8 hK_0_0 hE_3_1_1 hE_3_1_2 hE_3_1_3 hE_3_1_4 hE_3_1_5 hE_3_1_6 hE_3_1_7 hE_3_1_8 hK_3_1; omega)) | omega
set_option maxHeartbeats 4000000 in
theorem vc_Re_append_at_g5_4_2 (x1 : Int) (x4 : Int) (x5 : Int) (x6 : Int) (x7 : Int) (x10 : Int) (x11 : Int) (x12 : Int) (x14 : Int) (x16 : Int) (x17 : Int) (x19 : Int) (x21 : Int) (x22 : Int) (x24 : Int) (x26 : Int) (x27 : Int) (x29 : Int) (length_0 : Int) (length_1 : Int) (length_3 : Int) (length_5 : Int) (length_7 : Int) (length_8 : Int) (tape_8 : Int → Int) (tape_8o3 : Int → Int) (length_2 : Int) (length_4 : Int) (length_6 : Int) (tape_0 : Int → Int) (tape_1 : Int → Int) (tape_2 : Int → Int) (tape_3 : Int → Int) (tape_4 : Int → Int) (tape_5 : Int → Int) (tape_6 : Int → Int) (tape_7 : Int → Int) (tape_0o3 : Int → Int) (tape_1o3 : Int → Int) (tape_2o3 : Int → Int) (tape_3o3 : Int → Int) (tape_4o3 : Int → Int) (tape_5o3 : Int → Int) (tape_6o3 : Int → Int) (tape_7o3 : Int → Int) (k1 : (-2147483648) ≤ x1 ∧ x1 ≤ 2147483647) (k4 : (-2147483648) ≤ x4 ∧ x4 ≤ 2147483647) (k5 : (-2147483648) ≤ x5 ∧ x5 ≤ 2147483647) (k6 : (-2147483648) ≤ x6 ∧ x6 ≤ 2147483647) (k7 : (-2147483648) ≤ x7 ∧ x7 ≤ 2147483647) (k10 : 0 ≤ x10 ∧ x10 ≤ 1999) (k11 : (-2147483648) ≤ x11 ∧ x11 ≤ 2147483647) (k12 : (-128) ≤ x12 ∧ x12 ≤ 127) (k14 : 1 ≤ x14 ∧ x14 ≤ 1999) (k16 : (-2147483648) ≤ x16 ∧ x16 ≤ 2147483647) (k17 : (-128) ≤ x17 ∧ x17 ≤ 127) (k19 : 2 ≤ x19 ∧ x19 ≤ 1999) (k21 : (-2147483648) ≤ x21 ∧ x21 ≤ 2147483647) (k22 : (-128) ≤ x22 ∧ x22 ≤ 127) (k24 : 3 ≤ x24 ∧ x24 ≤ 1999) (k26 : (-2147483648) ≤ x26 ∧ x26 ≤ 2147483647) (k27 : (-128) ≤ x27 ∧ x27 ≤ 127) (k29 : 4 ≤ x29 ∧ x29 ≤ 2000) (d0 : x24 + 1 ≤ x29 ∧ x29 ≤ x24 + 1) (d1 : x19 + 2 ≤ x29 ∧ x29 ≤ x19 + 2) (d2 : x14 + 3 ≤ x29 ∧ x29 ≤ x14 + 3) (d3 : x10 + 4 ≤ x29 ∧ x29 ≤ x10 + 4) (g0 : x29 = length_0) (g4 : x24 = length_1) (f6 : x27 = (x26 + 128) % 256 - 128) (f7 : x26 = x1 / 1) (g10 : x19 = length_3) (f12 : x22 = (x21 + 128) % 256 - 128) (f13 : x21 = x1 / 256) (g16 : x14 = length_5) (f18 : x17 = (x16 + 128) % 256 - 128) (f19 : x16 = x1 / 65536) (g22 : x10 = length_7) (f26 : x12 = (x11 + 128) % 256 - 128) (f27 : x11 = x1 / 16777216) (f30 : TE4 (length_8) (tape_8) (tape_8o3) (x4) (x5) (x6) (x7)) (fe_0_1_2 : length_1 = length_2) (fe_0_1_4 : length_3 = length_4) (fe_0_1_6 : length_5 = length_6) (fe_0_1_8 : length_7 = length_8) (hE_0_0_1 : ∀ j : Int, tape_0 j = tape_1 j) (hE_0_0_2 : ∀ j : Int, 0 ≤ j → (j = x24 → tape_1 j = x27) ∧ (j ≠ x24 → tape_1 j = tape_2 j)) (hE_0_0_3 : ∀ j : Int, tape_2 j = tape_3 j) (hE_0_0_4 : ∀ j : Int, 0 ≤ j → (j = x19 → tape_3 j = x22) ∧ (j ≠ x19 → tape_3 j = tape_4 j)) (hE_0_0_5 : ∀ j : Int, tape_4 j = tape_5 j) (hE_0_0_6 : ∀ j : Int, 0 ≤ j → (j = x14 → tape_5 j = x17) ∧ (j ≠ x14 → tape_5 j = tape_6 j)) (hE_0_0_7 : ∀ j : Int, tape_6 j = tape_7 j) (hE_0_0_8 : ∀ j : Int, 0 ≤ j → (j = x10 → tape_7 j = x12) ∧ (j ≠ x10 → tape_7 j = tape_8 j)) (hE_3_1_1 : ∀ j : Int, tape_0o3 j = tape_1o3 j) (hE_3_1_2 : ∀ j : Int, tape_1o3 j = tape_2o3 j) (hE_3_1_3 : ∀ j : Int, tape_2o3 j = tape_3o3 j) (hE_3_1_4 : ∀ j : Int, tape_3o3 j = tape_4o3 j) (hE_3_1_5 : ∀ j : Int, tape_4o3 j = tape_5o3 j) (hE_3_1_6 : ∀ j : Int, tape_5o3 j = tape_6o3 j) (hE_3_1_7 : ∀ j : Int, tape_6o3 j = tape_7o3 j) (hE_3_1_8 : ∀ j : Int, tape_7o3 j = tape_8o3 j) (kz_0_1 : 0 ≤ length_0 ∧ length_0 ≤ 2000) : TE5 (length_0) (tape_0) (tape_0o3) (x4) (x5) (x6) (x7) (x1) := by
  subst fe_0_1_2
  subst fe_0_1_4
  subst fe_0_1_6
  subst fe_0_1_8
  have e_hE_0_0_1 := funext hE_0_0_1; subst e_hE_0_0_1
  have e_hE_0_0_3 := funext hE_0_0_3; subst e_hE_0_0_3
  have e_hE_0_0_5 := funext hE_0_0_5; subst e_hE_0_0_5
  have e_hE_0_0_7 := funext hE_0_0_7; subst e_hE_0_0_7
  have e_hE_3_1_1 := funext hE_3_1_1; subst e_hE_3_1_1
  have e_hE_3_1_2 := funext hE_3_1_2; subst e_hE_3_1_2
  have e_hE_3_1_3 := funext hE_3_1_3; subst e_hE_3_1_3
  have e_hE_3_1_4 := funext hE_3_1_4; subst e_hE_3_1_4
  have e_hE_3_1_5 := funext hE_3_1_5; subst e_hE_3_1_5
  have e_hE_3_1_6 := funext hE_3_1_6; subst e_hE_3_1_6
  have e_hE_3_1_7 := funext hE_3_1_7; subst e_hE_3_1_7
  have e_hE_3_1_8 := funext hE_3_1_8; subst e_hE_3_1_8
  first | subst g0 | skip
  first | subst g4 | skip
  first | subst g10 | skip
  first | subst g16 | skip
  first | subst g22 | skip
  exact te_s5 ‹TE4 _ _ _ _ _ _ _› (by assumption) (by assumption) (by assumption) (by assumption) (by omega) (by omega) (by omega) (by omega) (by omega) (by omega) (by omega) (by omega) (by omega) (by omega)
def o_Re_append_at_g5_4 : or_T := (36, 31, [(0, (2, 0, 0, [8])), (1, (0, -2147483648, 2147483647, [])), (2, (0, 0, 1996, [])), (3, (2, 0, 0, [165])), (4, (0, -2147483648, 2147483647, [])), (5, (0, -2147483648, 2147483647, [])), (6, (0, -2147483648, 2147483647, [])), (7, (0, -2147483648, 2147483647, [])), (9, (2, 0, 0, [109])), (10, (0, 0, 1999, [])), (11, (0, -2147483648, 2147483647, [])), (12, (0, -128, 127, [])), (14, (0, 1, 1999, [])), (16, (0, -2147483648, 2147483647, [])), (17, (0, -128, 127, [])), (19, (0, 2, 1999, [])), (21, (0, -2147483648, 2147483647, [])), (22, (0, -128, 127, [])), (24, (0, 3, 1999, [])), (26, (0, -2147483648, 2147483647, [])), (27, (0, -128, 127, [])), (29, (0, 4, 2000, []))], [(9, [29, 0], [1]), (9, [9, 0], [0]), (101, [0, 29], [1]), (9, [24, 0], [1]), (100, [9, 24, 27], []), (17, [27, 26], []), (11, [26, 1], [1]), (101, [0, 24], [1]), (9, [19, 0], [1]), (100, [9, 19, 22], []), (17, [22, 21], []), (11, [21, 1], [256]), (101, [0, 19], [1]), (9, [14, 0], [1]), (100, [9, 14, 17], []), (17, [17, 16], []), (11, [16, 1], [65536]), (101, [0, 14], [1]), (9, [10, 0], [1]), (20, [0, 2], [30, 0, 1, 1, 1, -1, 0, 0]), (20, [0, 2], [30, 0, -1, 1, 1, 1, 0, 0]), (100, [9, 10, 12], []), (17, [12, 11], []), (11, [11, 1], [16777216]), (20, [0, 3, 4, 5, 6, 7], [60, 1, 2, 1105, 1, 0, 1001])], [], [], [(20, [0, 2], [30, 4, 1, 1, 1, -1, 0, 0]), (20, [0, 2], [30, -4, -1, 1, 1, 1, 0, 0]), (20, [0, 3, 4, 5, 6, 7, 1], [60, 1, 2, 1106, 1, 0, 1001])], [], [(29, 24, 1, 1), (29, 19, 2, 2), (29, 14, 3, 3), (29, 10, 4, 4), (24, 19, 1, 1), (24, 14, 2, 2), (24, 10, 3, 3), (19, 14, 1, 1), (19, 10, 2, 2), (14, 10, 1, 1)])
theorem oo_Re_append_at_g5_4 {kA : Nat → ClassId} : or_ok PRD kA GG o_Re_append_at_g5_4 := by
  refine or_mk fun A ta ws vs hD hth hl => ?_
  intro t0 r0 t1 k1 t2 k2 t3 r3 t4 k4 t5 k5 t6 k6 t7 k7 t9 r9 t10 k10 t11 k11 t12 k12 t14 k14 t16 k16 t17 k17 t19 k19 t21 k21 t22 k22 t24 k24 t26 k26 t27 k27 t29 k29 d0 d1 d2 d3 d4 d5 d6 d7 d8 d9 f0 f1 ta1 w1 le1 s1 f4 ta2 w2 le2 s2 f6 f7 ta3 w3 le3 s3 f10 ta4 w4 le4 s4 f12 f13 ta5 w5 le5 s5 f16 ta6 w6 le6 s6 f18 f19 ta7 w7 le7 s7 f22 f23 f24 ta8 w8 le8 s8 f26 f27 f30
  replace f0 := shm_215 f0
  replace f1 := shm_163 f1
  have s1 : (∀ b j, w_el ws b j = w_el w1 b j) ∧ ∀ b j, w_fd ws b j = if b = v_ad (n_v vs 0) ∧ j = 1 then n_v vs 29 else w_fd w1 b j := s1.2
  replace f4 := shm_215 f4
  have s2 : (∀ b j, w_el w1 b j = if b = v_ad (n_v vs 9) ∧ j = (v_iv (n_v vs 24)).toNat then v_iv (n_v vs 27) else w_el w2 b j) ∧ ∀ b k, w_fd w1 b k = w_fd w2 b k := s2.2
  have s3 : (∀ b j, w_el w2 b j = w_el w3 b j) ∧ ∀ b j, w_fd w2 b j = if b = v_ad (n_v vs 0) ∧ j = 1 then n_v vs 24 else w_fd w3 b j := s3.2
  replace f10 := shm_215 f10
  have s4 : (∀ b j, w_el w3 b j = if b = v_ad (n_v vs 9) ∧ j = (v_iv (n_v vs 19)).toNat then v_iv (n_v vs 22) else w_el w4 b j) ∧ ∀ b k, w_fd w3 b k = w_fd w4 b k := s4.2
  have s5 : (∀ b j, w_el w4 b j = w_el w5 b j) ∧ ∀ b j, w_fd w4 b j = if b = v_ad (n_v vs 0) ∧ j = 1 then n_v vs 19 else w_fd w5 b j := s5.2
  replace f16 := shm_215 f16
  have s6 : (∀ b j, w_el w5 b j = if b = v_ad (n_v vs 9) ∧ j = (v_iv (n_v vs 14)).toNat then v_iv (n_v vs 17) else w_el w6 b j) ∧ ∀ b k, w_fd w5 b k = w_fd w6 b k := s6.2
  have s7 : (∀ b j, w_el w6 b j = w_el w7 b j) ∧ ∀ b j, w_fd w6 b j = if b = v_ad (n_v vs 0) ∧ j = 1 then n_v vs 14 else w_fd w7 b j := s7.2
  replace f22 := shm_215 f22
  have s8 : (∀ b j, w_el w7 b j = if b = v_ad (n_v vs 9) ∧ j = (v_iv (n_v vs 10)).toNat then v_iv (n_v vs 12) else w_el w8 b j) ∧ ∀ b k, w_fd w7 b k = w_fd w8 b k := s8.2
  replace f30 := shm_449 f30
  have ar_0_0_1 : w_ar w1 (n_v vs 0) 0 = w_ar ws (n_v vs 0) 0 := by show v_ad (w_fd w1 _ _) = v_ad (w_fd ws _ _); rw [s1.2, if_neg (fun e => absurd e.2 (by decide))]
  have ar_0_0_2 : w_ar w2 (n_v vs 0) 0 = w_ar ws (n_v vs 0) 0 := by rw [← ar_0_0_1]; show v_ad (w_fd w2 _ _) = v_ad (w_fd w1 _ _); rw [s2.2]
  have ar_0_0_3 : w_ar w3 (n_v vs 0) 0 = w_ar ws (n_v vs 0) 0 := by rw [← ar_0_0_2]; show v_ad (w_fd w3 _ _) = v_ad (w_fd w2 _ _); rw [s3.2, if_neg (fun e => absurd e.2 (by decide))]
  have ar_0_0_4 : w_ar w4 (n_v vs 0) 0 = w_ar ws (n_v vs 0) 0 := by rw [← ar_0_0_3]; show v_ad (w_fd w4 _ _) = v_ad (w_fd w3 _ _); rw [s4.2]
  have ar_0_0_5 : w_ar w5 (n_v vs 0) 0 = w_ar ws (n_v vs 0) 0 := by rw [← ar_0_0_4]; show v_ad (w_fd w5 _ _) = v_ad (w_fd w4 _ _); rw [s5.2, if_neg (fun e => absurd e.2 (by decide))]
  have ar_0_0_6 : w_ar w6 (n_v vs 0) 0 = w_ar ws (n_v vs 0) 0 := by rw [← ar_0_0_5]; show v_ad (w_fd w6 _ _) = v_ad (w_fd w5 _ _); rw [s6.2]
  have ar_0_0_7 : w_ar w7 (n_v vs 0) 0 = w_ar ws (n_v vs 0) 0 := by rw [← ar_0_0_6]; show v_ad (w_fd w7 _ _) = v_ad (w_fd w6 _ _); rw [s7.2, if_neg (fun e => absurd e.2 (by decide))]
  have ar_0_0_8 : w_ar w8 (n_v vs 0) 0 = w_ar ws (n_v vs 0) 0 := by rw [← ar_0_0_7]; show v_ad (w_fd w8 _ _) = v_ad (w_fd w7 _ _); rw [s8.2]
  have cr_0_0 := fdq_95 hD hth r0
  have ar_3_1_1 : w_ar w1 (n_v vs 3) 1 = w_ar ws (n_v vs 3) 1 := by show v_ad (w_fd w1 _ _) = v_ad (w_fd ws _ _); rw [s1.2, if_neg (fun e => by have e1 := e.1; have e2 := r3; rw [e1, r0] at e2; exact absurd (Option.some.inj e2) (by decide))]
  have ar_3_1_2 : w_ar w2 (n_v vs 3) 1 = w_ar ws (n_v vs 3) 1 := by rw [← ar_3_1_1]; show v_ad (w_fd w2 _ _) = v_ad (w_fd w1 _ _); rw [s2.2]
  have ar_3_1_3 : w_ar w3 (n_v vs 3) 1 = w_ar ws (n_v vs 3) 1 := by rw [← ar_3_1_2]; show v_ad (w_fd w3 _ _) = v_ad (w_fd w2 _ _); rw [s3.2, if_neg (fun e => by have e1 := e.1; have e2 := r3; rw [e1, r0] at e2; exact absurd (Option.some.inj e2) (by decide))]
  have ar_3_1_4 : w_ar w4 (n_v vs 3) 1 = w_ar ws (n_v vs 3) 1 := by rw [← ar_3_1_3]; show v_ad (w_fd w4 _ _) = v_ad (w_fd w3 _ _); rw [s4.2]
  have ar_3_1_5 : w_ar w5 (n_v vs 3) 1 = w_ar ws (n_v vs 3) 1 := by rw [← ar_3_1_4]; show v_ad (w_fd w5 _ _) = v_ad (w_fd w4 _ _); rw [s5.2, if_neg (fun e => by have e1 := e.1; have e2 := r3; rw [e1, r0] at e2; exact absurd (Option.some.inj e2) (by decide))]
  have ar_3_1_6 : w_ar w6 (n_v vs 3) 1 = w_ar ws (n_v vs 3) 1 := by rw [← ar_3_1_5]; show v_ad (w_fd w6 _ _) = v_ad (w_fd w5 _ _); rw [s6.2]
  have ar_3_1_7 : w_ar w7 (n_v vs 3) 1 = w_ar ws (n_v vs 3) 1 := by rw [← ar_3_1_6]; show v_ad (w_fd w7 _ _) = v_ad (w_fd w6 _ _); rw [s7.2, if_neg (fun e => by have e1 := e.1; have e2 := r3; rw [e1, r0] at e2; exact absurd (Option.some.inj e2) (by decide))]
  have ar_3_1_8 : w_ar w8 (n_v vs 3) 1 = w_ar ws (n_v vs 3) 1 := by rw [← ar_3_1_7]; show v_ad (w_fd w8 _ _) = v_ad (w_fd w7 _ _); rw [s8.2]
  have cr_3_1 := fdq_39 hD hth r3
  have ad_9 : v_ad (n_v vs 9) = w_ar ws (n_v vs 0) 0 := congrArg v_ad f1
  have g0 : v_iv (n_v vs 29) = w_fi ws (n_v vs 0) 1 := congrArg v_iv f0
  have g4 : v_iv (n_v vs 24) = w_fi w1 (n_v vs 0) 1 := congrArg v_iv f4
  have g10 : v_iv (n_v vs 19) = w_fi w3 (n_v vs 0) 1 := congrArg v_iv f10
  have g16 : v_iv (n_v vs 14) = w_fi w5 (n_v vs 0) 1 := congrArg v_iv f16
  have g22 : v_iv (n_v vs 10) = w_fi w7 (n_v vs 0) 1 := congrArg v_iv f22
  simp only [ar_0_0_8, ar_3_1_8] at f30
  have fe_0_1_2 : w_fi w1 (n_v vs 0) 1 = w_fi w2 (n_v vs 0) 1 := congrArg v_iv (s2.2 _ _)
  have fe_0_1_4 : w_fi w3 (n_v vs 0) 1 = w_fi w4 (n_v vs 0) 1 := congrArg v_iv (s4.2 _ _)
  have fe_0_1_6 : w_fi w5 (n_v vs 0) 1 = w_fi w6 (n_v vs 0) 1 := congrArg v_iv (s6.2 _ _)
  have fe_0_1_8 : w_fi w7 (n_v vs 0) 1 = w_fi w8 (n_v vs 0) 1 := congrArg v_iv (s8.2 _ _)
  have hE_0_0_1 : ∀ j : Int, w_ei ws (w_ar ws (n_v vs 0) 0) j = w_ei w1 (w_ar ws (n_v vs 0) 0) j := fun j => s1.1 _ _
  have hE_0_0_2 : ∀ j : Int, 0 ≤ j → (j = v_iv (n_v vs 24) → w_ei w1 (w_ar ws (n_v vs 0) 0) j = v_iv (n_v vs 27)) ∧ (j ≠ v_iv (n_v vs 24) → w_ei w1 (w_ar ws (n_v vs 0) 0) j = w_ei w2 (w_ar ws (n_v vs 0) 0) j) := fun j hj => ⟨fun h => by unfold w_ei; rw [s2.1, if_pos ⟨ad_9.symm, by rw [h]⟩], fun h => by unfold w_ei; rw [s2.1, if_neg (fun e => h (by have := e.2; omega))]⟩
  have hE_0_0_3 : ∀ j : Int, w_ei w2 (w_ar ws (n_v vs 0) 0) j = w_ei w3 (w_ar ws (n_v vs 0) 0) j := fun j => s3.1 _ _
  have hE_0_0_4 : ∀ j : Int, 0 ≤ j → (j = v_iv (n_v vs 19) → w_ei w3 (w_ar ws (n_v vs 0) 0) j = v_iv (n_v vs 22)) ∧ (j ≠ v_iv (n_v vs 19) → w_ei w3 (w_ar ws (n_v vs 0) 0) j = w_ei w4 (w_ar ws (n_v vs 0) 0) j) := fun j hj => ⟨fun h => by unfold w_ei; rw [s4.1, if_pos ⟨ad_9.symm, by rw [h]⟩], fun h => by unfold w_ei; rw [s4.1, if_neg (fun e => h (by have := e.2; omega))]⟩
  have hE_0_0_5 : ∀ j : Int, w_ei w4 (w_ar ws (n_v vs 0) 0) j = w_ei w5 (w_ar ws (n_v vs 0) 0) j := fun j => s5.1 _ _
  have hE_0_0_6 : ∀ j : Int, 0 ≤ j → (j = v_iv (n_v vs 14) → w_ei w5 (w_ar ws (n_v vs 0) 0) j = v_iv (n_v vs 17)) ∧ (j ≠ v_iv (n_v vs 14) → w_ei w5 (w_ar ws (n_v vs 0) 0) j = w_ei w6 (w_ar ws (n_v vs 0) 0) j) := fun j hj => ⟨fun h => by unfold w_ei; rw [s6.1, if_pos ⟨ad_9.symm, by rw [h]⟩], fun h => by unfold w_ei; rw [s6.1, if_neg (fun e => h (by have := e.2; omega))]⟩
  have hE_0_0_7 : ∀ j : Int, w_ei w6 (w_ar ws (n_v vs 0) 0) j = w_ei w7 (w_ar ws (n_v vs 0) 0) j := fun j => s7.1 _ _
  have hE_0_0_8 : ∀ j : Int, 0 ≤ j → (j = v_iv (n_v vs 10) → w_ei w7 (w_ar ws (n_v vs 0) 0) j = v_iv (n_v vs 12)) ∧ (j ≠ v_iv (n_v vs 10) → w_ei w7 (w_ar ws (n_v vs 0) 0) j = w_ei w8 (w_ar ws (n_v vs 0) 0) j) := fun j hj => ⟨fun h => by unfold w_ei; rw [s8.1, if_pos ⟨ad_9.symm, by rw [h]⟩], fun h => by unfold w_ei; rw [s8.1, if_neg (fun e => h (by have := e.2; omega))]⟩
  have hK_0_0 := elq_33 hD hth cr_0_0
  have hE_3_1_1 : ∀ j : Int, w_ei ws (w_ar ws (n_v vs 3) 1) j = w_ei w1 (w_ar ws (n_v vs 3) 1) j := fun j => s1.1 _ _
  have hE_3_1_2 : ∀ j : Int, w_ei w1 (w_ar ws (n_v vs 3) 1) j = w_ei w2 (w_ar ws (n_v vs 3) 1) j := el_kp s2.1 r9 cr_3_1 (by decide)
  have hE_3_1_3 : ∀ j : Int, w_ei w2 (w_ar ws (n_v vs 3) 1) j = w_ei w3 (w_ar ws (n_v vs 3) 1) j := fun j => s3.1 _ _
  have hE_3_1_4 : ∀ j : Int, w_ei w3 (w_ar ws (n_v vs 3) 1) j = w_ei w4 (w_ar ws (n_v vs 3) 1) j := el_kp s4.1 r9 cr_3_1 (by decide)
  have hE_3_1_5 : ∀ j : Int, w_ei w4 (w_ar ws (n_v vs 3) 1) j = w_ei w5 (w_ar ws (n_v vs 3) 1) j := fun j => s5.1 _ _
  have hE_3_1_6 : ∀ j : Int, w_ei w5 (w_ar ws (n_v vs 3) 1) j = w_ei w6 (w_ar ws (n_v vs 3) 1) j := el_kp s6.1 r9 cr_3_1 (by decide)
  have hE_3_1_7 : ∀ j : Int, w_ei w6 (w_ar ws (n_v vs 3) 1) j = w_ei w7 (w_ar ws (n_v vs 3) 1) j := fun j => s7.1 _ _
  have hE_3_1_8 : ∀ j : Int, w_ei w7 (w_ar ws (n_v vs 3) 1) j = w_ei w8 (w_ar ws (n_v vs 3) 1) j := el_kp s8.1 r9 cr_3_1 (by decide)
  have hK_3_1 := elq_7 hD hth cr_3_1
  have kz_0_1 := fdq_96 hD hth r0
  have nf0 : fc_1 PRD (20, [0, 2], [30, 4, 1, 1, 1, -1, 0, 0]) ws (vs) := ⟨nf_in hl rfl, sgq_444 (vc_Re_append_at_g5_4_0 (v_iv (n_v vs 2)) (v_iv (n_v vs 10)) (v_iv (n_v vs 12)) (v_iv (n_v vs 14)) (v_iv (n_v vs 17)) (v_iv (n_v vs 19)) (v_iv (n_v vs 22)) (v_iv (n_v vs 24)) (v_iv (n_v vs 27)) (v_iv (n_v vs 29)) (w_fi ws (n_v vs 0) 1) (w_fi w1 (n_v vs 0) 1) (w_fi w3 (n_v vs 0) 1) (w_fi w5 (n_v vs 0) 1) (w_fi w7 (n_v vs 0) 1) (w_fi w8 (n_v vs 0) 1) (w_ei w8 (w_ar ws (n_v vs 0) 0)) (w_ei w8 (w_ar ws (n_v vs 3) 1)) (w_fi w2 (n_v vs 0) 1) (w_fi w4 (n_v vs 0) 1) (w_fi w6 (n_v vs 0) 1) (w_ei ws (w_ar ws (n_v vs 0) 0)) (w_ei w1 (w_ar ws (n_v vs 0) 0)) (w_ei w2 (w_ar ws (n_v vs 0) 0)) (w_ei w3 (w_ar ws (n_v vs 0) 0)) (w_ei w4 (w_ar ws (n_v vs 0) 0)) (w_ei w5 (w_ar ws (n_v vs 0) 0)) (w_ei w6 (w_ar ws (n_v vs 0) 0)) (w_ei w7 (w_ar ws (n_v vs 0) 0)) (w_ei ws (w_ar ws (n_v vs 3) 1)) (w_ei w1 (w_ar ws (n_v vs 3) 1)) (w_ei w2 (w_ar ws (n_v vs 3) 1)) (w_ei w3 (w_ar ws (n_v vs 3) 1)) (w_ei w4 (w_ar ws (n_v vs 3) 1)) (w_ei w5 (w_ar ws (n_v vs 3) 1)) (w_ei w6 (w_ar ws (n_v vs 3) 1)) (w_ei w7 (w_ar ws (n_v vs 3) 1)) k2 k10 k12 k14 k17 k19 k22 k24 k27 k29 d0 d1 d2 d3 g0 g4 g10 g16 g22 (shm_436 f23) (shm_437 f24) fe_0_1_2 fe_0_1_4 fe_0_1_6 fe_0_1_8 hE_0_0_1 hE_0_0_2 hE_0_0_3 hE_0_0_4 hE_0_0_5 hE_0_0_6 hE_0_0_7 hE_0_0_8 hK_0_0 hE_3_1_1 hE_3_1_2 hE_3_1_3 hE_3_1_4 hE_3_1_5 hE_3_1_6 hE_3_1_7 hE_3_1_8 hK_3_1 kz_0_1)⟩
  have nf1 : fc_1 PRD (20, [0, 2], [30, -4, -1, 1, 1, 1, 0, 0]) ws (vs) := ⟨nf_in hl rfl, sgq_445 (vc_Re_append_at_g5_4_1 (v_iv (n_v vs 2)) (v_iv (n_v vs 10)) (v_iv (n_v vs 12)) (v_iv (n_v vs 14)) (v_iv (n_v vs 17)) (v_iv (n_v vs 19)) (v_iv (n_v vs 22)) (v_iv (n_v vs 24)) (v_iv (n_v vs 27)) (v_iv (n_v vs 29)) (w_fi ws (n_v vs 0) 1) (w_fi w1 (n_v vs 0) 1) (w_fi w3 (n_v vs 0) 1) (w_fi w5 (n_v vs 0) 1) (w_fi w7 (n_v vs 0) 1) (w_fi w8 (n_v vs 0) 1) (w_ei w8 (w_ar ws (n_v vs 0) 0)) (w_ei w8 (w_ar ws (n_v vs 3) 1)) (w_fi w2 (n_v vs 0) 1) (w_fi w4 (n_v vs 0) 1) (w_fi w6 (n_v vs 0) 1) (w_ei ws (w_ar ws (n_v vs 0) 0)) (w_ei w1 (w_ar ws (n_v vs 0) 0)) (w_ei w2 (w_ar ws (n_v vs 0) 0)) (w_ei w3 (w_ar ws (n_v vs 0) 0)) (w_ei w4 (w_ar ws (n_v vs 0) 0)) (w_ei w5 (w_ar ws (n_v vs 0) 0)) (w_ei w6 (w_ar ws (n_v vs 0) 0)) (w_ei w7 (w_ar ws (n_v vs 0) 0)) (w_ei ws (w_ar ws (n_v vs 3) 1)) (w_ei w1 (w_ar ws (n_v vs 3) 1)) (w_ei w2 (w_ar ws (n_v vs 3) 1)) (w_ei w3 (w_ar ws (n_v vs 3) 1)) (w_ei w4 (w_ar ws (n_v vs 3) 1)) (w_ei w5 (w_ar ws (n_v vs 3) 1)) (w_ei w6 (w_ar ws (n_v vs 3) 1)) (w_ei w7 (w_ar ws (n_v vs 3) 1)) k2 k10 k12 k14 k17 k19 k22 k24 k27 k29 d0 d1 d2 d3 g0 g4 g10 g16 g22 (shm_436 f23) (shm_437 f24) fe_0_1_2 fe_0_1_4 fe_0_1_6 fe_0_1_8 hE_0_0_1 hE_0_0_2 hE_0_0_3 hE_0_0_4 hE_0_0_5 hE_0_0_6 hE_0_0_7 hE_0_0_8 hK_0_0 hE_3_1_1 hE_3_1_2 hE_3_1_3 hE_3_1_4 hE_3_1_5 hE_3_1_6 hE_3_1_7 hE_3_1_8 hK_3_1 kz_0_1)⟩
  have nf2 : fc_1 PRD (20, [0, 3, 4, 5, 6, 7, 1], [60, 1, 2, 1106, 1, 0, 1001]) ws (vs) := ⟨nf_in hl rfl, sgq_450 (vc_Re_append_at_g5_4_2 (v_iv (n_v vs 1)) (v_iv (n_v vs 4)) (v_iv (n_v vs 5)) (v_iv (n_v vs 6)) (v_iv (n_v vs 7)) (v_iv (n_v vs 10)) (v_iv (n_v vs 11)) (v_iv (n_v vs 12)) (v_iv (n_v vs 14)) (v_iv (n_v vs 16)) (v_iv (n_v vs 17)) (v_iv (n_v vs 19)) (v_iv (n_v vs 21)) (v_iv (n_v vs 22)) (v_iv (n_v vs 24)) (v_iv (n_v vs 26)) (v_iv (n_v vs 27)) (v_iv (n_v vs 29)) (w_fi ws (n_v vs 0) 1) (w_fi w1 (n_v vs 0) 1) (w_fi w3 (n_v vs 0) 1) (w_fi w5 (n_v vs 0) 1) (w_fi w7 (n_v vs 0) 1) (w_fi w8 (n_v vs 0) 1) (w_ei w8 (w_ar ws (n_v vs 0) 0)) (w_ei w8 (w_ar ws (n_v vs 3) 1)) (w_fi w2 (n_v vs 0) 1) (w_fi w4 (n_v vs 0) 1) (w_fi w6 (n_v vs 0) 1) (w_ei ws (w_ar ws (n_v vs 0) 0)) (w_ei w1 (w_ar ws (n_v vs 0) 0)) (w_ei w2 (w_ar ws (n_v vs 0) 0)) (w_ei w3 (w_ar ws (n_v vs 0) 0)) (w_ei w4 (w_ar ws (n_v vs 0) 0)) (w_ei w5 (w_ar ws (n_v vs 0) 0)) (w_ei w6 (w_ar ws (n_v vs 0) 0)) (w_ei w7 (w_ar ws (n_v vs 0) 0)) (w_ei ws (w_ar ws (n_v vs 3) 1)) (w_ei w1 (w_ar ws (n_v vs 3) 1)) (w_ei w2 (w_ar ws (n_v vs 3) 1)) (w_ei w3 (w_ar ws (n_v vs 3) 1)) (w_ei w4 (w_ar ws (n_v vs 3) 1)) (w_ei w5 (w_ar ws (n_v vs 3) 1)) (w_ei w6 (w_ar ws (n_v vs 3) 1)) (w_ei w7 (w_ar ws (n_v vs 3) 1)) k1 k4 k5 k6 k7 k10 k11 k12 k14 k16 k17 k19 k21 k22 k24 k26 k27 k29 d0 d1 d2 d3 g0 g4 (shm_439 f6) (shm_443 f7) g10 (shm_439 f12) (shm_442 f13) g16 (shm_439 f18) (shm_440 f19) g22 (shm_439 f26) (shm_441 f27) f30 fe_0_1_2 fe_0_1_4 fe_0_1_6 fe_0_1_8 hE_0_0_1 hE_0_0_2 hE_0_0_3 hE_0_0_4 hE_0_0_5 hE_0_0_6 hE_0_0_7 hE_0_0_8 hE_3_1_1 hE_3_1_2 hE_3_1_3 hE_3_1_4 hE_3_1_5 hE_3_1_6 hE_3_1_7 hE_3_1_8 kz_0_1)⟩
  refine ⟨(fun _ h => (by cases h)), [], trivial, ?_, (fun _ h => (by cases h))⟩
  rw [List.append_nil]
  exact List.forall_mem_cons.mpr ⟨⟨show (20 : Nat) < 100 from by decide, nf0⟩, List.forall_mem_cons.mpr ⟨⟨show (20 : Nat) < 100 from by decide, nf1⟩, List.forall_mem_cons.mpr ⟨⟨show (20 : Nat) < 100 from by decide, nf2⟩, (fun _ h => (by cases h))⟩⟩⟩
def n_Re_append_at_g5_an : List an_T := []
def t_Re_append_at_g5_ct : ct_L := []
set_option maxRecDepth 100000 in
theorem c_Re_append_at_g5 {l : Launch} {D : va_G} {kA : Nat → ClassId} : ct_ok PRD l D kA GG y_Re_append_at_g5 z_Re_append_at_g5 e_Re_append_at_g5 := chk_all_ok (FT := [(9, 8, 0), (15, 8, 1)]) (PT := [(15, 8, 1, .int)]) (CT := t_Re_append_at_g5_ct) (KT := []) (NT := []) (AN := n_Re_append_at_g5_an) (OT := [o_Re_append_at_g5_0, o_Re_append_at_g5_1, o_Re_append_at_g5_2, o_Re_append_at_g5_3, o_Re_append_at_g5_4]) 0 324 (List.forall_mem_cons.mpr ⟨oo_Re_append_at_g5_0, List.forall_mem_cons.mpr ⟨oo_Re_append_at_g5_1, List.forall_mem_cons.mpr ⟨oo_Re_append_at_g5_2, List.forall_mem_cons.mpr ⟨oo_Re_append_at_g5_3, List.forall_mem_cons.mpr ⟨oo_Re_append_at_g5_4, List.forall_mem_nil _⟩⟩⟩⟩⟩) (by decide +kernel) ⟨List.forall_mem_cons.mpr ⟨gf_Re_9, List.forall_mem_cons.mpr ⟨gf_Re_15, List.forall_mem_nil _⟩⟩, List.forall_mem_cons.mpr ⟨pf_Re_15, List.forall_mem_nil _⟩, List.forall_mem_nil _, List.forall_mem_nil _, List.forall_mem_nil _, GG_pl⟩ (by decide +kernel)
set_option maxHeartbeats 4000000 in
theorem vc_Re_fail_0_0 (x1 : Int) (x2 : Int) (x3 : Int) (faultPlace_0 : Int) (begin_0 : Int) (fault_0 : Int) (fault_1 : Int) (begin_1 : Int) (k1 : 1 ≤ x1 ∧ x1 ≤ 5) (k2 : 0 ≤ x2 ∧ x2 ≤ 2000) (k3 : 0 ≤ x3 ∧ x3 ≤ 0) (g0 : x2 = faultPlace_0) (g1 : x2 = begin_0) (g2 : x1 = fault_0) (fe_0_2_1 : fault_0 = fault_1) (fe_0_8_1 : begin_0 = begin_1) (kz_0_2 : (-1) ≤ fault_0 ∧ fault_0 ≤ 5) (kz_0_3 : (-1) ≤ faultPlace_0 ∧ faultPlace_0 ≤ 2000) (kz_0_8 : 0 ≤ begin_0 ∧ begin_0 ≤ 2000) : (x3 = 0) ∧ ((fault_0 = x1) ∧ (faultPlace_0 = begin_0)) := by
  subst fe_0_2_1
  subst fe_0_8_1
  first | assumption | omega | grind
def o_Re_fail_0 : or_T := (14, 4, [(0, (2, 0, 0, [8])), (1, (0, 1, 5, [])), (2, (0, 0, 2000, [])), (3, (0, 0, 0, []))], [(9, [2, 0], [3]), (9, [2, 0], [8]), (9, [1, 0], [2]), (101, [0, 2], [3])], [], [], [(20, [3, 0, 1], [50, 3, 0, 1002, 1003, 1008, 2, 6, 1, 2, 1, 0, 0, 0, 2, 7, 1, 3, 2, 1, 2, 1, 2, 1, 3, 2, 1, 3, 2, 1, 8])], [], [])
theorem oo_Re_fail_0 {kA : Nat → ClassId} : or_ok PRD kA GG o_Re_fail_0 := by
  refine or_mk fun A ta ws vs hD hth hl => ?_
  intro t0 r0 t1 k1 t2 k2 t3 k3 f0 f1 f2 ta1 w1 le1 s1
  replace f0 := shm_137 f0
  replace f1 := shm_293 f1
  replace f2 := shm_120 f2
  have s1 : (∀ b j, w_el ws b j = w_el w1 b j) ∧ ∀ b j, w_fd ws b j = if b = v_ad (n_v vs 0) ∧ j = 3 then n_v vs 2 else w_fd w1 b j := s1.2
  have g0 : v_iv (n_v vs 2) = w_fi ws (n_v vs 0) 3 := congrArg v_iv f0
  have g1 : v_iv (n_v vs 2) = w_fi ws (n_v vs 0) 8 := congrArg v_iv f1
  have g2 : v_iv (n_v vs 1) = w_fi ws (n_v vs 0) 2 := congrArg v_iv f2
  have fe_0_2_1 : w_fi ws (n_v vs 0) 2 = w_fi w1 (n_v vs 0) 2 := by show v_iv (w_fd _ _ _) = v_iv (w_fd _ _ _); rw [s1.2, if_neg (fun e => absurd e.2 (by decide))]
  have fe_0_8_1 : w_fi ws (n_v vs 0) 8 = w_fi w1 (n_v vs 0) 8 := by show v_iv (w_fd _ _ _) = v_iv (w_fd _ _ _); rw [s1.2, if_neg (fun e => absurd e.2 (by decide))]
  have kz_0_2 := fdq_97 hD hth r0
  have kz_0_3 := fdq_98 hD hth r0
  have kz_0_8 := fdq_99 hD hth r0
  have nf0 : fc_1 PRD (20, [3, 0, 1], [50, 3, 0, 1002, 1003, 1008, 2, 6, 1, 2, 1, 0, 0, 0, 2, 7, 1, 3, 2, 1, 2, 1, 2, 1, 3, 2, 1, 3, 2, 1, 8]) ws (vs) := ⟨nf_in hl rfl, sgq_451 (vc_Re_fail_0_0 (v_iv (n_v vs 1)) (v_iv (n_v vs 2)) (v_iv (n_v vs 3)) (w_fi ws (n_v vs 0) 3) (w_fi ws (n_v vs 0) 8) (w_fi ws (n_v vs 0) 2) (w_fi w1 (n_v vs 0) 2) (w_fi w1 (n_v vs 0) 8) k1 k2 k3 g0 g1 g2 fe_0_2_1 fe_0_8_1 kz_0_2 kz_0_3 kz_0_8)⟩
  refine ⟨(fun _ h => (by cases h)), [], trivial, ?_, (fun _ h => (by cases h))⟩
  rw [List.append_nil]
  exact List.forall_mem_cons.mpr ⟨⟨show (20 : Nat) < 100 from by decide, nf0⟩, (fun _ h => (by cases h))⟩
def n_Re_fail_an : List an_T := []
def t_Re_fail_ct : ct_L := []
set_option maxRecDepth 100000 in
theorem c_Re_fail {l : Launch} {D : va_G} {kA : Nat → ClassId} : ct_ok PRD l D kA GG y_Re_fail z_Re_fail e_Re_fail := chk_all_ok (FT := [(41, 8, 8)]) (PT := [(19, 8, 2, .int), (22, 8, 3, .int)]) (CT := t_Re_fail_ct) (KT := []) (NT := []) (AN := n_Re_fail_an) (OT := [o_Re_fail_0]) 0 200 (List.forall_mem_cons.mpr ⟨oo_Re_fail_0, List.forall_mem_nil _⟩) (by decide +kernel) ⟨List.forall_mem_cons.mpr ⟨gf_Re_41, List.forall_mem_nil _⟩, List.forall_mem_cons.mpr ⟨pf_Re_19, List.forall_mem_cons.mpr ⟨pf_Re_22, List.forall_mem_nil _⟩⟩, List.forall_mem_nil _, List.forall_mem_nil _, List.forall_mem_nil _, GG_pl⟩ (by decide +kernel)
set_option maxHeartbeats 4000000 in
theorem vc_Re_isDigit_0_0 (x0 : Int) (x2 : Int) (k0 : (-128) ≤ x0 ∧ x0 ≤ 47) (k2 : 0 ≤ x2 ∧ x2 ≤ 0) : CDG (x0) (x2) := by
  unfold CDG cIG
  omega
def o_Re_isDigit_0 : or_T := (17, 3, [(0, (0, -128, 47, [])), (2, (0, 0, 0, []))], [], [], [], [(20, [0, 2], [61, 0, 1098])], [], [])
theorem oo_Re_isDigit_0 {kA : Nat → ClassId} : or_ok PRD kA GG o_Re_isDigit_0 := by
  refine or_mk fun A ta ws vs hD hth hl => ?_
  intro t0 k0 t2 k2
  have nf0 : fc_1 PRD (20, [0, 2], [61, 0, 1098]) ws (vs) := ⟨nf_in hl rfl, sgq_452 (vc_Re_isDigit_0_0 (v_iv (n_v vs 0)) (v_iv (n_v vs 2)) k0 k2)⟩
  refine ⟨(fun _ h => (by cases h)), [], trivial, ?_, (fun _ h => (by cases h))⟩
  rw [List.append_nil]
  exact List.forall_mem_cons.mpr ⟨⟨show (20 : Nat) < 100 from by decide, nf0⟩, (fun _ h => (by cases h))⟩
set_option maxHeartbeats 4000000 in
theorem vc_Re_isDigit_1_0 (x0 : Int) (x3 : Int) (k0 : 58 ≤ x0 ∧ x0 ≤ 127) (k3 : 0 ≤ x3 ∧ x3 ≤ 0) : CDG (x0) (x3) := by
  unfold CDG cIG
  omega
def o_Re_isDigit_1 : or_T := (17, 4, [(0, (0, 58, 127, [])), (1, (0, 48, 48, [])), (2, (0, 57, 57, [])), (3, (0, 0, 0, []))], [(7, [0, 2], [4]), (7, [0, 1], [3])], [], [], [(20, [0, 3], [61, 0, 1098])], [], [])
theorem oo_Re_isDigit_1 {kA : Nat → ClassId} : or_ok PRD kA GG o_Re_isDigit_1 := by
  refine or_mk fun A ta ws vs hD hth hl => ?_
  intro t0 k0 t1 k1 t2 k2 t3 k3 f0 f1
  have nf0 : fc_1 PRD (20, [0, 3], [61, 0, 1098]) ws (vs) := ⟨nf_in hl rfl, sgq_452 (vc_Re_isDigit_1_0 (v_iv (n_v vs 0)) (v_iv (n_v vs 3)) k0 k3)⟩
  refine ⟨(fun _ h => (by cases h)), [], trivial, ?_, (fun _ h => (by cases h))⟩
  rw [List.append_nil]
  exact List.forall_mem_cons.mpr ⟨⟨show (20 : Nat) < 100 from by decide, nf0⟩, (fun _ h => (by cases h))⟩
set_option maxHeartbeats 4000000 in
theorem vc_Re_isDigit_2_0 (x0 : Int) (x3 : Int) (k0 : 48 ≤ x0 ∧ x0 ≤ 57) (k3 : 1 ≤ x3 ∧ x3 ≤ 1) : CDG (x0) (x3) := by
  unfold CDG cIG
  omega
def o_Re_isDigit_2 : or_T := (17, 4, [(0, (0, 48, 57, [])), (1, (0, 48, 48, [])), (2, (0, 57, 57, [])), (3, (0, 1, 1, []))], [(7, [0, 2], [5]), (7, [0, 1], [3])], [], [], [(20, [0, 3], [61, 0, 1098])], [], [])
theorem oo_Re_isDigit_2 {kA : Nat → ClassId} : or_ok PRD kA GG o_Re_isDigit_2 := by
  refine or_mk fun A ta ws vs hD hth hl => ?_
  intro t0 k0 t1 k1 t2 k2 t3 k3 f0 f1
  have nf0 : fc_1 PRD (20, [0, 3], [61, 0, 1098]) ws (vs) := ⟨nf_in hl rfl, sgq_452 (vc_Re_isDigit_2_0 (v_iv (n_v vs 0)) (v_iv (n_v vs 3)) k0 k3)⟩
  refine ⟨(fun _ h => (by cases h)), [], trivial, ?_, (fun _ h => (by cases h))⟩
  rw [List.append_nil]
  exact List.forall_mem_cons.mpr ⟨⟨show (20 : Nat) < 100 from by decide, nf0⟩, (fun _ h => (by cases h))⟩
def n_Re_isDigit_an : List an_T := []
def t_Re_isDigit_ct : ct_L := []
set_option maxRecDepth 100000 in
theorem c_Re_isDigit {l : Launch} {D : va_G} {kA : Nat → ClassId} : ct_ok PRD l D kA GG y_Re_isDigit z_Re_isDigit e_Re_isDigit := chk_all_ok (FT := []) (PT := []) (CT := t_Re_isDigit_ct) (KT := []) (NT := []) (AN := n_Re_isDigit_an) (OT := [o_Re_isDigit_0, o_Re_isDigit_1, o_Re_isDigit_2]) 0 200 (List.forall_mem_cons.mpr ⟨oo_Re_isDigit_0, List.forall_mem_cons.mpr ⟨oo_Re_isDigit_1, List.forall_mem_cons.mpr ⟨oo_Re_isDigit_2, List.forall_mem_nil _⟩⟩⟩) (by decide +kernel) ⟨List.forall_mem_nil _, List.forall_mem_nil _, List.forall_mem_nil _, List.forall_mem_nil _, List.forall_mem_nil _, GG_pl⟩ (by decide +kernel)
set_option maxHeartbeats 4000000 in
theorem vc_Re_isLetter_0_0 (x0 : Int) (x3 : Int) (k0 : (-128) ≤ x0 ∧ x0 ≤ 64) (k3 : 0 ≤ x3 ∧ x3 ≤ 0) : CLT (x0) (x3) := by
  unfold CLT cIL
  omega
def o_Re_isLetter_0 : or_T := (29, 4, [(0, (0, -128, 64, [])), (1, (0, 97, 97, [])), (2, (0, 65, 65, [])), (3, (0, 0, 0, []))], [(7, [0, 2], [2]), (7, [0, 1], [2])], [], [], [(20, [0, 3], [61, 0, 1097])], [], [])
theorem oo_Re_isLetter_0 {kA : Nat → ClassId} : or_ok PRD kA GG o_Re_isLetter_0 := by
  refine or_mk fun A ta ws vs hD hth hl => ?_
  intro t0 k0 t1 k1 t2 k2 t3 k3 f0 f1
  have nf0 : fc_1 PRD (20, [0, 3], [61, 0, 1097]) ws (vs) := ⟨nf_in hl rfl, sgq_453 (vc_Re_isLetter_0_0 (v_iv (n_v vs 0)) (v_iv (n_v vs 3)) k0 k3)⟩
  refine ⟨(fun _ h => (by cases h)), [], trivial, ?_, (fun _ h => (by cases h))⟩
  rw [List.append_nil]
  exact List.forall_mem_cons.mpr ⟨⟨show (20 : Nat) < 100 from by decide, nf0⟩, (fun _ h => (by cases h))⟩
set_option maxHeartbeats 4000000 in
theorem vc_Re_isLetter_1_0 (x0 : Int) (x4 : Int) (k0 : 91 ≤ x0 ∧ x0 ≤ 96) (k4 : 0 ≤ x4 ∧ x4 ≤ 0) : CLT (x0) (x4) := by
  unfold CLT cIL
  omega
def o_Re_isLetter_1 : or_T := (29, 5, [(0, (0, 91, 96, [])), (1, (0, 97, 97, [])), (2, (0, 65, 65, [])), (3, (0, 90, 90, [])), (4, (0, 0, 0, []))], [(7, [0, 3], [4]), (7, [0, 2], [3]), (7, [0, 1], [2])], [], [], [(20, [0, 4], [61, 0, 1097])], [], [])
theorem oo_Re_isLetter_1 {kA : Nat → ClassId} : or_ok PRD kA GG o_Re_isLetter_1 := by
  refine or_mk fun A ta ws vs hD hth hl => ?_
  intro t0 k0 t1 k1 t2 k2 t3 k3 t4 k4 f0 f1 f2
  have nf0 : fc_1 PRD (20, [0, 4], [61, 0, 1097]) ws (vs) := ⟨nf_in hl rfl, sgq_453 (vc_Re_isLetter_1_0 (v_iv (n_v vs 0)) (v_iv (n_v vs 4)) k0 k4)⟩
  refine ⟨(fun _ h => (by cases h)), [], trivial, ?_, (fun _ h => (by cases h))⟩
  rw [List.append_nil]
  exact List.forall_mem_cons.mpr ⟨⟨show (20 : Nat) < 100 from by decide, nf0⟩, (fun _ h => (by cases h))⟩
set_option maxHeartbeats 4000000 in
theorem vc_Re_isLetter_2_0 (x0 : Int) (x4 : Int) (k0 : 65 ≤ x0 ∧ x0 ≤ 90) (k4 : 1 ≤ x4 ∧ x4 ≤ 1) : CLT (x0) (x4) := by
  unfold CLT cIL
  omega
def o_Re_isLetter_2 : or_T := (29, 5, [(0, (0, 65, 90, [])), (1, (0, 97, 97, [])), (2, (0, 65, 65, [])), (3, (0, 90, 90, [])), (4, (0, 1, 1, []))], [(7, [0, 3], [5]), (7, [0, 2], [3]), (7, [0, 1], [2])], [], [], [(20, [0, 4], [61, 0, 1097])], [], [])
theorem oo_Re_isLetter_2 {kA : Nat → ClassId} : or_ok PRD kA GG o_Re_isLetter_2 := by
  refine or_mk fun A ta ws vs hD hth hl => ?_
  intro t0 k0 t1 k1 t2 k2 t3 k3 t4 k4 f0 f1 f2
  have nf0 : fc_1 PRD (20, [0, 4], [61, 0, 1097]) ws (vs) := ⟨nf_in hl rfl, sgq_453 (vc_Re_isLetter_2_0 (v_iv (n_v vs 0)) (v_iv (n_v vs 4)) k0 k4)⟩
  refine ⟨(fun _ h => (by cases h)), [], trivial, ?_, (fun _ h => (by cases h))⟩
  rw [List.append_nil]
  exact List.forall_mem_cons.mpr ⟨⟨show (20 : Nat) < 100 from by decide, nf0⟩, (fun _ h => (by cases h))⟩
set_option maxHeartbeats 4000000 in
theorem vc_Re_isLetter_3_0 (x0 : Int) (x3 : Int) (k0 : 97 ≤ x0 ∧ x0 ≤ 122) (k3 : 1 ≤ x3 ∧ x3 ≤ 1) : CLT (x0) (x3) := by
  unfold CLT cIL
  omega
def o_Re_isLetter_3 : or_T := (29, 4, [(0, (0, 97, 122, [])), (1, (0, 97, 97, [])), (2, (0, 122, 122, [])), (3, (0, 1, 1, []))], [(7, [0, 2], [5]), (7, [0, 1], [3])], [], [], [(20, [0, 3], [61, 0, 1097])], [], [])
theorem oo_Re_isLetter_3 {kA : Nat → ClassId} : or_ok PRD kA GG o_Re_isLetter_3 := by
  refine or_mk fun A ta ws vs hD hth hl => ?_
  intro t0 k0 t1 k1 t2 k2 t3 k3 f0 f1
  have nf0 : fc_1 PRD (20, [0, 3], [61, 0, 1097]) ws (vs) := ⟨nf_in hl rfl, sgq_453 (vc_Re_isLetter_3_0 (v_iv (n_v vs 0)) (v_iv (n_v vs 3)) k0 k3)⟩
  refine ⟨(fun _ h => (by cases h)), [], trivial, ?_, (fun _ h => (by cases h))⟩
  rw [List.append_nil]
  exact List.forall_mem_cons.mpr ⟨⟨show (20 : Nat) < 100 from by decide, nf0⟩, (fun _ h => (by cases h))⟩
set_option maxHeartbeats 4000000 in
theorem vc_Re_isLetter_4_0 (x0 : Int) (x5 : Int) (k0 : 123 ≤ x0 ∧ x0 ≤ 127) (k5 : 0 ≤ x5 ∧ x5 ≤ 0) : CLT (x0) (x5) := by
  unfold CLT cIL
  omega
def o_Re_isLetter_4 : or_T := (29, 6, [(0, (0, 123, 127, [])), (5, (0, 0, 0, []))], [], [], [], [(20, [0, 5], [61, 0, 1097])], [], [])
theorem oo_Re_isLetter_4 {kA : Nat → ClassId} : or_ok PRD kA GG o_Re_isLetter_4 := by
  refine or_mk fun A ta ws vs hD hth hl => ?_
  intro t0 k0 t5 k5
  have nf0 : fc_1 PRD (20, [0, 5], [61, 0, 1097]) ws (vs) := ⟨nf_in hl rfl, sgq_453 (vc_Re_isLetter_4_0 (v_iv (n_v vs 0)) (v_iv (n_v vs 5)) k0 k5)⟩
  refine ⟨(fun _ h => (by cases h)), [], trivial, ?_, (fun _ h => (by cases h))⟩
  rw [List.append_nil]
  exact List.forall_mem_cons.mpr ⟨⟨show (20 : Nat) < 100 from by decide, nf0⟩, (fun _ h => (by cases h))⟩
def n_Re_isLetter_an : List an_T := []
def t_Re_isLetter_ct : ct_L := []
set_option maxRecDepth 100000 in
theorem c_Re_isLetter {l : Launch} {D : va_G} {kA : Nat → ClassId} : ct_ok PRD l D kA GG y_Re_isLetter z_Re_isLetter e_Re_isLetter := chk_all_ok (FT := []) (PT := []) (CT := t_Re_isLetter_ct) (KT := []) (NT := []) (AN := n_Re_isLetter_an) (OT := [o_Re_isLetter_0, o_Re_isLetter_1, o_Re_isLetter_2, o_Re_isLetter_3, o_Re_isLetter_4]) 0 200 (List.forall_mem_cons.mpr ⟨oo_Re_isLetter_0, List.forall_mem_cons.mpr ⟨oo_Re_isLetter_1, List.forall_mem_cons.mpr ⟨oo_Re_isLetter_2, List.forall_mem_cons.mpr ⟨oo_Re_isLetter_3, List.forall_mem_cons.mpr ⟨oo_Re_isLetter_4, List.forall_mem_nil _⟩⟩⟩⟩⟩) (by decide +kernel) ⟨List.forall_mem_nil _, List.forall_mem_nil _, List.forall_mem_nil _, List.forall_mem_nil _, List.forall_mem_nil _, GG_pl⟩ (by decide +kernel)
set_option maxHeartbeats 4000000 in
theorem vc_Re_isSign_0_0 (x0 : Int) (x2 : Int) (k0 : 123 ≤ x0 ∧ x0 ≤ 123) (k2 : 1 ≤ x2 ∧ x2 ≤ 1) : CSG (x0) (x2) := by
  unfold CSG ZSG
  omega
def o_Re_isSign_0 : or_T := (53, 3, [(0, (0, 123, 123, [])), (2, (0, 1, 1, []))], [], [], [], [(20, [0, 2], [61, 0, 1100])], [], [])
theorem oo_Re_isSign_0 {kA : Nat → ClassId} : or_ok PRD kA GG o_Re_isSign_0 := by
  refine or_mk fun A ta ws vs hD hth hl => ?_
  intro t0 k0 t2 k2
  have nf0 : fc_1 PRD (20, [0, 2], [61, 0, 1100]) ws (vs) := ⟨nf_in hl rfl, sgq_454 (vc_Re_isSign_0_0 (v_iv (n_v vs 0)) (v_iv (n_v vs 2)) k0 k2)⟩
  refine ⟨(fun _ h => (by cases h)), [], trivial, ?_, (fun _ h => (by cases h))⟩
  rw [List.append_nil]
  exact List.forall_mem_cons.mpr ⟨⟨show (20 : Nat) < 100 from by decide, nf0⟩, (fun _ h => (by cases h))⟩
set_option maxHeartbeats 4000000 in
theorem vc_Re_isSign_1_0 (x0 : Int) (x3 : Int) (k0 : 125 ≤ x0 ∧ x0 ≤ 125) (k3 : 1 ≤ x3 ∧ x3 ≤ 1) : CSG (x0) (x3) := by
  unfold CSG ZSG
  omega
def o_Re_isSign_1 : or_T := (53, 4, [(0, (0, 125, 125, [])), (3, (0, 1, 1, []))], [], [], [], [(20, [0, 3], [61, 0, 1100])], [], [])
theorem oo_Re_isSign_1 {kA : Nat → ClassId} : or_ok PRD kA GG o_Re_isSign_1 := by
  refine or_mk fun A ta ws vs hD hth hl => ?_
  intro t0 k0 t3 k3
  have nf0 : fc_1 PRD (20, [0, 3], [61, 0, 1100]) ws (vs) := ⟨nf_in hl rfl, sgq_454 (vc_Re_isSign_1_0 (v_iv (n_v vs 0)) (v_iv (n_v vs 3)) k0 k3)⟩
  refine ⟨(fun _ h => (by cases h)), [], trivial, ?_, (fun _ h => (by cases h))⟩
  rw [List.append_nil]
  exact List.forall_mem_cons.mpr ⟨⟨show (20 : Nat) < 100 from by decide, nf0⟩, (fun _ h => (by cases h))⟩
set_option maxHeartbeats 4000000 in
theorem vc_Re_isSign_2_0 (x0 : Int) (x4 : Int) (k0 : 91 ≤ x0 ∧ x0 ≤ 91) (k4 : 1 ≤ x4 ∧ x4 ≤ 1) : CSG (x0) (x4) := by
  unfold CSG ZSG
  omega
def o_Re_isSign_2 : or_T := (53, 5, [(0, (0, 91, 91, [])), (4, (0, 1, 1, []))], [], [], [], [(20, [0, 4], [61, 0, 1100])], [], [])
theorem oo_Re_isSign_2 {kA : Nat → ClassId} : or_ok PRD kA GG o_Re_isSign_2 := by
  refine or_mk fun A ta ws vs hD hth hl => ?_
  intro t0 k0 t4 k4
  have nf0 : fc_1 PRD (20, [0, 4], [61, 0, 1100]) ws (vs) := ⟨nf_in hl rfl, sgq_454 (vc_Re_isSign_2_0 (v_iv (n_v vs 0)) (v_iv (n_v vs 4)) k0 k4)⟩
  refine ⟨(fun _ h => (by cases h)), [], trivial, ?_, (fun _ h => (by cases h))⟩
  rw [List.append_nil]
  exact List.forall_mem_cons.mpr ⟨⟨show (20 : Nat) < 100 from by decide, nf0⟩, (fun _ h => (by cases h))⟩
set_option maxHeartbeats 4000000 in
theorem vc_Re_isSign_3_0 (x0 : Int) (x5 : Int) (k0 : 93 ≤ x0 ∧ x0 ≤ 93) (k5 : 1 ≤ x5 ∧ x5 ≤ 1) : CSG (x0) (x5) := by
  unfold CSG ZSG
  omega
def o_Re_isSign_3 : or_T := (53, 6, [(0, (0, 93, 93, [])), (5, (0, 1, 1, []))], [], [], [], [(20, [0, 5], [61, 0, 1100])], [], [])
theorem oo_Re_isSign_3 {kA : Nat → ClassId} : or_ok PRD kA GG o_Re_isSign_3 := by
  refine or_mk fun A ta ws vs hD hth hl => ?_
  intro t0 k0 t5 k5
  have nf0 : fc_1 PRD (20, [0, 5], [61, 0, 1100]) ws (vs) := ⟨nf_in hl rfl, sgq_454 (vc_Re_isSign_3_0 (v_iv (n_v vs 0)) (v_iv (n_v vs 5)) k0 k5)⟩
  refine ⟨(fun _ h => (by cases h)), [], trivial, ?_, (fun _ h => (by cases h))⟩
  rw [List.append_nil]
  exact List.forall_mem_cons.mpr ⟨⟨show (20 : Nat) < 100 from by decide, nf0⟩, (fun _ h => (by cases h))⟩
set_option maxHeartbeats 4000000 in
theorem vc_Re_isSign_4_0 (x0 : Int) (x6 : Int) (k0 : 59 ≤ x0 ∧ x0 ≤ 59) (k6 : 1 ≤ x6 ∧ x6 ≤ 1) : CSG (x0) (x6) := by
  unfold CSG ZSG
  omega
def o_Re_isSign_4 : or_T := (53, 7, [(0, (0, 59, 59, [])), (6, (0, 1, 1, []))], [], [], [], [(20, [0, 6], [61, 0, 1100])], [], [])
theorem oo_Re_isSign_4 {kA : Nat → ClassId} : or_ok PRD kA GG o_Re_isSign_4 := by
  refine or_mk fun A ta ws vs hD hth hl => ?_
  intro t0 k0 t6 k6
  have nf0 : fc_1 PRD (20, [0, 6], [61, 0, 1100]) ws (vs) := ⟨nf_in hl rfl, sgq_454 (vc_Re_isSign_4_0 (v_iv (n_v vs 0)) (v_iv (n_v vs 6)) k0 k6)⟩
  refine ⟨(fun _ h => (by cases h)), [], trivial, ?_, (fun _ h => (by cases h))⟩
  rw [List.append_nil]
  exact List.forall_mem_cons.mpr ⟨⟨show (20 : Nat) < 100 from by decide, nf0⟩, (fun _ h => (by cases h))⟩
set_option maxHeartbeats 4000000 in
theorem vc_Re_isSign_5_0 (x0 : Int) (x7 : Int) (k0 : 61 ≤ x0 ∧ x0 ≤ 61) (k7 : 1 ≤ x7 ∧ x7 ≤ 1) : CSG (x0) (x7) := by
  unfold CSG ZSG
  omega
def o_Re_isSign_5 : or_T := (53, 8, [(0, (0, 61, 61, [])), (7, (0, 1, 1, []))], [], [], [], [(20, [0, 7], [61, 0, 1100])], [], [])
theorem oo_Re_isSign_5 {kA : Nat → ClassId} : or_ok PRD kA GG o_Re_isSign_5 := by
  refine or_mk fun A ta ws vs hD hth hl => ?_
  intro t0 k0 t7 k7
  have nf0 : fc_1 PRD (20, [0, 7], [61, 0, 1100]) ws (vs) := ⟨nf_in hl rfl, sgq_454 (vc_Re_isSign_5_0 (v_iv (n_v vs 0)) (v_iv (n_v vs 7)) k0 k7)⟩
  refine ⟨(fun _ h => (by cases h)), [], trivial, ?_, (fun _ h => (by cases h))⟩
  rw [List.append_nil]
  exact List.forall_mem_cons.mpr ⟨⟨show (20 : Nat) < 100 from by decide, nf0⟩, (fun _ h => (by cases h))⟩
set_option maxHeartbeats 4000000 in
theorem vc_Re_isSign_6_0 (x0 : Int) (x8 : Int) (k0 : 45 ≤ x0 ∧ x0 ≤ 45) (k8 : 1 ≤ x8 ∧ x8 ≤ 1) : CSG (x0) (x8) := by
  unfold CSG ZSG
  omega
def o_Re_isSign_6 : or_T := (53, 9, [(0, (0, 45, 45, [])), (8, (0, 1, 1, []))], [], [], [], [(20, [0, 8], [61, 0, 1100])], [], [])
theorem oo_Re_isSign_6 {kA : Nat → ClassId} : or_ok PRD kA GG o_Re_isSign_6 := by
  refine or_mk fun A ta ws vs hD hth hl => ?_
  intro t0 k0 t8 k8
  have nf0 : fc_1 PRD (20, [0, 8], [61, 0, 1100]) ws (vs) := ⟨nf_in hl rfl, sgq_454 (vc_Re_isSign_6_0 (v_iv (n_v vs 0)) (v_iv (n_v vs 8)) k0 k8)⟩
  refine ⟨(fun _ h => (by cases h)), [], trivial, ?_, (fun _ h => (by cases h))⟩
  rw [List.append_nil]
  exact List.forall_mem_cons.mpr ⟨⟨show (20 : Nat) < 100 from by decide, nf0⟩, (fun _ h => (by cases h))⟩
set_option maxHeartbeats 4000000 in
theorem vc_Re_isSign_7_0 (x0 : Int) (x1 : Int) (x2 : Int) (x3 : Int) (x4 : Int) (x5 : Int) (x6 : Int) (x7 : Int) (x8 : Int) (x9 : Int) (k0 : (-128) ≤ x0 ∧ x0 ≤ 127) (k1 : 123 ≤ x1 ∧ x1 ≤ 123) (k2 : 125 ≤ x2 ∧ x2 ≤ 125) (k3 : 91 ≤ x3 ∧ x3 ≤ 91) (k4 : 93 ≤ x4 ∧ x4 ≤ 93) (k5 : 59 ≤ x5 ∧ x5 ≤ 59) (k6 : 61 ≤ x6 ∧ x6 ≤ 61) (k7 : 45 ≤ x7 ∧ x7 ≤ 45) (k8 : 62 ≤ x8 ∧ x8 ≤ 62) (k9 : 0 ≤ x9 ∧ x9 ≤ 0) (f0 : x0 ≠ x8) (f1 : x0 ≠ x7) (f2 : x0 ≠ x6) (f3 : x0 ≠ x5) (f4 : x0 ≠ x4) (f5 : x0 ≠ x3) (f6 : x0 ≠ x2) (f7 : x0 ≠ x1) : CSG (x0) (x9) := by
  unfold CSG ZSG
  omega
def o_Re_isSign_7 : or_T := (53, 10, [(0, (0, -128, 127, [])), (1, (0, 123, 123, [])), (2, (0, 125, 125, [])), (3, (0, 91, 91, [])), (4, (0, 93, 93, [])), (5, (0, 59, 59, [])), (6, (0, 61, 61, [])), (7, (0, 45, 45, [])), (8, (0, 62, 62, [])), (9, (0, 0, 0, []))], [(7, [0, 8], [1]), (7, [0, 7], [1]), (7, [0, 6], [1]), (7, [0, 5], [1]), (7, [0, 4], [1]), (7, [0, 3], [1]), (7, [0, 2], [1]), (7, [0, 1], [1])], [], [], [(20, [0, 9], [61, 0, 1100])], [], [])
theorem oo_Re_isSign_7 {kA : Nat → ClassId} : or_ok PRD kA GG o_Re_isSign_7 := by
  refine or_mk fun A ta ws vs hD hth hl => ?_
  intro t0 k0 t1 k1 t2 k2 t3 k3 t4 k4 t5 k5 t6 k6 t7 k7 t8 k8 t9 k9 f0 f1 f2 f3 f4 f5 f6 f7
  have nf0 : fc_1 PRD (20, [0, 9], [61, 0, 1100]) ws (vs) := ⟨nf_in hl rfl, sgq_454 (vc_Re_isSign_7_0 (v_iv (n_v vs 0)) (v_iv (n_v vs 1)) (v_iv (n_v vs 2)) (v_iv (n_v vs 3)) (v_iv (n_v vs 4)) (v_iv (n_v vs 5)) (v_iv (n_v vs 6)) (v_iv (n_v vs 7)) (v_iv (n_v vs 8)) (v_iv (n_v vs 9)) k0 k1 k2 k3 k4 k5 k6 k7 k8 k9 (shm_40 f0) (shm_40 f1) (shm_40 f2) (shm_40 f3) (shm_40 f4) (shm_40 f5) (shm_40 f6) (shm_40 f7))⟩
  refine ⟨(fun _ h => (by cases h)), [], trivial, ?_, (fun _ h => (by cases h))⟩
  rw [List.append_nil]
  exact List.forall_mem_cons.mpr ⟨⟨show (20 : Nat) < 100 from by decide, nf0⟩, (fun _ h => (by cases h))⟩
set_option maxHeartbeats 4000000 in
theorem vc_Re_isSign_8_0 (x0 : Int) (x9 : Int) (k0 : 62 ≤ x0 ∧ x0 ≤ 62) (k9 : 1 ≤ x9 ∧ x9 ≤ 1) : CSG (x0) (x9) := by
  unfold CSG ZSG
  omega
def o_Re_isSign_8 : or_T := (53, 10, [(0, (0, 62, 62, [])), (1, (0, 123, 123, [])), (2, (0, 125, 125, [])), (3, (0, 91, 91, [])), (4, (0, 93, 93, [])), (5, (0, 59, 59, [])), (6, (0, 61, 61, [])), (7, (0, 45, 45, [])), (8, (0, 62, 62, [])), (9, (0, 1, 1, []))], [(7, [0, 8], [0]), (7, [0, 7], [1]), (7, [0, 6], [1]), (7, [0, 5], [1]), (7, [0, 4], [1]), (7, [0, 3], [1]), (7, [0, 2], [1]), (7, [0, 1], [1])], [], [], [(20, [0, 9], [61, 0, 1100])], [], [])
theorem oo_Re_isSign_8 {kA : Nat → ClassId} : or_ok PRD kA GG o_Re_isSign_8 := by
  refine or_mk fun A ta ws vs hD hth hl => ?_
  intro t0 k0 t1 k1 t2 k2 t3 k3 t4 k4 t5 k5 t6 k6 t7 k7 t8 k8 t9 k9 f0 f1 f2 f3 f4 f5 f6 f7
  have nf0 : fc_1 PRD (20, [0, 9], [61, 0, 1100]) ws (vs) := ⟨nf_in hl rfl, sgq_454 (vc_Re_isSign_8_0 (v_iv (n_v vs 0)) (v_iv (n_v vs 9)) k0 k9)⟩
  refine ⟨(fun _ h => (by cases h)), [], trivial, ?_, (fun _ h => (by cases h))⟩
  rw [List.append_nil]
  exact List.forall_mem_cons.mpr ⟨⟨show (20 : Nat) < 100 from by decide, nf0⟩, (fun _ h => (by cases h))⟩
def n_Re_isSign_an : List an_T := []
def t_Re_isSign_ct : ct_L := []
set_option maxRecDepth 100000 in
theorem c_Re_isSign {l : Launch} {D : va_G} {kA : Nat → ClassId} : ct_ok PRD l D kA GG y_Re_isSign z_Re_isSign e_Re_isSign := chk_all_ok (FT := []) (PT := []) (CT := t_Re_isSign_ct) (KT := []) (NT := []) (AN := n_Re_isSign_an) (OT := [o_Re_isSign_0, o_Re_isSign_1, o_Re_isSign_2, o_Re_isSign_3, o_Re_isSign_4, o_Re_isSign_5, o_Re_isSign_6, o_Re_isSign_7, o_Re_isSign_8]) 0 200 (List.forall_mem_cons.mpr ⟨oo_Re_isSign_0, List.forall_mem_cons.mpr ⟨oo_Re_isSign_1, List.forall_mem_cons.mpr ⟨oo_Re_isSign_2, List.forall_mem_cons.mpr ⟨oo_Re_isSign_3, List.forall_mem_cons.mpr ⟨oo_Re_isSign_4, List.forall_mem_cons.mpr ⟨oo_Re_isSign_5, List.forall_mem_cons.mpr ⟨oo_Re_isSign_6, List.forall_mem_cons.mpr ⟨oo_Re_isSign_7, List.forall_mem_cons.mpr ⟨oo_Re_isSign_8, List.forall_mem_nil _⟩⟩⟩⟩⟩⟩⟩⟩⟩) (by decide +kernel) ⟨List.forall_mem_nil _, List.forall_mem_nil _, List.forall_mem_nil _, List.forall_mem_nil _, List.forall_mem_nil _, GG_pl⟩ (by decide +kernel)
set_option maxHeartbeats 4000000 in
theorem vc_Ro_enter_0_0 (x1 : Int) (x3 : Int) (list_0 : Int → Int) (entries_0 : Int) (entryState_0 : Int → Int) (width_0 : Int) (height_0 : Int) (entryNext_0 : Int → Int) (k1 : 0 ≤ x1 ∧ x1 ≤ 23999) (k3 : 0 ≤ x3 ∧ x3 ≤ 48004) (f0 : ∀ j0 : Int, 0 ≤ j0 → j0 < 4 → ((list_0 (j0) + 1) ≤ entries_0)) (f1 : ∀ j0 : Int, 0 ≤ j0 → j0 < entries_0 → ((entryState_0 (j0) + 1) ≤ (4 * (width_0 * height_0)))) (f2 : ∀ j0 : Int, 0 ≤ j0 → j0 < entries_0 → ((entryNext_0 (j0) + 1) ≤ entries_0)) (f3 : (x1 + 1) ≤ (4 * (width_0 * height_0))) (f4 : 1 * entries_0 + ((-1) * x3 + 0) ≤ 0) (f5 : (-1) * entries_0 + (1 * x3 + 0) ≤ 0) (hK_0_11 : ∀ j : Int, 0 ≤ j → j < 4 → (-1) ≤ list_0 j ∧ list_0 j ≤ 48003) (hK_0_12 : ∀ j : Int, 0 ≤ j → j < 48004 → 0 ≤ entryState_0 j ∧ entryState_0 j ≤ 23999) (hK_0_13 : ∀ j : Int, 0 ≤ j → j < 48004 → (-1) ≤ entryNext_0 j ∧ entryNext_0 j ≤ 48003) (kz_0_4 : (-2147483648) ≤ width_0 ∧ width_0 ≤ 2147483647) (kz_0_5 : (-2147483648) ≤ height_0 ∧ height_0 ≤ 2147483647) (kz_0_14 : 0 ≤ entries_0 ∧ entries_0 ≤ 48004) : 1 * x3 + ((-1) * entries_0 + 0) ≤ 0 := by
  first | assumption | (clear f0 f1 f2 hK_0_11 hK_0_12 hK_0_13; omega) | omega | grind
def o_Ro_enter_0 : or_T := (75, 6, [(0, (2, 0, 0, [9])), (1, (0, 0, 23999, [])), (3, (0, 0, 48004, []))], [(20, [0], [50, 1, 1, 14, 11, 5, 2, 0, 4, 0, 9, 4, 5, 3, 0, 11, 7, 0, 0, 1, 2, 0, 14]), (20, [0], [50, 3, 1, 14, 4, 5, 12, 5, 3, 2, 0, 14, 0, 9, 4, 5, 3, 0, 12, 7, 0, 0, 1, 6, 2, 0, 4, 6, 3, 2, 0, 4, 2, 0, 5]), (20, [0], [50, 1, 1, 14, 13, 5, 3, 2, 0, 14, 0, 9, 4, 5, 3, 0, 13, 7, 0, 0, 1, 2, 0, 14]), (20, [1, 0], [50, 2, 0, 1004, 1005, 0, 6, 4, 2, 1, 0, 0, 1, 6, 2, 0, 4, 6, 3, 2, 1, 4, 2, 1, 5]), (20, [0, 3], [30, 0, 1, 1, 14, -1, 0, 0]), (20, [0, 3], [30, 0, -1, 1, 14, 1, 0, 0])], [], [], [(20, [3, 0], [30, 0, 1, 0, 0, -1, 1, 14])], [], [])
set_option maxHeartbeats 8000000 in
theorem oo_Ro_enter_0 {kA : Nat → ClassId} : or_ok PRD kA GG o_Ro_enter_0 := by
  refine or_mk fun A ta ws vs hD hth hl => ?_
  intro t0 r0 t1 k1 t3 k3 f0 f1 f2 f3 f4 f5
  have cr_0_11 := fdq_100 hD hth r0
  have cr_0_12 := fdq_101 hD hth r0
  have cr_0_13 := fdq_102 hD hth r0
  have hK_0_11 := elq_50 hD hth cr_0_11
  have hK_0_12 := elq_51 hD hth cr_0_12
  have hK_0_13 := elq_52 hD hth cr_0_13
  have kz_0_4 := fdq_103 hD hth r0
  have kz_0_5 := fdq_104 hD hth r0
  have kz_0_14 := fdq_105 hD hth r0
  have nf0 : fc_1 PRD (20, [3, 0], [30, 0, 1, 0, 0, -1, 1, 14]) ws (vs) := ⟨nf_in hl rfl, sgq_461 (vc_Ro_enter_0_0 (v_iv (n_v vs 1)) (v_iv (n_v vs 3)) (w_ei ws (w_ar ws (n_v vs 0) 11)) (w_fi ws (n_v vs 0) 14) (w_ei ws (w_ar ws (n_v vs 0) 12)) (w_fi ws (n_v vs 0) 4) (w_fi ws (n_v vs 0) 5) (w_ei ws (w_ar ws (n_v vs 0) 13)) k1 k3 (shm_455 f0) (shm_456 f1) (shm_457 f2) (shm_458 f3) (shm_459 f4) (shm_460 f5) hK_0_11 hK_0_12 hK_0_13 kz_0_4 kz_0_5 kz_0_14)⟩
  refine ⟨(fun _ h => (by cases h)), [], trivial, ?_, (fun _ h => (by cases h))⟩
  rw [List.append_nil]
  exact List.forall_mem_cons.mpr ⟨⟨show (20 : Nat) < 100 from by decide, nf0⟩, (fun _ h => (by cases h))⟩
set_option maxHeartbeats 4000000 in
theorem vc_Ro_enter_1_0 (x1 : Int) (x3 : Int) (x6 : Int) (x7 : Int) (entries_0 : Int) (list_0 : Int → Int) (entryState_0 : Int → Int) (width_0 : Int) (height_0 : Int) (entryNext_0 : Int → Int) (k1 : 0 ≤ x1 ∧ x1 ≤ 23999) (k3 : 0 ≤ x3 ∧ x3 ≤ 48004) (k6 : 48004 ≤ x6 ∧ x6 ≤ 48004) (k7 : 48004 ≤ x7 ∧ x7 ≤ 48004) (f0 : x7 ≤ x6) (g1 : x6 = entries_0) (f2 : ∀ j0 : Int, 0 ≤ j0 → j0 < 4 → ((list_0 (j0) + 1) ≤ entries_0)) (f3 : ∀ j0 : Int, 0 ≤ j0 → j0 < entries_0 → ((entryState_0 (j0) + 1) ≤ (4 * (width_0 * height_0)))) (f4 : ∀ j0 : Int, 0 ≤ j0 → j0 < entries_0 → ((entryNext_0 (j0) + 1) ≤ entries_0)) (f5 : (x1 + 1) ≤ (4 * (width_0 * height_0))) (f6 : 1 * entries_0 + ((-1) * x3 + 0) ≤ 0) (f7 : (-1) * entries_0 + (1 * x3 + 0) ≤ 0) (hK_0_11 : ∀ j : Int, 0 ≤ j → j < 4 → (-1) ≤ list_0 j ∧ list_0 j ≤ 48003) (hK_0_12 : ∀ j : Int, 0 ≤ j → j < 48004 → 0 ≤ entryState_0 j ∧ entryState_0 j ≤ 23999) (hK_0_13 : ∀ j : Int, 0 ≤ j → j < 48004 → (-1) ≤ entryNext_0 j ∧ entryNext_0 j ≤ 48003) (kz_0_4 : (-2147483648) ≤ width_0 ∧ width_0 ≤ 2147483647) (kz_0_5 : (-2147483648) ≤ height_0 ∧ height_0 ≤ 2147483647) (kz_0_14 : 0 ≤ entries_0 ∧ entries_0 ≤ 48004) : 1 * x3 + ((-1) * entries_0 + 0) ≤ 0 := by
  first | assumption | (clear f2 f3 f4 hK_0_11 hK_0_12 hK_0_13; omega) | omega | grind
def o_Ro_enter_1 : or_T := (75, 8, [(0, (2, 0, 0, [9])), (1, (0, 0, 23999, [])), (3, (0, 0, 48004, [])), (6, (0, 48004, 48004, [])), (7, (0, 48004, 48004, []))], [(7, [6, 7], [3]), (9, [6, 0], [14]), (20, [0], [50, 1, 1, 14, 11, 5, 2, 0, 4, 0, 9, 4, 5, 3, 0, 11, 7, 0, 0, 1, 2, 0, 14]), (20, [0], [50, 3, 1, 14, 4, 5, 12, 5, 3, 2, 0, 14, 0, 9, 4, 5, 3, 0, 12, 7, 0, 0, 1, 6, 2, 0, 4, 6, 3, 2, 0, 4, 2, 0, 5]), (20, [0], [50, 1, 1, 14, 13, 5, 3, 2, 0, 14, 0, 9, 4, 5, 3, 0, 13, 7, 0, 0, 1, 2, 0, 14]), (20, [1, 0], [50, 2, 0, 1004, 1005, 0, 6, 4, 2, 1, 0, 0, 1, 6, 2, 0, 4, 6, 3, 2, 1, 4, 2, 1, 5]), (20, [0, 3], [30, 0, 1, 1, 14, -1, 0, 0]), (20, [0, 3], [30, 0, -1, 1, 14, 1, 0, 0])], [], [], [(20, [3, 0], [30, 0, 1, 0, 0, -1, 1, 14])], [], [])
set_option maxHeartbeats 8000000 in
theorem oo_Ro_enter_1 {kA : Nat → ClassId} : or_ok PRD kA GG o_Ro_enter_1 := by
  refine or_mk fun A ta ws vs hD hth hl => ?_
  intro t0 r0 t1 k1 t3 k3 t6 k6 t7 k7 f0 f1 f2 f3 f4 f5 f6 f7
  replace f1 := shm_115 f1
  have cr_0_11 := fdq_100 hD hth r0
  have cr_0_12 := fdq_101 hD hth r0
  have cr_0_13 := fdq_102 hD hth r0
  have g1 : v_iv (n_v vs 6) = w_fi ws (n_v vs 0) 14 := congrArg v_iv f1
  have hK_0_11 := elq_50 hD hth cr_0_11
  have hK_0_12 := elq_51 hD hth cr_0_12
  have hK_0_13 := elq_52 hD hth cr_0_13
  have kz_0_4 := fdq_103 hD hth r0
  have kz_0_5 := fdq_104 hD hth r0
  have kz_0_14 := fdq_105 hD hth r0
  have nf0 : fc_1 PRD (20, [3, 0], [30, 0, 1, 0, 0, -1, 1, 14]) ws (vs) := ⟨nf_in hl rfl, sgq_461 (vc_Ro_enter_1_0 (v_iv (n_v vs 1)) (v_iv (n_v vs 3)) (v_iv (n_v vs 6)) (v_iv (n_v vs 7)) (w_fi ws (n_v vs 0) 14) (w_ei ws (w_ar ws (n_v vs 0) 11)) (w_ei ws (w_ar ws (n_v vs 0) 12)) (w_fi ws (n_v vs 0) 4) (w_fi ws (n_v vs 0) 5) (w_ei ws (w_ar ws (n_v vs 0) 13)) k1 k3 k6 k7 (shm_2 f0) g1 (shm_455 f2) (shm_456 f3) (shm_457 f4) (shm_458 f5) (shm_459 f6) (shm_460 f7) hK_0_11 hK_0_12 hK_0_13 kz_0_4 kz_0_5 kz_0_14)⟩
  refine ⟨(fun _ h => (by cases h)), [], trivial, ?_, (fun _ h => (by cases h))⟩
  rw [List.append_nil]
  exact List.forall_mem_cons.mpr ⟨⟨show (20 : Nat) < 100 from by decide, nf0⟩, (fun _ h => (by cases h))⟩
def o_Ro_enter_2 : or_T := (36, 9, [(0, (2, 0, 0, [9])), (1, (0, 0, 23999, [])), (3, (0, 0, 48004, [])), (6, (0, 0, 48003, [])), (8, (2, 0, 0, [114]))], [(20, [0], [50, 1, 1, 14, 11, 5, 2, 0, 4, 0, 9, 4, 5, 3, 0, 11, 7, 0, 0, 1, 2, 0, 14]), (20, [0], [50, 1, 1, 14, 13, 5, 3, 2, 0, 14, 0, 9, 4, 5, 3, 0, 13, 7, 0, 0, 1, 2, 0, 14]), (20, [1, 0], [50, 2, 0, 1004, 1005, 0, 6, 4, 2, 1, 0, 0, 1, 6, 2, 0, 4, 6, 3, 2, 1, 4, 2, 1, 5]), (20, [0, 3], [30, 0, 1, 1, 14, -1, 0, 0]), (20, [0, 3], [30, 0, -1, 1, 14, 1, 0, 0]), (100, [8, 6, 1], []), (9, [6, 0], [14]), (9, [8, 0], [12]), (20, [0], [50, 1, 1, 14, 11, 5, 2, 0, 4, 0, 9, 4, 5, 3, 0, 11, 7, 0, 0, 1, 2, 0, 14]), (20, [0], [50, 3, 1, 14, 4, 5, 12, 5, 3, 2, 0, 14, 0, 9, 4, 5, 3, 0, 12, 7, 0, 0, 1, 6, 2, 0, 4, 6, 3, 2, 0, 4, 2, 0, 5]), (20, [0], [50, 1, 1, 14, 13, 5, 3, 2, 0, 14, 0, 9, 4, 5, 3, 0, 13, 7, 0, 0, 1, 2, 0, 14]), (20, [1, 0], [50, 2, 0, 1004, 1005, 0, 6, 4, 2, 1, 0, 0, 1, 6, 2, 0, 4, 6, 3, 2, 1, 4, 2, 1, 5]), (20, [0, 3], [30, 0, 1, 1, 14, -1, 0, 0]), (20, [0, 3], [30, 0, -1, 1, 14, 1, 0, 0])], [], [], [(20, [0], [50, 3, 1, 14, 4, 5, 12, 5, 7, 4, 3, 2, 0, 14, 0, 1, 0, 9, 4, 5, 3, 0, 12, 7, 0, 0, 1, 6, 2, 0, 4, 6, 3, 2, 0, 4, 2, 0, 5])], [], [])
set_option maxHeartbeats 8000000 in
theorem oo_Ro_enter_2 {kA : Nat → ClassId} : or_ok PRD kA GG o_Ro_enter_2 := by
  refine or_mk fun A ta ws vs hD hth hl => ?_
  intro t0 r0 t1 k1 t3 k3 t6 k6 t8 r8 f0 f1 f2 f3 f4 ta1 w1 le1 s1 f6 f7 f8 f9 f10 f11 f12 f13
  replace f0 := shm_455 f0
  replace f1 := shm_457 f1
  replace f2 := shm_458 f2
  replace f3 := shm_459 f3
  replace f4 := shm_460 f4
  have s1 : (∀ b j, w_el ws b j = if b = v_ad (n_v vs 8) ∧ j = (v_iv (n_v vs 6)).toNat then v_iv (n_v vs 1) else w_el w1 b j) ∧ ∀ b k, w_fd ws b k = w_fd w1 b k := s1.2
  replace f6 := shm_115 f6
  replace f7 := shm_103 f7
  replace f8 := shm_455 f8
  replace f9 := shm_456 f9
  replace f10 := shm_457 f10
  replace f11 := shm_458 f11
  replace f12 := shm_459 f12
  replace f13 := shm_460 f13
  have ar_0_11_1 : w_ar w1 (n_v vs 0) 11 = w_ar ws (n_v vs 0) 11 := congrArg v_ad (s1.2 _ _).symm
  have cr_0_11 := fdq_100 hD hth r0
  have ar_0_12_1 : w_ar w1 (n_v vs 0) 12 = w_ar ws (n_v vs 0) 12 := congrArg v_ad (s1.2 _ _).symm
  have cr_0_12 := fdq_101 hD hth r0
  have ar_0_13_1 : w_ar w1 (n_v vs 0) 13 = w_ar ws (n_v vs 0) 13 := congrArg v_ad (s1.2 _ _).symm
  have cr_0_13 := fdq_102 hD hth r0
  have ad_8 : v_ad (n_v vs 8) = w_ar ws (n_v vs 0) 12 := (congrArg v_ad f7).trans ar_0_12_1
  have g6 : v_iv (n_v vs 6) = w_fi w1 (n_v vs 0) 14 := congrArg v_iv f6
  simp only [ar_0_11_1, ar_0_12_1, ar_0_13_1] at f8 f9 f10
  have fe_0_4_1 : w_fi ws (n_v vs 0) 4 = w_fi w1 (n_v vs 0) 4 := congrArg v_iv (s1.2 _ _)
  have fe_0_5_1 : w_fi ws (n_v vs 0) 5 = w_fi w1 (n_v vs 0) 5 := congrArg v_iv (s1.2 _ _)
  have fe_0_14_1 : w_fi ws (n_v vs 0) 14 = w_fi w1 (n_v vs 0) 14 := congrArg v_iv (s1.2 _ _)
  have hE_0_11_1 : ∀ j : Int, w_ei ws (w_ar ws (n_v vs 0) 11) j = w_ei w1 (w_ar ws (n_v vs 0) 11) j := el_kp s1.1 r8 cr_0_11 (by decide)
  have hK_0_11 := elq_50 hD hth cr_0_11
  have hE_0_12_1 : ∀ j : Int, 0 ≤ j → (j = v_iv (n_v vs 6) → w_ei ws (w_ar ws (n_v vs 0) 12) j = v_iv (n_v vs 1)) ∧ (j ≠ v_iv (n_v vs 6) → w_ei ws (w_ar ws (n_v vs 0) 12) j = w_ei w1 (w_ar ws (n_v vs 0) 12) j) := fun j hj => ⟨fun h => by unfold w_ei; rw [s1.1, if_pos ⟨ad_8.symm, by rw [h]⟩], fun h => by unfold w_ei; rw [s1.1, if_neg (fun e => h (by have := e.2; omega))]⟩
  have hK_0_12 := elq_51 hD hth cr_0_12
  have hE_0_13_1 : ∀ j : Int, w_ei ws (w_ar ws (n_v vs 0) 13) j = w_ei w1 (w_ar ws (n_v vs 0) 13) j := el_kp s1.1 r8 cr_0_13 (by decide)
  have hK_0_13 := elq_52 hD hth cr_0_13
  have pe_0_4_5_1 : w_fi ws (n_v vs 0) 4 * w_fi ws (n_v vs 0) 5 = w_fi w1 (n_v vs 0) 4 * w_fi w1 (n_v vs 0) 5 := by rw [fe_0_4_1, fe_0_5_1]
  have kz_0_4 := fdq_103 hD hth r0
  have kz_0_5 := fdq_104 hD hth r0
  have kz_0_14 := fdq_105 hD hth r0
  first | have qi1 := (hE_0_12_1 (v_iv (n_v vs 6)) (by omega)).1 (by omega) | have qi1 := (hE_0_12_1 (v_iv (n_v vs 6)) (by omega)).2 (by omega) | skip
  first | have qi2 := f9 (v_iv (n_v vs 6)) (by omega) (by omega) | skip
  first | have qi3 := hK_0_12 (v_iv (n_v vs 6)) (by omega) (by omega) | skip
  have nf0 : fc_1 PRD (20, [0], [50, 3, 1, 14, 4, 5, 12, 5, 7, 4, 3, 2, 0, 14, 0, 1, 0, 9, 4, 5, 3, 0, 12, 7, 0, 0, 1, 6, 2, 0, 4, 6, 3, 2, 0, 4, 2, 0, 5]) ws (vs) := by
    refine ⟨nf_in hl rfl, sgq_462 ?_⟩
    · show ∀ j0 : Int, 0 ≤ j0 → j0 < (w_fi ws (n_v vs 0) 14 + 1) → ((w_ei ws (w_ar ws (n_v vs 0) 12) (j0) + 1) ≤ (4 * (w_fi ws (n_v vs 0) 4 * w_fi ws (n_v vs 0) 5)))
      first | (intro j0 hj00 hj01; (rcases Decidable.em (j0 = v_iv (n_v vs 6)) with hc3 | hc3); (have hc3v := (hE_0_12_1 (j0) hj00).1 hc3; (first | have i1 := f9 (j0) hj00 | skip); (first | have i2 := hK_0_12 (j0) hj00 | skip); omega); (have hc3v := (hE_0_12_1 (j0) hj00).2 hc3; (first | have i1 := f9 (j0) hj00 | skip); (first | have i2 := hK_0_12 (j0) hj00 | skip); omega)) | (set_option maxHeartbeats 200000 in grind)
  refine ⟨(fun _ h => (by cases h)), [], trivial, ?_, (fun _ h => (by cases h))⟩
  rw [List.append_nil]
  exact List.forall_mem_cons.mpr ⟨⟨show (20 : Nat) < 100 from by decide, nf0⟩, (fun _ h => (by cases h))⟩
def o_Ro_enter_3 : or_T := (53, 14, [(0, (2, 0, 0, [9])), (1, (0, 0, 23999, [])), (3, (0, 0, 48004, [])), (6, (0, 0, 48003, [])), (9, (2, 0, 0, [115])), (10, (2, 0, 0, [113])), (12, (0, 0, 3, [])), (13, (0, -1, 48003, []))], [(20, [0], [50, 3, 1, 14, 4, 5, 12, 5, 7, 4, 3, 2, 0, 14, 0, 1, 0, 9, 4, 5, 3, 0, 12, 7, 0, 0, 1, 6, 2, 0, 4, 6, 3, 2, 0, 4, 2, 0, 5]), (20, [0], [50, 1, 1, 14, 11, 5, 2, 0, 4, 0, 9, 4, 5, 3, 0, 11, 7, 0, 0, 1, 2, 0, 14]), (20, [1, 0], [50, 2, 0, 1004, 1005, 0, 6, 4, 2, 1, 0, 0, 1, 6, 2, 0, 4, 6, 3, 2, 1, 4, 2, 1, 5]), (20, [0, 3], [30, 0, 1, 1, 14, -1, 0, 0]), (20, [0, 3], [30, 0, -1, 1, 14, 1, 0, 0]), (100, [9, 6, 13], []), (10, [13, 10, 12], []), (9, [10, 0], [11]), (9, [6, 0], [14]), (9, [9, 0], [13]), (20, [0], [50, 3, 1, 14, 4, 5, 12, 5, 7, 4, 3, 2, 0, 14, 0, 1, 0, 9, 4, 5, 3, 0, 12, 7, 0, 0, 1, 6, 2, 0, 4, 6, 3, 2, 0, 4, 2, 0, 5]), (20, [0], [50, 1, 1, 14, 11, 5, 2, 0, 4, 0, 9, 4, 5, 3, 0, 11, 7, 0, 0, 1, 2, 0, 14]), (20, [0], [50, 1, 1, 14, 13, 5, 3, 2, 0, 14, 0, 9, 4, 5, 3, 0, 13, 7, 0, 0, 1, 2, 0, 14]), (20, [1, 0], [50, 2, 0, 1004, 1005, 0, 6, 4, 2, 1, 0, 0, 1, 6, 2, 0, 4, 6, 3, 2, 1, 4, 2, 1, 5]), (20, [0, 3], [30, 0, 1, 1, 14, -1, 0, 0]), (20, [0, 3], [30, 0, -1, 1, 14, 1, 0, 0])], [], [], [(20, [0], [50, 1, 1, 14, 13, 5, 7, 4, 3, 2, 0, 14, 0, 1, 0, 9, 4, 5, 3, 0, 13, 7, 0, 0, 1, 2, 0, 14])], [], [])
set_option maxHeartbeats 8000000 in
theorem oo_Ro_enter_3 {kA : Nat → ClassId} : or_ok PRD kA GG o_Ro_enter_3 := by
  refine or_mk fun A ta ws vs hD hth hl => ?_
  intro t0 r0 t1 k1 t3 k3 t6 k6 t9 r9 t10 r10 t12 k12 t13 k13 f0 f1 f2 f3 f4 ta1 w1 le1 s1 f6 f7 f8 f9 f10 f11 f12 f13 f14 f15
  replace f0 := shm_462 f0
  replace f1 := shm_455 f1
  replace f2 := shm_458 f2
  replace f3 := shm_459 f3
  replace f4 := shm_460 f4
  have s1 : (∀ b j, w_el ws b j = if b = v_ad (n_v vs 9) ∧ j = (v_iv (n_v vs 6)).toNat then v_iv (n_v vs 13) else w_el w1 b j) ∧ ∀ b k, w_fd ws b k = w_fd w1 b k := s1.2
  replace f6 := shm_107 f6
  replace f7 := shm_116 f7
  replace f8 := shm_115 f8
  replace f9 := shm_361 f9
  replace f10 := shm_462 f10
  replace f11 := shm_455 f11
  replace f12 := shm_457 f12
  replace f13 := shm_458 f13
  replace f14 := shm_459 f14
  replace f15 := shm_460 f15
  have ar_0_11_1 : w_ar w1 (n_v vs 0) 11 = w_ar ws (n_v vs 0) 11 := congrArg v_ad (s1.2 _ _).symm
  have cr_0_11 := fdq_100 hD hth r0
  have ar_0_12_1 : w_ar w1 (n_v vs 0) 12 = w_ar ws (n_v vs 0) 12 := congrArg v_ad (s1.2 _ _).symm
  have cr_0_12 := fdq_101 hD hth r0
  have ar_0_13_1 : w_ar w1 (n_v vs 0) 13 = w_ar ws (n_v vs 0) 13 := congrArg v_ad (s1.2 _ _).symm
  have cr_0_13 := fdq_102 hD hth r0
  have ad_10 : v_ad (n_v vs 10) = w_ar ws (n_v vs 0) 11 := (congrArg v_ad f7).trans ar_0_11_1
  have ad_9 : v_ad (n_v vs 9) = w_ar ws (n_v vs 0) 13 := (congrArg v_ad f9).trans ar_0_13_1
  simp only [ad_10] at f6
  have h6 : v_iv (n_v vs 13) = w_ei w1 (w_ar ws (n_v vs 0) 11) (v_iv (n_v vs 12)) := f6
  have g8 : v_iv (n_v vs 6) = w_fi w1 (n_v vs 0) 14 := congrArg v_iv f8
  simp only [ar_0_12_1, ar_0_11_1, ar_0_13_1] at f10 f11 f12
  have fe_0_4_1 : w_fi ws (n_v vs 0) 4 = w_fi w1 (n_v vs 0) 4 := congrArg v_iv (s1.2 _ _)
  have fe_0_5_1 : w_fi ws (n_v vs 0) 5 = w_fi w1 (n_v vs 0) 5 := congrArg v_iv (s1.2 _ _)
  have fe_0_14_1 : w_fi ws (n_v vs 0) 14 = w_fi w1 (n_v vs 0) 14 := congrArg v_iv (s1.2 _ _)
  have ee_0_11_12_1 : w_el ws (w_ar ws (n_v vs 0) 11) (v_iv (n_v vs 12)).toNat = w_el w1 (w_ar ws (n_v vs 0) 11) (v_iv (n_v vs 12)).toNat := by rw [s1.1, if_neg (fun e => by have e1 := e.1; rw [← e1] at r9; rw [cr_0_11] at r9; exact absurd (Option.some.inj r9) (by decide))]
  have br_0_11_12_0 : w_ei ws (w_ar ws (n_v vs 0) 11) (v_iv (n_v vs 12)) = w_el ws (w_ar ws (n_v vs 0) 11) (v_iv (n_v vs 12)).toNat := rfl
  have br_0_11_12_1 : w_ei w1 (w_ar ws (n_v vs 0) 11) (v_iv (n_v vs 12)) = w_el w1 (w_ar ws (n_v vs 0) 11) (v_iv (n_v vs 12)).toNat := rfl
  have hE_0_11_1 : ∀ j : Int, w_ei ws (w_ar ws (n_v vs 0) 11) j = w_ei w1 (w_ar ws (n_v vs 0) 11) j := el_kp s1.1 r9 cr_0_11 (by decide)
  have hK_0_11 := elq_50 hD hth cr_0_11
  have hE_0_12_1 : ∀ j : Int, w_ei ws (w_ar ws (n_v vs 0) 12) j = w_ei w1 (w_ar ws (n_v vs 0) 12) j := el_kp s1.1 r9 cr_0_12 (by decide)
  have hK_0_12 := elq_51 hD hth cr_0_12
  have hE_0_13_1 : ∀ j : Int, 0 ≤ j → (j = v_iv (n_v vs 6) → w_ei ws (w_ar ws (n_v vs 0) 13) j = v_iv (n_v vs 13)) ∧ (j ≠ v_iv (n_v vs 6) → w_ei ws (w_ar ws (n_v vs 0) 13) j = w_ei w1 (w_ar ws (n_v vs 0) 13) j) := fun j hj => ⟨fun h => by unfold w_ei; rw [s1.1, if_pos ⟨ad_9.symm, by rw [h]⟩], fun h => by unfold w_ei; rw [s1.1, if_neg (fun e => h (by have := e.2; omega))]⟩
  have hK_0_13 := elq_52 hD hth cr_0_13
  have pe_0_4_5_1 : w_fi ws (n_v vs 0) 4 * w_fi ws (n_v vs 0) 5 = w_fi w1 (n_v vs 0) 4 * w_fi w1 (n_v vs 0) 5 := by rw [fe_0_4_1, fe_0_5_1]
  have kz_0_4 := fdq_103 hD hth r0
  have kz_0_5 := fdq_104 hD hth r0
  have kz_0_14 := fdq_105 hD hth r0
  have qi1 := hE_0_11_1 (v_iv (n_v vs 12))
  first | have qi2 := f1 (v_iv (n_v vs 12)) (by omega) (by omega) | skip
  first | have qi3 := f11 (v_iv (n_v vs 12)) (by omega) (by omega) | skip
  first | have qi4 := hK_0_11 (v_iv (n_v vs 12)) (by omega) (by omega) | skip
  first | have qi5 := (hE_0_13_1 (v_iv (n_v vs 6)) (by omega)).1 (by omega) | have qi5 := (hE_0_13_1 (v_iv (n_v vs 6)) (by omega)).2 (by omega) | skip
  first | have qi6 := f12 (v_iv (n_v vs 6)) (by omega) (by omega) | skip
  first | have qi7 := hK_0_13 (v_iv (n_v vs 6)) (by omega) (by omega) | skip
  have nf0 : fc_1 PRD (20, [0], [50, 1, 1, 14, 13, 5, 7, 4, 3, 2, 0, 14, 0, 1, 0, 9, 4, 5, 3, 0, 13, 7, 0, 0, 1, 2, 0, 14]) ws (vs) := by
    refine ⟨nf_in hl rfl, sgq_463 ?_⟩
    · show ∀ j0 : Int, 0 ≤ j0 → j0 < (w_fi ws (n_v vs 0) 14 + 1) → ((w_ei ws (w_ar ws (n_v vs 0) 13) (j0) + 1) ≤ w_fi ws (n_v vs 0) 14)
      first | (intro j0 hj00 hj01; (rcases Decidable.em (j0 = v_iv (n_v vs 6)) with hc3 | hc3); (have hc3v := (hE_0_13_1 (j0) hj00).1 hc3; (first | have i1 := f12 (j0) hj00 | skip); (first | have i2 := hK_0_13 (j0) hj00 | skip); omega); (have hc3v := (hE_0_13_1 (j0) hj00).2 hc3; (first | have i1 := f12 (j0) hj00 | skip); (first | have i2 := hK_0_13 (j0) hj00 | skip); omega)) | (set_option maxHeartbeats 200000 in grind)
  refine ⟨(fun _ h => (by cases h)), [], trivial, ?_, (fun _ h => (by cases h))⟩
  rw [List.append_nil]
  exact List.forall_mem_cons.mpr ⟨⟨show (20 : Nat) < 100 from by decide, nf0⟩, (fun _ h => (by cases h))⟩
def o_Ro_enter_4 : or_T := (65, 16, [(0, (2, 0, 0, [9])), (1, (0, 0, 23999, [])), (3, (0, 0, 48004, [])), (6, (0, 0, 48003, [])), (10, (2, 0, 0, [113])), (15, (0, 0, 3, []))], [(20, [0], [50, 1, 1, 14, 13, 5, 7, 4, 3, 2, 0, 14, 0, 1, 0, 9, 4, 5, 3, 0, 13, 7, 0, 0, 1, 2, 0, 14]), (20, [0], [50, 3, 1, 14, 4, 5, 12, 5, 7, 4, 3, 2, 0, 14, 0, 1, 0, 9, 4, 5, 3, 0, 12, 7, 0, 0, 1, 6, 2, 0, 4, 6, 3, 2, 0, 4, 2, 0, 5]), (20, [1, 0], [50, 2, 0, 1004, 1005, 0, 6, 4, 2, 1, 0, 0, 1, 6, 2, 0, 4, 6, 3, 2, 1, 4, 2, 1, 5]), (20, [0, 3], [30, 0, 1, 1, 14, -1, 0, 0]), (20, [0, 3], [30, 0, -1, 1, 14, 1, 0, 0]), (100, [10, 15, 6], []), (9, [6, 0], [14]), (9, [10, 0], [11]), (20, [0], [50, 1, 1, 14, 13, 5, 7, 4, 3, 2, 0, 14, 0, 1, 0, 9, 4, 5, 3, 0, 13, 7, 0, 0, 1, 2, 0, 14]), (20, [0], [50, 3, 1, 14, 4, 5, 12, 5, 7, 4, 3, 2, 0, 14, 0, 1, 0, 9, 4, 5, 3, 0, 12, 7, 0, 0, 1, 6, 2, 0, 4, 6, 3, 2, 0, 4, 2, 0, 5]), (20, [0], [50, 1, 1, 14, 11, 5, 2, 0, 4, 0, 9, 4, 5, 3, 0, 11, 7, 0, 0, 1, 2, 0, 14]), (20, [1, 0], [50, 2, 0, 1004, 1005, 0, 6, 4, 2, 1, 0, 0, 1, 6, 2, 0, 4, 6, 3, 2, 1, 4, 2, 1, 5]), (20, [0, 3], [30, 0, 1, 1, 14, -1, 0, 0]), (20, [0, 3], [30, 0, -1, 1, 14, 1, 0, 0])], [], [], [(20, [0], [50, 1, 1, 14, 11, 5, 2, 0, 4, 0, 5, 3, 0, 11, 7, 0, 2, 0, 14]), (20, [0, 3], [50, 1, 0, 14, 1, 3, 2, 0, 14, 1, 1])], [], [])
set_option maxHeartbeats 8000000 in
theorem oo_Ro_enter_4 {kA : Nat → ClassId} : or_ok PRD kA GG o_Ro_enter_4 := by
  refine or_mk fun A ta ws vs hD hth hl => ?_
  intro t0 r0 t1 k1 t3 k3 t6 k6 t10 r10 t15 k15 f0 f1 f2 f3 f4 ta1 w1 le1 s1 f6 f7 f8 f9 f10 f11 f12 f13
  replace f0 := shm_463 f0
  replace f1 := shm_462 f1
  replace f2 := shm_458 f2
  replace f3 := shm_459 f3
  replace f4 := shm_460 f4
  have s1 : (∀ b j, w_el ws b j = if b = v_ad (n_v vs 10) ∧ j = (v_iv (n_v vs 15)).toNat then v_iv (n_v vs 6) else w_el w1 b j) ∧ ∀ b k, w_fd ws b k = w_fd w1 b k := s1.2
  replace f6 := shm_115 f6
  replace f7 := shm_116 f7
  replace f8 := shm_463 f8
  replace f9 := shm_462 f9
  replace f10 := shm_455 f10
  replace f11 := shm_458 f11
  replace f12 := shm_459 f12
  replace f13 := shm_460 f13
  have ar_0_11_1 : w_ar w1 (n_v vs 0) 11 = w_ar ws (n_v vs 0) 11 := congrArg v_ad (s1.2 _ _).symm
  have cr_0_11 := fdq_100 hD hth r0
  have ar_0_12_1 : w_ar w1 (n_v vs 0) 12 = w_ar ws (n_v vs 0) 12 := congrArg v_ad (s1.2 _ _).symm
  have cr_0_12 := fdq_101 hD hth r0
  have ar_0_13_1 : w_ar w1 (n_v vs 0) 13 = w_ar ws (n_v vs 0) 13 := congrArg v_ad (s1.2 _ _).symm
  have cr_0_13 := fdq_102 hD hth r0
  have ad_10 : v_ad (n_v vs 10) = w_ar ws (n_v vs 0) 11 := (congrArg v_ad f7).trans ar_0_11_1
  have g6 : v_iv (n_v vs 6) = w_fi w1 (n_v vs 0) 14 := congrArg v_iv f6
  simp only [ar_0_13_1, ar_0_12_1, ar_0_11_1] at f8 f9 f10
  have fe_0_4_1 : w_fi ws (n_v vs 0) 4 = w_fi w1 (n_v vs 0) 4 := congrArg v_iv (s1.2 _ _)
  have fe_0_5_1 : w_fi ws (n_v vs 0) 5 = w_fi w1 (n_v vs 0) 5 := congrArg v_iv (s1.2 _ _)
  have fe_0_14_1 : w_fi ws (n_v vs 0) 14 = w_fi w1 (n_v vs 0) 14 := congrArg v_iv (s1.2 _ _)
  have hE_0_11_1 : ∀ j : Int, 0 ≤ j → (j = v_iv (n_v vs 15) → w_ei ws (w_ar ws (n_v vs 0) 11) j = v_iv (n_v vs 6)) ∧ (j ≠ v_iv (n_v vs 15) → w_ei ws (w_ar ws (n_v vs 0) 11) j = w_ei w1 (w_ar ws (n_v vs 0) 11) j) := fun j hj => ⟨fun h => by unfold w_ei; rw [s1.1, if_pos ⟨ad_10.symm, by rw [h]⟩], fun h => by unfold w_ei; rw [s1.1, if_neg (fun e => h (by have := e.2; omega))]⟩
  have hK_0_11 := elq_50 hD hth cr_0_11
  have hE_0_12_1 : ∀ j : Int, w_ei ws (w_ar ws (n_v vs 0) 12) j = w_ei w1 (w_ar ws (n_v vs 0) 12) j := el_kp s1.1 r10 cr_0_12 (by decide)
  have hK_0_12 := elq_51 hD hth cr_0_12
  have hE_0_13_1 : ∀ j : Int, w_ei ws (w_ar ws (n_v vs 0) 13) j = w_ei w1 (w_ar ws (n_v vs 0) 13) j := el_kp s1.1 r10 cr_0_13 (by decide)
  have hK_0_13 := elq_52 hD hth cr_0_13
  have pe_0_4_5_1 : w_fi ws (n_v vs 0) 4 * w_fi ws (n_v vs 0) 5 = w_fi w1 (n_v vs 0) 4 * w_fi w1 (n_v vs 0) 5 := by rw [fe_0_4_1, fe_0_5_1]
  have kz_0_4 := fdq_103 hD hth r0
  have kz_0_5 := fdq_104 hD hth r0
  have kz_0_14 := fdq_105 hD hth r0
  first | have qi1 := (hE_0_11_1 (v_iv (n_v vs 15)) (by omega)).1 (by omega) | have qi1 := (hE_0_11_1 (v_iv (n_v vs 15)) (by omega)).2 (by omega) | skip
  first | have qi2 := f10 (v_iv (n_v vs 15)) (by omega) (by omega) | skip
  first | have qi3 := hK_0_11 (v_iv (n_v vs 15)) (by omega) (by omega) | skip
  have nf0 : fc_1 PRD (20, [0], [50, 1, 1, 14, 11, 5, 2, 0, 4, 0, 5, 3, 0, 11, 7, 0, 2, 0, 14]) ws (vs) := by
    refine ⟨nf_in hl rfl, sgq_464 ?_⟩
    · show ∀ j0 : Int, 0 ≤ j0 → j0 < 4 → (w_ei ws (w_ar ws (n_v vs 0) 11) (j0) ≤ w_fi ws (n_v vs 0) 14)
      first | (intro j0 hj00 hj01; (rcases Decidable.em (j0 = v_iv (n_v vs 15)) with hc3 | hc3); (have hc3v := (hE_0_11_1 (j0) hj00).1 hc3; (first | have i1 := f10 (j0) hj00 | skip); (first | have i2 := hK_0_11 (j0) hj00 | skip); omega); (have hc3v := (hE_0_11_1 (j0) hj00).2 hc3; (first | have i1 := f10 (j0) hj00 | skip); (first | have i2 := hK_0_11 (j0) hj00 | skip); omega)) | (set_option maxHeartbeats 200000 in grind)
  have nf1 : fc_1 PRD (20, [0, 3], [50, 1, 0, 14, 1, 3, 2, 0, 14, 1, 1]) ws (vs) := by
    refine ⟨nf_in hl rfl, sgq_465 ?_⟩
    · show w_fi ws (n_v vs 0) 14 = v_iv (n_v vs 3)
      first | (omega) | (set_option maxHeartbeats 200000 in grind)
  refine ⟨(fun _ h => (by cases h)), [], trivial, ?_, (fun _ h => (by cases h))⟩
  rw [List.append_nil]
  exact List.forall_mem_cons.mpr ⟨⟨show (20 : Nat) < 100 from by decide, nf0⟩, List.forall_mem_cons.mpr ⟨⟨show (20 : Nat) < 100 from by decide, nf1⟩, (fun _ h => (by cases h))⟩⟩
def o_Ro_enter_5 : or_T := (75, 18, [(0, (2, 0, 0, [9])), (1, (0, 0, 23999, [])), (3, (0, 0, 48004, [])), (6, (0, 0, 48003, [])), (16, (0, 1, 1, [])), (17, (0, 1, 48004, []))], [(20, [1, 0], [50, 2, 0, 1004, 1005, 0, 6, 4, 2, 1, 0, 0, 1, 6, 2, 0, 4, 6, 3, 2, 1, 4, 2, 1, 5]), (101, [0, 17], [14]), (1, [17, 6, 16], []), (9, [6, 0], [14]), (20, [0], [50, 1, 1, 14, 11, 5, 2, 0, 4, 0, 5, 3, 0, 11, 7, 0, 2, 0, 14]), (20, [0, 3], [50, 1, 0, 14, 1, 3, 2, 0, 14, 1, 1]), (20, [0], [50, 1, 1, 14, 13, 5, 7, 4, 3, 2, 0, 14, 0, 1, 0, 9, 4, 5, 3, 0, 13, 7, 0, 0, 1, 2, 0, 14]), (20, [0], [50, 3, 1, 14, 4, 5, 12, 5, 7, 4, 3, 2, 0, 14, 0, 1, 0, 9, 4, 5, 3, 0, 12, 7, 0, 0, 1, 6, 2, 0, 4, 6, 3, 2, 0, 4, 2, 0, 5]), (20, [1, 0], [50, 2, 0, 1004, 1005, 0, 6, 4, 2, 1, 0, 0, 1, 6, 2, 0, 4, 6, 3, 2, 1, 4, 2, 1, 5]), (20, [0, 3], [30, 0, 1, 1, 14, -1, 0, 0]), (20, [0, 3], [30, 0, -1, 1, 14, 1, 0, 0])], [], [], [(20, [0], [50, 1, 1, 14, 11, 5, 2, 0, 4, 0, 9, 4, 5, 3, 0, 11, 7, 0, 0, 1, 2, 0, 14]), (20, [0], [50, 3, 1, 14, 4, 5, 12, 5, 3, 2, 0, 14, 0, 9, 4, 5, 3, 0, 12, 7, 0, 0, 1, 6, 2, 0, 4, 6, 3, 2, 0, 4, 2, 0, 5]), (20, [0], [50, 1, 1, 14, 13, 5, 3, 2, 0, 14, 0, 9, 4, 5, 3, 0, 13, 7, 0, 0, 1, 2, 0, 14]), (20, [3, 0], [30, 0, 1, 0, 0, -1, 1, 14])], [], [(17, 6, 1, 1)])
set_option maxHeartbeats 8000000 in
theorem oo_Ro_enter_5 {kA : Nat → ClassId} : or_ok PRD kA GG o_Ro_enter_5 := by
  refine or_mk fun A ta ws vs hD hth hl => ?_
  intro t0 r0 t1 k1 t3 k3 t6 k6 t16 k16 t17 k17 d0 f0 ta1 w1 le1 s1 f2 f3 f4 f5 f6 f7 f8 f9 f10
  replace f0 := shm_458 f0
  have s1 : (∀ b j, w_el ws b j = w_el w1 b j) ∧ ∀ b j, w_fd ws b j = if b = v_ad (n_v vs 0) ∧ j = 14 then n_v vs 17 else w_fd w1 b j := s1.2
  replace f2 := shm_12 f2
  replace f3 := shm_115 f3
  replace f4 := shm_464 f4
  replace f5 := shm_465 f5
  replace f6 := shm_463 f6
  replace f7 := shm_462 f7
  replace f8 := shm_458 f8
  replace f9 := shm_459 f9
  replace f10 := shm_460 f10
  have ar_0_11_1 : w_ar w1 (n_v vs 0) 11 = w_ar ws (n_v vs 0) 11 := by show v_ad (w_fd w1 _ _) = v_ad (w_fd ws _ _); rw [s1.2, if_neg (fun e => absurd e.2 (by decide))]
  have cr_0_11 := fdq_100 hD hth r0
  have ar_0_12_1 : w_ar w1 (n_v vs 0) 12 = w_ar ws (n_v vs 0) 12 := by show v_ad (w_fd w1 _ _) = v_ad (w_fd ws _ _); rw [s1.2, if_neg (fun e => absurd e.2 (by decide))]
  have cr_0_12 := fdq_101 hD hth r0
  have ar_0_13_1 : w_ar w1 (n_v vs 0) 13 = w_ar ws (n_v vs 0) 13 := by show v_ad (w_fd w1 _ _) = v_ad (w_fd ws _ _); rw [s1.2, if_neg (fun e => absurd e.2 (by decide))]
  have cr_0_13 := fdq_102 hD hth r0
  have g3 : v_iv (n_v vs 6) = w_fi w1 (n_v vs 0) 14 := congrArg v_iv f3
  simp only [ar_0_11_1, ar_0_13_1, ar_0_12_1] at f4 f6 f7
  have fe_0_4_1 : w_fi ws (n_v vs 0) 4 = w_fi w1 (n_v vs 0) 4 := by show v_iv (w_fd _ _ _) = v_iv (w_fd _ _ _); rw [s1.2, if_neg (fun e => absurd e.2 (by decide))]
  have fe_0_5_1 : w_fi ws (n_v vs 0) 5 = w_fi w1 (n_v vs 0) 5 := by show v_iv (w_fd _ _ _) = v_iv (w_fd _ _ _); rw [s1.2, if_neg (fun e => absurd e.2 (by decide))]
  have fe_0_14_1 : w_fi ws (n_v vs 0) 14 = v_iv (n_v vs 17) := by show v_iv (w_fd _ _ _) = _; rw [s1.2, if_pos ⟨rfl, rfl⟩]
  have hE_0_11_1 : ∀ j : Int, w_ei ws (w_ar ws (n_v vs 0) 11) j = w_ei w1 (w_ar ws (n_v vs 0) 11) j := fun j => s1.1 _ _
  have hK_0_11 := elq_50 hD hth cr_0_11
  have hE_0_12_1 : ∀ j : Int, w_ei ws (w_ar ws (n_v vs 0) 12) j = w_ei w1 (w_ar ws (n_v vs 0) 12) j := fun j => s1.1 _ _
  have hK_0_12 := elq_51 hD hth cr_0_12
  have hE_0_13_1 : ∀ j : Int, w_ei ws (w_ar ws (n_v vs 0) 13) j = w_ei w1 (w_ar ws (n_v vs 0) 13) j := fun j => s1.1 _ _
  have hK_0_13 := elq_52 hD hth cr_0_13
  have pe_0_4_5_1 : w_fi ws (n_v vs 0) 4 * w_fi ws (n_v vs 0) 5 = w_fi w1 (n_v vs 0) 4 * w_fi w1 (n_v vs 0) 5 := by rw [fe_0_4_1, fe_0_5_1]
  have kz_0_4 := fdq_103 hD hth r0
  have kz_0_5 := fdq_104 hD hth r0
  have kz_0_14 := fdq_105 hD hth r0
  have nf0 : fc_1 PRD (20, [0], [50, 1, 1, 14, 11, 5, 2, 0, 4, 0, 9, 4, 5, 3, 0, 11, 7, 0, 0, 1, 2, 0, 14]) ws (vs) := by
    refine ⟨nf_in hl rfl, sgq_455 ?_⟩
    · show ∀ j0 : Int, 0 ≤ j0 → j0 < 4 → ((w_ei ws (w_ar ws (n_v vs 0) 11) (j0) + 1) ≤ w_fi ws (n_v vs 0) 14)
      first | (intro j0 hj00 hj01; (first | have i1 := f4 (j0) hj00 | skip); (first | have i2 := hK_0_11 (j0) hj00 | skip); (first | have i3 := hE_0_11_1 (j0) | skip); omega) | (set_option maxHeartbeats 200000 in grind)
  have nf1 : fc_1 PRD (20, [0], [50, 3, 1, 14, 4, 5, 12, 5, 3, 2, 0, 14, 0, 9, 4, 5, 3, 0, 12, 7, 0, 0, 1, 6, 2, 0, 4, 6, 3, 2, 0, 4, 2, 0, 5]) ws (vs) := by
    refine ⟨nf_in hl rfl, sgq_456 ?_⟩
    · show ∀ j0 : Int, 0 ≤ j0 → j0 < w_fi ws (n_v vs 0) 14 → ((w_ei ws (w_ar ws (n_v vs 0) 12) (j0) + 1) ≤ (4 * (w_fi ws (n_v vs 0) 4 * w_fi ws (n_v vs 0) 5)))
      first | (intro j0 hj00 hj01; (first | have i1 := f7 (j0) hj00 | skip); (first | have i2 := hK_0_12 (j0) hj00 | skip); (first | have i3 := hE_0_12_1 (j0) | skip); omega) | (set_option maxHeartbeats 200000 in grind)
  have nf2 : fc_1 PRD (20, [0], [50, 1, 1, 14, 13, 5, 3, 2, 0, 14, 0, 9, 4, 5, 3, 0, 13, 7, 0, 0, 1, 2, 0, 14]) ws (vs) := by
    refine ⟨nf_in hl rfl, sgq_457 ?_⟩
    · show ∀ j0 : Int, 0 ≤ j0 → j0 < w_fi ws (n_v vs 0) 14 → ((w_ei ws (w_ar ws (n_v vs 0) 13) (j0) + 1) ≤ w_fi ws (n_v vs 0) 14)
      first | (intro j0 hj00 hj01; (first | have i1 := f6 (j0) hj00 | skip); (first | have i2 := hK_0_13 (j0) hj00 | skip); (first | have i3 := hE_0_13_1 (j0) | skip); omega) | (set_option maxHeartbeats 200000 in grind)
  have nf3 : fc_1 PRD (20, [3, 0], [30, 0, 1, 0, 0, -1, 1, 14]) ws (vs) := by
    refine ⟨nf_in hl rfl, sgq_461 ?_⟩
    · show 1 * v_iv (n_v vs 3) + ((-1) * w_fi ws (n_v vs 0) 14 + 0) ≤ 0
      omega
  refine ⟨(fun _ h => (by cases h)), [], trivial, ?_, (fun _ h => (by cases h))⟩
  rw [List.append_nil]
  exact List.forall_mem_cons.mpr ⟨⟨show (20 : Nat) < 100 from by decide, nf0⟩, List.forall_mem_cons.mpr ⟨⟨show (20 : Nat) < 100 from by decide, nf1⟩, List.forall_mem_cons.mpr ⟨⟨show (20 : Nat) < 100 from by decide, nf2⟩, List.forall_mem_cons.mpr ⟨⟨show (20 : Nat) < 100 from by decide, nf3⟩, (fun _ h => (by cases h))⟩⟩⟩⟩
def n_Ro_enter_an : List an_T := []
def t_Ro_enter_ct : ct_L := []
set_option maxRecDepth 100000 in
theorem c_Ro_enter {l : Launch} {D : va_G} {kA : Nat → ClassId} : ct_ok PRD l D kA GG y_Ro_enter z_Ro_enter e_Ro_enter := chk_all_ok (FT := [(45, 9, 10), (49, 9, 11), (53, 9, 12), (56, 9, 13), (59, 9, 14)]) (PT := [(59, 9, 14, .int)]) (CT := t_Ro_enter_ct) (KT := [(0, 52, .int (48004), (0, 48004, 48004, []))]) (NT := []) (AN := n_Ro_enter_an) (OT := [o_Ro_enter_0, o_Ro_enter_1, o_Ro_enter_2, o_Ro_enter_3, o_Ro_enter_4, o_Ro_enter_5]) 0 200 (List.forall_mem_cons.mpr ⟨oo_Ro_enter_0, List.forall_mem_cons.mpr ⟨oo_Ro_enter_1, List.forall_mem_cons.mpr ⟨oo_Ro_enter_2, List.forall_mem_cons.mpr ⟨oo_Ro_enter_3, List.forall_mem_cons.mpr ⟨oo_Ro_enter_4, List.forall_mem_cons.mpr ⟨oo_Ro_enter_5, List.forall_mem_nil _⟩⟩⟩⟩⟩⟩) (by decide +kernel) ⟨List.forall_mem_cons.mpr ⟨gf_Ro_45, List.forall_mem_cons.mpr ⟨gf_Ro_49, List.forall_mem_cons.mpr ⟨gf_Ro_53, List.forall_mem_cons.mpr ⟨gf_Ro_56, List.forall_mem_cons.mpr ⟨gf_Ro_59, List.forall_mem_nil _⟩⟩⟩⟩⟩, List.forall_mem_cons.mpr ⟨pf_Ro_59, List.forall_mem_nil _⟩, List.forall_mem_nil _, List.forall_mem_cons.mpr ⟨kx_Ro_0_52, List.forall_mem_nil _⟩, List.forall_mem_nil _, GG_pl⟩ (by decide +kernel)
