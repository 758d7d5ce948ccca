
set_option maxHeartbeats 4000000 in
theorem vc_Pl_placeOver_6_0 (x1 : Int) (x8 : Int) (x9 : Int) (x14 : Int) (x15 : Int) (parent_0 : Int → Int) (kids_0 : Int → Int) (k1 : 0 ≤ x1 ∧ x1 ≤ 23) (k8 : 0 ≤ x8 ∧ x8 ≤ 23) (k9 : 0 ≤ x9 ∧ x9 ≤ 23) (k14 : (-1) ≤ x14 ∧ x14 ≤ 23) (k15 : 1 ≤ x15 ∧ x15 ≤ 24) (d0 : x9 + 1 ≤ x15 ∧ x15 ≤ x9 + 1) (f0 : x15 = x9 + 1) (f1 : x14 ≠ x1) (h2 : x14 = parent_0 (x9)) (f11 : TQL (parent_0) (kids_0) (x1) (x8) (x9)) : TQL (parent_0) (kids_0) (x1) (x8) (x15) := by
  first
    | exact tql_skip (w := x9) ‹TQL _ _ _ _ _› (by omega) (by assumption) (by omega) (by omega)
set_option maxHeartbeats 4000000 in
theorem vc_Pl_placeOver_6_1 (x1 : Int) (x5 : Int) (x8 : Int) (x9 : Int) (x12 : Int) (x15 : Int) (nodes_0o2 : Int) (x_0o3 : Int → Int) (level_0 : Int → Int) (kids_0 : Int → Int) (k1 : 0 ≤ x1 ∧ x1 ≤ 23) (k9 : 0 ≤ x9 ∧ x9 ≤ 23) (k12 : 1 ≤ x12 ∧ x12 ≤ 24) (k15 : 1 ≤ x15 ∧ x15 ≤ 24) (d0 : x9 + 1 ≤ x15 ∧ x15 ≤ x9 + 1) (d1 : x12 + (-4294967296) ≤ x15 ∧ x15 ≤ x12 + 0) (d2 : x12 + (-4294967296) ≤ x9 ∧ x9 ≤ x12 + (-1)) (g5 : x12 = nodes_0o2) (kz_2_0 : 0 ≤ nodes_0o2 ∧ nodes_0o2 ≤ 24) : x15 ≤ nodes_0o2 := by
  first
    | omega
    | assumption
    | (rw [show gy = x5 by omega]; assumption)
def o_Pl_placeOver_6 : or_T := (4, 16, [(1, (0, 0, 23, [])), (2, (2, 0, 0, [3])), (8, (0, 0, 23, [])), (9, (0, 0, 23, [])), (12, (0, 1, 24, [])), (14, (0, -1, 23, [])), (15, (0, 1, 24, []))], [(6, [15, 9], [1]), (7, [14, 7], [1]), (10, [14, 13, 9], []), (9, [13, 6], [5]), (9, [12, 10], [0]), (20, [6, 7, 8, 9], [60, 0, 2, 871, 5, 7]), (24, [2, 10], []), (24, [1, 7], []), (24, [0, 6], [])], [], [], [(20, [6, 7, 8, 15], [60, 0, 2, 871, 5, 7]), (20, [15, 10], [50, 1, 0, 1000, 0, 2, 1, 0, 2, 1, 0])], [], [(15, 9, 1, 1), (15, 12, -4294967296, 0), (9, 12, -4294967296, -1)])
theorem oo_Pl_placeOver_6 {kA : Nat → ClassId} : or_ok PRD kA GG o_Pl_placeOver_6 := by
  refine or_mk fun A ta ws vs hD hth hl => ?_
  intro t1 k1 t2 r2 t8 k8 t9 k9 t12 k12 t14 k14 t15 k15 d0 d1 d2 f0 f1 f2 f3 f5 f11 f13 f15 f16
  replace f0 := shm_4 f0
  replace f1 := shm_40 f1
  replace f2 := shm_107 f2
  replace f3 := shm_110 f3
  replace f5 := shm_163 f5
  replace f11 := shm_1389 f11
  replace f13 := shm_5 f13
  replace f15 := shm_5 f15
  replace f16 := shm_5 f16
  have q10 : n_v vs 10 = n_v vs 2 := f13.symm
  have q7 : n_v vs 7 = n_v vs 1 := f15.symm
  have q6 : n_v vs 6 = n_v vs 0 := f16.symm
  simp only [q7, q6, q10] at f1 f3 f5 f11
  have ad_13 : v_ad (n_v vs 13) = w_ar ws (n_v vs 0) 5 := congrArg v_ad f3
  simp only [ad_13] at f2
  have h2 : v_iv (n_v vs 14) = w_ei ws (w_ar ws (n_v vs 0) 5) (v_iv (n_v vs 9)) := f2
  have g5 : v_iv (n_v vs 12) = w_fi ws (n_v vs 2) 0 := congrArg v_iv f5
  have kz_2_0 := fdq_21 hD hth r2
  have nf0 : fc_1 PRD (20, [6, 7, 8, 15], [60, 0, 2, 871, 5, 7]) ws (vs) := by
    refine ⟨nf_in hl rfl, sgq_1389 ?_⟩
    · show TQL (w_ei ws (w_ar ws (n_v vs 6) 5)) (w_ei ws (w_ar ws (n_v vs 6) 7)) (v_iv (n_v vs 7)) (v_iv (n_v vs 8)) (v_iv (n_v vs 15))
      simp only [q7, q6]
      exact vc_Pl_placeOver_6_0 (v_iv (n_v vs 1)) (v_iv (n_v vs 8)) (v_iv (n_v vs 9)) (v_iv (n_v vs 14)) (v_iv (n_v vs 15)) (w_ei ws (w_ar ws (n_v vs 0) 5)) (w_ei ws (w_ar ws (n_v vs 0) 7)) k1 k8 k9 k14 k15 d0 f0 f1 h2 f11
  have nf1 : fc_1 PRD (20, [15, 10], [50, 1, 0, 1000, 0, 2, 1, 0, 2, 1, 0]) ws (vs) := by
    refine ⟨nf_in hl rfl, sgq_411 ?_⟩
    · show v_iv (n_v vs 15) ≤ w_fi ws (n_v vs 10) 0
      rw [q10]
      exact vc_Pl_placeOver_6_1 (v_iv (n_v vs 1)) (v_iv (n_v vs 5)) (v_iv (n_v vs 8)) (v_iv (n_v vs 9)) (v_iv (n_v vs 12)) (v_iv (n_v vs 15)) (w_fi ws (n_v vs 2) 0) (w_ei ws (w_ar ws (n_v vs 3) 2)) (w_ei ws (w_ar ws (n_v vs 0) 4)) (w_ei ws (w_ar ws (n_v vs 0) 7)) k1 k9 k12 k15 d0 d1 d2 g5 kz_2_0
  refine ⟨(fun _ h => (by cases h)), [], trivial, ?_, (fun _ h => (by cases h))⟩
  rw [List.append_nil]
  exact List.forall_mem_cons.mpr ⟨⟨show (20 : Nat) < 100 from by decide, nf0⟩, List.forall_mem_cons.mpr ⟨⟨show (20 : Nat) < 100 from by decide, nf1⟩, (fun _ h => (by cases h))⟩⟩
set_option maxHeartbeats 4000000 in
theorem vc_Pl_placeOver_7_0 (x1 : Int) (x8 : Int) (x9 : Int) (x14 : Int) (x16 : Int) (x17 : Int) (nodes_0o2 : Int) (order_0 : Int → Int) (parent_0 : Int → Int) (x_0o3 : Int → Int) (under_0 : Int → Int) (level_0 : Int → Int) (parent_1 : Int → Int) (order_1 : Int → Int) (x_1o3 : Int → Int) (nodes_1o2 : Int) (under_1 : Int → Int) (level_1 : Int → Int) (kids_1 : Int → Int) (kids_0 : Int → Int) (k1 : 0 ≤ x1 ∧ x1 ≤ 23) (k8 : 0 ≤ x8 ∧ x8 ≤ 23) (k9 : 0 ≤ x9 ∧ x9 ≤ 23) (k14 : 0 ≤ x14 ∧ x14 ≤ 23) (k16 : 1 ≤ x16 ∧ x16 ≤ 24) (k17 : 1 ≤ x17 ∧ x17 ≤ 24) (d0 : x9 + 1 ≤ x17 ∧ x17 ≤ x9 + 1) (f3 : x17 = x9 + 1) (f4 : x16 = x8 + 1) (f16 : x14 = x1) (h17 : x14 = parent_1 (x9)) (f24 : TQL (parent_1) (kids_1) (x1) (x8) (x9)) (fe_2_0_1 : nodes_0o2 = nodes_1o2) (hE_0_2_1 : ∀ j : Int, order_0 j = order_1 j) (hE_0_4_1 : ∀ j : Int, level_0 j = level_1 j) (hE_0_5_1 : ∀ j : Int, parent_0 j = parent_1 j) (hE_0_6_1 : ∀ j : Int, under_0 j = under_1 j) (hE_0_7_1 : ∀ j : Int, 0 ≤ j → (j = x8 → kids_0 j = x9) ∧ (j ≠ x8 → kids_0 j = kids_1 j)) (hE_3_2_1 : ∀ j : Int, x_0o3 j = x_1o3 j) (kz_2_0 : 0 ≤ nodes_0o2 ∧ nodes_0o2 ≤ 24) : TQL (parent_0) (kids_0) (x1) (x16) (x17) := by
  subst fe_2_0_1
  have e_hE_0_2_1 := funext hE_0_2_1; subst e_hE_0_2_1
  have e_hE_0_4_1 := funext hE_0_4_1; subst e_hE_0_4_1
  have e_hE_0_5_1 := funext hE_0_5_1; subst e_hE_0_5_1
  have e_hE_0_6_1 := funext hE_0_6_1; subst e_hE_0_6_1
  have e_hE_3_2_1 := funext hE_3_2_1; subst e_hE_3_2_1
  first
    | exact tql_step (w := x9) ‹TQL _ _ _ _ _› (by omega) (by assumption) (by omega) (by assumption) (by omega) (by omega) (by omega) (by omega)
set_option maxHeartbeats 4000000 in
theorem vc_Pl_placeOver_7_1 (x1 : Int) (x5 : Int) (x8 : Int) (x9 : Int) (x12 : Int) (x16 : Int) (x17 : Int) (nodes_0o2 : Int) (order_0 : Int → Int) (parent_0 : Int → Int) (x_0o3 : Int → Int) (under_0 : Int → Int) (level_0 : Int → Int) (parent_1 : Int → Int) (order_1 : Int → Int) (x_1o3 : Int → Int) (nodes_1o2 : Int) (under_1 : Int → Int) (level_1 : Int → Int) (kids_0 : Int → Int) (k1 : 0 ≤ x1 ∧ x1 ≤ 23) (k9 : 0 ≤ x9 ∧ x9 ≤ 23) (k12 : 1 ≤ x12 ∧ x12 ≤ 24) (k17 : 1 ≤ x17 ∧ x17 ≤ 24) (d0 : x9 + 1 ≤ x17 ∧ x17 ≤ x9 + 1) (d1 : x12 + (-4294967296) ≤ x17 ∧ x17 ≤ x12 + 0) (d5 : x12 + (-4294967296) ≤ x9 ∧ x9 ≤ x12 + (-1)) (g2 : x12 = nodes_0o2) (fe_2_0_1 : nodes_0o2 = nodes_1o2) (hE_0_2_1 : ∀ j : Int, order_0 j = order_1 j) (hE_0_4_1 : ∀ j : Int, level_0 j = level_1 j) (hE_0_5_1 : ∀ j : Int, parent_0 j = parent_1 j) (hE_0_6_1 : ∀ j : Int, under_0 j = under_1 j) (hE_3_2_1 : ∀ j : Int, x_0o3 j = x_1o3 j) (kz_2_0 : 0 ≤ nodes_0o2 ∧ nodes_0o2 ≤ 24) : x17 ≤ nodes_0o2 := by
  subst fe_2_0_1
  have e_hE_0_2_1 := funext hE_0_2_1; subst e_hE_0_2_1
  have e_hE_0_4_1 := funext hE_0_4_1; subst e_hE_0_4_1
  have e_hE_0_5_1 := funext hE_0_5_1; subst e_hE_0_5_1
  have e_hE_0_6_1 := funext hE_0_6_1; subst e_hE_0_6_1
  have e_hE_3_2_1 := funext hE_3_2_1; subst e_hE_3_2_1
  first
    | omega
    | assumption
    | (rw [show gy = x5 by omega]; assumption)
def o_Pl_placeOver_7 : or_T := (4, 18, [(0, (2, 0, 0, [6])), (1, (0, 0, 23, [])), (2, (2, 0, 0, [3])), (3, (2, 0, 0, [0])), (8, (0, 0, 23, [])), (9, (0, 0, 23, [])), (12, (0, 1, 24, [])), (14, (0, 0, 23, [])), (15, (2, 0, 0, [94])), (16, (0, 1, 24, [])), (17, (0, 1, 24, []))], [(9, [15, 6], [7]), (9, [13, 6], [5]), (9, [12, 10], [0]), (6, [17, 9], [1]), (6, [16, 8], [1]), (24, [2, 10], []), (24, [1, 7], []), (24, [0, 6], []), (100, [15, 8, 9], []), (7, [14, 7], [0]), (10, [14, 13, 9], []), (20, [6, 7, 8, 9], [60, 0, 2, 871, 5, 7])], [], [], [(20, [6, 7, 16, 17], [60, 0, 2, 871, 5, 7]), (20, [17, 10], [50, 1, 0, 1000, 0, 2, 1, 0, 2, 1, 0])], [], [(17, 9, 1, 1), (17, 12, -4294967296, 0), (16, 8, 1, 1), (16, 9, -4294967296, 1), (9, 12, -4294967296, -1), (8, 9, -4294967296, 0)])
theorem oo_Pl_placeOver_7 {kA : Nat → ClassId} : or_ok PRD kA GG o_Pl_placeOver_7 := by
  refine or_mk fun A ta ws vs hD hth hl => ?_
  intro t0 r0 t1 k1 t2 r2 t3 r3 t8 k8 t9 k9 t12 k12 t14 k14 t15 r15 t16 k16 t17 k17 d0 d1 d2 d3 d5 d8 f0 f1 f2 f3 f4 f11 f13 f14 ta1 w1 le1 s1 f16 f17 f24
  replace f0 := shm_198 f0
  replace f1 := shm_110 f1
  replace f2 := shm_163 f2
  replace f3 := shm_4 f3
  replace f4 := shm_4 f4
  replace f11 := shm_5 f11
  replace f13 := shm_5 f13
  replace f14 := shm_5 f14
  have s1 : (∀ b j, w_el ws b j = if b = v_ad (n_v vs 15) ∧ j = (v_iv (n_v vs 8)).toNat then v_iv (n_v vs 9) else w_el w1 b j) ∧ ∀ b k, w_fd ws b k = w_fd w1 b k := s1.2
  replace f16 := shm_37 f16
  replace f17 := shm_107 f17
  replace f24 := shm_1389 f24
  have q10 : n_v vs 10 = n_v vs 2 := f11.symm
  have q7 : n_v vs 7 = n_v vs 1 := f13.symm
  have q6 : n_v vs 6 = n_v vs 0 := f14.symm
  simp only [q6, q10, q7] at f0 f1 f2 f16 f24
  have ar_0_2_1 : w_ar w1 (n_v vs 0) 2 = w_ar ws (n_v vs 0) 2 := congrArg v_ad (s1.2 _ _).symm
  have cr_0_2 := fdq_89 hD hth r0
  have ar_0_4_1 : w_ar w1 (n_v vs 0) 4 = w_ar ws (n_v vs 0) 4 := congrArg v_ad (s1.2 _ _).symm
  have cr_0_4 := fdq_86 hD hth r0
  have ar_0_5_1 : w_ar w1 (n_v vs 0) 5 = w_ar ws (n_v vs 0) 5 := congrArg v_ad (s1.2 _ _).symm
  have cr_0_5 := fdq_90 hD hth r0
  have ar_0_6_1 : w_ar w1 (n_v vs 0) 6 = w_ar ws (n_v vs 0) 6 := congrArg v_ad (s1.2 _ _).symm
  have cr_0_6 := fdq_264 hD hth r0
  have ar_0_7_1 : w_ar w1 (n_v vs 0) 7 = w_ar ws (n_v vs 0) 7 := congrArg v_ad (s1.2 _ _).symm
  have ar_3_2_1 : w_ar w1 (n_v vs 3) 2 = w_ar ws (n_v vs 3) 2 := congrArg v_ad (s1.2 _ _).symm
  have cr_3_2 := fdq_45 hD hth r3
  have ad_15 : v_ad (n_v vs 15) = w_ar ws (n_v vs 0) 7 := congrArg v_ad f0
  have ad_13 : v_ad (n_v vs 13) = w_ar ws (n_v vs 0) 5 := congrArg v_ad f1
  have g2 : v_iv (n_v vs 12) = w_fi ws (n_v vs 2) 0 := congrArg v_iv f2
  simp only [ad_13] at f17
  have h17 : v_iv (n_v vs 14) = w_ei w1 (w_ar ws (n_v vs 0) 5) (v_iv (n_v vs 9)) := f17
  simp only [ar_0_2_1, ar_0_5_1, ar_3_2_1, ar_0_6_1, ar_0_4_1, ar_0_7_1] at f24
  have fe_2_0_1 : w_fi ws (n_v vs 2) 0 = w_fi w1 (n_v vs 2) 0 := congrArg v_iv (s1.2 _ _)
  have hE_0_2_1 : ∀ j : Int, w_ei ws (w_ar ws (n_v vs 0) 2) j = w_ei w1 (w_ar ws (n_v vs 0) 2) j := el_kp s1.1 r15 cr_0_2 (by decide)
  have hE_0_4_1 : ∀ j : Int, w_ei ws (w_ar ws (n_v vs 0) 4) j = w_ei w1 (w_ar ws (n_v vs 0) 4) j := el_kp s1.1 r15 cr_0_4 (by decide)
  have hE_0_5_1 : ∀ j : Int, w_ei ws (w_ar ws (n_v vs 0) 5) j = w_ei w1 (w_ar ws (n_v vs 0) 5) j := el_kp s1.1 r15 cr_0_5 (by decide)
  have hE_0_6_1 : ∀ j : Int, w_ei ws (w_ar ws (n_v vs 0) 6) j = w_ei w1 (w_ar ws (n_v vs 0) 6) j := el_kp s1.1 r15 cr_0_6 (by decide)
  have hE_0_7_1 : ∀ j : Int, 0 ≤ j → (j = v_iv (n_v vs 8) → w_ei ws (w_ar ws (n_v vs 0) 7) j = v_iv (n_v vs 9)) ∧ (j ≠ v_iv (n_v vs 8) → w_ei ws (w_ar ws (n_v vs 0) 7) j = w_ei w1 (w_ar ws (n_v vs 0) 7) j) := fun j hj => ⟨fun h => by unfold w_ei; rw [s1.1, if_pos ⟨ad_15.symm, by rw [h]⟩], fun h => by unfold w_ei; rw [s1.1, if_neg (fun e => h (by have := e.2; omega))]⟩
  have hE_3_2_1 : ∀ j : Int, w_ei ws (w_ar ws (n_v vs 3) 2) j = w_ei w1 (w_ar ws (n_v vs 3) 2) j := el_kp s1.1 r15 cr_3_2 (by decide)
  have kz_2_0 := fdq_21 hD hth r2
  have nf0 : fc_1 PRD (20, [6, 7, 16, 17], [60, 0, 2, 871, 5, 7]) ws (vs) := by
    refine ⟨nf_in hl rfl, sgq_1389 ?_⟩
    · show TQL (w_ei ws (w_ar ws (n_v vs 6) 5)) (w_ei ws (w_ar ws (n_v vs 6) 7)) (v_iv (n_v vs 7)) (v_iv (n_v vs 16)) (v_iv (n_v vs 17))
      simp only [q7, q6]
      exact vc_Pl_placeOver_7_0 (v_iv (n_v vs 1)) (v_iv (n_v vs 8)) (v_iv (n_v vs 9)) (v_iv (n_v vs 14)) (v_iv (n_v vs 16)) (v_iv (n_v vs 17)) (w_fi ws (n_v vs 2) 0) (w_ei ws (w_ar ws (n_v vs 0) 2)) (w_ei ws (w_ar ws (n_v vs 0) 5)) (w_ei ws (w_ar ws (n_v vs 3) 2)) (w_ei ws (w_ar ws (n_v vs 0) 6)) (w_ei ws (w_ar ws (n_v vs 0) 4)) (w_ei w1 (w_ar ws (n_v vs 0) 5)) (w_ei w1 (w_ar ws (n_v vs 0) 2)) (w_ei w1 (w_ar ws (n_v vs 3) 2)) (w_fi w1 (n_v vs 2) 0) (w_ei w1 (w_ar ws (n_v vs 0) 6)) (w_ei w1 (w_ar ws (n_v vs 0) 4)) (w_ei w1 (w_ar ws (n_v vs 0) 7)) (w_ei ws (w_ar ws (n_v vs 0) 7)) k1 k8 k9 k14 k16 k17 d0 f3 f4 f16 h17 f24 fe_2_0_1 hE_0_2_1 hE_0_4_1 hE_0_5_1 hE_0_6_1 hE_0_7_1 hE_3_2_1 kz_2_0
  have nf1 : fc_1 PRD (20, [17, 10], [50, 1, 0, 1000, 0, 2, 1, 0, 2, 1, 0]) ws (vs) := by
    refine ⟨nf_in hl rfl, sgq_411 ?_⟩
    · show v_iv (n_v vs 17) ≤ w_fi ws (n_v vs 10) 0
      rw [q10]
      exact vc_Pl_placeOver_7_1 (v_iv (n_v vs 1)) (v_iv (n_v vs 5)) (v_iv (n_v vs 8)) (v_iv (n_v vs 9)) (v_iv (n_v vs 12)) (v_iv (n_v vs 16)) (v_iv (n_v vs 17)) (w_fi ws (n_v vs 2) 0) (w_ei ws (w_ar ws (n_v vs 0) 2)) (w_ei ws (w_ar ws (n_v vs 0) 5)) (w_ei ws (w_ar ws (n_v vs 3) 2)) (w_ei ws (w_ar ws (n_v vs 0) 6)) (w_ei ws (w_ar ws (n_v vs 0) 4)) (w_ei w1 (w_ar ws (n_v vs 0) 5)) (w_ei w1 (w_ar ws (n_v vs 0) 2)) (w_ei w1 (w_ar ws (n_v vs 3) 2)) (w_fi w1 (n_v vs 2) 0) (w_ei w1 (w_ar ws (n_v vs 0) 6)) (w_ei w1 (w_ar ws (n_v vs 0) 4)) (w_ei ws (w_ar ws (n_v vs 0) 7)) k1 k9 k12 k17 d0 d1 d5 g2 fe_2_0_1 hE_0_2_1 hE_0_4_1 hE_0_5_1 hE_0_6_1 hE_3_2_1 kz_2_0
  refine ⟨(fun _ h => (by cases h)), [], trivial, ?_, (fun _ h => (by cases h))⟩
  rw [List.append_nil]
  exact List.forall_mem_cons.mpr ⟨⟨show (20 : Nat) < 100 from by decide, nf0⟩, List.forall_mem_cons.mpr ⟨⟨show (20 : Nat) < 100 from by decide, nf1⟩, (fun _ h => (by cases h))⟩⟩
def n_Pl_placeOver_an : List an_T := [(4, [(0, (2, 0, 0, [6])), (1, (0, 0, 23, [])), (2, (0, 0, 24, [])), (3, (0, 0, 24, []))], [], (0, 0), [(0, 0, 99996), (1, 9, 24), (0, 0, 100000)], [(1, 7, (Int.negSucc 999999999999), 0), (7, 1, (Int.negSucc 999999999999), 0), (8, 9, (Int.negSucc 999999999999), 0)], [((0, 0), (2, 0, 0, [3])), ((0, 1), (2, 0, 0, [0]))], [(2, 0, 0, [6]), (0, 0, 23, []), (2, 0, 0, [3]), (2, 0, 0, [0]), (0, 0, 24, []), (0, 0, 24, [])], 0, [], [(20, [6, 10, 11, 4, 5], [60, 1, 3, 865, 1000, 2, 5, 2002]), (20, [6, 10, 4, 5], [60, 1, 2, 860, 1000, 2, 6]), (20, [6, 10, 4], [60, 1, 3, 859, 1000, 2, 5, 4]), (20, [7, 6, 5], [50, 0, 1, 1002, 1, 2, 1, 0, 3, 1, 2, 1, 2]), (20, [5, 4], [50, 0, 0, 0, 6, 4, 2, 1, 0, 0, 1, 1, 1]), (20, [6, 7, 8, 9], [60, 0, 2, 871, 5, 7]), (20, [9, 10], [50, 1, 0, 1000, 0, 2, 1, 0, 2, 1, 0]), (24, [2, 10], []), (24, [3, 11], []), (24, [1, 7], []), (24, [0, 6], []), (24, [1, 7], [])])]
def t_Pl_placeOver_ct : ct_L := [(1, 123, e_Pl_placeSideBySide), (315, 141, e_jMath_floorDiv1_v132)]
set_option maxRecDepth 100000 in
theorem c_Pl_placeOver {l : Launch} {D : va_G} {kA : Nat → ClassId} (h_Pl_placeSideBySide : ct_ok PRD l D kA GG y_Pl_placeSideBySide z_Pl_placeSideBySide e_Pl_placeSideBySide) : ct_ok PRD l D kA GG y_Pl_placeOver z_Pl_placeOver e_Pl_placeOver := chk_all_ok (FT := [(9, 6, 0), (15, 6, 1), (29, 6, 5), (32, 6, 6), (35, 6, 7), (74, 3, 0), (127, 0, 2)]) (PT := []) (CT := t_Pl_placeOver_ct) (KT := []) (NT := []) (AN := n_Pl_placeOver_an) (OT := [o_Pl_placeOver_0, o_Pl_placeOver_1, o_Pl_placeOver_2, o_Pl_placeOver_3, o_Pl_placeOver_4, o_Pl_placeOver_5, o_Pl_placeOver_6, o_Pl_placeOver_7]) 3 276 (List.forall_mem_cons.mpr ⟨oo_Pl_placeOver_0, List.forall_mem_cons.mpr ⟨oo_Pl_placeOver_1, List.forall_mem_cons.mpr ⟨oo_Pl_placeOver_2, List.forall_mem_cons.mpr ⟨oo_Pl_placeOver_3, List.forall_mem_cons.mpr ⟨oo_Pl_placeOver_4, List.forall_mem_cons.mpr ⟨oo_Pl_placeOver_5, List.forall_mem_cons.mpr ⟨oo_Pl_placeOver_6, List.forall_mem_cons.mpr ⟨oo_Pl_placeOver_7, List.forall_mem_nil _⟩⟩⟩⟩⟩⟩⟩⟩) (by decide +kernel) ⟨List.forall_mem_cons.mpr ⟨gf_Pl_9, List.forall_mem_cons.mpr ⟨gf_Pl_15, List.forall_mem_cons.mpr ⟨gf_Pl_29, List.forall_mem_cons.mpr ⟨gf_Pl_32, List.forall_mem_cons.mpr ⟨gf_Pl_35, List.forall_mem_cons.mpr ⟨gf_Pl_74, List.forall_mem_cons.mpr ⟨gf_Pl_127, List.forall_mem_nil _⟩⟩⟩⟩⟩⟩⟩, List.forall_mem_nil _, List.forall_mem_cons.mpr ⟨cl_virtual (y := y_Pl_placeSideBySide) (ci := 6) rfl rfl ⟨_, _, rfl⟩ (by decide +kernel) h_Pl_placeSideBySide wm_1707 wm_21 wm_1704 wm_1706 wv_7_10 ⟨by decide, by decide, by decide +kernel⟩ (by decide), List.forall_mem_cons.mpr ⟨cl_static (y := y_jMath_floorDiv1) c_jMath_floorDiv1_v132 wm_1617 wm_10 wm_1715 wm_1616 ⟨by decide, by decide, by decide +kernel⟩ (by decide), List.forall_mem_nil _⟩⟩, List.forall_mem_nil _, List.forall_mem_nil _, GG_pl⟩ (by decide +kernel)

set_option maxHeartbeats 4000000 in
theorem vc_Pn_placeNext_0_0 (x6 : Int) (x7 : Int) (x8 : Int) (line_0 : Int → Int) (order_0 : Int → Int) (lineLength_0 : Int) (k6 : 3 ≤ x6 ∧ x6 ≤ 23) (k7 : (-1) ≤ x7 ∧ x7 ≤ (-1)) (k8 : 0 ≤ x8 ∧ x8 ≤ 0) (f1 : LNO (lineLength_0) (line_0) (order_0) (x6)) (kz_0_3 : 0 ≤ lineLength_0 ∧ lineLength_0 ≤ 24) : (((-1) ≤ x7) ∧ ((x7 + 1) ≤ lineLength_0)) ∧ ((0 ≤ x8) ∧ ((x8 + 1) ≤ lineLength_0)) := by
  first
    | omega
    | assumption
    | (have h := (‹LNO _ _ _ _›).1; omega)
    | (rw [(hE_0_6_1 0 (by omega)).1 (by omega), show gx = x6 by omega]; assumption)
def o_Pn_placeNext_0 : or_T := (8, 10, [(0, (2, 0, 0, [7])), (6, (0, 3, 23, [])), (7, (0, -1, -1, [])), (8, (0, 0, 0, []))], [(20, [0, 6], [60, 1, 2, 889, 3, 2, 1])], [], [], [(20, [7, 0, 8], [50, 1, 0, 1003, 2, 19, 2, 6, 0, 2, 0, -1, 1, 0, 0, 6, 4, 2, 1, 0, 0, 1, 2, 1, 3, 2, 6, 0, 2, 0, 0, 1, 2, 0, 6, 4, 2, 1, 2, 0, 1, 2, 1, 3]), (24, [3, 3], []), (24, [0, 0], []), (24, [1, 1], [])], [], [])
theorem oo_Pn_placeNext_0 {kA : Nat → ClassId} : or_ok PRD kA GG o_Pn_placeNext_0 := by
  refine or_mk fun A ta ws vs hD hth hl => ?_
  intro t0 r0 t6 k6 t7 k7 t8 k8 f1
  have kz_0_3 := fdq_13 hD hth r0
  have nf0 : fc_1 PRD (20, [7, 0, 8], [50, 1, 0, 1003, 2, 19, 2, 6, 0, 2, 0, -1, 1, 0, 0, 6, 4, 2, 1, 0, 0, 1, 2, 1, 3, 2, 6, 0, 2, 0, 0, 1, 2, 0, 6, 4, 2, 1, 2, 0, 1, 2, 1, 3]) ws (vs) := ⟨nf_in hl rfl, sgq_1395 (vc_Pn_placeNext_0_0 (v_iv (n_v vs 6)) (v_iv (n_v vs 7)) (v_iv (n_v vs 8)) (w_ei ws (w_ar ws (n_v vs 0) 2)) (w_ei ws (w_ar ws (n_v vs 0) 1)) (w_fi ws (n_v vs 0) 3) k6 k7 k8 (shm_899 f1) kz_0_3)⟩
  have nf1 : fc_1 PRD (24, [3, 3], []) ws (vs) := by
    refine ⟨nf_in hl rfl, sgq_1 ?_⟩
    · show n_v vs 3 = n_v vs 3
      first | rfl | simp only [true_and]
  have nf2 : fc_1 PRD (24, [0, 0], []) ws (vs) := by
    refine ⟨nf_in hl rfl, sgq_1 ?_⟩
    · show n_v vs 0 = n_v vs 0
      first | rfl | simp only [true_and]
  have nf3 : fc_1 PRD (24, [1, 1], []) ws (vs) := by
    refine ⟨nf_in hl rfl, sgq_1 ?_⟩
    · show n_v vs 1 = n_v vs 1
      first | rfl | simp only [true_and]
  refine ⟨(fun _ h => (by cases h)), [], trivial, ?_, (fun _ h => (by cases h))⟩
  rw [List.append_nil]
  exact List.forall_mem_cons.mpr ⟨⟨show (20 : Nat) < 100 from by decide, nf0⟩, List.forall_mem_cons.mpr ⟨⟨show (24 : Nat) < 100 from by decide, nf1⟩, List.forall_mem_cons.mpr ⟨⟨show (24 : Nat) < 100 from by decide, nf2⟩, List.forall_mem_cons.mpr ⟨⟨show (24 : Nat) < 100 from by decide, nf3⟩, (fun _ h => (by cases h))⟩⟩⟩⟩
set_option maxHeartbeats 4000000 in
theorem vc_Pn_placeNext_1_0 (x6 : Int) (x9 : Int) (x12 : Int) (x16 : Int) (x18 : Int) (x19 : Int) (x20 : Int) (x21 : Int) (lineLength_0 : Int) (line_0 : Int → Int) (order_0 : Int → Int) (line_1 : Int → Int) (order_1 : Int → Int) (lineLength_1 : Int) (under_1 : Int → Int) (x_1o1 : Int → Int) (y_1o1 : Int → Int) (under_0 : Int → Int) (x_0o1 : Int → Int) (y_0o1 : Int → Int) (k6 : 3 ≤ x6 ∧ x6 ≤ 23) (k9 : 0 ≤ x9 ∧ x9 ≤ 23) (k16 : 0 ≤ x16 ∧ x16 ≤ 23) (k18 : 1 ≤ x18 ∧ x18 ≤ 1) (k19 : 1 ≤ x19 ∧ x19 ≤ 8388608) (k21 : 1 ≤ x21 ∧ x21 ≤ 24) (d0 : x16 + 1 ≤ x21 ∧ x21 ≤ x16 + 1) (f9 : x9 = order_0 (x6)) (f14 : bvp (x19) = bvp (x18) <<< (x9).toNat) (f20 : CGO (order_1) (under_1) (x_1o1) (y_1o1) (x6)) (fe_0_3_1 : lineLength_0 = lineLength_1) (hE_0_1_1 : ∀ j : Int, order_0 j = order_1 j) (hE_0_2_1 : ∀ j : Int, line_0 j = line_1 j) (hE_0_4_1 : ∀ j : Int, 0 ≤ j → (j = x9 → under_0 j = x19) ∧ (j ≠ x9 → under_0 j = under_1 j)) (hE_1_2_1 : ∀ j : Int, x_0o1 j = x_1o1 j) (hE_1_3_1 : ∀ j : Int, y_0o1 j = y_1o1 j) (kz_0_3 : 0 ≤ lineLength_0 ∧ lineLength_0 ≤ 24) : CO2 (order_0) (under_0) (x_0o1) (y_0o1) (x6) (x21) (x9) := by
  subst fe_0_3_1
  have e_hE_0_1_1 := funext hE_0_1_1; subst e_hE_0_1_1
  have e_hE_0_2_1 := funext hE_0_2_1; subst e_hE_0_2_1
  have e_hE_1_2_1 := funext hE_1_2_1; subst e_hE_1_2_1
  have e_hE_1_3_1 := funext hE_1_3_1; subst e_hE_1_3_1
  first
    | exact co2_of ‹CGO _ _ _ _ _› (by assumption) rfl (fun z a b => bit_shl (by assumption) (by omega) (by omega) a (by omega)) (by omega) (by omega) (by omega)
set_option maxHeartbeats 4000000 in
theorem vc_Pn_placeNext_1_1 (x6 : Int) (x10 : Int) (x11 : Int) (x14 : Int) (x15 : Int) (x16 : Int) (x21 : Int) (lineLength_0 : Int) (line_0 : Int → Int) (order_0 : Int → Int) (line_1 : Int → Int) (order_1 : Int → Int) (lineLength_1 : Int) (x_1o1 : Int → Int) (y_1o1 : Int → Int) (x_0o1 : Int → Int) (y_0o1 : Int → Int) (k10 : (-1) ≤ x10 ∧ x10 ≤ 23) (k11 : 0 ≤ x11 ∧ x11 ≤ 23) (k14 : 0 ≤ x14 ∧ x14 ≤ 24) (k15 : 0 ≤ x15 ∧ x15 ≤ 0) (k16 : 0 ≤ x16 ∧ x16 ≤ 23) (k21 : 1 ≤ x21 ∧ x21 ≤ 24) (d0 : x16 + 1 ≤ x21 ∧ x21 ≤ x16 + 1) (g1 : x14 = lineLength_0) (f8 : (((-1) ≤ x10) ∧ ((x10 + 1) ≤ lineLength_0)) ∧ ((0 ≤ x11) ∧ ((x11 + 1) ≤ lineLength_0))) (f17 : (x16 = x10) ∨ (x16 = x15)) (fe_0_3_1 : lineLength_0 = lineLength_1) (hE_0_1_1 : ∀ j : Int, order_0 j = order_1 j) (hE_0_2_1 : ∀ j : Int, line_0 j = line_1 j) (hE_1_2_1 : ∀ j : Int, x_0o1 j = x_1o1 j) (hE_1_3_1 : ∀ j : Int, y_0o1 j = y_1o1 j) (kz_0_3 : 0 ≤ lineLength_0 ∧ lineLength_0 ≤ 24) : ((0 ≤ x16) ∧ ((x16 + 1) ≤ lineLength_0)) ∧ ((0 ≤ x11) ∧ ((x11 + 1) ≤ lineLength_0)) := by
  subst fe_0_3_1
  have e_hE_0_1_1 := funext hE_0_1_1; subst e_hE_0_1_1
  have e_hE_0_2_1 := funext hE_0_2_1; subst e_hE_0_2_1
  have e_hE_1_2_1 := funext hE_1_2_1; subst e_hE_1_2_1
  have e_hE_1_3_1 := funext hE_1_3_1; subst e_hE_1_3_1
  first
    | omega
    | assumption
    | (have h := (‹LNO _ _ _ _›).1; omega)
    | (rw [(hE_0_6_1 0 (by omega)).1 (by omega), show gx = x6 by omega]; assumption)
set_option maxHeartbeats 4000000 in
theorem vc_Pn_placeNext_1_2 (x6 : Int) (x16 : Int) (x21 : Int) (lineLength_0 : Int) (line_0 : Int → Int) (order_0 : Int → Int) (line_1 : Int → Int) (order_1 : Int → Int) (lineLength_1 : Int) (x_1o1 : Int → Int) (y_1o1 : Int → Int) (x_0o1 : Int → Int) (y_0o1 : Int → Int) (k16 : 0 ≤ x16 ∧ x16 ≤ 23) (k21 : 1 ≤ x21 ∧ x21 ≤ 24) (d0 : x16 + 1 ≤ x21 ∧ x21 ≤ x16 + 1) (fe_0_3_1 : lineLength_0 = lineLength_1) (hE_0_1_1 : ∀ j : Int, order_0 j = order_1 j) (hE_0_2_1 : ∀ j : Int, line_0 j = line_1 j) (hE_1_2_1 : ∀ j : Int, x_0o1 j = x_1o1 j) (hE_1_3_1 : ∀ j : Int, y_0o1 j = y_1o1 j) (kz_0_3 : 0 ≤ lineLength_0 ∧ lineLength_0 ≤ 24) : (1 ≤ x21) ∧ ((x16 + 1) ≤ x21) := by
  subst fe_0_3_1
  have e_hE_0_1_1 := funext hE_0_1_1; subst e_hE_0_1_1
  have e_hE_0_2_1 := funext hE_0_2_1; subst e_hE_0_2_1
  have e_hE_1_2_1 := funext hE_1_2_1; subst e_hE_1_2_1
  have e_hE_1_3_1 := funext hE_1_3_1; subst e_hE_1_3_1
  first
    | omega
    | assumption
    | (have h := (‹LNO _ _ _ _›).1; omega)
    | (rw [(hE_0_6_1 0 (by omega)).1 (by omega), show gx = x6 by omega]; assumption)
def o_Pn_placeNext_1 : or_T := (81, 22, [(0, (2, 0, 0, [7])), (1, (2, 0, 0, [0])), (6, (0, 3, 23, [])), (9, (0, 0, 23, [])), (10, (0, -1, 23, [])), (11, (0, 0, 23, [])), (14, (0, 0, 24, [])), (15, (0, 0, 0, [])), (16, (0, 0, 23, [])), (17, (2, 0, 0, [104])), (18, (0, 1, 1, [])), (19, (0, 1, 8388608, [])), (21, (0, 1, 24, []))], [(9, [17, 7], [4]), (9, [14, 7], [3]), (20, [10, 7, 11], [50, 1, 0, 1003, 2, 19, 2, 6, 0, 2, 0, -1, 1, 0, 0, 6, 4, 2, 1, 0, 0, 1, 2, 1, 3, 2, 6, 0, 2, 0, 0, 1, 2, 0, 6, 4, 2, 1, 2, 0, 1, 2, 1, 3]), (20, [9, 7, 6], [50, 0, 1, 1001, 1, 2, 1, 0, 3, 1, 1, 1, 2]), (24, [0, 7], []), (24, [1, 8], []), (100, [17, 9, 19], []), (16, [19, 18, 9], [3]), (20, [16, 10, 15], [50, 0, 0, 3, 6, 1, 2, 1, 0, 1, 1, 1, 2, 1, 0, 1, 2]), (20, [7, 8, 6], [60, 0, 4, 883, 1, 4, 1002, 1003])], [], [], [(20, [7, 8, 6, 21, 9], [60, 0, 4, 885, 1, 4, 1002, 1003]), (20, [16, 7, 11], [50, 1, 0, 1003, 2, 19, 2, 6, 0, 2, 0, 0, 1, 0, 0, 6, 4, 2, 1, 0, 0, 1, 2, 1, 3, 2, 6, 0, 2, 0, 0, 1, 2, 0, 6, 4, 2, 1, 2, 0, 1, 2, 1, 3]), (20, [21, 16], [50, 0, 0, 2, 6, 0, 2, 0, 1, 1, 0, 0, 6, 4, 2, 1, 1, 0, 1, 1, 0])], [], [(21, 16, 1, 1)])
theorem oo_Pn_placeNext_1 {kA : Nat → ClassId} : or_ok PRD kA GG o_Pn_placeNext_1 := by
  refine or_mk fun A ta ws vs hD hth hl => ?_
  intro t0 r0 t1 r1 t6 k6 t9 k9 t10 k10 t11 k11 t14 k14 t15 k15 t16 k16 t17 r17 t18 k18 t19 k19 t21 k21 d0 f0 f1 f8 f9 f11 f12 ta1 w1 le1 s1 f14 f17 f20
  replace f0 := shm_108 f0
  replace f1 := shm_137 f1
  replace f8 := shm_1395 f8
  replace f9 := shm_1394 f9
  replace f11 := shm_5 f11
  replace f12 := shm_5 f12
  have s1 : (∀ b j, w_el ws b j = if b = v_ad (n_v vs 17) ∧ j = (v_iv (n_v vs 9)).toNat then v_iv (n_v vs 19) else w_el w1 b j) ∧ ∀ b k, w_fd ws b k = w_fd w1 b k := s1.2
  replace f14 := shm_349 f14
  replace f17 := shm_898 f17
  replace f20 := shm_1393 f20
  have q7 : n_v vs 7 = n_v vs 0 := f11.symm
  have q8 : n_v vs 8 = n_v vs 1 := f12.symm
  simp only [q7, q8] at f0 f1 f8 f9 f20
  have ar_0_1_1 : w_ar w1 (n_v vs 0) 1 = w_ar ws (n_v vs 0) 1 := congrArg v_ad (s1.2 _ _).symm
  have cr_0_1 := fdq_92 hD hth r0
  have ar_0_2_1 : w_ar w1 (n_v vs 0) 2 = w_ar ws (n_v vs 0) 2 := congrArg v_ad (s1.2 _ _).symm
  have cr_0_2 := fdq_227 hD hth r0
  have ar_0_4_1 : w_ar w1 (n_v vs 0) 4 = w_ar ws (n_v vs 0) 4 := congrArg v_ad (s1.2 _ _).symm
  have ar_1_2_1 : w_ar w1 (n_v vs 1) 2 = w_ar ws (n_v vs 1) 2 := congrArg v_ad (s1.2 _ _).symm
  have cr_1_2 := fdq_45 hD hth r1
  have ar_1_3_1 : w_ar w1 (n_v vs 1) 3 = w_ar ws (n_v vs 1) 3 := congrArg v_ad (s1.2 _ _).symm
  have cr_1_3 := fdq_48 hD hth r1
  have ad_17 : v_ad (n_v vs 17) = w_ar ws (n_v vs 0) 4 := congrArg v_ad f0
  have g1 : v_iv (n_v vs 14) = w_fi ws (n_v vs 0) 3 := congrArg v_iv f1
  simp only [ar_0_1_1, ar_0_2_1, ar_0_4_1, ar_1_2_1, ar_1_3_1] at f20
  have fe_0_3_1 : w_fi ws (n_v vs 0) 3 = w_fi w1 (n_v vs 0) 3 := congrArg v_iv (s1.2 _ _)
  have hE_0_1_1 : ∀ j : Int, w_ei ws (w_ar ws (n_v vs 0) 1) j = w_ei w1 (w_ar ws (n_v vs 0) 1) j := el_kp s1.1 r17 cr_0_1 (by decide)
  have hE_0_2_1 : ∀ j : Int, w_ei ws (w_ar ws (n_v vs 0) 2) j = w_ei w1 (w_ar ws (n_v vs 0) 2) j := el_kp s1.1 r17 cr_0_2 (by decide)
  have hE_0_4_1 : ∀ j : Int, 0 ≤ j → (j = v_iv (n_v vs 9) → w_ei ws (w_ar ws (n_v vs 0) 4) j = v_iv (n_v vs 19)) ∧ (j ≠ v_iv (n_v vs 9) → w_ei ws (w_ar ws (n_v vs 0) 4) j = w_ei w1 (w_ar ws (n_v vs 0) 4) j) := fun j hj => ⟨fun h => by unfold w_ei; rw [s1.1, if_pos ⟨ad_17.symm, by rw [h]⟩], fun h => by unfold w_ei; rw [s1.1, if_neg (fun e => h (by have := e.2; omega))]⟩
  have hE_1_2_1 : ∀ j : Int, w_ei ws (w_ar ws (n_v vs 1) 2) j = w_ei w1 (w_ar ws (n_v vs 1) 2) j := el_kp s1.1 r17 cr_1_2 (by decide)
  have hE_1_3_1 : ∀ j : Int, w_ei ws (w_ar ws (n_v vs 1) 3) j = w_ei w1 (w_ar ws (n_v vs 1) 3) j := el_kp s1.1 r17 cr_1_3 (by decide)
  have kz_0_3 := fdq_13 hD hth r0
  have nf0 : fc_1 PRD (20, [7, 8, 6, 21, 9], [60, 0, 4, 885, 1, 4, 1002, 1003]) ws (vs) := by
    refine ⟨nf_in hl rfl, sgq_431 ?_⟩
    · show CO2 (w_ei ws (w_ar ws (n_v vs 7) 1)) (w_ei ws (w_ar ws (n_v vs 7) 4)) (w_ei ws (w_ar ws (n_v vs 8) 2)) (w_ei ws (w_ar ws (n_v vs 8) 3)) (v_iv (n_v vs 6)) (v_iv (n_v vs 21)) (v_iv (n_v vs 9))
      simp only [q7, q8]
      exact vc_Pn_placeNext_1_0 (v_iv (n_v vs 6)) (v_iv (n_v vs 9)) (v_iv (n_v vs 12)) (v_iv (n_v vs 16)) (v_iv (n_v vs 18)) (v_iv (n_v vs 19)) (v_iv (n_v vs 20)) (v_iv (n_v vs 21)) (w_fi ws (n_v vs 0) 3) (w_ei ws (w_ar ws (n_v vs 0) 2)) (w_ei ws (w_ar ws (n_v vs 0) 1)) (w_ei w1 (w_ar ws (n_v vs 0) 2)) (w_ei w1 (w_ar ws (n_v vs 0) 1)) (w_fi w1 (n_v vs 0) 3) (w_ei w1 (w_ar ws (n_v vs 0) 4)) (w_ei w1 (w_ar ws (n_v vs 1) 2)) (w_ei w1 (w_ar ws (n_v vs 1) 3)) (w_ei ws (w_ar ws (n_v vs 0) 4)) (w_ei ws (w_ar ws (n_v vs 1) 2)) (w_ei ws (w_ar ws (n_v vs 1) 3)) k6 k9 k16 k18 k19 k21 d0 f9 f14 f20 fe_0_3_1 hE_0_1_1 hE_0_2_1 hE_0_4_1 hE_1_2_1 hE_1_3_1 kz_0_3
  have nf1 : fc_1 PRD (20, [16, 7, 11], [50, 1, 0, 1003, 2, 19, 2, 6, 0, 2, 0, 0, 1, 0, 0, 6, 4, 2, 1, 0, 0, 1, 2, 1, 3, 2, 6, 0, 2, 0, 0, 1, 2, 0, 6, 4, 2, 1, 2, 0, 1, 2, 1, 3]) ws (vs) := by
    refine ⟨nf_in hl rfl, sgq_1396 ?_⟩
    · show ((0 ≤ v_iv (n_v vs 16)) ∧ ((v_iv (n_v vs 16) + 1) ≤ w_fi ws (n_v vs 7) 3)) ∧ ((0 ≤ v_iv (n_v vs 11)) ∧ ((v_iv (n_v vs 11) + 1) ≤ w_fi ws (n_v vs 7) 3))
      rw [q7]
      exact vc_Pn_placeNext_1_1 (v_iv (n_v vs 6)) (v_iv (n_v vs 10)) (v_iv (n_v vs 11)) (v_iv (n_v vs 14)) (v_iv (n_v vs 15)) (v_iv (n_v vs 16)) (v_iv (n_v vs 21)) (w_fi ws (n_v vs 0) 3) (w_ei ws (w_ar ws (n_v vs 0) 2)) (w_ei ws (w_ar ws (n_v vs 0) 1)) (w_ei w1 (w_ar ws (n_v vs 0) 2)) (w_ei w1 (w_ar ws (n_v vs 0) 1)) (w_fi w1 (n_v vs 0) 3) (w_ei w1 (w_ar ws (n_v vs 1) 2)) (w_ei w1 (w_ar ws (n_v vs 1) 3)) (w_ei ws (w_ar ws (n_v vs 1) 2)) (w_ei ws (w_ar ws (n_v vs 1) 3)) k10 k11 k14 k15 k16 k21 d0 g1 f8 f17 fe_0_3_1 hE_0_1_1 hE_0_2_1 hE_1_2_1 hE_1_3_1 kz_0_3
  have nf2 : fc_1 PRD (20, [21, 16], [50, 0, 0, 2, 6, 0, 2, 0, 1, 1, 0, 0, 6, 4, 2, 1, 1, 0, 1, 1, 0]) ws (vs) := ⟨nf_in hl rfl, sgq_1397 (vc_Pn_placeNext_1_2 (v_iv (n_v vs 6)) (v_iv (n_v vs 16)) (v_iv (n_v vs 21)) (w_fi ws (n_v vs 0) 3) (w_ei ws (w_ar ws (n_v vs 0) 2)) (w_ei ws (w_ar ws (n_v vs 0) 1)) (w_ei w1 (w_ar ws (n_v vs 0) 2)) (w_ei w1 (w_ar ws (n_v vs 0) 1)) (w_fi w1 (n_v vs 0) 3) (w_ei w1 (w_ar ws (n_v vs 1) 2)) (w_ei w1 (w_ar ws (n_v vs 1) 3)) (w_ei ws (w_ar ws (n_v vs 1) 2)) (w_ei ws (w_ar ws (n_v vs 1) 3)) k16 k21 d0 fe_0_3_1 hE_0_1_1 hE_0_2_1 hE_1_2_1 hE_1_3_1 kz_0_3)⟩
  refine ⟨(fun _ h => (by cases h)), [], trivial, ?_, (fun _ h => (by cases h))⟩
  rw [List.append_nil]
  exact List.forall_mem_cons.mpr ⟨⟨show (20 : Nat) < 100 from by decide, nf0⟩, List.forall_mem_cons.mpr ⟨⟨show (20 : Nat) < 100 from by decide, nf1⟩, List.forall_mem_cons.mpr ⟨⟨show (20 : Nat) < 100 from by decide, nf2⟩, (fun _ h => (by cases h))⟩⟩⟩
set_option maxHeartbeats 4000000 in
theorem vc_Pn_placeNext_2_0 (x6 : Int) (x10 : Int) (x11 : Int) (x12 : Int) (x14 : Int) (x24 : Int) (lineLength_0 : Int) (k10 : 0 ≤ x10 ∧ x10 ≤ 22) (k11 : 0 ≤ x11 ∧ x11 ≤ 23) (k12 : 1 ≤ x12 ∧ x12 ≤ 23) (k14 : 1 ≤ x14 ∧ x14 ≤ 24) (k24 : 2 ≤ x24 ∧ x24 ≤ 24) (d0 : x12 + 1 ≤ x24 ∧ x24 ≤ x12 + 1) (d1 : x14 + (-4294967296) ≤ x24 ∧ x24 ≤ x14 + 0) (d2 : x14 + (-4294967296) ≤ x12 ∧ x12 ≤ x14 + (-1)) (g12 : x14 = lineLength_0) (f15 : (((-1) ≤ x10) ∧ ((x10 + 1) ≤ lineLength_0)) ∧ ((0 ≤ x11) ∧ ((x11 + 1) ≤ lineLength_0))) (kz_0_3 : 0 ≤ lineLength_0 ∧ lineLength_0 ≤ 24) : (((-1) ≤ x10) ∧ ((x10 + 1) ≤ lineLength_0)) ∧ ((0 ≤ x12) ∧ ((x12 + 1) ≤ lineLength_0)) := by
  first
    | omega
    | assumption
    | (have h := (‹LNO _ _ _ _›).1; omega)
    | (rw [(hE_0_6_1 0 (by omega)).1 (by omega), show gx = x6 by omega]; assumption)
def o_Pn_placeNext_2 : or_T := (8, 25, [(0, (2, 0, 0, [7])), (1, (2, 0, 0, [0])), (3, (2, 0, 0, [102])), (6, (0, 3, 23, [])), (7, (2, 0, 0, [7])), (8, (2, 0, 0, [0])), (9, (0, 0, 23, [])), (10, (0, 0, 22, [])), (11, (0, 0, 23, [])), (12, (0, 1, 23, [])), (13, (2, 0, 0, [102])), (14, (0, 1, 24, [])), (15, (2, 0, 0, [294])), (16, (2, 0, 0, [287])), (17, (0, 0, 16777215, [])), (18, (2, 0, 0, [103])), (19, (0, 0, 23, [])), (20, (0, 0, 16777215, [])), (21, (0, 1, 1, [])), (22, (0, 1, 1, [])), (23, (0, -1, -1, [])), (24, (0, 2, 24, []))], [(9, [13, 7], [1]), (6, [24, 12], [1]), (7, [10, 23], [1]), (8, [22], [1]), (12, [22, 20], [2]), (16, [22, 20, 21], [0]), (16, [20, 17, 19], [4]), (10, [19, 18, 12], []), (9, [18, 7], [2]), (10, [17, 16, 9], []), (9, [16, 15], [9]), (7, [12, 14], [2]), (9, [14, 7], [3]), (20, [7, 6], [60, 1, 2, 889, 3, 2, 1]), (20, [7, 8, 6], [60, 0, 4, 883, 1, 4, 1002, 1003]), (20, [10, 7, 11], [50, 1, 0, 1003, 2, 19, 2, 6, 0, 2, 0, -1, 1, 0, 0, 6, 4, 2, 1, 0, 0, 1, 2, 1, 3, 2, 6, 0, 2, 0, 0, 1, 2, 0, 6, 4, 2, 1, 2, 0, 1, 2, 1, 3]), (20, [9, 7, 6], [50, 0, 1, 1001, 1, 2, 1, 0, 3, 1, 1, 1, 2]), (24, [3, 13], []), (24, [0, 7], []), (24, [1, 8], [])], [], [], [(20, [10, 7, 12], [50, 1, 0, 1003, 2, 19, 2, 6, 0, 2, 0, -1, 1, 0, 0, 6, 4, 2, 1, 0, 0, 1, 2, 1, 3, 2, 6, 0, 2, 0, 0, 1, 2, 0, 6, 4, 2, 1, 2, 0, 1, 2, 1, 3])], [], [(24, 12, 1, 1), (24, 14, -4294967296, 0), (12, 14, -4294967296, -1), (10, 11, -4294967296, 0), (10, 12, -4294967296, -1), (11, 12, -4294967296, 0)])
theorem oo_Pn_placeNext_2 {kA : Nat → ClassId} : or_ok PRD kA GG o_Pn_placeNext_2 := by
  refine or_mk fun A ta ws vs hD hth hl => ?_
  intro t0 r0 t1 r1 t3 r3 t6 k6 t7 r7 t8 r8 t9 k9 t10 k10 t11 k11 t12 k12 t13 r13 t14 k14 t15 r15 t16 r16 t17 k17 t18 r18 t19 k19 t20 k20 t21 k21 t22 k22 t23 k23 t24 k24 d0 d1 d2 d3 d4 d5 f0 f1 f2 f3 f4 f5 f6 f7 f8 f9 f10 f11 f12 f13 f14 f15 f16 f17 f18 f19
  replace f12 := shm_137 f12
  replace f15 := shm_1395 f15
  replace f18 := shm_5 f18
  have q7 : n_v vs 7 = n_v vs 0 := f18.symm
  simp only [q7] at f12 f15
  have g12 : v_iv (n_v vs 14) = w_fi ws (n_v vs 0) 3 := congrArg v_iv f12
  have kz_0_3 := fdq_13 hD hth r0
  have nf0 : fc_1 PRD (20, [10, 7, 12], [50, 1, 0, 1003, 2, 19, 2, 6, 0, 2, 0, -1, 1, 0, 0, 6, 4, 2, 1, 0, 0, 1, 2, 1, 3, 2, 6, 0, 2, 0, 0, 1, 2, 0, 6, 4, 2, 1, 2, 0, 1, 2, 1, 3]) ws (vs) := by
    refine ⟨nf_in hl rfl, sgq_1395 ?_⟩
    · show (((-1) ≤ v_iv (n_v vs 10)) ∧ ((v_iv (n_v vs 10) + 1) ≤ w_fi ws (n_v vs 7) 3)) ∧ ((0 ≤ v_iv (n_v vs 12)) ∧ ((v_iv (n_v vs 12) + 1) ≤ w_fi ws (n_v vs 7) 3))
      rw [q7]
      exact vc_Pn_placeNext_2_0 (v_iv (n_v vs 6)) (v_iv (n_v vs 10)) (v_iv (n_v vs 11)) (v_iv (n_v vs 12)) (v_iv (n_v vs 14)) (v_iv (n_v vs 24)) (w_fi ws (n_v vs 0) 3) k10 k11 k12 k14 k24 d0 d1 d2 g12 f15 kz_0_3
  refine ⟨(fun _ h => (by cases h)), [], trivial, ?_, (fun _ h => (by cases h))⟩
  rw [List.append_nil]
  exact List.forall_mem_cons.mpr ⟨⟨show (20 : Nat) < 100 from by decide, nf0⟩, (fun _ h => (by cases h))⟩
set_option maxHeartbeats 4000000 in
theorem vc_Pn_placeNext_3_0 (x6 : Int) (x12 : Int) (x14 : Int) (x24 : Int) (lineLength_0 : Int) (k12 : 0 ≤ x12 ∧ x12 ≤ 23) (k14 : 1 ≤ x14 ∧ x14 ≤ 24) (k24 : 1 ≤ x24 ∧ x24 ≤ 24) (d0 : x12 + 1 ≤ x24 ∧ x24 ≤ x12 + 1) (d1 : x14 + (-4294967296) ≤ x24 ∧ x24 ≤ x14 + 0) (d2 : x14 + (-4294967296) ≤ x12 ∧ x12 ≤ x14 + (-1)) (g12 : x14 = lineLength_0) (kz_0_3 : 0 ≤ lineLength_0 ∧ lineLength_0 ≤ 24) : (((-1) ≤ x12) ∧ ((x12 + 1) ≤ lineLength_0)) ∧ ((0 ≤ x12) ∧ ((x12 + 1) ≤ lineLength_0)) := by
  first
    | omega
    | assumption
    | (have h := (‹LNO _ _ _ _›).1; omega)
    | (rw [(hE_0_6_1 0 (by omega)).1 (by omega), show gx = x6 by omega]; assumption)
def o_Pn_placeNext_3 : or_T := (8, 25, [(0, (2, 0, 0, [7])), (1, (2, 0, 0, [0])), (3, (2, 0, 0, [102])), (6, (0, 3, 23, [])), (7, (2, 0, 0, [7])), (8, (2, 0, 0, [0])), (9, (0, 0, 23, [])), (10, (0, -1, -1, [])), (11, (0, 0, 23, [])), (12, (0, 0, 23, [])), (13, (2, 0, 0, [102])), (14, (0, 1, 24, [])), (15, (2, 0, 0, [294])), (16, (2, 0, 0, [287])), (17, (0, 0, 16777215, [])), (18, (2, 0, 0, [103])), (19, (0, 0, 23, [])), (20, (0, 0, 16777215, [])), (21, (0, 1, 1, [])), (22, (0, 1, 1, [])), (23, (0, -1, -1, [])), (24, (0, 1, 24, []))], [(9, [13, 7], [1]), (6, [24, 12], [1]), (7, [10, 23], [0]), (8, [22], [1]), (12, [22, 20], [2]), (16, [22, 20, 21], [0]), (16, [20, 17, 19], [4]), (10, [19, 18, 12], []), (9, [18, 7], [2]), (10, [17, 16, 9], []), (9, [16, 15], [9]), (7, [12, 14], [2]), (9, [14, 7], [3]), (20, [7, 6], [60, 1, 2, 889, 3, 2, 1]), (20, [7, 8, 6], [60, 0, 4, 883, 1, 4, 1002, 1003]), (20, [10, 7, 11], [50, 1, 0, 1003, 2, 19, 2, 6, 0, 2, 0, -1, 1, 0, 0, 6, 4, 2, 1, 0, 0, 1, 2, 1, 3, 2, 6, 0, 2, 0, 0, 1, 2, 0, 6, 4, 2, 1, 2, 0, 1, 2, 1, 3]), (20, [9, 7, 6], [50, 0, 1, 1001, 1, 2, 1, 0, 3, 1, 1, 1, 2]), (24, [3, 13], []), (24, [0, 7], []), (24, [1, 8], [])], [], [], [(20, [12, 7, 12], [50, 1, 0, 1003, 2, 19, 2, 6, 0, 2, 0, -1, 1, 0, 0, 6, 4, 2, 1, 0, 0, 1, 2, 1, 3, 2, 6, 0, 2, 0, 0, 1, 2, 0, 6, 4, 2, 1, 2, 0, 1, 2, 1, 3])], [], [(24, 12, 1, 1), (24, 14, -4294967296, 0), (12, 14, -4294967296, -1), (11, 12, -4294967296, 0)])
theorem oo_Pn_placeNext_3 {kA : Nat → ClassId} : or_ok PRD kA GG o_Pn_placeNext_3 := by
  refine or_mk fun A ta ws vs hD hth hl => ?_
  intro t0 r0 t1 r1 t3 r3 t6 k6 t7 r7 t8 r8 t9 k9 t10 k10 t11 k11 t12 k12 t13 r13 t14 k14 t15 r15 t16 r16 t17 k17 t18 r18 t19 k19 t20 k20 t21 k21 t22 k22 t23 k23 t24 k24 d0 d1 d2 d3 f0 f1 f2 f3 f4 f5 f6 f7 f8 f9 f10 f11 f12 f13 f14 f15 f16 f17 f18 f19
  replace f12 := shm_137 f12
  replace f18 := shm_5 f18
  have q7 : n_v vs 7 = n_v vs 0 := f18.symm
  simp only [q7] at f12
  have g12 : v_iv (n_v vs 14) = w_fi ws (n_v vs 0) 3 := congrArg v_iv f12
  have kz_0_3 := fdq_13 hD hth r0
  have nf0 : fc_1 PRD (20, [12, 7, 12], [50, 1, 0, 1003, 2, 19, 2, 6, 0, 2, 0, -1, 1, 0, 0, 6, 4, 2, 1, 0, 0, 1, 2, 1, 3, 2, 6, 0, 2, 0, 0, 1, 2, 0, 6, 4, 2, 1, 2, 0, 1, 2, 1, 3]) ws (vs) := by
    refine ⟨nf_in hl rfl, sgq_1398 ?_⟩
    · show (((-1) ≤ v_iv (n_v vs 12)) ∧ ((v_iv (n_v vs 12) + 1) ≤ w_fi ws (n_v vs 7) 3)) ∧ ((0 ≤ v_iv (n_v vs 12)) ∧ ((v_iv (n_v vs 12) + 1) ≤ w_fi ws (n_v vs 7) 3))
      rw [q7]
      exact vc_Pn_placeNext_3_0 (v_iv (n_v vs 6)) (v_iv (n_v vs 12)) (v_iv (n_v vs 14)) (v_iv (n_v vs 24)) (w_fi ws (n_v vs 0) 3) k12 k14 k24 d0 d1 d2 g12 kz_0_3
  refine ⟨(fun _ h => (by cases h)), [], trivial, ?_, (fun _ h => (by cases h))⟩
  rw [List.append_nil]
  exact List.forall_mem_cons.mpr ⟨⟨show (20 : Nat) < 100 from by decide, nf0⟩, (fun _ h => (by cases h))⟩
set_option maxHeartbeats 4000000 in
theorem vc_Pn_placeNext_4_0 (x6 : Int) (x10 : Int) (x11 : Int) (x12 : Int) (x16 : Int) (line_0 : Int → Int) (lineLength_0 : Int) (order_0 : Int → Int) (k6 : 3 ≤ x6 ∧ x6 ≤ 23) (k10 : 0 ≤ x10 ∧ x10 ≤ 23) (k11 : 0 ≤ x11 ∧ x11 ≤ 23) (k16 : 0 ≤ x16 ∧ x16 ≤ 23) (h3 : x16 = line_0 (x10)) (f6 : LNO (lineLength_0) (line_0) (order_0) (x6)) (f8 : ((0 ≤ x10) ∧ ((x10 + 1) ≤ lineLength_0)) ∧ ((0 ≤ x11) ∧ ((x11 + 1) ≤ lineLength_0))) (kz_0_3 : 0 ≤ lineLength_0 ∧ lineLength_0 ≤ 24) : TOQ (order_0) (x16) (x6) := by
  first
    | exact lno_toq (q := x10) ‹LNO _ _ _ _› (by omega) (by omega) (by assumption)
    | exact lno_toq (q := x11) ‹LNO _ _ _ _› (by omega) (by omega) (by assumption)
    | (rw [show gx = x6 by omega]; exact lno_toq (q := x12) ‹LNO _ _ _ _› (by omega) (by omega) (by assumption))
set_option maxHeartbeats 4000000 in
theorem vc_Pn_placeNext_4_1 (x6 : Int) (x10 : Int) (x11 : Int) (x12 : Int) (x17 : Int) (line_0 : Int → Int) (lineLength_0 : Int) (order_0 : Int → Int) (k6 : 3 ≤ x6 ∧ x6 ≤ 23) (k10 : 0 ≤ x10 ∧ x10 ≤ 23) (k11 : 0 ≤ x11 ∧ x11 ≤ 23) (k17 : 0 ≤ x17 ∧ x17 ≤ 23) (h1 : x17 = line_0 (x11)) (f6 : LNO (lineLength_0) (line_0) (order_0) (x6)) (f8 : ((0 ≤ x10) ∧ ((x10 + 1) ≤ lineLength_0)) ∧ ((0 ≤ x11) ∧ ((x11 + 1) ≤ lineLength_0))) (kz_0_3 : 0 ≤ lineLength_0 ∧ lineLength_0 ≤ 24) : TOQ (order_0) (x17) (x6) := by
  first
    | exact lno_toq (q := x10) ‹LNO _ _ _ _› (by omega) (by omega) (by assumption)
    | exact lno_toq (q := x11) ‹LNO _ _ _ _› (by omega) (by omega) (by assumption)
    | (rw [show gx = x6 by omega]; exact lno_toq (q := x12) ‹LNO _ _ _ _› (by omega) (by omega) (by assumption))
def o_Pn_placeNext_4 : or_T := (169, 18, [(0, (2, 0, 0, [7])), (6, (0, 3, 23, [])), (10, (0, 0, 23, [])), (11, (0, 0, 23, [])), (16, (0, 0, 23, [])), (17, (0, 0, 23, []))], [(10, [17, 15, 11], []), (9, [15, 7], [2]), (10, [16, 15, 10], []), (20, [7, 6], [60, 1, 2, 889, 3, 2, 1]), (20, [10, 7, 11], [50, 1, 0, 1003, 2, 19, 2, 6, 0, 2, 0, 0, 1, 0, 0, 6, 4, 2, 1, 0, 0, 1, 2, 1, 3, 2, 6, 0, 2, 0, 0, 1, 2, 0, 6, 4, 2, 1, 2, 0, 1, 2, 1, 3]), (24, [0, 7], [])], [], [], [(20, [7, 16, 6], [60, 0, 1, 891, 1]), (20, [7, 17, 6], [60, 0, 1, 891, 1])], [], [])
theorem oo_Pn_placeNext_4 {kA : Nat → ClassId} : or_ok PRD kA GG o_Pn_placeNext_4 := by
  refine or_mk fun A ta ws vs hD hth hl => ?_
  intro t0 r0 t6 k6 t10 k10 t11 k11 t16 k16 t17 k17 f1 f2 f3 f6 f8 f12
  replace f1 := shm_107 f1
  replace f2 := shm_120 f2
  replace f3 := shm_107 f3
  replace f6 := shm_899 f6
  replace f8 := shm_1396 f8
  replace f12 := shm_5 f12
  have q7 : n_v vs 7 = n_v vs 0 := f12.symm
  simp only [q7] at f2 f6 f8
  have ad_15 : v_ad (n_v vs 15) = w_ar ws (n_v vs 0) 2 := congrArg v_ad f2
  simp only [ad_15] at f1
  have h1 : v_iv (n_v vs 17) = w_ei ws (w_ar ws (n_v vs 0) 2) (v_iv (n_v vs 11)) := f1
  simp only [ad_15] at f3
  have h3 : v_iv (n_v vs 16) = w_ei ws (w_ar ws (n_v vs 0) 2) (v_iv (n_v vs 10)) := f3
  have kz_0_3 := fdq_13 hD hth r0
  have nf0 : fc_1 PRD (20, [7, 16, 6], [60, 0, 1, 891, 1]) ws (vs) := by
    refine ⟨nf_in hl rfl, sgq_433 ?_⟩
    · show TOQ (w_ei ws (w_ar ws (n_v vs 7) 1)) (v_iv (n_v vs 16)) (v_iv (n_v vs 6))
      rw [q7]
      exact vc_Pn_placeNext_4_0 (v_iv (n_v vs 6)) (v_iv (n_v vs 10)) (v_iv (n_v vs 11)) (v_iv (n_v vs 12)) (v_iv (n_v vs 16)) (w_ei ws (w_ar ws (n_v vs 0) 2)) (w_fi ws (n_v vs 0) 3) (w_ei ws (w_ar ws (n_v vs 0) 1)) k6 k10 k11 k16 h3 f6 f8 kz_0_3
  have nf1 : fc_1 PRD (20, [7, 17, 6], [60, 0, 1, 891, 1]) ws (vs) := by
    refine ⟨nf_in hl rfl, sgq_433 ?_⟩
    · show TOQ (w_ei ws (w_ar ws (n_v vs 7) 1)) (v_iv (n_v vs 17)) (v_iv (n_v vs 6))
      rw [q7]
      exact vc_Pn_placeNext_4_1 (v_iv (n_v vs 6)) (v_iv (n_v vs 10)) (v_iv (n_v vs 11)) (v_iv (n_v vs 12)) (v_iv (n_v vs 17)) (w_ei ws (w_ar ws (n_v vs 0) 2)) (w_fi ws (n_v vs 0) 3) (w_ei ws (w_ar ws (n_v vs 0) 1)) k6 k10 k11 k17 h1 f6 f8 kz_0_3
  refine ⟨(fun _ h => (by cases h)), [], trivial, ?_, (fun _ h => (by cases h))⟩
  rw [List.append_nil]
  exact List.forall_mem_cons.mpr ⟨⟨show (20 : Nat) < 100 from by decide, nf0⟩, List.forall_mem_cons.mpr ⟨⟨show (20 : Nat) < 100 from by decide, nf1⟩, (fun _ h => (by cases h))⟩⟩
set_option maxHeartbeats 4000000 in
theorem vc_Pn_placeNext_5_r0 (x6 : Int) (x9 : Int) (x12 : Int) (x16 : Int) (x17 : Int) (x19 : Int) (x20 : Int) (x21 : Int) (x23 : Int) (x24 : Int) (x25 : Int) (x26 : Int) (x27 : Int) (x28 : Int) (y_0o1 : Int → Int) (x_0o1 : Int → Int) (order_0 : Int → Int) (under_0 : Int → Int) (k6 : 3 ≤ x6 ∧ x6 ≤ 23) (k9 : 0 ≤ x9 ∧ x9 ≤ 23) (k12 : 1 ≤ x12 ∧ x12 ≤ 24) (k16 : 0 ≤ x16 ∧ x16 ≤ 23) (k17 : 0 ≤ x17 ∧ x17 ≤ 23) (k19 : (-40000000) ≤ x19 ∧ x19 ≤ 690000000) (k20 : (-40000000) ≤ x20 ∧ x20 ≤ 690000000) (k21 : (-80000000) ≤ x21 ∧ x21 ≤ 1380000000) (k23 : (-40000000) ≤ x23 ∧ x23 ≤ 690000000) (k24 : (-120000000) ≤ x24 ∧ x24 ≤ 2070000000) (k25 : (-40000000) ≤ x25 ∧ x25 ≤ 690000000) (k26 : (-810000000) ≤ x26 ∧ x26 ≤ 2110000000) (k27 : 2 ≤ x27 ∧ x27 ≤ 2) (k28 : (-810000000) ≤ x28 ∧ x28 ≤ 2110000000) (f1 : x28 = Int.tdiv (x26) (x27)) (f2 : x26 = x24 - x25) (h3 : x25 = y_0o1 (x16)) (f5 : x24 = x21 + x23) (h6 : x23 = y_0o1 (x17)) (f7 : x21 = x19 + x20) (h8 : x20 = x_0o1 (x17)) (h10 : x19 = x_0o1 (x16)) (f11 : TOQ (order_0) (x16) (x6)) (f12 : TOQ (order_0) (x17) (x6)) (f19 : CO2 (order_0) (under_0) (x_0o1) (y_0o1) (x6) (x12) (x9)) : (-1000000) ≤ x28 ∧ x28 ≤ 1000000 := by
  first
    | exact cov_x (a := x16) (b := x17) (xa := x19) (xb := x20) (ya := x25) (yb := x23) (e := x26) ‹CO2 _ _ _ _ _ _ _› (by assumption) (by assumption) (by omega) (by assumption) (by assumption) (by assumption) (by assumption) (by omega) (by rw [show (2 : Int) = x27 by omega]; assumption)
def o_Pn_placeNext_5 : or_T := (207, 29, [(0, (2, 0, 0, [7])), (1, (2, 0, 0, [0])), (3, (2, 0, 0, [102])), (6, (0, 3, 23, [])), (7, (2, 0, 0, [7])), (8, (2, 0, 0, [0])), (9, (0, 0, 23, [])), (10, (0, 0, 23, [])), (11, (0, 0, 23, [])), (12, (0, 1, 24, [])), (13, (2, 0, 0, [102])), (14, (0, 0, 24, [])), (15, (2, 0, 0, [103])), (16, (0, 0, 23, [])), (17, (0, 0, 23, [])), (18, (2, 0, 0, [14])), (19, (0, -40000000, 690000000, [])), (20, (0, -40000000, 690000000, [])), (21, (0, -80000000, 1380000000, [])), (22, (2, 0, 0, [15])), (23, (0, -40000000, 690000000, [])), (24, (0, -120000000, 2070000000, [])), (25, (0, -40000000, 690000000, [])), (26, (0, -810000000, 2110000000, [])), (27, (0, 2, 2, [])), (28, (0, -810000000, 2110000000, []))], [(9, [13, 7], [1]), (4, [28, 26, 27], []), (2, [26, 24, 25], []), (10, [25, 22, 16], []), (9, [22, 8], [3]), (1, [24, 21, 23], []), (10, [23, 22, 17], []), (1, [21, 19, 20], []), (10, [20, 18, 17], []), (9, [18, 8], [2]), (10, [19, 18, 16], []), (20, [7, 16, 6], [60, 0, 1, 891, 1]), (20, [7, 17, 6], [60, 0, 1, 891, 1]), (10, [17, 15, 11], []), (9, [15, 7], [2]), (10, [16, 15, 10], []), (7, [12, 14], [3]), (9, [14, 7], [3]), (20, [7, 6], [60, 1, 2, 889, 3, 2, 1]), (20, [7, 8, 6, 12, 9], [60, 0, 4, 885, 1, 4, 1002, 1003]), (20, [10, 7, 11], [50, 1, 0, 1003, 2, 19, 2, 6, 0, 2, 0, 0, 1, 0, 0, 6, 4, 2, 1, 0, 0, 1, 2, 1, 3, 2, 6, 0, 2, 0, 0, 1, 2, 0, 6, 4, 2, 1, 2, 0, 1, 2, 1, 3]), (20, [12, 10], [50, 0, 0, 2, 6, 0, 2, 0, 1, 1, 0, 0, 6, 4, 2, 1, 1, 0, 1, 1, 0]), (20, [9, 7, 6], [50, 0, 1, 1001, 1, 2, 1, 0, 3, 1, 1, 1, 2]), (24, [3, 13], []), (24, [0, 7], []), (24, [1, 8], [])], [(28, (0, -1000000, 1000000, []))], [], [], [], [(26, 24, -690000000, 40000000), (26, 23, -770000000, 1420000000), (26, 21, -730000000, 730000000), (26, 20, -770000000, 1420000000), (26, 19, -770000000, 1420000000), (24, 23, -80000000, 1380000000), (24, 21, -40000000, 690000000), (24, 20, -80000000, 1380000000), (24, 19, -80000000, 1380000000), (21, 20, -40000000, 690000000), (21, 19, -40000000, 690000000), (12, 14, 0, 4294967296), (10, 12, -4294967296, -1)])
theorem oo_Pn_placeNext_5 {kA : Nat → ClassId} : or_ok PRD kA GG o_Pn_placeNext_5 := by
  refine or_mk fun A ta ws vs hD hth hl => ?_
  intro t0 r0 t1 r1 t3 r3 t6 k6 t7 r7 t8 r8 t9 k9 t10 k10 t11 k11 t12 k12 t13 r13 t14 k14 t15 r15 t16 k16 t17 k17 t18 r18 t19 k19 t20 k20 t21 k21 t22 r22 t23 k23 t24 k24 t25 k25 t26 k26 t27 k27 t28 k28 d0 d1 d2 d3 d4 d5 d6 d7 d8 d9 d10 d11 d12 f0 f1 f2 f3 f4 f5 f6 f7 f8 f9 f10 f11 f12 f13 f14 f15 f16 f17 f18 f19 f20 f21 f22 f23 f24 f25
  replace f3 := shm_107 f3
  replace f4 := shm_137 f4
  replace f6 := shm_107 f6
  replace f8 := shm_107 f8
  replace f9 := shm_120 f9
  replace f10 := shm_107 f10
  replace f11 := shm_433 f11
  replace f12 := shm_433 f12
  replace f19 := shm_431 f19
  replace f24 := shm_5 f24
  replace f25 := shm_5 f25
  have q7 : n_v vs 7 = n_v vs 0 := f24.symm
  have q8 : n_v vs 8 = n_v vs 1 := f25.symm
  simp only [q7, q8] at f4 f9 f11 f12 f19
  have ad_22 : v_ad (n_v vs 22) = w_ar ws (n_v vs 1) 3 := congrArg v_ad f4
  have ad_18 : v_ad (n_v vs 18) = w_ar ws (n_v vs 1) 2 := congrArg v_ad f9
  simp only [ad_22] at f3
  have h3 : v_iv (n_v vs 25) = w_ei ws (w_ar ws (n_v vs 1) 3) (v_iv (n_v vs 16)) := f3
  simp only [ad_22] at f6
  have h6 : v_iv (n_v vs 23) = w_ei ws (w_ar ws (n_v vs 1) 3) (v_iv (n_v vs 17)) := f6
  simp only [ad_18] at f8
  have h8 : v_iv (n_v vs 20) = w_ei ws (w_ar ws (n_v vs 1) 2) (v_iv (n_v vs 17)) := f8
  simp only [ad_18] at f10
  have h10 : v_iv (n_v vs 19) = w_ei ws (w_ar ws (n_v vs 1) 2) (v_iv (n_v vs 16)) := f10
  have hrf0 : (-1000000) ≤ v_iv (n_v vs 28) ∧ v_iv (n_v vs 28) ≤ 1000000 := vc_Pn_placeNext_5_r0 (v_iv (n_v vs 6)) (v_iv (n_v vs 9)) (v_iv (n_v vs 12)) (v_iv (n_v vs 16)) (v_iv (n_v vs 17)) (v_iv (n_v vs 19)) (v_iv (n_v vs 20)) (v_iv (n_v vs 21)) (v_iv (n_v vs 23)) (v_iv (n_v vs 24)) (v_iv (n_v vs 25)) (v_iv (n_v vs 26)) (v_iv (n_v vs 27)) (v_iv (n_v vs 28)) (w_ei ws (w_ar ws (n_v vs 1) 3)) (w_ei ws (w_ar ws (n_v vs 1) 2)) (w_ei ws (w_ar ws (n_v vs 0) 1)) (w_ei ws (w_ar ws (n_v vs 0) 4)) k6 k9 k12 k16 k17 k19 k20 k21 k23 k24 k25 k26 k27 k28 (shm_34 f1) (shm_14 f2) h3 (shm_12 f5) h6 (shm_12 f7) h8 h10 f11 f12 f19
  have rf28 : tv_ok ta (0, -1000000, 1000000, []) (n_v vs 28) := tv_in t28 (by first | omega | grind) (by first | omega | grind)
  refine ⟨List.forall_mem_cons.mpr ⟨rf28, (fun _ h => (by cases h))⟩, [], trivial, ?_, (fun _ h => (by cases h))⟩
  rw [List.append_nil]
  exact (fun _ h => (by cases h))
set_option maxHeartbeats 4000000 in
theorem vc_Pn_placeNext_6_r0 (x6 : Int) (x9 : Int) (x12 : Int) (x16 : Int) (x17 : Int) (x19 : Int) (x20 : Int) (x21 : Int) (x23 : Int) (x24 : Int) (x25 : Int) (x26 : Int) (x27 : Int) (x28 : Int) (x29 : Int) (x30 : Int) (x31 : Int) (x32 : Int) (x33 : Int) (x34 : Int) (x35 : Int) (x36 : Int) (x37 : Int) (lineLength_0 : Int) (y_0o1 : Int → Int) (x_0o1 : Int → Int) (order_0 : Int → Int) (line_0 : Int → Int) (y_1o1 : Int → Int) (x_1o1 : Int → Int) (order_1 : Int → Int) (line_1 : Int → Int) (lineLength_1 : Int) (under_1 : Int → Int) (under_0 : Int → Int) (k6 : 3 ≤ x6 ∧ x6 ≤ 23) (k9 : 0 ≤ x9 ∧ x9 ≤ 23) (k12 : 1 ≤ x12 ∧ x12 ≤ 24) (k16 : 0 ≤ x16 ∧ x16 ≤ 23) (k17 : 0 ≤ x17 ∧ x17 ≤ 23) (k19 : (-40000000) ≤ x19 ∧ x19 ≤ 690000000) (k20 : (-40000000) ≤ x20 ∧ x20 ≤ 690000000) (k21 : (-80000000) ≤ x21 ∧ x21 ≤ 1380000000) (k23 : (-40000000) ≤ x23 ∧ x23 ≤ 690000000) (k24 : (-120000000) ≤ x24 ∧ x24 ≤ 2070000000) (k25 : (-40000000) ≤ x25 ∧ x25 ≤ 690000000) (k26 : (-810000000) ≤ x26 ∧ x26 ≤ 2110000000) (k27 : 2 ≤ x27 ∧ x27 ≤ 2) (k28 : (-1000000) ≤ x28 ∧ x28 ≤ 1000000) (k29 : (-40000000) ≤ x29 ∧ x29 ≤ 690000000) (k30 : (-40000000) ≤ x30 ∧ x30 ≤ 690000000) (k31 : (-730000000) ≤ x31 ∧ x31 ≤ 730000000) (k32 : (-40000000) ≤ x32 ∧ x32 ≤ 690000000) (k33 : (-770000000) ≤ x33 ∧ x33 ≤ 1420000000) (k34 : (-40000000) ≤ x34 ∧ x34 ≤ 690000000) (k35 : (-810000000) ≤ x35 ∧ x35 ≤ 2110000000) (k36 : 2 ≤ x36 ∧ x36 ≤ 2) (k37 : (-810000000) ≤ x37 ∧ x37 ≤ 2110000000) (f3 : x37 = Int.tdiv (x35) (x36)) (f4 : x35 = x33 + x34) (h5 : x34 = y_0o1 (x17)) (f7 : x33 = x31 + x32) (h8 : x32 = y_0o1 (x16)) (f9 : x31 = x29 - x30) (h10 : x30 = x_0o1 (x16)) (h12 : x29 = x_0o1 (x17)) (f23 : x28 = Int.tdiv (x26) (x27)) (f24 : x26 = x24 - x25) (h25 : x25 = y_1o1 (x16)) (f26 : x24 = x21 + x23) (h27 : x23 = y_1o1 (x17)) (f28 : x21 = x19 + x20) (h29 : x20 = x_1o1 (x17)) (h30 : x19 = x_1o1 (x16)) (f31 : TOQ (order_1) (x16) (x6)) (f32 : TOQ (order_1) (x17) (x6)) (f37 : CO2 (order_1) (under_1) (x_1o1) (y_1o1) (x6) (x12) (x9)) (fe_0_3_1 : lineLength_0 = lineLength_1) (hE_0_1_1 : ∀ j : Int, order_0 j = order_1 j) (hE_0_2_1 : ∀ j : Int, line_0 j = line_1 j) (hE_0_4_1 : ∀ j : Int, under_0 j = under_1 j) (hE_1_2_1 : ∀ j : Int, 0 ≤ j → (j = x9 → x_0o1 j = x28) ∧ (j ≠ x9 → x_0o1 j = x_1o1 j)) (hE_1_3_1 : ∀ j : Int, y_0o1 j = y_1o1 j) (kz_0_3 : 0 ≤ lineLength_0 ∧ lineLength_0 ≤ 24) : (-1000000) ≤ x37 ∧ x37 ≤ 1000000 := by
  subst fe_0_3_1
  have e_hE_0_1_1 := funext hE_0_1_1; subst e_hE_0_1_1
  have e_hE_0_2_1 := funext hE_0_2_1; subst e_hE_0_2_1
  have e_hE_0_4_1 := funext hE_0_4_1; subst e_hE_0_4_1
  have e_hE_1_3_1 := funext hE_1_3_1; subst e_hE_1_3_1
  first
    | exact cov_y (a := x16) (b := x17) (xa := x19) (xb := x20) (ya := x25) (yb := x23) (xa_zq := x30) (xb_zq := x29) (e := x26) (X := x28) (f := x35) ‹CO2 _ _ _ _ _ _ _› (by assumption) (by assumption) (by omega) (by omega) (by assumption) (by assumption) (by assumption) (by assumption) (by omega) (by rw [show (2 : Int) = x27 by omega]; assumption) hE_1_2_1 rfl (by assumption) (by assumption) (by omega) (by rw [show (2 : Int) = x36 by omega]; assumption)
def o_Pn_placeNext_6 : or_T := (246, 38, [(0, (2, 0, 0, [7])), (1, (2, 0, 0, [0])), (3, (2, 0, 0, [102])), (6, (0, 3, 23, [])), (7, (2, 0, 0, [7])), (8, (2, 0, 0, [0])), (9, (0, 0, 23, [])), (10, (0, 0, 23, [])), (11, (0, 0, 23, [])), (12, (0, 1, 24, [])), (13, (2, 0, 0, [102])), (14, (0, 0, 24, [])), (15, (2, 0, 0, [103])), (16, (0, 0, 23, [])), (17, (0, 0, 23, [])), (18, (2, 0, 0, [14])), (19, (0, -40000000, 690000000, [])), (20, (0, -40000000, 690000000, [])), (21, (0, -80000000, 1380000000, [])), (22, (2, 0, 0, [15])), (23, (0, -40000000, 690000000, [])), (24, (0, -120000000, 2070000000, [])), (25, (0, -40000000, 690000000, [])), (26, (0, -810000000, 2110000000, [])), (27, (0, 2, 2, [])), (28, (0, -1000000, 1000000, [])), (29, (0, -40000000, 690000000, [])), (30, (0, -40000000, 690000000, [])), (31, (0, -730000000, 730000000, [])), (32, (0, -40000000, 690000000, [])), (33, (0, -770000000, 1420000000, [])), (34, (0, -40000000, 690000000, [])), (35, (0, -810000000, 2110000000, [])), (36, (0, 2, 2, [])), (37, (0, -810000000, 2110000000, []))], [(9, [15, 7], [2]), (9, [14, 7], [3]), (9, [13, 7], [1]), (4, [37, 35, 36], []), (1, [35, 33, 34], []), (10, [34, 22, 17], []), (9, [22, 8], [3]), (1, [33, 31, 32], []), (10, [32, 22, 16], []), (2, [31, 29, 30], []), (10, [30, 18, 16], []), (9, [18, 8], [2]), (10, [29, 18, 17], []), (20, [7, 16, 6], [60, 0, 1, 891, 1]), (20, [7, 17, 6], [60, 0, 1, 891, 1]), (20, [7, 6], [60, 1, 2, 889, 3, 2, 1]), (20, [10, 7, 11], [50, 1, 0, 1003, 2, 19, 2, 6, 0, 2, 0, 0, 1, 0, 0, 6, 4, 2, 1, 0, 0, 1, 2, 1, 3, 2, 6, 0, 2, 0, 0, 1, 2, 0, 6, 4, 2, 1, 2, 0, 1, 2, 1, 3]), (20, [12, 10], [50, 0, 0, 2, 6, 0, 2, 0, 1, 1, 0, 0, 6, 4, 2, 1, 1, 0, 1, 1, 0]), (20, [9, 7, 6], [50, 0, 1, 1001, 1, 2, 1, 0, 3, 1, 1, 1, 2]), (24, [3, 13], []), (24, [0, 7], []), (24, [1, 8], []), (100, [18, 9, 28], []), (4, [28, 26, 27], []), (2, [26, 24, 25], []), (10, [25, 22, 16], []), (1, [24, 21, 23], []), (10, [23, 22, 17], []), (1, [21, 19, 20], []), (10, [20, 18, 17], []), (10, [19, 18, 16], []), (20, [7, 16, 6], [60, 0, 1, 891, 1]), (20, [7, 17, 6], [60, 0, 1, 891, 1]), (10, [17, 15, 11], []), (10, [16, 15, 10], []), (7, [12, 14], [3]), (20, [7, 6], [60, 1, 2, 889, 3, 2, 1]), (20, [7, 8, 6, 12, 9], [60, 0, 4, 885, 1, 4, 1002, 1003]), (20, [10, 7, 11], [50, 1, 0, 1003, 2, 19, 2, 6, 0, 2, 0, 0, 1, 0, 0, 6, 4, 2, 1, 0, 0, 1, 2, 1, 3, 2, 6, 0, 2, 0, 0, 1, 2, 0, 6, 4, 2, 1, 2, 0, 1, 2, 1, 3]), (20, [12, 10], [50, 0, 0, 2, 6, 0, 2, 0, 1, 1, 0, 0, 6, 4, 2, 1, 1, 0, 1, 1, 0]), (20, [9, 7, 6], [50, 0, 1, 1001, 1, 2, 1, 0, 3, 1, 1, 1, 2])], [(37, (0, -1000000, 1000000, []))], [], [], [], [(35, 34, -770000000, 1420000000), (35, 33, -40000000, 690000000), (35, 32, -770000000, 1420000000), (35, 31, -80000000, 1380000000), (35, 29, -770000000, 1420000000), (33, 32, -730000000, 730000000), (33, 31, -40000000, 690000000), (33, 29, -730000000, 730000000), (31, 29, -690000000, 40000000), (26, 24, -690000000, 40000000), (26, 23, -770000000, 1420000000), (26, 21, -730000000, 730000000), (26, 20, -770000000, 1420000000), (26, 19, -770000000, 1420000000), (24, 23, -80000000, 1380000000), (24, 21, -40000000, 690000000), (24, 20, -80000000, 1380000000), (24, 19, -80000000, 1380000000), (21, 20, -40000000, 690000000), (21, 19, -40000000, 690000000), (12, 14, 0, 4294967296), (10, 12, -4294967296, -1)])
theorem oo_Pn_placeNext_6 {kA : Nat → ClassId} : or_ok PRD kA GG o_Pn_placeNext_6 := by
  refine or_mk fun A ta ws vs hD hth hl => ?_
  intro t0 r0 t1 r1 t3 r3 t6 k6 t7 r7 t8 r8 t9 k9 t10 k10 t11 k11 t12 k12 t13 r13 t14 k14 t15 r15 t16 k16 t17 k17 t18 r18 t19 k19 t20 k20 t21 k21 t22 r22 t23 k23 t24 k24 t25 k25 t26 k26 t27 k27 t28 k28 t29 k29 t30 k30 t31 k31 t32 k32 t33 k33 t34 k34 t35 k35 t36 k36 t37 k37 d0 d1 d2 d3 d4 d5 d6 d7 d8 d9 d10 d11 d12 d13 d14 d15 d16 d17 d18 d19 d20 d21 f0 f1 f2 f3 f4 f5 f6 f7 f8 f9 f10 f11 f12 f13 f14 f15 f16 f17 f18 f19 f20 f21 ta1 w1 le1 s1 f23 f24 f25 f26 f27 f28 f29 f30 f31 f32 f33 f34 f35 f36 f37 f38 f39 f40
  replace f0 := shm_120 f0
  replace f5 := shm_107 f5
  replace f6 := shm_137 f6
  replace f8 := shm_107 f8
  replace f10 := shm_107 f10
  replace f11 := shm_120 f11
  replace f12 := shm_107 f12
  replace f20 := shm_5 f20
  replace f21 := shm_5 f21
  have s1 : (∀ b j, w_el ws b j = if b = v_ad (n_v vs 18) ∧ j = (v_iv (n_v vs 9)).toNat then v_iv (n_v vs 28) else w_el w1 b j) ∧ ∀ b k, w_fd ws b k = w_fd w1 b k := s1.2
  replace f25 := shm_107 f25
  replace f27 := shm_107 f27
  replace f29 := shm_107 f29
  replace f30 := shm_107 f30
  replace f31 := shm_433 f31
  replace f32 := shm_433 f32
  replace f37 := shm_431 f37
  have q7 : n_v vs 7 = n_v vs 0 := f20.symm
  have q8 : n_v vs 8 = n_v vs 1 := f21.symm
  simp only [q7, q8] at f0 f6 f11 f31 f32 f37
  have ar_0_1_1 : w_ar w1 (n_v vs 0) 1 = w_ar ws (n_v vs 0) 1 := congrArg v_ad (s1.2 _ _).symm
  have cr_0_1 := fdq_92 hD hth r0
  have ar_0_2_1 : w_ar w1 (n_v vs 0) 2 = w_ar ws (n_v vs 0) 2 := congrArg v_ad (s1.2 _ _).symm
  have cr_0_2 := fdq_227 hD hth r0
  have ar_0_4_1 : w_ar w1 (n_v vs 0) 4 = w_ar ws (n_v vs 0) 4 := congrArg v_ad (s1.2 _ _).symm
  have cr_0_4 := fdq_93 hD hth r0
  have ar_1_2_1 : w_ar w1 (n_v vs 1) 2 = w_ar ws (n_v vs 1) 2 := congrArg v_ad (s1.2 _ _).symm
  have ar_1_3_1 : w_ar w1 (n_v vs 1) 3 = w_ar ws (n_v vs 1) 3 := congrArg v_ad (s1.2 _ _).symm
  have cr_1_3 := fdq_48 hD hth r1
  have ad_15 : v_ad (n_v vs 15) = w_ar ws (n_v vs 0) 2 := congrArg v_ad f0
  have ad_22 : v_ad (n_v vs 22) = w_ar ws (n_v vs 1) 3 := congrArg v_ad f6
  have ad_18 : v_ad (n_v vs 18) = w_ar ws (n_v vs 1) 2 := congrArg v_ad f11
  simp only [ad_22] at f5
  have h5 : v_iv (n_v vs 34) = w_ei ws (w_ar ws (n_v vs 1) 3) (v_iv (n_v vs 17)) := f5
  simp only [ad_22] at f8
  have h8 : v_iv (n_v vs 32) = w_ei ws (w_ar ws (n_v vs 1) 3) (v_iv (n_v vs 16)) := f8
  simp only [ad_18] at f10
  have h10 : v_iv (n_v vs 30) = w_ei ws (w_ar ws (n_v vs 1) 2) (v_iv (n_v vs 16)) := f10
  simp only [ad_18] at f12
  have h12 : v_iv (n_v vs 29) = w_ei ws (w_ar ws (n_v vs 1) 2) (v_iv (n_v vs 17)) := f12
  simp only [ad_22] at f25
  have h25 : v_iv (n_v vs 25) = w_ei w1 (w_ar ws (n_v vs 1) 3) (v_iv (n_v vs 16)) := f25
  simp only [ad_22] at f27
  have h27 : v_iv (n_v vs 23) = w_ei w1 (w_ar ws (n_v vs 1) 3) (v_iv (n_v vs 17)) := f27
  simp only [ad_18] at f29
  have h29 : v_iv (n_v vs 20) = w_ei w1 (w_ar ws (n_v vs 1) 2) (v_iv (n_v vs 17)) := f29
  simp only [ad_18] at f30
  have h30 : v_iv (n_v vs 19) = w_ei w1 (w_ar ws (n_v vs 1) 2) (v_iv (n_v vs 16)) := f30
  simp only [ar_0_1_1, ad_15] at f31 f32
  simp only [ar_0_1_1, ar_0_2_1, ar_0_4_1, ar_1_2_1, ar_1_3_1] at f37
  have fe_0_3_1 : w_fi ws (n_v vs 0) 3 = w_fi w1 (n_v vs 0) 3 := congrArg v_iv (s1.2 _ _)
  have hE_0_1_1 : ∀ j : Int, w_ei ws (w_ar ws (n_v vs 0) 1) j = w_ei w1 (w_ar ws (n_v vs 0) 1) j := el_kp s1.1 r18 cr_0_1 (by decide)
  have hE_0_2_1 : ∀ j : Int, w_ei ws (w_ar ws (n_v vs 0) 2) j = w_ei w1 (w_ar ws (n_v vs 0) 2) j := el_kp s1.1 r18 cr_0_2 (by decide)
  have hE_0_4_1 : ∀ j : Int, w_ei ws (w_ar ws (n_v vs 0) 4) j = w_ei w1 (w_ar ws (n_v vs 0) 4) j := el_kp s1.1 r18 cr_0_4 (by decide)
  have hE_1_2_1 : ∀ j : Int, 0 ≤ j → (j = v_iv (n_v vs 9) → w_ei ws (w_ar ws (n_v vs 1) 2) j = v_iv (n_v vs 28)) ∧ (j ≠ v_iv (n_v vs 9) → w_ei ws (w_ar ws (n_v vs 1) 2) j = w_ei w1 (w_ar ws (n_v vs 1) 2) j) := fun j hj => ⟨fun h => by unfold w_ei; rw [s1.1, if_pos ⟨ad_18.symm, by rw [h]⟩], fun h => by unfold w_ei; rw [s1.1, if_neg (fun e => h (by have := e.2; omega))]⟩
  have hE_1_3_1 : ∀ j : Int, w_ei ws (w_ar ws (n_v vs 1) 3) j = w_ei w1 (w_ar ws (n_v vs 1) 3) j := el_kp s1.1 r18 cr_1_3 (by decide)
  have kz_0_3 := fdq_13 hD hth r0
  have hrf0 : (-1000000) ≤ v_iv (n_v vs 37) ∧ v_iv (n_v vs 37) ≤ 1000000 := vc_Pn_placeNext_6_r0 (v_iv (n_v vs 6)) (v_iv (n_v vs 9)) (v_iv (n_v vs 12)) (v_iv (n_v vs 16)) (v_iv (n_v vs 17)) (v_iv (n_v vs 19)) (v_iv (n_v vs 20)) (v_iv (n_v vs 21)) (v_iv (n_v vs 23)) (v_iv (n_v vs 24)) (v_iv (n_v vs 25)) (v_iv (n_v vs 26)) (v_iv (n_v vs 27)) (v_iv (n_v vs 28)) (v_iv (n_v vs 29)) (v_iv (n_v vs 30)) (v_iv (n_v vs 31)) (v_iv (n_v vs 32)) (v_iv (n_v vs 33)) (v_iv (n_v vs 34)) (v_iv (n_v vs 35)) (v_iv (n_v vs 36)) (v_iv (n_v vs 37)) (w_fi ws (n_v vs 0) 3) (w_ei ws (w_ar ws (n_v vs 1) 3)) (w_ei ws (w_ar ws (n_v vs 1) 2)) (w_ei ws (w_ar ws (n_v vs 0) 1)) (w_ei ws (w_ar ws (n_v vs 0) 2)) (w_ei w1 (w_ar ws (n_v vs 1) 3)) (w_ei w1 (w_ar ws (n_v vs 1) 2)) (w_ei w1 (w_ar ws (n_v vs 0) 1)) (w_ei w1 (w_ar ws (n_v vs 0) 2)) (w_fi w1 (n_v vs 0) 3) (w_ei w1 (w_ar ws (n_v vs 0) 4)) (w_ei ws (w_ar ws (n_v vs 0) 4)) k6 k9 k12 k16 k17 k19 k20 k21 k23 k24 k25 k26 k27 k28 k29 k30 k31 k32 k33 k34 k35 k36 k37 (shm_34 f3) (shm_12 f4) h5 (shm_12 f7) h8 (shm_14 f9) h10 h12 (shm_34 f23) (shm_14 f24) h25 (shm_12 f26) h27 (shm_12 f28) h29 h30 f31 f32 f37 fe_0_3_1 hE_0_1_1 hE_0_2_1 hE_0_4_1 hE_1_2_1 hE_1_3_1 kz_0_3
  have rf37 : tv_ok ta (0, -1000000, 1000000, []) (n_v vs 37) := tv_in t37 (by first | omega | grind) (by first | omega | grind)
  refine ⟨List.forall_mem_cons.mpr ⟨rf37, (fun _ h => (by cases h))⟩, [], trivial, ?_, (fun _ h => (by cases h))⟩
  rw [List.append_nil]
  exact (fun _ h => (by cases h))
def o_Pn_placeNext_7 : or_T := (247, 38, [(4, (2, 0, 0, [12])), (5, (0, 0, 3072, [])), (8, (2, 0, 0, [0])), (9, (0, 0, 23, [])), (22, (2, 0, 0, [15])), (37, (0, -1000000, 1000000, []))], [(100, [22, 9, 37], []), (20, [4, 5, 8], [62, 2000000])], [], [], [(20, [4, 5, 8], [62, 2000000])], [], [])
theorem oo_Pn_placeNext_7 {kA : Nat → ClassId} : or_ok PRD kA GG o_Pn_placeNext_7 := by
  refine or_mk fun A ta ws vs hD hth hl => ?_
  intro t4 r4 t5 k5 t8 r8 t9 k9 t22 r22 t37 k37 ta1 w1 le1 s1 f1
  have s1 : (∀ b j, w_el ws b j = if b = v_ad (n_v vs 22) ∧ j = (v_iv (n_v vs 9)).toNat then v_iv (n_v vs 37) else w_el w1 b j) ∧ ∀ b k, w_fd ws b k = w_fd w1 b k := s1.2
  replace f1 := shm_1399 f1
  have nf0 : fc_1 PRD (20, [4, 5, 8], [62, 2000000]) ws (vs) := by
    refine ⟨nf_in hl rfl, sgq_1399 ?_⟩
    · show HY ws (n_v vs 4) (v_iv (n_v vs 5) + (((2000000 : Nat) : Int) - 2000000)) ∧ HYD ws (n_v vs 4) (n_v vs 8)
      have hn := hy_ne (k := 3) (g := GG_12) hD hth r4 rfl (by decide) rfl rfl r22 (by decide) s1.2
      have hn0 := hy_ne (k := 0) (g := GG_12) hD hth r4 rfl (by decide) rfl rfl r22 (by decide) s1.2
      exact ⟨hy_st (hy_le f1.1 (by omega)) s1 hn hn0 (by omega) (by omega), hyd_st f1.2 s1 hn⟩
  refine ⟨(fun _ h => (by cases h)), [], trivial, ?_, (fun _ h => (by cases h))⟩
  rw [List.append_nil]
  exact List.forall_mem_cons.mpr ⟨⟨show (20 : Nat) < 100 from by decide, nf0⟩, (fun _ h => (by cases h))⟩
set_option maxHeartbeats 4000000 in
theorem vc_Pn_placeNext_8_0 (x6 : Int) (x9 : Int) (x12 : Int) (x16 : Int) (x17 : Int) (x19 : Int) (x20 : Int) (x21 : Int) (x23 : Int) (x24 : Int) (x25 : Int) (x26 : Int) (x27 : Int) (x28 : Int) (x29 : Int) (x30 : Int) (x31 : Int) (x32 : Int) (x33 : Int) (x34 : Int) (x35 : Int) (x36 : Int) (x37 : Int) (lineLength_0 : Int) (order_0 : Int → Int) (line_0 : Int → Int) (y_1o1 : Int → Int) (x_1o1 : Int → Int) (order_1 : Int → Int) (line_1 : Int → Int) (lineLength_1 : Int) (y_2o1 : Int → Int) (x_2o1 : Int → Int) (order_2 : Int → Int) (line_2 : Int → Int) (lineLength_2 : Int) (under_2 : Int → Int) (under_0 : Int → Int) (under_1 : Int → Int) (x_0o1 : Int → Int) (y_0o1 : Int → Int) (k6 : 3 ≤ x6 ∧ x6 ≤ 23) (k9 : 0 ≤ x9 ∧ x9 ≤ 23) (k12 : 1 ≤ x12 ∧ x12 ≤ 24) (k16 : 0 ≤ x16 ∧ x16 ≤ 23) (k17 : 0 ≤ x17 ∧ x17 ≤ 23) (k19 : (-40000000) ≤ x19 ∧ x19 ≤ 690000000) (k20 : (-40000000) ≤ x20 ∧ x20 ≤ 690000000) (k21 : (-80000000) ≤ x21 ∧ x21 ≤ 1380000000) (k23 : (-40000000) ≤ x23 ∧ x23 ≤ 690000000) (k24 : (-120000000) ≤ x24 ∧ x24 ≤ 2070000000) (k25 : (-40000000) ≤ x25 ∧ x25 ≤ 690000000) (k26 : (-810000000) ≤ x26 ∧ x26 ≤ 2110000000) (k27 : 2 ≤ x27 ∧ x27 ≤ 2) (k28 : (-1000000) ≤ x28 ∧ x28 ≤ 1000000) (k29 : (-40000000) ≤ x29 ∧ x29 ≤ 690000000) (k30 : (-40000000) ≤ x30 ∧ x30 ≤ 690000000) (k31 : (-730000000) ≤ x31 ∧ x31 ≤ 730000000) (k32 : (-40000000) ≤ x32 ∧ x32 ≤ 690000000) (k33 : (-770000000) ≤ x33 ∧ x33 ≤ 1420000000) (k34 : (-40000000) ≤ x34 ∧ x34 ≤ 690000000) (k35 : (-810000000) ≤ x35 ∧ x35 ≤ 2110000000) (k36 : 2 ≤ x36 ∧ x36 ≤ 2) (k37 : (-1000000) ≤ x37 ∧ x37 ≤ 1000000) (f10 : x9 = order_0 (x6)) (f15 : x37 = Int.tdiv (x35) (x36)) (f16 : x35 = x33 + x34) (h17 : x34 = y_1o1 (x17)) (f18 : x33 = x31 + x32) (h19 : x32 = y_1o1 (x16)) (f20 : x31 = x29 - x30) (h21 : x30 = x_1o1 (x16)) (h22 : x29 = x_1o1 (x17)) (f30 : x28 = Int.tdiv (x26) (x27)) (f31 : x26 = x24 - x25) (h32 : x25 = y_2o1 (x16)) (f33 : x24 = x21 + x23) (h34 : x23 = y_2o1 (x17)) (f35 : x21 = x19 + x20) (h36 : x20 = x_2o1 (x17)) (h37 : x19 = x_2o1 (x16)) (f38 : TOQ (order_2) (x16) (x6)) (f39 : TOQ (order_2) (x17) (x6)) (f44 : CO2 (order_2) (under_2) (x_2o1) (y_2o1) (x6) (x12) (x9)) (f47 : x9 = order_2 (x6)) (fe_0_3_1 : lineLength_0 = lineLength_1) (fe_0_3_2 : lineLength_1 = lineLength_2) (hE_0_1_1 : ∀ j : Int, order_0 j = order_1 j) (hE_0_1_2 : ∀ j : Int, order_1 j = order_2 j) (hE_0_2_1 : ∀ j : Int, line_0 j = line_1 j) (hE_0_2_2 : ∀ j : Int, line_1 j = line_2 j) (hE_0_4_1 : ∀ j : Int, under_0 j = under_1 j) (hE_0_4_2 : ∀ j : Int, under_1 j = under_2 j) (hE_1_2_1 : ∀ j : Int, x_0o1 j = x_1o1 j) (hE_1_2_2 : ∀ j : Int, 0 ≤ j → (j = x9 → x_1o1 j = x28) ∧ (j ≠ x9 → x_1o1 j = x_2o1 j)) (hE_1_3_1 : ∀ j : Int, 0 ≤ j → (j = x9 → y_0o1 j = x37) ∧ (j ≠ x9 → y_0o1 j = y_1o1 j)) (hE_1_3_2 : ∀ j : Int, y_1o1 j = y_2o1 j) (kz_0_3 : 0 ≤ lineLength_0 ∧ lineLength_0 ≤ 24) : CGP (order_0) (under_0) (x_0o1) (y_0o1) (x6) := by
  subst fe_0_3_1
  subst fe_0_3_2
  have e_hE_0_1_1 := funext hE_0_1_1; subst e_hE_0_1_1
  have e_hE_0_1_2 := funext hE_0_1_2; subst e_hE_0_1_2
  have e_hE_0_2_1 := funext hE_0_2_1; subst e_hE_0_2_1
  have e_hE_0_2_2 := funext hE_0_2_2; subst e_hE_0_2_2
  have e_hE_0_4_1 := funext hE_0_4_1; subst e_hE_0_4_1
  have e_hE_0_4_2 := funext hE_0_4_2; subst e_hE_0_4_2
  have e_hE_1_2_1 := funext hE_1_2_1; subst e_hE_1_2_1
  have e_hE_1_3_2 := funext hE_1_3_2; subst e_hE_1_3_2
  first
    | exact cgp_new (a := x16) (b := x17) (xa := x19) (xb := x20) (ya := x25) (yb := x23) (xa_zq := x30) (xb_zq := x29) (e := x26) (X := x28) (f := x35) (Y := x37) ‹CO2 _ _ _ _ _ _ _› (by assumption) (by assumption) (by omega) (by omega) (by omega) (by omega) (by assumption) (by assumption) (by assumption) (by assumption) (by assumption) (by omega) (by rw [show (2 : Int) = x27 by omega]; assumption) hE_1_2_2 rfl (by assumption) (by assumption) (by omega) (by rw [show (2 : Int) = x36 by omega]; assumption) hE_1_3_1 rfl
def o_Pn_placeNext_8 : or_T := (247, 38, [(0, (2, 0, 0, [7])), (1, (2, 0, 0, [0])), (3, (2, 0, 0, [102])), (6, (0, 3, 23, [])), (7, (2, 0, 0, [7])), (8, (2, 0, 0, [0])), (9, (0, 0, 23, [])), (10, (0, 0, 23, [])), (11, (0, 0, 23, [])), (12, (0, 1, 24, [])), (13, (2, 0, 0, [102])), (14, (0, 0, 24, [])), (15, (2, 0, 0, [103])), (16, (0, 0, 23, [])), (17, (0, 0, 23, [])), (18, (2, 0, 0, [14])), (19, (0, -40000000, 690000000, [])), (20, (0, -40000000, 690000000, [])), (21, (0, -80000000, 1380000000, [])), (22, (2, 0, 0, [15])), (23, (0, -40000000, 690000000, [])), (24, (0, -120000000, 2070000000, [])), (25, (0, -40000000, 690000000, [])), (26, (0, -810000000, 2110000000, [])), (27, (0, 2, 2, [])), (28, (0, -1000000, 1000000, [])), (29, (0, -40000000, 690000000, [])), (30, (0, -40000000, 690000000, [])), (31, (0, -730000000, 730000000, [])), (32, (0, -40000000, 690000000, [])), (33, (0, -770000000, 1420000000, [])), (34, (0, -40000000, 690000000, [])), (35, (0, -810000000, 2110000000, [])), (36, (0, 2, 2, [])), (37, (0, -1000000, 1000000, []))], [(9, [22, 8], [3]), (9, [18, 8], [2]), (9, [15, 7], [2]), (9, [14, 7], [3]), (9, [13, 7], [1]), (20, [7, 16, 6], [60, 0, 1, 891, 1]), (20, [7, 17, 6], [60, 0, 1, 891, 1]), (20, [7, 6], [60, 1, 2, 889, 3, 2, 1]), (20, [10, 7, 11], [50, 1, 0, 1003, 2, 19, 2, 6, 0, 2, 0, 0, 1, 0, 0, 6, 4, 2, 1, 0, 0, 1, 2, 1, 3, 2, 6, 0, 2, 0, 0, 1, 2, 0, 6, 4, 2, 1, 2, 0, 1, 2, 1, 3]), (20, [12, 10], [50, 0, 0, 2, 6, 0, 2, 0, 1, 1, 0, 0, 6, 4, 2, 1, 1, 0, 1, 1, 0]), (20, [9, 7, 6], [50, 0, 1, 1001, 1, 2, 1, 0, 3, 1, 1, 1, 2]), (24, [3, 13], []), (24, [0, 7], []), (24, [1, 8], []), (100, [22, 9, 37], []), (4, [37, 35, 36], []), (1, [35, 33, 34], []), (10, [34, 22, 17], []), (1, [33, 31, 32], []), (10, [32, 22, 16], []), (2, [31, 29, 30], []), (10, [30, 18, 16], []), (10, [29, 18, 17], []), (20, [7, 16, 6], [60, 0, 1, 891, 1]), (20, [7, 17, 6], [60, 0, 1, 891, 1]), (20, [7, 6], [60, 1, 2, 889, 3, 2, 1]), (20, [10, 7, 11], [50, 1, 0, 1003, 2, 19, 2, 6, 0, 2, 0, 0, 1, 0, 0, 6, 4, 2, 1, 0, 0, 1, 2, 1, 3, 2, 6, 0, 2, 0, 0, 1, 2, 0, 6, 4, 2, 1, 2, 0, 1, 2, 1, 3]), (20, [12, 10], [50, 0, 0, 2, 6, 0, 2, 0, 1, 1, 0, 0, 6, 4, 2, 1, 1, 0, 1, 1, 0]), (20, [9, 7, 6], [50, 0, 1, 1001, 1, 2, 1, 0, 3, 1, 1, 1, 2]), (100, [18, 9, 28], []), (4, [28, 26, 27], []), (2, [26, 24, 25], []), (10, [25, 22, 16], []), (1, [24, 21, 23], []), (10, [23, 22, 17], []), (1, [21, 19, 20], []), (10, [20, 18, 17], []), (10, [19, 18, 16], []), (20, [7, 16, 6], [60, 0, 1, 891, 1]), (20, [7, 17, 6], [60, 0, 1, 891, 1]), (10, [17, 15, 11], []), (10, [16, 15, 10], []), (7, [12, 14], [3]), (20, [7, 6], [60, 1, 2, 889, 3, 2, 1]), (20, [7, 8, 6, 12, 9], [60, 0, 4, 885, 1, 4, 1002, 1003]), (20, [10, 7, 11], [50, 1, 0, 1003, 2, 19, 2, 6, 0, 2, 0, 0, 1, 0, 0, 6, 4, 2, 1, 0, 0, 1, 2, 1, 3, 2, 6, 0, 2, 0, 0, 1, 2, 0, 6, 4, 2, 1, 2, 0, 1, 2, 1, 3]), (20, [12, 10], [50, 0, 0, 2, 6, 0, 2, 0, 1, 1, 0, 0, 6, 4, 2, 1, 1, 0, 1, 1, 0]), (20, [9, 7, 6], [50, 0, 1, 1001, 1, 2, 1, 0, 3, 1, 1, 1, 2])], [], [], [(20, [7, 8, 6], [60, 0, 4, 884, 1, 4, 1002, 1003])], [], [(35, 34, -770000000, 1420000000), (35, 33, -40000000, 690000000), (35, 32, -770000000, 1420000000), (35, 31, -80000000, 1380000000), (35, 29, -770000000, 1420000000), (33, 32, -730000000, 730000000), (33, 31, -40000000, 690000000), (33, 29, -730000000, 730000000), (31, 29, -690000000, 40000000), (26, 24, -690000000, 40000000), (26, 23, -770000000, 1420000000), (26, 21, -730000000, 730000000), (26, 20, -770000000, 1420000000), (26, 19, -770000000, 1420000000), (24, 23, -80000000, 1380000000), (24, 21, -40000000, 690000000), (24, 20, -80000000, 1380000000), (24, 19, -80000000, 1380000000), (21, 20, -40000000, 690000000), (21, 19, -40000000, 690000000), (12, 14, 0, 4294967296), (10, 12, -4294967296, -1)])
theorem oo_Pn_placeNext_8 {kA : Nat → ClassId} : or_ok PRD kA GG o_Pn_placeNext_8 := by
  refine or_mk fun A ta ws vs hD hth hl => ?_
  intro t0 r0 t1 r1 t3 r3 t6 k6 t7 r7 t8 r8 t9 k9 t10 k10 t11 k11 t12 k12 t13 r13 t14 k14 t15 r15 t16 k16 t17 k17 t18 r18 t19 k19 t20 k20 t21 k21 t22 r22 t23 k23 t24 k24 t25 k25 t26 k26 t27 k27 t28 k28 t29 k29 t30 k30 t31 k31 t32 k32 t33 k33 t34 k34 t35 k35 t36 k36 t37 k37 d0 d1 d2 d3 d4 d5 d6 d7 d8 d9 d10 d11 d12 d13 d14 d15 d16 d17 d18 d19 d20 d21 f0 f1 f2 f3 f4 f5 f6 f7 f8 f9 f10 f11 f12 f13 ta1 w1 le1 s1 f15 f16 f17 f18 f19 f20 f21 f22 f23 f24 f25 f26 f27 f28 ta2 w2 le2 s2 f30 f31 f32 f33 f34 f35 f36 f37 f38 f39 f40 f41 f42 f43 f44 f45 f46 f47
  replace f0 := shm_137 f0
  replace f1 := shm_120 f1
  replace f2 := shm_120 f2
  replace f10 := shm_1394 f10
  replace f12 := shm_5 f12
  replace f13 := shm_5 f13
  have s1 : (∀ b j, w_el ws b j = if b = v_ad (n_v vs 22) ∧ j = (v_iv (n_v vs 9)).toNat then v_iv (n_v vs 37) else w_el w1 b j) ∧ ∀ b k, w_fd ws b k = w_fd w1 b k := s1.2
  replace f15 := shm_34 f15
  replace f16 := shm_12 f16
  replace f17 := shm_107 f17
  replace f18 := shm_12 f18
  replace f19 := shm_107 f19
  replace f20 := shm_14 f20
  replace f21 := shm_107 f21
  replace f22 := shm_107 f22
  have s2 : (∀ b j, w_el w1 b j = if b = v_ad (n_v vs 18) ∧ j = (v_iv (n_v vs 9)).toNat then v_iv (n_v vs 28) else w_el w2 b j) ∧ ∀ b k, w_fd w1 b k = w_fd w2 b k := s2.2
  replace f30 := shm_34 f30
  replace f31 := shm_14 f31
  replace f32 := shm_107 f32
  replace f33 := shm_12 f33
  replace f34 := shm_107 f34
  replace f35 := shm_12 f35
  replace f36 := shm_107 f36
  replace f37 := shm_107 f37
  replace f38 := shm_433 f38
  replace f39 := shm_433 f39
  replace f44 := shm_431 f44
  replace f47 := shm_1394 f47
  have q7 : n_v vs 7 = n_v vs 0 := f12.symm
  have q8 : n_v vs 8 = n_v vs 1 := f13.symm
  simp only [q8, q7] at f0 f1 f2 f10 f38 f39 f44 f47
  have ar_0_1_1 : w_ar w1 (n_v vs 0) 1 = w_ar ws (n_v vs 0) 1 := congrArg v_ad (s1.2 _ _).symm
  have ar_0_1_2 : w_ar w2 (n_v vs 0) 1 = w_ar ws (n_v vs 0) 1 := by rw [← ar_0_1_1]; show v_ad (w_fd w2 _ _) = v_ad (w_fd w1 _ _); rw [s2.2]
  have cr_0_1 := fdq_92 hD hth r0
  have ar_0_2_1 : w_ar w1 (n_v vs 0) 2 = w_ar ws (n_v vs 0) 2 := congrArg v_ad (s1.2 _ _).symm
  have ar_0_2_2 : w_ar w2 (n_v vs 0) 2 = w_ar ws (n_v vs 0) 2 := by rw [← ar_0_2_1]; show v_ad (w_fd w2 _ _) = v_ad (w_fd w1 _ _); rw [s2.2]
  have cr_0_2 := fdq_227 hD hth r0
  have ar_0_4_1 : w_ar w1 (n_v vs 0) 4 = w_ar ws (n_v vs 0) 4 := congrArg v_ad (s1.2 _ _).symm
  have ar_0_4_2 : w_ar w2 (n_v vs 0) 4 = w_ar ws (n_v vs 0) 4 := by rw [← ar_0_4_1]; show v_ad (w_fd w2 _ _) = v_ad (w_fd w1 _ _); rw [s2.2]
  have cr_0_4 := fdq_93 hD hth r0
  have ar_1_2_1 : w_ar w1 (n_v vs 1) 2 = w_ar ws (n_v vs 1) 2 := congrArg v_ad (s1.2 _ _).symm
  have ar_1_2_2 : w_ar w2 (n_v vs 1) 2 = w_ar ws (n_v vs 1) 2 := by rw [← ar_1_2_1]; show v_ad (w_fd w2 _ _) = v_ad (w_fd w1 _ _); rw [s2.2]
  have cr_1_2 := fdq_45 hD hth r1
  have ar_1_3_1 : w_ar w1 (n_v vs 1) 3 = w_ar ws (n_v vs 1) 3 := congrArg v_ad (s1.2 _ _).symm
  have ar_1_3_2 : w_ar w2 (n_v vs 1) 3 = w_ar ws (n_v vs 1) 3 := by rw [← ar_1_3_1]; show v_ad (w_fd w2 _ _) = v_ad (w_fd w1 _ _); rw [s2.2]
  have cr_1_3 := fdq_48 hD hth r1
  have ad_22 : v_ad (n_v vs 22) = w_ar ws (n_v vs 1) 3 := congrArg v_ad f0
  have ad_18 : v_ad (n_v vs 18) = w_ar ws (n_v vs 1) 2 := congrArg v_ad f1
  have ad_15 : v_ad (n_v vs 15) = w_ar ws (n_v vs 0) 2 := congrArg v_ad f2
  simp only [ad_22] at f17
  have h17 : v_iv (n_v vs 34) = w_ei w1 (w_ar ws (n_v vs 1) 3) (v_iv (n_v vs 17)) := f17
  simp only [ad_22] at f19
  have h19 : v_iv (n_v vs 32) = w_ei w1 (w_ar ws (n_v vs 1) 3) (v_iv (n_v vs 16)) := f19
  simp only [ad_18] at f21
  have h21 : v_iv (n_v vs 30) = w_ei w1 (w_ar ws (n_v vs 1) 2) (v_iv (n_v vs 16)) := f21
  simp only [ad_18] at f22
  have h22 : v_iv (n_v vs 29) = w_ei w1 (w_ar ws (n_v vs 1) 2) (v_iv (n_v vs 17)) := f22
  simp only [ar_0_1_1, ar_0_2_1, ad_22] at f32
  have h32 : v_iv (n_v vs 25) = w_ei w2 (w_ar ws (n_v vs 1) 3) (v_iv (n_v vs 16)) := f32
  simp only [ad_22] at f34
  have h34 : v_iv (n_v vs 23) = w_ei w2 (w_ar ws (n_v vs 1) 3) (v_iv (n_v vs 17)) := f34
  simp only [ad_18] at f36
  have h36 : v_iv (n_v vs 20) = w_ei w2 (w_ar ws (n_v vs 1) 2) (v_iv (n_v vs 17)) := f36
  simp only [ad_18] at f37
  have h37 : v_iv (n_v vs 19) = w_ei w2 (w_ar ws (n_v vs 1) 2) (v_iv (n_v vs 16)) := f37
  simp only [ar_0_1_2, ad_15] at f38 f39
  simp only [ar_0_1_2, ar_0_2_2, ar_0_4_2, ar_1_2_2, ar_1_3_2] at f44 f47
  have fe_0_3_1 : w_fi ws (n_v vs 0) 3 = w_fi w1 (n_v vs 0) 3 := congrArg v_iv (s1.2 _ _)
  have fe_0_3_2 : w_fi w1 (n_v vs 0) 3 = w_fi w2 (n_v vs 0) 3 := congrArg v_iv (s2.2 _ _)
  have hE_0_1_1 : ∀ j : Int, w_ei ws (w_ar ws (n_v vs 0) 1) j = w_ei w1 (w_ar ws (n_v vs 0) 1) j := el_kp s1.1 r22 cr_0_1 (by decide)
  have hE_0_1_2 : ∀ j : Int, w_ei w1 (w_ar ws (n_v vs 0) 1) j = w_ei w2 (w_ar ws (n_v vs 0) 1) j := el_kp s2.1 r18 cr_0_1 (by decide)
  have hE_0_2_1 : ∀ j : Int, w_ei ws (w_ar ws (n_v vs 0) 2) j = w_ei w1 (w_ar ws (n_v vs 0) 2) j := el_kp s1.1 r22 cr_0_2 (by decide)
  have hE_0_2_2 : ∀ j : Int, w_ei w1 (w_ar ws (n_v vs 0) 2) j = w_ei w2 (w_ar ws (n_v vs 0) 2) j := el_kp s2.1 r18 cr_0_2 (by decide)
  have hE_0_4_1 : ∀ j : Int, w_ei ws (w_ar ws (n_v vs 0) 4) j = w_ei w1 (w_ar ws (n_v vs 0) 4) j := el_kp s1.1 r22 cr_0_4 (by decide)
  have hE_0_4_2 : ∀ j : Int, w_ei w1 (w_ar ws (n_v vs 0) 4) j = w_ei w2 (w_ar ws (n_v vs 0) 4) j := el_kp s2.1 r18 cr_0_4 (by decide)
  have hE_1_2_1 : ∀ j : Int, w_ei ws (w_ar ws (n_v vs 1) 2) j = w_ei w1 (w_ar ws (n_v vs 1) 2) j := el_kp s1.1 r22 cr_1_2 (by decide)
  have hE_1_2_2 : ∀ j : Int, 0 ≤ j → (j = v_iv (n_v vs 9) → w_ei w1 (w_ar ws (n_v vs 1) 2) j = v_iv (n_v vs 28)) ∧ (j ≠ v_iv (n_v vs 9) → w_ei w1 (w_ar ws (n_v vs 1) 2) j = w_ei w2 (w_ar ws (n_v vs 1) 2) j) := fun j hj => ⟨fun h => by unfold w_ei; rw [s2.1, if_pos ⟨ad_18.symm, by rw [h]⟩], fun h => by unfold w_ei; rw [s2.1, if_neg (fun e => h (by have := e.2; omega))]⟩
  have hE_1_3_1 : ∀ j : Int, 0 ≤ j → (j = v_iv (n_v vs 9) → w_ei ws (w_ar ws (n_v vs 1) 3) j = v_iv (n_v vs 37)) ∧ (j ≠ v_iv (n_v vs 9) → w_ei ws (w_ar ws (n_v vs 1) 3) j = w_ei w1 (w_ar ws (n_v vs 1) 3) j) := fun j hj => ⟨fun h => by unfold w_ei; rw [s1.1, if_pos ⟨ad_22.symm, by rw [h]⟩], fun h => by unfold w_ei; rw [s1.1, if_neg (fun e => h (by have := e.2; omega))]⟩
  have hE_1_3_2 : ∀ j : Int, w_ei w1 (w_ar ws (n_v vs 1) 3) j = w_ei w2 (w_ar ws (n_v vs 1) 3) j := el_kp s2.1 r18 cr_1_3 (by decide)
  have kz_0_3 := fdq_13 hD hth r0
  have nf0 : fc_1 PRD (20, [7, 8, 6], [60, 0, 4, 884, 1, 4, 1002, 1003]) ws (vs) := by
    refine ⟨nf_in hl rfl, sgq_1400 ?_⟩
    · show CGP (w_ei ws (w_ar ws (n_v vs 7) 1)) (w_ei ws (w_ar ws (n_v vs 7) 4)) (w_ei ws (w_ar ws (n_v vs 8) 2)) (w_ei ws (w_ar ws (n_v vs 8) 3)) (v_iv (n_v vs 6))
      simp only [q7, q8]
      exact vc_Pn_placeNext_8_0 (v_iv (n_v vs 6)) (v_iv (n_v vs 9)) (v_iv (n_v vs 12)) (v_iv (n_v vs 16)) (v_iv (n_v vs 17)) (v_iv (n_v vs 19)) (v_iv (n_v vs 20)) (v_iv (n_v vs 21)) (v_iv (n_v vs 23)) (v_iv (n_v vs 24)) (v_iv (n_v vs 25)) (v_iv (n_v vs 26)) (v_iv (n_v vs 27)) (v_iv (n_v vs 28)) (v_iv (n_v vs 29)) (v_iv (n_v vs 30)) (v_iv (n_v vs 31)) (v_iv (n_v vs 32)) (v_iv (n_v vs 33)) (v_iv (n_v vs 34)) (v_iv (n_v vs 35)) (v_iv (n_v vs 36)) (v_iv (n_v vs 37)) (w_fi ws (n_v vs 0) 3) (w_ei ws (w_ar ws (n_v vs 0) 1)) (w_ei ws (w_ar ws (n_v vs 0) 2)) (w_ei w1 (w_ar ws (n_v vs 1) 3)) (w_ei w1 (w_ar ws (n_v vs 1) 2)) (w_ei w1 (w_ar ws (n_v vs 0) 1)) (w_ei w1 (w_ar ws (n_v vs 0) 2)) (w_fi w1 (n_v vs 0) 3) (w_ei w2 (w_ar ws (n_v vs 1) 3)) (w_ei w2 (w_ar ws (n_v vs 1) 2)) (w_ei w2 (w_ar ws (n_v vs 0) 1)) (w_ei w2 (w_ar ws (n_v vs 0) 2)) (w_fi w2 (n_v vs 0) 3) (w_ei w2 (w_ar ws (n_v vs 0) 4)) (w_ei ws (w_ar ws (n_v vs 0) 4)) (w_ei w1 (w_ar ws (n_v vs 0) 4)) (w_ei ws (w_ar ws (n_v vs 1) 2)) (w_ei ws (w_ar ws (n_v vs 1) 3)) k6 k9 k12 k16 k17 k19 k20 k21 k23 k24 k25 k26 k27 k28 k29 k30 k31 k32 k33 k34 k35 k36 k37 f10 f15 f16 h17 f18 h19 f20 h21 h22 f30 f31 h32 f33 h34 f35 h36 h37 f38 f39 f44 f47 fe_0_3_1 fe_0_3_2 hE_0_1_1 hE_0_1_2 hE_0_2_1 hE_0_2_2 hE_0_4_1 hE_0_4_2 hE_1_2_1 hE_1_2_2 hE_1_3_1 hE_1_3_2 kz_0_3
  refine ⟨(fun _ h => (by cases h)), [], trivial, ?_, (fun _ h => (by cases h))⟩
  rw [List.append_nil]
  exact List.forall_mem_cons.mpr ⟨⟨show (20 : Nat) < 100 from by decide, nf0⟩, (fun _ h => (by cases h))⟩
set_option maxHeartbeats 4000000 in
theorem vc_Pn_placeNext_9_0 (x6 : Int) (x9 : Int) (x39 : Int) (lineLength_0 : Int) (order_0 : Int → Int) (under_0 : Int → Int) (x_0o1 : Int → Int) (y_0o1 : Int → Int) (line_0 : Int → Int) (order_1 : Int → Int) (under_1 : Int → Int) (x_1o1 : Int → Int) (y_1o1 : Int → Int) (line_1 : Int → Int) (lineLength_1 : Int) (y_2o1 : Int → Int) (x_2o1 : Int → Int) (order_2 : Int → Int) (line_2 : Int → Int) (lineLength_2 : Int) (y_3o1 : Int → Int) (order_3 : Int → Int) (line_3 : Int → Int) (lineLength_3 : Int) (under_3 : Int → Int) (under_2 : Int → Int) (way_0 : Int → Int) (way_1 : Int → Int) (way_2 : Int → Int) (way_3 : Int → Int) (gx : Int) (k6 : 3 ≤ x6 ∧ x6 ≤ 23) (k9 : 0 ≤ x9 ∧ x9 ≤ 23) (k39 : 0 ≤ x39 ∧ x39 ≤ 0) (fe_0_3_1 : lineLength_0 = lineLength_1) (fe_0_3_2 : lineLength_1 = lineLength_2) (fe_0_3_3 : lineLength_2 = lineLength_3) (hE_0_1_1 : ∀ j : Int, order_0 j = order_1 j) (hE_0_1_2 : ∀ j : Int, order_1 j = order_2 j) (hE_0_1_3 : ∀ j : Int, order_2 j = order_3 j) (hE_0_2_1 : ∀ j : Int, line_0 j = line_1 j) (hE_0_2_2 : ∀ j : Int, line_1 j = line_2 j) (hE_0_2_3 : ∀ j : Int, line_2 j = line_3 j) (hE_0_4_1 : ∀ j : Int, under_0 j = under_1 j) (hE_0_4_2 : ∀ j : Int, under_1 j = under_2 j) (hE_0_4_3 : ∀ j : Int, under_2 j = under_3 j) (hE_0_6_1 : ∀ j : Int, 0 ≤ j → (j = x39 → way_0 j = x9) ∧ (j ≠ x39 → way_0 j = way_1 j)) (hE_0_6_2 : ∀ j : Int, way_1 j = way_2 j) (hE_0_6_3 : ∀ j : Int, way_2 j = way_3 j) (hE_1_2_1 : ∀ j : Int, x_0o1 j = x_1o1 j) (hE_1_2_2 : ∀ j : Int, x_1o1 j = x_2o1 j) (hE_1_3_1 : ∀ j : Int, y_0o1 j = y_1o1 j) (hE_1_3_3 : ∀ j : Int, y_2o1 j = y_3o1 j) (kz_0_3 : 0 ≤ lineLength_0 ∧ lineLength_0 ≤ 24) (ex2 : gx = x6) : 1 * gx + ((-1) * x6 + 0) ≤ 0 := by
  subst fe_0_3_1
  subst fe_0_3_2
  subst fe_0_3_3
  have e_hE_0_1_1 := funext hE_0_1_1; subst e_hE_0_1_1
  have e_hE_0_1_2 := funext hE_0_1_2; subst e_hE_0_1_2
  have e_hE_0_1_3 := funext hE_0_1_3; subst e_hE_0_1_3
  have e_hE_0_2_1 := funext hE_0_2_1; subst e_hE_0_2_1
  have e_hE_0_2_2 := funext hE_0_2_2; subst e_hE_0_2_2
  have e_hE_0_2_3 := funext hE_0_2_3; subst e_hE_0_2_3
  have e_hE_0_4_1 := funext hE_0_4_1; subst e_hE_0_4_1
  have e_hE_0_4_2 := funext hE_0_4_2; subst e_hE_0_4_2
  have e_hE_0_4_3 := funext hE_0_4_3; subst e_hE_0_4_3
  have e_hE_0_6_2 := funext hE_0_6_2; subst e_hE_0_6_2
  have e_hE_0_6_3 := funext hE_0_6_3; subst e_hE_0_6_3
  have e_hE_1_2_1 := funext hE_1_2_1; subst e_hE_1_2_1
  have e_hE_1_2_2 := funext hE_1_2_2; subst e_hE_1_2_2
  have e_hE_1_3_1 := funext hE_1_3_1; subst e_hE_1_3_1
  have e_hE_1_3_3 := funext hE_1_3_3; subst e_hE_1_3_3
  first
    | omega
    | assumption
    | (have h := (‹LNO _ _ _ _›).1; omega)
    | (rw [(hE_0_6_1 0 (by omega)).1 (by omega), show gx = x6 by omega]; assumption)
set_option maxHeartbeats 4000000 in
theorem vc_Pn_placeNext_9_1 (x6 : Int) (x9 : Int) (x39 : Int) (lineLength_0 : Int) (order_0 : Int → Int) (under_0 : Int → Int) (x_0o1 : Int → Int) (y_0o1 : Int → Int) (line_0 : Int → Int) (order_1 : Int → Int) (under_1 : Int → Int) (x_1o1 : Int → Int) (y_1o1 : Int → Int) (line_1 : Int → Int) (lineLength_1 : Int) (y_2o1 : Int → Int) (x_2o1 : Int → Int) (order_2 : Int → Int) (line_2 : Int → Int) (lineLength_2 : Int) (y_3o1 : Int → Int) (order_3 : Int → Int) (line_3 : Int → Int) (lineLength_3 : Int) (under_3 : Int → Int) (under_2 : Int → Int) (way_0 : Int → Int) (way_1 : Int → Int) (way_2 : Int → Int) (way_3 : Int → Int) (gx : Int) (k6 : 3 ≤ x6 ∧ x6 ≤ 23) (k9 : 0 ≤ x9 ∧ x9 ≤ 23) (k39 : 0 ≤ x39 ∧ x39 ≤ 0) (fe_0_3_1 : lineLength_0 = lineLength_1) (fe_0_3_2 : lineLength_1 = lineLength_2) (fe_0_3_3 : lineLength_2 = lineLength_3) (hE_0_1_1 : ∀ j : Int, order_0 j = order_1 j) (hE_0_1_2 : ∀ j : Int, order_1 j = order_2 j) (hE_0_1_3 : ∀ j : Int, order_2 j = order_3 j) (hE_0_2_1 : ∀ j : Int, line_0 j = line_1 j) (hE_0_2_2 : ∀ j : Int, line_1 j = line_2 j) (hE_0_2_3 : ∀ j : Int, line_2 j = line_3 j) (hE_0_4_1 : ∀ j : Int, under_0 j = under_1 j) (hE_0_4_2 : ∀ j : Int, under_1 j = under_2 j) (hE_0_4_3 : ∀ j : Int, under_2 j = under_3 j) (hE_0_6_1 : ∀ j : Int, 0 ≤ j → (j = x39 → way_0 j = x9) ∧ (j ≠ x39 → way_0 j = way_1 j)) (hE_0_6_2 : ∀ j : Int, way_1 j = way_2 j) (hE_0_6_3 : ∀ j : Int, way_2 j = way_3 j) (hE_1_2_1 : ∀ j : Int, x_0o1 j = x_1o1 j) (hE_1_2_2 : ∀ j : Int, x_1o1 j = x_2o1 j) (hE_1_3_1 : ∀ j : Int, y_0o1 j = y_1o1 j) (hE_1_3_3 : ∀ j : Int, y_2o1 j = y_3o1 j) (kz_0_3 : 0 ≤ lineLength_0 ∧ lineLength_0 ≤ 24) (ex2 : gx = x6) : (-1) * gx + (1 * x6 + 0) ≤ 0 := by
  subst fe_0_3_1
  subst fe_0_3_2
  subst fe_0_3_3
  have e_hE_0_1_1 := funext hE_0_1_1; subst e_hE_0_1_1
  have e_hE_0_1_2 := funext hE_0_1_2; subst e_hE_0_1_2
  have e_hE_0_1_3 := funext hE_0_1_3; subst e_hE_0_1_3
  have e_hE_0_2_1 := funext hE_0_2_1; subst e_hE_0_2_1
  have e_hE_0_2_2 := funext hE_0_2_2; subst e_hE_0_2_2
  have e_hE_0_2_3 := funext hE_0_2_3; subst e_hE_0_2_3
  have e_hE_0_4_1 := funext hE_0_4_1; subst e_hE_0_4_1
  have e_hE_0_4_2 := funext hE_0_4_2; subst e_hE_0_4_2
  have e_hE_0_4_3 := funext hE_0_4_3; subst e_hE_0_4_3
  have e_hE_0_6_2 := funext hE_0_6_2; subst e_hE_0_6_2
  have e_hE_0_6_3 := funext hE_0_6_3; subst e_hE_0_6_3
  have e_hE_1_2_1 := funext hE_1_2_1; subst e_hE_1_2_1
  have e_hE_1_2_2 := funext hE_1_2_2; subst e_hE_1_2_2
  have e_hE_1_3_1 := funext hE_1_3_1; subst e_hE_1_3_1
  have e_hE_1_3_3 := funext hE_1_3_3; subst e_hE_1_3_3
  first
    | omega
    | assumption
    | (have h := (‹LNO _ _ _ _›).1; omega)
    | (rw [(hE_0_6_1 0 (by omega)).1 (by omega), show gx = x6 by omega]; assumption)
set_option maxHeartbeats 4000000 in
theorem vc_Pn_placeNext_9_2 (x6 : Int) (lineLength_0 : Int) (order_0 : Int → Int) (under_0 : Int → Int) (x_0o1 : Int → Int) (y_0o1 : Int → Int) (line_0 : Int → Int) (order_1 : Int → Int) (under_1 : Int → Int) (x_1o1 : Int → Int) (y_1o1 : Int → Int) (line_1 : Int → Int) (lineLength_1 : Int) (y_2o1 : Int → Int) (x_2o1 : Int → Int) (order_2 : Int → Int) (line_2 : Int → Int) (lineLength_2 : Int) (y_3o1 : Int → Int) (order_3 : Int → Int) (line_3 : Int → Int) (lineLength_3 : Int) (under_3 : Int → Int) (under_2 : Int → Int) (way_1 : Int → Int) (way_2 : Int → Int) (way_3 : Int → Int) (gx : Int) (k6 : 3 ≤ x6 ∧ x6 ≤ 23) (f56 : LNO (lineLength_3) (line_3) (order_3) (x6)) (fe_0_3_1 : lineLength_0 = lineLength_1) (fe_0_3_2 : lineLength_1 = lineLength_2) (fe_0_3_3 : lineLength_2 = lineLength_3) (hE_0_1_1 : ∀ j : Int, order_0 j = order_1 j) (hE_0_1_2 : ∀ j : Int, order_1 j = order_2 j) (hE_0_1_3 : ∀ j : Int, order_2 j = order_3 j) (hE_0_2_1 : ∀ j : Int, line_0 j = line_1 j) (hE_0_2_2 : ∀ j : Int, line_1 j = line_2 j) (hE_0_2_3 : ∀ j : Int, line_2 j = line_3 j) (hE_0_4_1 : ∀ j : Int, under_0 j = under_1 j) (hE_0_4_2 : ∀ j : Int, under_1 j = under_2 j) (hE_0_4_3 : ∀ j : Int, under_2 j = under_3 j) (hE_0_6_2 : ∀ j : Int, way_1 j = way_2 j) (hE_0_6_3 : ∀ j : Int, way_2 j = way_3 j) (hE_1_2_1 : ∀ j : Int, x_0o1 j = x_1o1 j) (hE_1_2_2 : ∀ j : Int, x_1o1 j = x_2o1 j) (hE_1_3_1 : ∀ j : Int, y_0o1 j = y_1o1 j) (hE_1_3_3 : ∀ j : Int, y_2o1 j = y_3o1 j) (kz_0_3 : 0 ≤ lineLength_0 ∧ lineLength_0 ≤ 24) (ex2 : gx = x6) : LNO (lineLength_0) (line_0) (order_0) (gx) := by
  subst fe_0_3_1
  subst fe_0_3_2
  subst fe_0_3_3
  have e_hE_0_1_1 := funext hE_0_1_1; subst e_hE_0_1_1
  have e_hE_0_1_2 := funext hE_0_1_2; subst e_hE_0_1_2
  have e_hE_0_1_3 := funext hE_0_1_3; subst e_hE_0_1_3
  have e_hE_0_2_1 := funext hE_0_2_1; subst e_hE_0_2_1
  have e_hE_0_2_2 := funext hE_0_2_2; subst e_hE_0_2_2
  have e_hE_0_2_3 := funext hE_0_2_3; subst e_hE_0_2_3
  have e_hE_0_4_1 := funext hE_0_4_1; subst e_hE_0_4_1
  have e_hE_0_4_2 := funext hE_0_4_2; subst e_hE_0_4_2
  have e_hE_0_4_3 := funext hE_0_4_3; subst e_hE_0_4_3
  have e_hE_0_6_2 := funext hE_0_6_2; subst e_hE_0_6_2
  have e_hE_0_6_3 := funext hE_0_6_3; subst e_hE_0_6_3
  have e_hE_1_2_1 := funext hE_1_2_1; subst e_hE_1_2_1
  have e_hE_1_2_2 := funext hE_1_2_2; subst e_hE_1_2_2
  have e_hE_1_3_1 := funext hE_1_3_1; subst e_hE_1_3_1
  have e_hE_1_3_3 := funext hE_1_3_3; subst e_hE_1_3_3
  first
    | assumption
    | (rw [show gx = x6 by omega]; assumption)
set_option maxHeartbeats 4000000 in
theorem vc_Pn_placeNext_9_3 (x6 : Int) (x9 : Int) (x39 : Int) (lineLength_0 : Int) (order_0 : Int → Int) (under_0 : Int → Int) (x_0o1 : Int → Int) (y_0o1 : Int → Int) (line_0 : Int → Int) (order_1 : Int → Int) (under_1 : Int → Int) (x_1o1 : Int → Int) (y_1o1 : Int → Int) (line_1 : Int → Int) (lineLength_1 : Int) (y_2o1 : Int → Int) (x_2o1 : Int → Int) (order_2 : Int → Int) (line_2 : Int → Int) (lineLength_2 : Int) (y_3o1 : Int → Int) (order_3 : Int → Int) (line_3 : Int → Int) (lineLength_3 : Int) (under_3 : Int → Int) (under_2 : Int → Int) (way_0 : Int → Int) (way_1 : Int → Int) (way_2 : Int → Int) (way_3 : Int → Int) (gx : Int) (k6 : 3 ≤ x6 ∧ x6 ≤ 23) (k9 : 0 ≤ x9 ∧ x9 ≤ 23) (k39 : 0 ≤ x39 ∧ x39 ≤ 0) (f60 : x9 = order_3 (x6)) (fe_0_3_1 : lineLength_0 = lineLength_1) (fe_0_3_2 : lineLength_1 = lineLength_2) (fe_0_3_3 : lineLength_2 = lineLength_3) (hE_0_1_1 : ∀ j : Int, order_0 j = order_1 j) (hE_0_1_2 : ∀ j : Int, order_1 j = order_2 j) (hE_0_1_3 : ∀ j : Int, order_2 j = order_3 j) (hE_0_2_1 : ∀ j : Int, line_0 j = line_1 j) (hE_0_2_2 : ∀ j : Int, line_1 j = line_2 j) (hE_0_2_3 : ∀ j : Int, line_2 j = line_3 j) (hE_0_4_1 : ∀ j : Int, under_0 j = under_1 j) (hE_0_4_2 : ∀ j : Int, under_1 j = under_2 j) (hE_0_4_3 : ∀ j : Int, under_2 j = under_3 j) (hE_0_6_1 : ∀ j : Int, 0 ≤ j → (j = x39 → way_0 j = x9) ∧ (j ≠ x39 → way_0 j = way_1 j)) (hE_0_6_2 : ∀ j : Int, way_1 j = way_2 j) (hE_0_6_3 : ∀ j : Int, way_2 j = way_3 j) (hE_1_2_1 : ∀ j : Int, x_0o1 j = x_1o1 j) (hE_1_2_2 : ∀ j : Int, x_1o1 j = x_2o1 j) (hE_1_3_1 : ∀ j : Int, y_0o1 j = y_1o1 j) (hE_1_3_3 : ∀ j : Int, y_2o1 j = y_3o1 j) (kz_0_3 : 0 ≤ lineLength_0 ∧ lineLength_0 ≤ 24) (ex2 : gx = x6) : way_0 (0) = order_0 (gx) := by
  subst fe_0_3_1
  subst fe_0_3_2
  subst fe_0_3_3
  have e_hE_0_1_1 := funext hE_0_1_1; subst e_hE_0_1_1
  have e_hE_0_1_2 := funext hE_0_1_2; subst e_hE_0_1_2
  have e_hE_0_1_3 := funext hE_0_1_3; subst e_hE_0_1_3
  have e_hE_0_2_1 := funext hE_0_2_1; subst e_hE_0_2_1
  have e_hE_0_2_2 := funext hE_0_2_2; subst e_hE_0_2_2
  have e_hE_0_2_3 := funext hE_0_2_3; subst e_hE_0_2_3
  have e_hE_0_4_1 := funext hE_0_4_1; subst e_hE_0_4_1
  have e_hE_0_4_2 := funext hE_0_4_2; subst e_hE_0_4_2
  have e_hE_0_4_3 := funext hE_0_4_3; subst e_hE_0_4_3
  have e_hE_0_6_2 := funext hE_0_6_2; subst e_hE_0_6_2
  have e_hE_0_6_3 := funext hE_0_6_3; subst e_hE_0_6_3
  have e_hE_1_2_1 := funext hE_1_2_1; subst e_hE_1_2_1
  have e_hE_1_2_2 := funext hE_1_2_2; subst e_hE_1_2_2
  have e_hE_1_3_1 := funext hE_1_3_1; subst e_hE_1_3_1
  have e_hE_1_3_3 := funext hE_1_3_3; subst e_hE_1_3_3
  first
    | omega
    | assumption
    | (have h := (‹LNO _ _ _ _›).1; omega)
    | (rw [(hE_0_6_1 0 (by omega)).1 (by omega), show gx = x6 by omega]; assumption)
set_option maxHeartbeats 4000000 in
theorem vc_Pn_placeNext_9_4 (x6 : Int) (x9 : Int) (x10 : Int) (x11 : Int) (x39 : Int) (x41 : Int) (x42 : Int) (x44 : Int) (lineLength_0 : Int) (order_0 : Int → Int) (under_0 : Int → Int) (x_0o1 : Int → Int) (y_0o1 : Int → Int) (line_0 : Int → Int) (order_1 : Int → Int) (under_1 : Int → Int) (x_1o1 : Int → Int) (y_1o1 : Int → Int) (line_1 : Int → Int) (lineLength_1 : Int) (y_2o1 : Int → Int) (x_2o1 : Int → Int) (order_2 : Int → Int) (line_2 : Int → Int) (lineLength_2 : Int) (y_3o1 : Int → Int) (order_3 : Int → Int) (line_3 : Int → Int) (lineLength_3 : Int) (under_3 : Int → Int) (under_2 : Int → Int) (way_0 : Int → Int) (way_1 : Int → Int) (way_2 : Int → Int) (way_3 : Int → Int) (gx : Int) (k9 : 0 ≤ x9 ∧ x9 ≤ 23) (k10 : 0 ≤ x10 ∧ x10 ≤ 23) (k11 : 0 ≤ x11 ∧ x11 ≤ 23) (k39 : 0 ≤ x39 ∧ x39 ≤ 0) (k41 : 1 ≤ x41 ∧ x41 ≤ 24) (k42 : (-23) ≤ x42 ∧ x42 ≤ 23) (k44 : (-24) ≤ x44 ∧ x44 ≤ 22) (d0 : x42 + (-1) ≤ x44 ∧ x44 ≤ x42 + (-1)) (d3 : x10 + 1 ≤ x41 ∧ x41 ≤ x10 + 1) (f7 : x42 = x11 - x10) (f13 : ((0 ≤ x10) ∧ ((x10 + 1) ≤ lineLength_0)) ∧ ((0 ≤ x11) ∧ ((x11 + 1) ≤ lineLength_0))) (fe_0_3_1 : lineLength_0 = lineLength_1) (fe_0_3_2 : lineLength_1 = lineLength_2) (fe_0_3_3 : lineLength_2 = lineLength_3) (hE_0_1_1 : ∀ j : Int, order_0 j = order_1 j) (hE_0_1_2 : ∀ j : Int, order_1 j = order_2 j) (hE_0_1_3 : ∀ j : Int, order_2 j = order_3 j) (hE_0_2_1 : ∀ j : Int, line_0 j = line_1 j) (hE_0_2_2 : ∀ j : Int, line_1 j = line_2 j) (hE_0_2_3 : ∀ j : Int, line_2 j = line_3 j) (hE_0_4_1 : ∀ j : Int, under_0 j = under_1 j) (hE_0_4_2 : ∀ j : Int, under_1 j = under_2 j) (hE_0_4_3 : ∀ j : Int, under_2 j = under_3 j) (hE_0_6_1 : ∀ j : Int, 0 ≤ j → (j = x39 → way_0 j = x9) ∧ (j ≠ x39 → way_0 j = way_1 j)) (hE_0_6_2 : ∀ j : Int, way_1 j = way_2 j) (hE_0_6_3 : ∀ j : Int, way_2 j = way_3 j) (hE_1_2_1 : ∀ j : Int, x_0o1 j = x_1o1 j) (hE_1_2_2 : ∀ j : Int, x_1o1 j = x_2o1 j) (hE_1_3_1 : ∀ j : Int, y_0o1 j = y_1o1 j) (hE_1_3_3 : ∀ j : Int, y_2o1 j = y_3o1 j) (kz_0_3 : 0 ≤ lineLength_0 ∧ lineLength_0 ≤ 24) : (1 ≤ x41) ∧ (((x41 + x44) + 1) ≤ lineLength_0) := by
  subst fe_0_3_1
  subst fe_0_3_2
  subst fe_0_3_3
  have e_hE_0_1_1 := funext hE_0_1_1; subst e_hE_0_1_1
  have e_hE_0_1_2 := funext hE_0_1_2; subst e_hE_0_1_2
  have e_hE_0_1_3 := funext hE_0_1_3; subst e_hE_0_1_3
  have e_hE_0_2_1 := funext hE_0_2_1; subst e_hE_0_2_1
  have e_hE_0_2_2 := funext hE_0_2_2; subst e_hE_0_2_2
  have e_hE_0_2_3 := funext hE_0_2_3; subst e_hE_0_2_3
  have e_hE_0_4_1 := funext hE_0_4_1; subst e_hE_0_4_1
  have e_hE_0_4_2 := funext hE_0_4_2; subst e_hE_0_4_2
  have e_hE_0_4_3 := funext hE_0_4_3; subst e_hE_0_4_3
  have e_hE_0_6_2 := funext hE_0_6_2; subst e_hE_0_6_2
  have e_hE_0_6_3 := funext hE_0_6_3; subst e_hE_0_6_3
  have e_hE_1_2_1 := funext hE_1_2_1; subst e_hE_1_2_1
  have e_hE_1_2_2 := funext hE_1_2_2; subst e_hE_1_2_2
  have e_hE_1_3_1 := funext hE_1_3_1; subst e_hE_1_3_1
  have e_hE_1_3_3 := funext hE_1_3_3; subst e_hE_1_3_3
  first
    | omega
    | assumption
    | (have h := (‹LNO _ _ _ _›).1; omega)
    | (rw [(hE_0_6_1 0 (by omega)).1 (by omega), show gx = x6 by omega]; assumption)
set_option maxHeartbeats 4000000 in
theorem vc_Pn_placeNext_9_5 (x6 : Int) (x9 : Int) (x39 : Int) (x45 : Int) (lineLength_0 : Int) (order_0 : Int → Int) (under_0 : Int → Int) (x_0o1 : Int → Int) (y_0o1 : Int → Int) (line_0 : Int → Int) (order_1 : Int → Int) (under_1 : Int → Int) (x_1o1 : Int → Int) (y_1o1 : Int → Int) (line_1 : Int → Int) (lineLength_1 : Int) (y_2o1 : Int → Int) (x_2o1 : Int → Int) (order_2 : Int → Int) (line_2 : Int → Int) (lineLength_2 : Int) (y_3o1 : Int → Int) (order_3 : Int → Int) (line_3 : Int → Int) (lineLength_3 : Int) (under_3 : Int → Int) (under_2 : Int → Int) (way_0 : Int → Int) (way_1 : Int → Int) (way_2 : Int → Int) (way_3 : Int → Int) (gx : Int) (k9 : 0 ≤ x9 ∧ x9 ≤ 23) (k39 : 0 ≤ x39 ∧ x39 ≤ 0) (k45 : 1 ≤ x45 ∧ x45 ≤ 1) (fe_0_3_1 : lineLength_0 = lineLength_1) (fe_0_3_2 : lineLength_1 = lineLength_2) (fe_0_3_3 : lineLength_2 = lineLength_3) (hE_0_1_1 : ∀ j : Int, order_0 j = order_1 j) (hE_0_1_2 : ∀ j : Int, order_1 j = order_2 j) (hE_0_1_3 : ∀ j : Int, order_2 j = order_3 j) (hE_0_2_1 : ∀ j : Int, line_0 j = line_1 j) (hE_0_2_2 : ∀ j : Int, line_1 j = line_2 j) (hE_0_2_3 : ∀ j : Int, line_2 j = line_3 j) (hE_0_4_1 : ∀ j : Int, under_0 j = under_1 j) (hE_0_4_2 : ∀ j : Int, under_1 j = under_2 j) (hE_0_4_3 : ∀ j : Int, under_2 j = under_3 j) (hE_0_6_1 : ∀ j : Int, 0 ≤ j → (j = x39 → way_0 j = x9) ∧ (j ≠ x39 → way_0 j = way_1 j)) (hE_0_6_2 : ∀ j : Int, way_1 j = way_2 j) (hE_0_6_3 : ∀ j : Int, way_2 j = way_3 j) (hE_1_2_1 : ∀ j : Int, x_0o1 j = x_1o1 j) (hE_1_2_2 : ∀ j : Int, x_1o1 j = x_2o1 j) (hE_1_3_1 : ∀ j : Int, y_0o1 j = y_1o1 j) (hE_1_3_3 : ∀ j : Int, y_2o1 j = y_3o1 j) (kz_0_3 : 0 ≤ lineLength_0 ∧ lineLength_0 ≤ 24) : x45 = 1 := by
  subst fe_0_3_1
  subst fe_0_3_2
  subst fe_0_3_3
  have e_hE_0_1_1 := funext hE_0_1_1; subst e_hE_0_1_1
  have e_hE_0_1_2 := funext hE_0_1_2; subst e_hE_0_1_2
  have e_hE_0_1_3 := funext hE_0_1_3; subst e_hE_0_1_3
  have e_hE_0_2_1 := funext hE_0_2_1; subst e_hE_0_2_1
  have e_hE_0_2_2 := funext hE_0_2_2; subst e_hE_0_2_2
  have e_hE_0_2_3 := funext hE_0_2_3; subst e_hE_0_2_3
  have e_hE_0_4_1 := funext hE_0_4_1; subst e_hE_0_4_1
  have e_hE_0_4_2 := funext hE_0_4_2; subst e_hE_0_4_2
  have e_hE_0_4_3 := funext hE_0_4_3; subst e_hE_0_4_3
  have e_hE_0_6_2 := funext hE_0_6_2; subst e_hE_0_6_2
  have e_hE_0_6_3 := funext hE_0_6_3; subst e_hE_0_6_3
  have e_hE_1_2_1 := funext hE_1_2_1; subst e_hE_1_2_1
  have e_hE_1_2_2 := funext hE_1_2_2; subst e_hE_1_2_2
  have e_hE_1_3_1 := funext hE_1_3_1; subst e_hE_1_3_1
  have e_hE_1_3_3 := funext hE_1_3_3; subst e_hE_1_3_3
  first
    | omega
    | assumption
    | (have h := (‹LNO _ _ _ _›).1; omega)
    | (rw [(hE_0_6_1 0 (by omega)).1 (by omega), show gx = x6 by omega]; assumption)
def o_Pn_placeNext_9 : or_T := (265, 46, [(0, (2, 0, 0, [7])), (1, (2, 0, 0, [0])), (6, (0, 3, 23, [])), (9, (0, 0, 23, [])), (10, (0, 0, 23, [])), (11, (0, 0, 23, [])), (18, (2, 0, 0, [14])), (22, (2, 0, 0, [15])), (38, (2, 0, 0, [106])), (39, (0, 0, 0, [])), (41, (0, 1, 24, [])), (42, (0, -23, 23, [])), (44, (0, -24, 22, [])), (45, (0, 1, 1, []))], [(9, [38, 7], [6]), (2, [42, 11, 10], []), (20, [10, 7, 11], [50, 1, 0, 1003, 2, 19, 2, 6, 0, 2, 0, 0, 1, 0, 0, 6, 4, 2, 1, 0, 0, 1, 2, 1, 3, 2, 6, 0, 2, 0, 0, 1, 2, 0, 6, 4, 2, 1, 2, 0, 1, 2, 1, 3]), (24, [0, 7], []), (100, [38, 39, 9], []), (100, [22, 9, 37], []), (100, [18, 9, 28], []), (20, [7, 6], [60, 1, 2, 889, 3, 2, 1]), (20, [9, 7, 6], [50, 0, 1, 1001, 1, 2, 1, 0, 3, 1, 1, 1, 2])], [], [(0, 3, 23, [])], [(23, [46, 6], [0, 1, -1]), (23, [46, 6], [0, -1, 1]), (20, [7, 46], [60, 1, 2, 889, 3, 2, 1]), (20, [7, 46], [50, 0, 2, 6, 1, 1, 5, 3, 0, 6, 0, 0, 3, 0, 1, 1, 1]), (20, [41, 44, 7], [50, 1, 0, 2003, 2, 6, 0, 2, 0, 1, 1, 0, 0, 10, 4, 6, 4, 2, 1, 0, 1, 1, 0, 1, 2, 2, 3]), (20, [45], [50, 0, 0, 1, 2, 1, 0, 0, 1])], [], [(44, 42, -1, -1), (41, 10, 1, 1)])
theorem oo_Pn_placeNext_9 {kA : Nat → ClassId} : or_ok PRD kA GG o_Pn_placeNext_9 := by
  refine or_mk fun A ta ws vs hD hth hl => ?_
  intro t0 r0 t1 r1 t6 k6 t9 k9 t10 k10 t11 k11 t18 r18 t22 r22 t38 r38 t39 k39 t41 k41 t42 k42 t44 k44 t45 k45 d0 d3 f0 f7 f13 f17 ta1 w1 le1 s1 ta2 w2 le2 s2 ta3 w3 le3 s3 f56 f60
  replace f0 := shm_111 f0
  replace f7 := shm_14 f7
  replace f13 := shm_1396 f13
  replace f17 := shm_5 f17
  have s1 : (∀ b j, w_el ws b j = if b = v_ad (n_v vs 38) ∧ j = (v_iv (n_v vs 39)).toNat then v_iv (n_v vs 9) else w_el w1 b j) ∧ ∀ b k, w_fd ws b k = w_fd w1 b k := s1.2
  have s2 : (∀ b j, w_el w1 b j = if b = v_ad (n_v vs 22) ∧ j = (v_iv (n_v vs 9)).toNat then v_iv (n_v vs 37) else w_el w2 b j) ∧ ∀ b k, w_fd w1 b k = w_fd w2 b k := s2.2
  have s3 : (∀ b j, w_el w2 b j = if b = v_ad (n_v vs 18) ∧ j = (v_iv (n_v vs 9)).toNat then v_iv (n_v vs 28) else w_el w3 b j) ∧ ∀ b k, w_fd w2 b k = w_fd w3 b k := s3.2
  replace f56 := shm_899 f56
  replace f60 := shm_1394 f60
  have q7 : n_v vs 7 = n_v vs 0 := f17.symm
  simp only [q7] at f0 f13 f56 f60
  have ar_0_1_1 : w_ar w1 (n_v vs 0) 1 = w_ar ws (n_v vs 0) 1 := congrArg v_ad (s1.2 _ _).symm
  have ar_0_1_2 : w_ar w2 (n_v vs 0) 1 = w_ar ws (n_v vs 0) 1 := by rw [← ar_0_1_1]; show v_ad (w_fd w2 _ _) = v_ad (w_fd w1 _ _); rw [s2.2]
  have ar_0_1_3 : w_ar w3 (n_v vs 0) 1 = w_ar ws (n_v vs 0) 1 := by rw [← ar_0_1_2]; show v_ad (w_fd w3 _ _) = v_ad (w_fd w2 _ _); rw [s3.2]
  have cr_0_1 := fdq_92 hD hth r0
  have ar_0_2_1 : w_ar w1 (n_v vs 0) 2 = w_ar ws (n_v vs 0) 2 := congrArg v_ad (s1.2 _ _).symm
  have ar_0_2_2 : w_ar w2 (n_v vs 0) 2 = w_ar ws (n_v vs 0) 2 := by rw [← ar_0_2_1]; show v_ad (w_fd w2 _ _) = v_ad (w_fd w1 _ _); rw [s2.2]
  have ar_0_2_3 : w_ar w3 (n_v vs 0) 2 = w_ar ws (n_v vs 0) 2 := by rw [← ar_0_2_2]; show v_ad (w_fd w3 _ _) = v_ad (w_fd w2 _ _); rw [s3.2]
  have cr_0_2 := fdq_227 hD hth r0
  have ar_0_4_1 : w_ar w1 (n_v vs 0) 4 = w_ar ws (n_v vs 0) 4 := congrArg v_ad (s1.2 _ _).symm
  have ar_0_4_2 : w_ar w2 (n_v vs 0) 4 = w_ar ws (n_v vs 0) 4 := by rw [← ar_0_4_1]; show v_ad (w_fd w2 _ _) = v_ad (w_fd w1 _ _); rw [s2.2]
  have ar_0_4_3 : w_ar w3 (n_v vs 0) 4 = w_ar ws (n_v vs 0) 4 := by rw [← ar_0_4_2]; show v_ad (w_fd w3 _ _) = v_ad (w_fd w2 _ _); rw [s3.2]
  have cr_0_4 := fdq_93 hD hth r0
  have cr_0_6 := fdq_228 hD hth r0
  have ar_1_2_1 : w_ar w1 (n_v vs 1) 2 = w_ar ws (n_v vs 1) 2 := congrArg v_ad (s1.2 _ _).symm
  have ar_1_2_2 : w_ar w2 (n_v vs 1) 2 = w_ar ws (n_v vs 1) 2 := by rw [← ar_1_2_1]; show v_ad (w_fd w2 _ _) = v_ad (w_fd w1 _ _); rw [s2.2]
  have ar_1_2_3 : w_ar w3 (n_v vs 1) 2 = w_ar ws (n_v vs 1) 2 := by rw [← ar_1_2_2]; show v_ad (w_fd w3 _ _) = v_ad (w_fd w2 _ _); rw [s3.2]
  have cr_1_2 := fdq_45 hD hth r1
  have ar_1_3_1 : w_ar w1 (n_v vs 1) 3 = w_ar ws (n_v vs 1) 3 := congrArg v_ad (s1.2 _ _).symm
  have ar_1_3_2 : w_ar w2 (n_v vs 1) 3 = w_ar ws (n_v vs 1) 3 := by rw [← ar_1_3_1]; show v_ad (w_fd w2 _ _) = v_ad (w_fd w1 _ _); rw [s2.2]
  have ar_1_3_3 : w_ar w3 (n_v vs 1) 3 = w_ar ws (n_v vs 1) 3 := by rw [← ar_1_3_2]; show v_ad (w_fd w3 _ _) = v_ad (w_fd w2 _ _); rw [s3.2]
  have cr_1_3 := fdq_48 hD hth r1
  have ad_38 : v_ad (n_v vs 38) = w_ar ws (n_v vs 0) 6 := congrArg v_ad f0
  simp only [ar_0_1_3, ar_0_2_3, ar_0_4_3, ar_1_2_3, ar_1_3_3] at f56 f60
  have fe_0_3_1 : w_fi ws (n_v vs 0) 3 = w_fi w1 (n_v vs 0) 3 := congrArg v_iv (s1.2 _ _)
  have fe_0_3_2 : w_fi w1 (n_v vs 0) 3 = w_fi w2 (n_v vs 0) 3 := congrArg v_iv (s2.2 _ _)
  have fe_0_3_3 : w_fi w2 (n_v vs 0) 3 = w_fi w3 (n_v vs 0) 3 := congrArg v_iv (s3.2 _ _)
  have hE_0_1_1 : ∀ j : Int, w_ei ws (w_ar ws (n_v vs 0) 1) j = w_ei w1 (w_ar ws (n_v vs 0) 1) j := el_kp s1.1 r38 cr_0_1 (by decide)
  have hE_0_1_2 : ∀ j : Int, w_ei w1 (w_ar ws (n_v vs 0) 1) j = w_ei w2 (w_ar ws (n_v vs 0) 1) j := el_kp s2.1 r22 cr_0_1 (by decide)
  have hE_0_1_3 : ∀ j : Int, w_ei w2 (w_ar ws (n_v vs 0) 1) j = w_ei w3 (w_ar ws (n_v vs 0) 1) j := el_kp s3.1 r18 cr_0_1 (by decide)
  have hE_0_2_1 : ∀ j : Int, w_ei ws (w_ar ws (n_v vs 0) 2) j = w_ei w1 (w_ar ws (n_v vs 0) 2) j := el_kp s1.1 r38 cr_0_2 (by decide)
  have hE_0_2_2 : ∀ j : Int, w_ei w1 (w_ar ws (n_v vs 0) 2) j = w_ei w2 (w_ar ws (n_v vs 0) 2) j := el_kp s2.1 r22 cr_0_2 (by decide)
  have hE_0_2_3 : ∀ j : Int, w_ei w2 (w_ar ws (n_v vs 0) 2) j = w_ei w3 (w_ar ws (n_v vs 0) 2) j := el_kp s3.1 r18 cr_0_2 (by decide)
  have hE_0_4_1 : ∀ j : Int, w_ei ws (w_ar ws (n_v vs 0) 4) j = w_ei w1 (w_ar ws (n_v vs 0) 4) j := el_kp s1.1 r38 cr_0_4 (by decide)
  have hE_0_4_2 : ∀ j : Int, w_ei w1 (w_ar ws (n_v vs 0) 4) j = w_ei w2 (w_ar ws (n_v vs 0) 4) j := el_kp s2.1 r22 cr_0_4 (by decide)
  have hE_0_4_3 : ∀ j : Int, w_ei w2 (w_ar ws (n_v vs 0) 4) j = w_ei w3 (w_ar ws (n_v vs 0) 4) j := el_kp s3.1 r18 cr_0_4 (by decide)
  have hE_0_6_1 : ∀ j : Int, 0 ≤ j → (j = v_iv (n_v vs 39) → w_ei ws (w_ar ws (n_v vs 0) 6) j = v_iv (n_v vs 9)) ∧ (j ≠ v_iv (n_v vs 39) → w_ei ws (w_ar ws (n_v vs 0) 6) j = w_ei w1 (w_ar ws (n_v vs 0) 6) j) := fun j hj => ⟨fun h => by unfold w_ei; rw [s1.1, if_pos ⟨ad_38.symm, by rw [h]⟩], fun h => by unfold w_ei; rw [s1.1, if_neg (fun e => h (by have := e.2; omega))]⟩
  have hE_0_6_2 : ∀ j : Int, w_ei w1 (w_ar ws (n_v vs 0) 6) j = w_ei w2 (w_ar ws (n_v vs 0) 6) j := el_kp s2.1 r22 cr_0_6 (by decide)
  have hE_0_6_3 : ∀ j : Int, w_ei w2 (w_ar ws (n_v vs 0) 6) j = w_ei w3 (w_ar ws (n_v vs 0) 6) j := el_kp s3.1 r18 cr_0_6 (by decide)
  have hE_1_2_1 : ∀ j : Int, w_ei ws (w_ar ws (n_v vs 1) 2) j = w_ei w1 (w_ar ws (n_v vs 1) 2) j := el_kp s1.1 r38 cr_1_2 (by decide)
  have hE_1_2_2 : ∀ j : Int, w_ei w1 (w_ar ws (n_v vs 1) 2) j = w_ei w2 (w_ar ws (n_v vs 1) 2) j := el_kp s2.1 r22 cr_1_2 (by decide)
  have hE_1_3_1 : ∀ j : Int, w_ei ws (w_ar ws (n_v vs 1) 3) j = w_ei w1 (w_ar ws (n_v vs 1) 3) j := el_kp s1.1 r38 cr_1_3 (by decide)
  have hE_1_3_3 : ∀ j : Int, w_ei w2 (w_ar ws (n_v vs 1) 3) j = w_ei w3 (w_ar ws (n_v vs 1) 3) j := el_kp s3.1 r18 cr_1_3 (by decide)
  have kz_0_3 := fdq_13 hD hth r0
  obtain ⟨x, ex, hx⟩ := iv_ex (ta := ta) (lo := 3) (hi := 23) (z := v_iv (n_v vs 6)) (by omega) (by omega) (by omega) (by omega)
  have ex2 : v_iv (Value.int x) = v_iv (n_v vs 6) := ex
  have ex3 : 3 ≤ v_iv (Value.int x) ∧ v_iv (Value.int x) ≤ 23 := tv_rng hx
  have e_6 : n_v (vs ++ [Value.int x]) 6 = n_v vs 6 := n_v_old (by rw [hl]; decide)
  have e_7 : n_v (vs ++ [Value.int x]) 7 = n_v vs 7 := n_v_old (by rw [hl]; decide)
  have e_41 : n_v (vs ++ [Value.int x]) 41 = n_v vs 41 := n_v_old (by rw [hl]; decide)
  have e_44 : n_v (vs ++ [Value.int x]) 44 = n_v vs 44 := n_v_old (by rw [hl]; decide)
  have e_45 : n_v (vs ++ [Value.int x]) 45 = n_v vs 45 := n_v_old (by rw [hl]; decide)
  have e_46 : n_v (vs ++ [Value.int x]) 46 = Value.int x := n_v_new hl
  have nf0 : fc_1 PRD (23, [46, 6], [0, 1, -1]) ws (vs ++ [Value.int x]) := by
    refine ⟨nf_inA hl rfl, sgq_7 ?_⟩
    · show 1 * v_iv (n_v (vs ++ [Value.int x]) 46) + ((-1) * v_iv (n_v (vs ++ [Value.int x]) 6) + 0) ≤ 0
      simp only [e_6, e_46]
      exact vc_Pn_placeNext_9_0 (v_iv (n_v vs 6)) (v_iv (n_v vs 9)) (v_iv (n_v vs 39)) (w_fi ws (n_v vs 0) 3) (w_ei ws (w_ar ws (n_v vs 0) 1)) (w_ei ws (w_ar ws (n_v vs 0) 4)) (w_ei ws (w_ar ws (n_v vs 1) 2)) (w_ei ws (w_ar ws (n_v vs 1) 3)) (w_ei ws (w_ar ws (n_v vs 0) 2)) (w_ei w1 (w_ar ws (n_v vs 0) 1)) (w_ei w1 (w_ar ws (n_v vs 0) 4)) (w_ei w1 (w_ar ws (n_v vs 1) 2)) (w_ei w1 (w_ar ws (n_v vs 1) 3)) (w_ei w1 (w_ar ws (n_v vs 0) 2)) (w_fi w1 (n_v vs 0) 3) (w_ei w2 (w_ar ws (n_v vs 1) 3)) (w_ei w2 (w_ar ws (n_v vs 1) 2)) (w_ei w2 (w_ar ws (n_v vs 0) 1)) (w_ei w2 (w_ar ws (n_v vs 0) 2)) (w_fi w2 (n_v vs 0) 3) (w_ei w3 (w_ar ws (n_v vs 1) 3)) (w_ei w3 (w_ar ws (n_v vs 0) 1)) (w_ei w3 (w_ar ws (n_v vs 0) 2)) (w_fi w3 (n_v vs 0) 3) (w_ei w3 (w_ar ws (n_v vs 0) 4)) (w_ei w2 (w_ar ws (n_v vs 0) 4)) (w_ei ws (w_ar ws (n_v vs 0) 6)) (w_ei w1 (w_ar ws (n_v vs 0) 6)) (w_ei w2 (w_ar ws (n_v vs 0) 6)) (w_ei w3 (w_ar ws (n_v vs 0) 6)) (v_iv (Value.int x)) k6 k9 k39 fe_0_3_1 fe_0_3_2 fe_0_3_3 hE_0_1_1 hE_0_1_2 hE_0_1_3 hE_0_2_1 hE_0_2_2 hE_0_2_3 hE_0_4_1 hE_0_4_2 hE_0_4_3 hE_0_6_1 hE_0_6_2 hE_0_6_3 hE_1_2_1 hE_1_2_2 hE_1_3_1 hE_1_3_3 kz_0_3 ex2
  have nf1 : fc_1 PRD (23, [46, 6], [0, -1, 1]) ws (vs ++ [Value.int x]) := by
    refine ⟨nf_inA hl rfl, sgq_22 ?_⟩
    · show (-1) * v_iv (n_v (vs ++ [Value.int x]) 46) + (1 * v_iv (n_v (vs ++ [Value.int x]) 6) + 0) ≤ 0
      simp only [e_6, e_46]
      exact vc_Pn_placeNext_9_1 (v_iv (n_v vs 6)) (v_iv (n_v vs 9)) (v_iv (n_v vs 39)) (w_fi ws (n_v vs 0) 3) (w_ei ws (w_ar ws (n_v vs 0) 1)) (w_ei ws (w_ar ws (n_v vs 0) 4)) (w_ei ws (w_ar ws (n_v vs 1) 2)) (w_ei ws (w_ar ws (n_v vs 1) 3)) (w_ei ws (w_ar ws (n_v vs 0) 2)) (w_ei w1 (w_ar ws (n_v vs 0) 1)) (w_ei w1 (w_ar ws (n_v vs 0) 4)) (w_ei w1 (w_ar ws (n_v vs 1) 2)) (w_ei w1 (w_ar ws (n_v vs 1) 3)) (w_ei w1 (w_ar ws (n_v vs 0) 2)) (w_fi w1 (n_v vs 0) 3) (w_ei w2 (w_ar ws (n_v vs 1) 3)) (w_ei w2 (w_ar ws (n_v vs 1) 2)) (w_ei w2 (w_ar ws (n_v vs 0) 1)) (w_ei w2 (w_ar ws (n_v vs 0) 2)) (w_fi w2 (n_v vs 0) 3) (w_ei w3 (w_ar ws (n_v vs 1) 3)) (w_ei w3 (w_ar ws (n_v vs 0) 1)) (w_ei w3 (w_ar ws (n_v vs 0) 2)) (w_fi w3 (n_v vs 0) 3) (w_ei w3 (w_ar ws (n_v vs 0) 4)) (w_ei w2 (w_ar ws (n_v vs 0) 4)) (w_ei ws (w_ar ws (n_v vs 0) 6)) (w_ei w1 (w_ar ws (n_v vs 0) 6)) (w_ei w2 (w_ar ws (n_v vs 0) 6)) (w_ei w3 (w_ar ws (n_v vs 0) 6)) (v_iv (Value.int x)) k6 k9 k39 fe_0_3_1 fe_0_3_2 fe_0_3_3 hE_0_1_1 hE_0_1_2 hE_0_1_3 hE_0_2_1 hE_0_2_2 hE_0_2_3 hE_0_4_1 hE_0_4_2 hE_0_4_3 hE_0_6_1 hE_0_6_2 hE_0_6_3 hE_1_2_1 hE_1_2_2 hE_1_3_1 hE_1_3_3 kz_0_3 ex2
  have nf2 : fc_1 PRD (20, [7, 46], [60, 1, 2, 889, 3, 2, 1]) ws (vs ++ [Value.int x]) := by
    refine ⟨nf_inA hl rfl, sgq_899 ?_⟩
    · show LNO (w_fi ws (n_v (vs ++ [Value.int x]) 7) 3) (w_ei ws (w_ar ws (n_v (vs ++ [Value.int x]) 7) 2)) (w_ei ws (w_ar ws (n_v (vs ++ [Value.int x]) 7) 1)) (v_iv (n_v (vs ++ [Value.int x]) 46))
      simp only [e_7, e_46, q7]
      exact vc_Pn_placeNext_9_2 (v_iv (n_v vs 6)) (w_fi ws (n_v vs 0) 3) (w_ei ws (w_ar ws (n_v vs 0) 1)) (w_ei ws (w_ar ws (n_v vs 0) 4)) (w_ei ws (w_ar ws (n_v vs 1) 2)) (w_ei ws (w_ar ws (n_v vs 1) 3)) (w_ei ws (w_ar ws (n_v vs 0) 2)) (w_ei w1 (w_ar ws (n_v vs 0) 1)) (w_ei w1 (w_ar ws (n_v vs 0) 4)) (w_ei w1 (w_ar ws (n_v vs 1) 2)) (w_ei w1 (w_ar ws (n_v vs 1) 3)) (w_ei w1 (w_ar ws (n_v vs 0) 2)) (w_fi w1 (n_v vs 0) 3) (w_ei w2 (w_ar ws (n_v vs 1) 3)) (w_ei w2 (w_ar ws (n_v vs 1) 2)) (w_ei w2 (w_ar ws (n_v vs 0) 1)) (w_ei w2 (w_ar ws (n_v vs 0) 2)) (w_fi w2 (n_v vs 0) 3) (w_ei w3 (w_ar ws (n_v vs 1) 3)) (w_ei w3 (w_ar ws (n_v vs 0) 1)) (w_ei w3 (w_ar ws (n_v vs 0) 2)) (w_fi w3 (n_v vs 0) 3) (w_ei w3 (w_ar ws (n_v vs 0) 4)) (w_ei w2 (w_ar ws (n_v vs 0) 4)) (w_ei w1 (w_ar ws (n_v vs 0) 6)) (w_ei w2 (w_ar ws (n_v vs 0) 6)) (w_ei w3 (w_ar ws (n_v vs 0) 6)) (v_iv (Value.int x)) k6 f56 fe_0_3_1 fe_0_3_2 fe_0_3_3 hE_0_1_1 hE_0_1_2 hE_0_1_3 hE_0_2_1 hE_0_2_2 hE_0_2_3 hE_0_4_1 hE_0_4_2 hE_0_4_3 hE_0_6_2 hE_0_6_3 hE_1_2_1 hE_1_2_2 hE_1_3_1 hE_1_3_3 kz_0_3 ex2
  have nf3 : fc_1 PRD (20, [7, 46], [50, 0, 2, 6, 1, 1, 5, 3, 0, 6, 0, 0, 3, 0, 1, 1, 1]) ws (vs ++ [Value.int x]) := by
    refine ⟨nf_inA hl rfl, sgq_900 ?_⟩
    · show w_ei ws (w_ar ws (n_v (vs ++ [Value.int x]) 7) 6) (0) = w_ei ws (w_ar ws (n_v (vs ++ [Value.int x]) 7) 1) (v_iv (n_v (vs ++ [Value.int x]) 46))
      simp only [e_7, e_46, q7]
      exact vc_Pn_placeNext_9_3 (v_iv (n_v vs 6)) (v_iv (n_v vs 9)) (v_iv (n_v vs 39)) (w_fi ws (n_v vs 0) 3) (w_ei ws (w_ar ws (n_v vs 0) 1)) (w_ei ws (w_ar ws (n_v vs 0) 4)) (w_ei ws (w_ar ws (n_v vs 1) 2)) (w_ei ws (w_ar ws (n_v vs 1) 3)) (w_ei ws (w_ar ws (n_v vs 0) 2)) (w_ei w1 (w_ar ws (n_v vs 0) 1)) (w_ei w1 (w_ar ws (n_v vs 0) 4)) (w_ei w1 (w_ar ws (n_v vs 1) 2)) (w_ei w1 (w_ar ws (n_v vs 1) 3)) (w_ei w1 (w_ar ws (n_v vs 0) 2)) (w_fi w1 (n_v vs 0) 3) (w_ei w2 (w_ar ws (n_v vs 1) 3)) (w_ei w2 (w_ar ws (n_v vs 1) 2)) (w_ei w2 (w_ar ws (n_v vs 0) 1)) (w_ei w2 (w_ar ws (n_v vs 0) 2)) (w_fi w2 (n_v vs 0) 3) (w_ei w3 (w_ar ws (n_v vs 1) 3)) (w_ei w3 (w_ar ws (n_v vs 0) 1)) (w_ei w3 (w_ar ws (n_v vs 0) 2)) (w_fi w3 (n_v vs 0) 3) (w_ei w3 (w_ar ws (n_v vs 0) 4)) (w_ei w2 (w_ar ws (n_v vs 0) 4)) (w_ei ws (w_ar ws (n_v vs 0) 6)) (w_ei w1 (w_ar ws (n_v vs 0) 6)) (w_ei w2 (w_ar ws (n_v vs 0) 6)) (w_ei w3 (w_ar ws (n_v vs 0) 6)) (v_iv (Value.int x)) k6 k9 k39 f60 fe_0_3_1 fe_0_3_2 fe_0_3_3 hE_0_1_1 hE_0_1_2 hE_0_1_3 hE_0_2_1 hE_0_2_2 hE_0_2_3 hE_0_4_1 hE_0_4_2 hE_0_4_3 hE_0_6_1 hE_0_6_2 hE_0_6_3 hE_1_2_1 hE_1_2_2 hE_1_3_1 hE_1_3_3 kz_0_3 ex2
  have nf4 : fc_1 PRD (20, [41, 44, 7], [50, 1, 0, 2003, 2, 6, 0, 2, 0, 1, 1, 0, 0, 10, 4, 6, 4, 2, 1, 0, 1, 1, 0, 1, 2, 2, 3]) ws (vs ++ [Value.int x]) := by
    refine ⟨nf_inA hl rfl, sgq_901 ?_⟩
    · show (1 ≤ v_iv (n_v (vs ++ [Value.int x]) 41)) ∧ (((v_iv (n_v (vs ++ [Value.int x]) 41) + v_iv (n_v (vs ++ [Value.int x]) 44)) + 1) ≤ w_fi ws (n_v (vs ++ [Value.int x]) 7) 3)
      simp only [e_7, e_41, e_44, q7]
      exact vc_Pn_placeNext_9_4 (v_iv (n_v vs 6)) (v_iv (n_v vs 9)) (v_iv (n_v vs 10)) (v_iv (n_v vs 11)) (v_iv (n_v vs 39)) (v_iv (n_v vs 41)) (v_iv (n_v vs 42)) (v_iv (n_v vs 44)) (w_fi ws (n_v vs 0) 3) (w_ei ws (w_ar ws (n_v vs 0) 1)) (w_ei ws (w_ar ws (n_v vs 0) 4)) (w_ei ws (w_ar ws (n_v vs 1) 2)) (w_ei ws (w_ar ws (n_v vs 1) 3)) (w_ei ws (w_ar ws (n_v vs 0) 2)) (w_ei w1 (w_ar ws (n_v vs 0) 1)) (w_ei w1 (w_ar ws (n_v vs 0) 4)) (w_ei w1 (w_ar ws (n_v vs 1) 2)) (w_ei w1 (w_ar ws (n_v vs 1) 3)) (w_ei w1 (w_ar ws (n_v vs 0) 2)) (w_fi w1 (n_v vs 0) 3) (w_ei w2 (w_ar ws (n_v vs 1) 3)) (w_ei w2 (w_ar ws (n_v vs 1) 2)) (w_ei w2 (w_ar ws (n_v vs 0) 1)) (w_ei w2 (w_ar ws (n_v vs 0) 2)) (w_fi w2 (n_v vs 0) 3) (w_ei w3 (w_ar ws (n_v vs 1) 3)) (w_ei w3 (w_ar ws (n_v vs 0) 1)) (w_ei w3 (w_ar ws (n_v vs 0) 2)) (w_fi w3 (n_v vs 0) 3) (w_ei w3 (w_ar ws (n_v vs 0) 4)) (w_ei w2 (w_ar ws (n_v vs 0) 4)) (w_ei ws (w_ar ws (n_v vs 0) 6)) (w_ei w1 (w_ar ws (n_v vs 0) 6)) (w_ei w2 (w_ar ws (n_v vs 0) 6)) (w_ei w3 (w_ar ws (n_v vs 0) 6)) (v_iv (Value.int x)) k9 k10 k11 k39 k41 k42 k44 d0 d3 f7 f13 fe_0_3_1 fe_0_3_2 fe_0_3_3 hE_0_1_1 hE_0_1_2 hE_0_1_3 hE_0_2_1 hE_0_2_2 hE_0_2_3 hE_0_4_1 hE_0_4_2 hE_0_4_3 hE_0_6_1 hE_0_6_2 hE_0_6_3 hE_1_2_1 hE_1_2_2 hE_1_3_1 hE_1_3_3 kz_0_3
  have nf5 : fc_1 PRD (20, [45], [50, 0, 0, 1, 2, 1, 0, 0, 1]) ws (vs ++ [Value.int x]) := by
    refine ⟨nf_inA hl rfl, sgq_510 ?_⟩
    · show v_iv (n_v (vs ++ [Value.int x]) 45) = 1
      rw [e_45]
      exact vc_Pn_placeNext_9_5 (v_iv (n_v vs 6)) (v_iv (n_v vs 9)) (v_iv (n_v vs 39)) (v_iv (n_v vs 45)) (w_fi ws (n_v vs 0) 3) (w_ei ws (w_ar ws (n_v vs 0) 1)) (w_ei ws (w_ar ws (n_v vs 0) 4)) (w_ei ws (w_ar ws (n_v vs 1) 2)) (w_ei ws (w_ar ws (n_v vs 1) 3)) (w_ei ws (w_ar ws (n_v vs 0) 2)) (w_ei w1 (w_ar ws (n_v vs 0) 1)) (w_ei w1 (w_ar ws (n_v vs 0) 4)) (w_ei w1 (w_ar ws (n_v vs 1) 2)) (w_ei w1 (w_ar ws (n_v vs 1) 3)) (w_ei w1 (w_ar ws (n_v vs 0) 2)) (w_fi w1 (n_v vs 0) 3) (w_ei w2 (w_ar ws (n_v vs 1) 3)) (w_ei w2 (w_ar ws (n_v vs 1) 2)) (w_ei w2 (w_ar ws (n_v vs 0) 1)) (w_ei w2 (w_ar ws (n_v vs 0) 2)) (w_fi w2 (n_v vs 0) 3) (w_ei w3 (w_ar ws (n_v vs 1) 3)) (w_ei w3 (w_ar ws (n_v vs 0) 1)) (w_ei w3 (w_ar ws (n_v vs 0) 2)) (w_fi w3 (n_v vs 0) 3) (w_ei w3 (w_ar ws (n_v vs 0) 4)) (w_ei w2 (w_ar ws (n_v vs 0) 4)) (w_ei ws (w_ar ws (n_v vs 0) 6)) (w_ei w1 (w_ar ws (n_v vs 0) 6)) (w_ei w2 (w_ar ws (n_v vs 0) 6)) (w_ei w3 (w_ar ws (n_v vs 0) 6)) (v_iv (Value.int x)) k9 k39 k45 fe_0_3_1 fe_0_3_2 fe_0_3_3 hE_0_1_1 hE_0_1_2 hE_0_1_3 hE_0_2_1 hE_0_2_2 hE_0_2_3 hE_0_4_1 hE_0_4_2 hE_0_4_3 hE_0_6_1 hE_0_6_2 hE_0_6_3 hE_1_2_1 hE_1_2_2 hE_1_3_1 hE_1_3_3 kz_0_3
  exact ⟨(fun _ h => (by cases h)), [Value.int x], ag_one hx, List.forall_mem_cons.mpr ⟨⟨show (23 : Nat) < 100 from by decide, nf0⟩, List.forall_mem_cons.mpr ⟨⟨show (23 : Nat) < 100 from by decide, nf1⟩, List.forall_mem_cons.mpr ⟨⟨show (20 : Nat) < 100 from by decide, nf2⟩, List.forall_mem_cons.mpr ⟨⟨show (20 : Nat) < 100 from by decide, nf3⟩, List.forall_mem_cons.mpr ⟨⟨show (20 : Nat) < 100 from by decide, nf4⟩, List.forall_mem_cons.mpr ⟨⟨show (20 : Nat) < 100 from by decide, nf5⟩, (fun _ h => (by cases h))⟩⟩⟩⟩⟩⟩, (fun _ h => (by cases h))⟩
set_option maxHeartbeats 4000000 in
theorem vc_Pn_placeNext_10_1 (x6 : Int) (x46 : Int) (order_0 : Int → Int) (line_0 : Int → Int) (lineLength_0 : Int) (k6 : 3 ≤ x6 ∧ x6 ≤ 23) (k46 : 3 ≤ x46 ∧ x46 ≤ 23) (f5 : 1 * x46 + ((-1) * x6 + 0) ≤ 0) (f6 : (-1) * x46 + (1 * x6 + 0) ≤ 0) (f18 : LNQ (lineLength_0) (line_0) (order_0) (x46)) (kz_0_3 : 0 ≤ lineLength_0 ∧ lineLength_0 ≤ 24) : LNQ (lineLength_0) (line_0) (order_0) (x6) := by
  first
    | assumption
    | (rw [show x6 = x46 by omega]; assumption)
set_option maxHeartbeats 4000000 in
theorem vc_Pn_placeNext_10_2 (x6 : Int) (x16 : Int) (x17 : Int) (x28 : Int) (x37 : Int) (order_0 : Int → Int) (under_0 : Int → Int) (x_0o1 : Int → Int) (y_0o1 : Int → Int) (k6 : 3 ≤ x6 ∧ x6 ≤ 23) (f9 : CGP (order_0) (under_0) (x_0o1) (y_0o1) (x6)) : CGP (order_0) (under_0) (x_0o1) (y_0o1) (x6) := by
  first
    | assumption
def o_Pn_placeNext_10 : or_T := (268, 47, [(0, (2, 0, 0, [7])), (1, (2, 0, 0, [0])), (3, (2, 0, 0, [102])), (4, (2, 0, 0, [12])), (5, (0, 0, 3072, [])), (6, (0, 3, 23, [])), (7, (2, 0, 0, [7])), (8, (2, 0, 0, [0])), (9, (0, 0, 23, [])), (10, (0, 0, 23, [])), (12, (0, 1, 24, [])), (13, (2, 0, 0, [102])), (14, (0, 0, 24, [])), (15, (2, 0, 0, [103])), (16, (0, 0, 23, [])), (17, (0, 0, 23, [])), (18, (2, 0, 0, [14])), (22, (2, 0, 0, [15])), (28, (0, -1000000, 1000000, [])), (37, (0, -1000000, 1000000, [])), (38, (2, 0, 0, [106])), (39, (0, 0, 0, [])), (40, (0, 1, 1, [])), (41, (0, 1, 24, [])), (45, (0, 1, 1, [])), (46, (0, 3, 23, []))], [(9, [13, 7], [1]), (9, [38, 7], [6]), (9, [22, 8], [3]), (9, [18, 8], [2]), (9, [15, 7], [2]), (23, [46, 6], [0, 1, -1]), (23, [46, 6], [0, -1, 1]), (20, [7, 46], [50, 0, 2, 6, 1, 1, 5, 3, 0, 6, 0, 0, 3, 0, 1, 1, 1]), (20, [45], [50, 0, 0, 1, 2, 1, 0, 0, 1]), (20, [7, 8, 6], [60, 0, 4, 884, 1, 4, 1002, 1003]), (20, [4, 5, 8], [62, 2000000]), (20, [7, 16, 6], [60, 0, 1, 891, 1]), (20, [7, 17, 6], [60, 0, 1, 891, 1]), (20, [12, 10], [50, 0, 0, 2, 6, 0, 2, 0, 1, 1, 0, 0, 6, 4, 2, 1, 1, 0, 1, 1, 0]), (20, [9, 7, 6], [50, 0, 1, 1001, 1, 2, 1, 0, 3, 1, 1, 1, 2]), (24, [3, 13], []), (24, [0, 7], []), (24, [1, 8], []), (20, [7, 46], [60, 1, 2, 890, 3, 2, 1]), (102, [46], [10141204801825835211973625643008, 7003]), (23, [46, 6], [0, 1, -1]), (23, [46, 6], [0, -1, 1]), (1, [41, 10, 40], []), (100, [38, 39, 9], []), (100, [22, 9, 37], []), (100, [18, 9, 28], []), (7, [12, 14], [3])], [], [], [(20, [4, 5, 1], [62, 2000000]), (20, [0, 6], [60, 1, 2, 890, 3, 2, 1]), (20, [0, 1, 6], [60, 0, 4, 884, 1, 4, 1002, 1003])], [], [(41, 10, 1, 1), (41, 12, -4294967296, 0), (12, 14, 0, 4294967296), (10, 12, -4294967296, -1)])
theorem oo_Pn_placeNext_10 {kA : Nat → ClassId} : or_ok PRD kA GG o_Pn_placeNext_10 := by
  refine or_mk fun A ta ws vs hD hth hl => ?_
  intro t0 r0 t1 r1 t3 r3 t4 r4 t5 k5 t6 k6 t7 r7 t8 r8 t9 k9 t10 k10 t12 k12 t13 r13 t14 k14 t15 r15 t16 k16 t17 k17 t18 r18 t22 r22 t28 k28 t37 k37 t38 r38 t39 k39 t40 k40 t41 k41 t45 k45 t46 k46 d0 d1 d2 d3 f0 f1 f2 f3 f4 f5 f6 f7 f8 f9 f10 f11 f12 f13 f14 f15 f16 f17 f18 ta1 w1 le1 s1 f20 f21 f22 ta2 w2 le2 s2 ta3 w3 le3 s3 ta4 w4 le4 s4 f26
  replace f0 := shm_215 f0
  replace f1 := shm_111 f1
  replace f2 := shm_137 f2
  replace f3 := shm_120 f3
  replace f4 := shm_120 f4
  replace f5 := shm_7 f5
  replace f6 := shm_22 f6
  replace f7 := shm_900 f7
  replace f8 := shm_510 f8
  replace f9 := shm_1400 f9
  replace f10 := shm_1399 f10
  replace f11 := shm_433 f11
  replace f12 := shm_433 f12
  replace f13 := shm_1397 f13
  replace f14 := shm_1394 f14
  replace f15 := shm_5 f15
  replace f16 := shm_5 f16
  replace f17 := shm_5 f17
  replace f18 := shm_902 f18
  replace f20 := shm_7 f20
  replace f21 := shm_22 f21
  replace f22 := shm_12 f22
  have s2 : (∀ b j, w_el w1 b j = if b = v_ad (n_v vs 38) ∧ j = (v_iv (n_v vs 39)).toNat then v_iv (n_v vs 9) else w_el w2 b j) ∧ ∀ b k, w_fd w1 b k = w_fd w2 b k := s2.2
  have s3 : (∀ b j, w_el w2 b j = if b = v_ad (n_v vs 22) ∧ j = (v_iv (n_v vs 9)).toNat then v_iv (n_v vs 37) else w_el w3 b j) ∧ ∀ b k, w_fd w2 b k = w_fd w3 b k := s3.2
  have s4 : (∀ b j, w_el w3 b j = if b = v_ad (n_v vs 18) ∧ j = (v_iv (n_v vs 9)).toNat then v_iv (n_v vs 28) else w_el w4 b j) ∧ ∀ b k, w_fd w3 b k = w_fd w4 b k := s4.2
  replace f26 := shm_2 f26
  have q13 : n_v vs 13 = n_v vs 3 := f15.symm
  have q7 : n_v vs 7 = n_v vs 0 := f16.symm
  have q8 : n_v vs 8 = n_v vs 1 := f17.symm
  simp only [q13, q7, q8] at f0 f1 f2 f3 f4 f7 f9 f10 f11 f12 f14 f18
  have cr_0_1 := fdq_92 hD hth r0
  have cr_0_2 := fdq_227 hD hth r0
  have cr_0_4 := fdq_93 hD hth r0
  have cr_0_6 := fdq_228 hD hth r0
  have cr_1_2 := fdq_45 hD hth r1
  have cr_1_3 := fdq_48 hD hth r1
  have ad_3 : v_ad (n_v vs 3) = w_ar ws (n_v vs 0) 1 := congrArg v_ad f0
  have ad_38 : v_ad (n_v vs 38) = w_ar ws (n_v vs 0) 6 := congrArg v_ad f1
  have ad_22 : v_ad (n_v vs 22) = w_ar ws (n_v vs 1) 3 := congrArg v_ad f2
  have ad_18 : v_ad (n_v vs 18) = w_ar ws (n_v vs 1) 2 := congrArg v_ad f3
  have ad_15 : v_ad (n_v vs 15) = w_ar ws (n_v vs 0) 2 := congrArg v_ad f4
  have hK_0_1 := elq_48 hD hth cr_0_1
  have hK_0_2 := elq_140 hD hth cr_0_2
  have hK_0_4 := elq_49 hD hth cr_0_4
  have hK_0_6 := elq_141 hD hth cr_0_6
  have hK_1_2 := elq_10 hD hth cr_1_2
  have hK_1_3 := elq_13 hD hth cr_1_3
  have kz_0_3 := fdq_13 hD hth r0
  have nf0 : fc_1 PRD (20, [4, 5, 1], [62, 2000000]) ws (vs) := by
    refine ⟨nf_in hl rfl, sgq_1399 ?_⟩
    · show HY ws (n_v vs 4) (v_iv (n_v vs 5) + (((2000000 : Nat) : Int) - 2000000)) ∧ HYD ws (n_v vs 4) (n_v vs 1)
      exact ⟨hy_le f10.1 (by omega), f10.2⟩
  have nf1 : fc_1 PRD (20, [0, 6], [60, 1, 2, 890, 3, 2, 1]) ws (vs) := ⟨nf_in hl rfl, sgq_902 (vc_Pn_placeNext_10_1 (v_iv (n_v vs 6)) (v_iv (n_v vs 46)) (w_ei ws (w_ar ws (n_v vs 0) 1)) (w_ei ws (w_ar ws (n_v vs 0) 2)) (w_fi ws (n_v vs 0) 3) k6 k46 f5 f6 f18 kz_0_3)⟩
  have nf2 : fc_1 PRD (20, [0, 1, 6], [60, 0, 4, 884, 1, 4, 1002, 1003]) ws (vs) := ⟨nf_in hl rfl, sgq_1400 (vc_Pn_placeNext_10_2 (v_iv (n_v vs 6)) (v_iv (n_v vs 16)) (v_iv (n_v vs 17)) (v_iv (n_v vs 28)) (v_iv (n_v vs 37)) (w_ei ws (w_ar ws (n_v vs 0) 1)) (w_ei ws (w_ar ws (n_v vs 0) 4)) (w_ei ws (w_ar ws (n_v vs 1) 2)) (w_ei ws (w_ar ws (n_v vs 1) 3)) k6 f9)⟩
  refine ⟨(fun _ h => (by cases h)), [], trivial, ?_, (fun _ h => (by cases h))⟩
  rw [List.append_nil]
  exact List.forall_mem_cons.mpr ⟨⟨show (20 : Nat) < 100 from by decide, nf0⟩, List.forall_mem_cons.mpr ⟨⟨show (20 : Nat) < 100 from by decide, nf1⟩, List.forall_mem_cons.mpr ⟨⟨show (20 : Nat) < 100 from by decide, nf2⟩, (fun _ h => (by cases h))⟩⟩⟩
set_option maxHeartbeats 4000000 in
theorem vc_Pn_placeNext_11_0 (x6 : Int) (gx : Int) (k6 : 3 ≤ x6 ∧ x6 ≤ 23) (ex2 : gx = x6) : 1 * gx + ((-1) * x6 + 0) ≤ 0 := by
  first
    | omega
    | assumption
    | (have h := (‹LNO _ _ _ _›).1; omega)
    | (rw [(hE_0_6_1 0 (by omega)).1 (by omega), show gx = x6 by omega]; assumption)
set_option maxHeartbeats 4000000 in
theorem vc_Pn_placeNext_11_1 (x6 : Int) (gx : Int) (k6 : 3 ≤ x6 ∧ x6 ≤ 23) (ex2 : gx = x6) : (-1) * gx + (1 * x6 + 0) ≤ 0 := by
  first
    | omega
    | assumption
    | (have h := (‹LNO _ _ _ _›).1; omega)
    | (rw [(hE_0_6_1 0 (by omega)).1 (by omega), show gx = x6 by omega]; assumption)
set_option maxHeartbeats 4000000 in
theorem vc_Pn_placeNext_11_2 (x6 : Int) (x12 : Int) (gx : Int) (gy : Int) (k12 : 1 ≤ x12 ∧ x12 ≤ 23) (ey2 : gy = x12) : 1 * gy + ((-1) * x12 + 0) ≤ 0 := by
  first
    | omega
    | assumption
    | (have h := (‹LNO _ _ _ _›).1; omega)
    | (rw [(hE_0_6_1 0 (by omega)).1 (by omega), show gx = x6 by omega]; assumption)
set_option maxHeartbeats 4000000 in
theorem vc_Pn_placeNext_11_3 (x6 : Int) (x12 : Int) (gx : Int) (gy : Int) (k12 : 1 ≤ x12 ∧ x12 ≤ 23) (ey2 : gy = x12) : (-1) * gy + (1 * x12 + 0) ≤ 0 := by
  first
    | omega
    | assumption
    | (have h := (‹LNO _ _ _ _›).1; omega)
    | (rw [(hE_0_6_1 0 (by omega)).1 (by omega), show gx = x6 by omega]; assumption)
set_option maxHeartbeats 4000000 in
theorem vc_Pn_placeNext_11_4 (x6 : Int) (x9 : Int) (order_0 : Int → Int) (gx : Int) (gu : Int) (k6 : 3 ≤ x6 ∧ x6 ≤ 23) (k9 : 0 ≤ x9 ∧ x9 ≤ 23) (f10 : x9 = order_0 (x6)) (eu2 : gu = x9) : 1 * gu + ((-1) * x9 + 0) ≤ 0 := by
  first
    | omega
    | assumption
    | (have h := (‹LNO _ _ _ _›).1; omega)
    | (rw [(hE_0_6_1 0 (by omega)).1 (by omega), show gx = x6 by omega]; assumption)
set_option maxHeartbeats 4000000 in
theorem vc_Pn_placeNext_11_5 (x6 : Int) (x9 : Int) (order_0 : Int → Int) (gx : Int) (gu : Int) (k6 : 3 ≤ x6 ∧ x6 ≤ 23) (k9 : 0 ≤ x9 ∧ x9 ≤ 23) (f10 : x9 = order_0 (x6)) (eu2 : gu = x9) : (-1) * gu + (1 * x9 + 0) ≤ 0 := by
  first
    | omega
    | assumption
    | (have h := (‹LNO _ _ _ _›).1; omega)
    | (rw [(hE_0_6_1 0 (by omega)).1 (by omega), show gx = x6 by omega]; assumption)
set_option maxHeartbeats 4000000 in
theorem vc_Pn_placeNext_11_6 (x6 : Int) (x9 : Int) (x12 : Int) (order_0 : Int → Int) (under_0 : Int → Int) (x_0o1 : Int → Int) (y_0o1 : Int → Int) (gx : Int) (gy : Int) (gu : Int) (k6 : 3 ≤ x6 ∧ x6 ≤ 23) (k9 : 0 ≤ x9 ∧ x9 ≤ 23) (k12 : 1 ≤ x12 ∧ x12 ≤ 23) (f7 : CO2 (order_0) (under_0) (x_0o1) (y_0o1) (x6) (x12) (x9)) (ex2 : gx = x6) (ey2 : gy = x12) (eu2 : gu = x9) : CO2 (order_0) (under_0) (x_0o1) (y_0o1) (gx) (gy) (gu) := by
  first
    | assumption
    | (rw [show gx = x6 by omega, show gy = x12 by omega, show gu = x9 by omega]; assumption)
set_option maxHeartbeats 4000000 in
theorem vc_Pn_placeNext_11_7 (x6 : Int) (x17 : Int) (gx : Int) (k17 : 2 ≤ x17 ∧ x17 ≤ 2) : (1 ≤ x17) ∧ (x17 ≤ 2) := by
  first
    | omega
    | assumption
    | (have h := (‹LNO _ _ _ _›).1; omega)
    | (rw [(hE_0_6_1 0 (by omega)).1 (by omega), show gx = x6 by omega]; assumption)
set_option maxHeartbeats 4000000 in
theorem vc_Pn_placeNext_11_8 (x6 : Int) (x10 : Int) (x11 : Int) (x12 : Int) (x14 : Int) (x16 : Int) (line_0 : Int → Int) (lineLength_0 : Int) (order_0 : Int → Int) (gx : Int) (gy : Int) (k6 : 3 ≤ x6 ∧ x6 ≤ 23) (k12 : 1 ≤ x12 ∧ x12 ≤ 23) (k14 : 2 ≤ x14 ∧ x14 ≤ 24) (k16 : 0 ≤ x16 ∧ x16 ≤ 23) (d1 : x14 + (-4294967296) ≤ x12 ∧ x12 ≤ x14 + (-1)) (h2 : x16 = line_0 (x12)) (g5 : x14 = lineLength_0) (f6 : LNO (lineLength_0) (line_0) (order_0) (x6)) (kz_0_3 : 0 ≤ lineLength_0 ∧ lineLength_0 ≤ 24) (ex2 : gx = x6) (ey2 : gy = x12) : TOQ (order_0) (x16) (gx) := by
  first
    | exact lno_toq (q := x10) ‹LNO _ _ _ _› (by omega) (by omega) (by assumption)
    | exact lno_toq (q := x11) ‹LNO _ _ _ _› (by omega) (by omega) (by assumption)
    | (rw [show gx = x6 by omega]; exact lno_toq (q := x12) ‹LNO _ _ _ _› (by omega) (by omega) (by assumption))
def o_Pn_placeNext_11 : or_T := (111, 18, [(0, (2, 0, 0, [7])), (1, (2, 0, 0, [0])), (3, (2, 0, 0, [102])), (6, (0, 3, 23, [])), (7, (2, 0, 0, [7])), (8, (2, 0, 0, [0])), (9, (0, 0, 23, [])), (10, (0, 0, 22, [])), (11, (0, 0, 23, [])), (12, (0, 1, 23, [])), (13, (2, 0, 0, [102])), (14, (0, 2, 24, [])), (15, (2, 0, 0, [103])), (16, (0, 0, 23, [])), (17, (0, 2, 2, []))], [(9, [13, 7], [1]), (7, [12, 11], [3]), (10, [16, 15, 12], []), (9, [15, 7], [2]), (7, [12, 14], [2]), (9, [14, 7], [3]), (20, [7, 6], [60, 1, 2, 889, 3, 2, 1]), (20, [7, 8, 6, 12, 9], [60, 0, 4, 885, 1, 4, 1002, 1003]), (20, [10, 7, 11], [50, 1, 0, 1003, 2, 19, 2, 6, 0, 2, 0, 0, 1, 0, 0, 6, 4, 2, 1, 0, 0, 1, 2, 1, 3, 2, 6, 0, 2, 0, 0, 1, 2, 0, 6, 4, 2, 1, 2, 0, 1, 2, 1, 3]), (20, [12, 10], [50, 0, 0, 2, 6, 0, 2, 0, 1, 1, 0, 0, 6, 4, 2, 1, 1, 0, 1, 1, 0]), (20, [9, 7, 6], [50, 0, 1, 1001, 1, 2, 1, 0, 3, 1, 1, 1, 2]), (24, [3, 13], []), (24, [0, 7], []), (24, [1, 8], [])], [], [(0, 3, 23, []), (0, 1, 23, []), (0, 0, 23, [])], [(23, [18, 6], [0, 1, -1]), (23, [18, 6], [0, -1, 1]), (23, [19, 12], [0, 1, -1]), (23, [19, 12], [0, -1, 1]), (23, [20, 9], [0, 1, -1]), (23, [20, 9], [0, -1, 1]), (20, [7, 8, 18, 19, 20], [60, 0, 4, 885, 1, 4, 1002, 1003]), (20, [17], [50, 0, 0, 2, 6, 0, 2, 0, 1, 1, 0, 0, 2, 1, 0, 0, 2]), (20, [7, 16, 18], [60, 0, 1, 891, 1])], [], [(12, 11, 0, 4294967296), (12, 14, -4294967296, -1), (10, 12, -4294967296, -1)])
theorem oo_Pn_placeNext_11 {kA : Nat → ClassId} : or_ok PRD kA GG o_Pn_placeNext_11 := by
  refine or_mk fun A ta ws vs hD hth hl => ?_
  intro t0 r0 t1 r1 t3 r3 t6 k6 t7 r7 t8 r8 t9 k9 t10 k10 t11 k11 t12 k12 t13 r13 t14 k14 t15 r15 t16 k16 t17 k17 d0 d1 d2 f0 f1 f2 f3 f4 f5 f6 f7 f8 f9 f10 f11 f12 f13
  replace f2 := shm_107 f2
  replace f3 := shm_120 f3
  replace f5 := shm_137 f5
  replace f6 := shm_899 f6
  replace f7 := shm_431 f7
  replace f10 := shm_1394 f10
  replace f12 := shm_5 f12
  replace f13 := shm_5 f13
  have q7 : n_v vs 7 = n_v vs 0 := f12.symm
  have q8 : n_v vs 8 = n_v vs 1 := f13.symm
  simp only [q7, q8] at f3 f5 f6 f7 f10
  have ad_15 : v_ad (n_v vs 15) = w_ar ws (n_v vs 0) 2 := congrArg v_ad f3
  simp only [ad_15] at f2
  have h2 : v_iv (n_v vs 16) = w_ei ws (w_ar ws (n_v vs 0) 2) (v_iv (n_v vs 12)) := f2
  have g5 : v_iv (n_v vs 14) = w_fi ws (n_v vs 0) 3 := congrArg v_iv f5
  have kz_0_3 := fdq_13 hD hth r0
  obtain ⟨x, ex, hx⟩ := iv_ex (ta := ta) (lo := 3) (hi := 23) (z := v_iv (n_v vs 6)) (by omega) (by omega) (by omega) (by omega)
  have ex2 : v_iv (Value.int x) = v_iv (n_v vs 6) := ex
  have ex3 : 3 ≤ v_iv (Value.int x) ∧ v_iv (Value.int x) ≤ 23 := tv_rng hx
  obtain ⟨y, ey, hy⟩ := iv_ex (ta := ta) (lo := 1) (hi := 23) (z := v_iv (n_v vs 12)) (by omega) (by omega) (by omega) (by omega)
  have ey2 : v_iv (Value.int y) = v_iv (n_v vs 12) := ey
  have ey3 : 1 ≤ v_iv (Value.int y) ∧ v_iv (Value.int y) ≤ 23 := tv_rng hy
  obtain ⟨u, eu, hu⟩ := iv_ex (ta := ta) (lo := 0) (hi := 23) (z := v_iv (n_v vs 9)) (by omega) (by omega) (by omega) (by omega)
  have eu2 : v_iv (Value.int u) = v_iv (n_v vs 9) := eu
  have eu3 : 0 ≤ v_iv (Value.int u) ∧ v_iv (Value.int u) ≤ 23 := tv_rng hu
  have e_6 : n_v (vs ++ [Value.int x, Value.int y, Value.int u]) 6 = n_v vs 6 := n_v_old (by rw [hl]; decide)
  have e_7 : n_v (vs ++ [Value.int x, Value.int y, Value.int u]) 7 = n_v vs 7 := n_v_old (by rw [hl]; decide)
  have e_8 : n_v (vs ++ [Value.int x, Value.int y, Value.int u]) 8 = n_v vs 8 := n_v_old (by rw [hl]; decide)
  have e_9 : n_v (vs ++ [Value.int x, Value.int y, Value.int u]) 9 = n_v vs 9 := n_v_old (by rw [hl]; decide)
  have e_12 : n_v (vs ++ [Value.int x, Value.int y, Value.int u]) 12 = n_v vs 12 := n_v_old (by rw [hl]; decide)
  have e_16 : n_v (vs ++ [Value.int x, Value.int y, Value.int u]) 16 = n_v vs 16 := n_v_old (by rw [hl]; decide)
  have e_17 : n_v (vs ++ [Value.int x, Value.int y, Value.int u]) 17 = n_v vs 17 := n_v_old (by rw [hl]; decide)
  have e_18 : n_v (vs ++ [Value.int x, Value.int y, Value.int u]) 18 = Value.int x := n_v_newk (k := 0) hl rfl
  have e_19 : n_v (vs ++ [Value.int x, Value.int y, Value.int u]) 19 = Value.int y := n_v_newk (k := 1) hl rfl
  have e_20 : n_v (vs ++ [Value.int x, Value.int y, Value.int u]) 20 = Value.int u := n_v_newk (k := 2) hl rfl
  have nf0 : fc_1 PRD (23, [18, 6], [0, 1, -1]) ws (vs ++ [Value.int x, Value.int y, Value.int u]) := by
    refine ⟨nf_inA hl rfl, sgq_7 ?_⟩
    · show 1 * v_iv (n_v (vs ++ [Value.int x, Value.int y, Value.int u]) 18) + ((-1) * v_iv (n_v (vs ++ [Value.int x, Value.int y, Value.int u]) 6) + 0) ≤ 0
      simp only [e_6, e_18]
      exact vc_Pn_placeNext_11_0 (v_iv (n_v vs 6)) (v_iv (Value.int x)) k6 ex2
  have nf1 : fc_1 PRD (23, [18, 6], [0, -1, 1]) ws (vs ++ [Value.int x, Value.int y, Value.int u]) := by
    refine ⟨nf_inA hl rfl, sgq_22 ?_⟩
    · show (-1) * v_iv (n_v (vs ++ [Value.int x, Value.int y, Value.int u]) 18) + (1 * v_iv (n_v (vs ++ [Value.int x, Value.int y, Value.int u]) 6) + 0) ≤ 0
      simp only [e_6, e_18]
      exact vc_Pn_placeNext_11_1 (v_iv (n_v vs 6)) (v_iv (Value.int x)) k6 ex2
  have nf2 : fc_1 PRD (23, [19, 12], [0, 1, -1]) ws (vs ++ [Value.int x, Value.int y, Value.int u]) := by
    refine ⟨nf_inA hl rfl, sgq_7 ?_⟩
    · show 1 * v_iv (n_v (vs ++ [Value.int x, Value.int y, Value.int u]) 19) + ((-1) * v_iv (n_v (vs ++ [Value.int x, Value.int y, Value.int u]) 12) + 0) ≤ 0
      simp only [e_12, e_19]
      exact vc_Pn_placeNext_11_2 (v_iv (n_v vs 6)) (v_iv (n_v vs 12)) (v_iv (Value.int x)) (v_iv (Value.int y)) k12 ey2
  have nf3 : fc_1 PRD (23, [19, 12], [0, -1, 1]) ws (vs ++ [Value.int x, Value.int y, Value.int u]) := by
    refine ⟨nf_inA hl rfl, sgq_22 ?_⟩
    · show (-1) * v_iv (n_v (vs ++ [Value.int x, Value.int y, Value.int u]) 19) + (1 * v_iv (n_v (vs ++ [Value.int x, Value.int y, Value.int u]) 12) + 0) ≤ 0
      simp only [e_12, e_19]
      exact vc_Pn_placeNext_11_3 (v_iv (n_v vs 6)) (v_iv (n_v vs 12)) (v_iv (Value.int x)) (v_iv (Value.int y)) k12 ey2
  have nf4 : fc_1 PRD (23, [20, 9], [0, 1, -1]) ws (vs ++ [Value.int x, Value.int y, Value.int u]) := by
    refine ⟨nf_inA hl rfl, sgq_7 ?_⟩
    · show 1 * v_iv (n_v (vs ++ [Value.int x, Value.int y, Value.int u]) 20) + ((-1) * v_iv (n_v (vs ++ [Value.int x, Value.int y, Value.int u]) 9) + 0) ≤ 0
      simp only [e_9, e_20]
      exact vc_Pn_placeNext_11_4 (v_iv (n_v vs 6)) (v_iv (n_v vs 9)) (w_ei ws (w_ar ws (n_v vs 0) 1)) (v_iv (Value.int x)) (v_iv (Value.int u)) k6 k9 f10 eu2
  have nf5 : fc_1 PRD (23, [20, 9], [0, -1, 1]) ws (vs ++ [Value.int x, Value.int y, Value.int u]) := by
    refine ⟨nf_inA hl rfl, sgq_22 ?_⟩
    · show (-1) * v_iv (n_v (vs ++ [Value.int x, Value.int y, Value.int u]) 20) + (1 * v_iv (n_v (vs ++ [Value.int x, Value.int y, Value.int u]) 9) + 0) ≤ 0
      simp only [e_9, e_20]
      exact vc_Pn_placeNext_11_5 (v_iv (n_v vs 6)) (v_iv (n_v vs 9)) (w_ei ws (w_ar ws (n_v vs 0) 1)) (v_iv (Value.int x)) (v_iv (Value.int u)) k6 k9 f10 eu2
  have nf6 : fc_1 PRD (20, [7, 8, 18, 19, 20], [60, 0, 4, 885, 1, 4, 1002, 1003]) ws (vs ++ [Value.int x, Value.int y, Value.int u]) := by
    refine ⟨nf_inA hl rfl, sgq_431 ?_⟩
    · show CO2 (w_ei ws (w_ar ws (n_v (vs ++ [Value.int x, Value.int y, Value.int u]) 7) 1)) (w_ei ws (w_ar ws (n_v (vs ++ [Value.int x, Value.int y, Value.int u]) 7) 4)) (w_ei ws (w_ar ws (n_v (vs ++ [Value.int x, Value.int y, Value.int u]) 8) 2)) (w_ei ws (w_ar ws (n_v (vs ++ [Value.int x, Value.int y, Value.int u]) 8) 3)) (v_iv (n_v (vs ++ [Value.int x, Value.int y, Value.int u]) 18)) (v_iv (n_v (vs ++ [Value.int x, Value.int y, Value.int u]) 19)) (v_iv (n_v (vs ++ [Value.int x, Value.int y, Value.int u]) 20))
      simp only [e_7, e_8, e_18, e_19, e_20, q7, q8]
      exact vc_Pn_placeNext_11_6 (v_iv (n_v vs 6)) (v_iv (n_v vs 9)) (v_iv (n_v vs 12)) (w_ei ws (w_ar ws (n_v vs 0) 1)) (w_ei ws (w_ar ws (n_v vs 0) 4)) (w_ei ws (w_ar ws (n_v vs 1) 2)) (w_ei ws (w_ar ws (n_v vs 1) 3)) (v_iv (Value.int x)) (v_iv (Value.int y)) (v_iv (Value.int u)) k6 k9 k12 f7 ex2 ey2 eu2
  have nf7 : fc_1 PRD (20, [17], [50, 0, 0, 2, 6, 0, 2, 0, 1, 1, 0, 0, 2, 1, 0, 0, 2]) ws (vs ++ [Value.int x, Value.int y, Value.int u]) := by
    refine ⟨nf_inA hl rfl, sgq_432 ?_⟩
    · show (1 ≤ v_iv (n_v (vs ++ [Value.int x, Value.int y, Value.int u]) 17)) ∧ (v_iv (n_v (vs ++ [Value.int x, Value.int y, Value.int u]) 17) ≤ 2)
      rw [e_17]
      exact vc_Pn_placeNext_11_7 (v_iv (n_v vs 6)) (v_iv (n_v vs 17)) (v_iv (Value.int x)) k17
  have nf8 : fc_1 PRD (20, [7, 16, 18], [60, 0, 1, 891, 1]) ws (vs ++ [Value.int x, Value.int y, Value.int u]) := by
    refine ⟨nf_inA hl rfl, sgq_433 ?_⟩
    · show TOQ (w_ei ws (w_ar ws (n_v (vs ++ [Value.int x, Value.int y, Value.int u]) 7) 1)) (v_iv (n_v (vs ++ [Value.int x, Value.int y, Value.int u]) 16)) (v_iv (n_v (vs ++ [Value.int x, Value.int y, Value.int u]) 18))
      simp only [e_7, e_16, e_18, q7]
      exact vc_Pn_placeNext_11_8 (v_iv (n_v vs 6)) (v_iv (n_v vs 10)) (v_iv (n_v vs 11)) (v_iv (n_v vs 12)) (v_iv (n_v vs 14)) (v_iv (n_v vs 16)) (w_ei ws (w_ar ws (n_v vs 0) 2)) (w_fi ws (n_v vs 0) 3) (w_ei ws (w_ar ws (n_v vs 0) 1)) (v_iv (Value.int x)) (v_iv (Value.int y)) k6 k12 k14 k16 d1 h2 g5 f6 kz_0_3 ex2 ey2
  exact ⟨(fun _ h => (by cases h)), [Value.int x, Value.int y, Value.int u], ag_three hx hy hu, List.forall_mem_cons.mpr ⟨⟨show (23 : Nat) < 100 from by decide, nf0⟩, List.forall_mem_cons.mpr ⟨⟨show (23 : Nat) < 100 from by decide, nf1⟩, List.forall_mem_cons.mpr ⟨⟨show (23 : Nat) < 100 from by decide, nf2⟩, List.forall_mem_cons.mpr ⟨⟨show (23 : Nat) < 100 from by decide, nf3⟩, List.forall_mem_cons.mpr ⟨⟨show (23 : Nat) < 100 from by decide, nf4⟩, List.forall_mem_cons.mpr ⟨⟨show (23 : Nat) < 100 from by decide, nf5⟩, List.forall_mem_cons.mpr ⟨⟨show (20 : Nat) < 100 from by decide, nf6⟩, List.forall_mem_cons.mpr ⟨⟨show (20 : Nat) < 100 from by decide, nf7⟩, List.forall_mem_cons.mpr ⟨⟨show (20 : Nat) < 100 from by decide, nf8⟩, (fun _ h => (by cases h))⟩⟩⟩⟩⟩⟩⟩⟩⟩, (fun _ h => (by cases h))⟩
set_option maxHeartbeats 4000000 in
theorem vc_Pn_placeNext_12_0 (x6 : Int) (x9 : Int) (x12 : Int) (x18 : Int) (x19 : Int) (x20 : Int) (x22 : Int) (x23 : Int) (x24 : Int) (x25 : Int) (lineLength_0 : Int) (order_0 : Int → Int) (line_0 : Int → Int) (under_1 : Int → Int) (order_1 : Int → Int) (line_1 : Int → Int) (lineLength_1 : Int) (x_1o1 : Int → Int) (y_1o1 : Int → Int) (under_0 : Int → Int) (x_0o1 : Int → Int) (y_0o1 : Int → Int) (k6 : 3 ≤ x6 ∧ x6 ≤ 23) (k9 : 0 ≤ x9 ∧ x9 ≤ 23) (k12 : 1 ≤ x12 ∧ x12 ≤ 23) (k18 : 3 ≤ x18 ∧ x18 ≤ 23) (k19 : 1 ≤ x19 ∧ x19 ≤ 23) (k20 : 0 ≤ x20 ∧ x20 ≤ 23) (k22 : 0 ≤ x22 ∧ x22 ≤ 16777215) (k23 : 0 ≤ x23 ∧ x23 ≤ 0) (k24 : 0 ≤ x24 ∧ x24 ≤ 16777215) (k25 : 2 ≤ x25 ∧ x25 ≤ 24) (d0 : x12 + 1 ≤ x25 ∧ x25 ≤ x12 + 1) (f4 : x25 = x12 + 1) (f5 : 1 * x18 + ((-1) * x6 + 0) ≤ 0) (f6 : (-1) * x18 + (1 * x6 + 0) ≤ 0) (f7 : 1 * x19 + ((-1) * x12 + 0) ≤ 0) (f8 : (-1) * x19 + (1 * x12 + 0) ≤ 0) (f9 : 1 * x20 + ((-1) * x9 + 0) ≤ 0) (f10 : (-1) * x20 + (1 * x9 + 0) ≤ 0) (f16 : x9 = order_0 (x6)) (f22 : bvp (x24) = bvp (x22) ||| bvp (x23)) (h24 : x22 = under_1 (x9)) (f37 : CO2n (order_1) (under_1) (x_1o1) (y_1o1) (x18) (x19) (x20)) (fe_0_3_1 : lineLength_0 = lineLength_1) (hE_0_1_1 : ∀ j : Int, order_0 j = order_1 j) (hE_0_2_1 : ∀ j : Int, line_0 j = line_1 j) (hE_0_4_1 : ∀ j : Int, 0 ≤ j → (j = x9 → under_0 j = x24) ∧ (j ≠ x9 → under_0 j = under_1 j)) (hE_1_2_1 : ∀ j : Int, x_0o1 j = x_1o1 j) (hE_1_3_1 : ∀ j : Int, y_0o1 j = y_1o1 j) (kz_0_3 : 0 ≤ lineLength_0 ∧ lineLength_0 ≤ 24) : CO2 (order_0) (under_0) (x_0o1) (y_0o1) (x6) (x25) (x9) := by
  subst fe_0_3_1
  have e_hE_0_1_1 := funext hE_0_1_1; subst e_hE_0_1_1
  have e_hE_0_2_1 := funext hE_0_2_1; subst e_hE_0_2_1
  have e_hE_1_2_1 := funext hE_1_2_1; subst e_hE_1_2_1
  have e_hE_1_3_1 := funext hE_1_3_1; subst e_hE_1_3_1
  first
    | (have g := ‹CO2n _ _ _ _ _ _ _›
       rw [show x18 = x6 by omega, show x19 = x12 by omega, show x20 = x9 by omega] at g
       exact co2_step (a := x23) g (by omega) (by assumption) rfl (by omega) (by assumption) (fun z => (bit_or (by assumption) z).1) (Or.inl (fun z => by rw [show x23 = 0 by omega]; exact bit_zero z)))
set_option maxHeartbeats 4000000 in
theorem vc_Pn_placeNext_12_1 (x6 : Int) (x10 : Int) (x12 : Int) (x25 : Int) (lineLength_0 : Int) (order_0 : Int → Int) (line_0 : Int → Int) (order_1 : Int → Int) (line_1 : Int → Int) (lineLength_1 : Int) (x_1o1 : Int → Int) (y_1o1 : Int → Int) (x_0o1 : Int → Int) (y_0o1 : Int → Int) (k10 : 0 ≤ x10 ∧ x10 ≤ 22) (k12 : 1 ≤ x12 ∧ x12 ≤ 23) (k25 : 2 ≤ x25 ∧ x25 ≤ 24) (d0 : x12 + 1 ≤ x25 ∧ x25 ≤ x12 + 1) (d5 : x12 + (-4294967296) ≤ x10 ∧ x10 ≤ x12 + (-1)) (fe_0_3_1 : lineLength_0 = lineLength_1) (hE_0_1_1 : ∀ j : Int, order_0 j = order_1 j) (hE_0_2_1 : ∀ j : Int, line_0 j = line_1 j) (hE_1_2_1 : ∀ j : Int, x_0o1 j = x_1o1 j) (hE_1_3_1 : ∀ j : Int, y_0o1 j = y_1o1 j) (kz_0_3 : 0 ≤ lineLength_0 ∧ lineLength_0 ≤ 24) : (1 ≤ x25) ∧ ((x10 + 1) ≤ x25) := by
  subst fe_0_3_1
  have e_hE_0_1_1 := funext hE_0_1_1; subst e_hE_0_1_1
  have e_hE_0_2_1 := funext hE_0_2_1; subst e_hE_0_2_1
  have e_hE_1_2_1 := funext hE_1_2_1; subst e_hE_1_2_1
  have e_hE_1_3_1 := funext hE_1_3_1; subst e_hE_1_3_1
  first
    | omega
    | assumption
    | (have h := (‹LNO _ _ _ _›).1; omega)
    | (rw [(hE_0_6_1 0 (by omega)).1 (by omega), show gx = x6 by omega]; assumption)
def o_Pn_placeNext_12 : or_T := (81, 26, [(0, (2, 0, 0, [7])), (1, (2, 0, 0, [0])), (3, (2, 0, 0, [102])), (6, (0, 3, 23, [])), (7, (2, 0, 0, [7])), (8, (2, 0, 0, [0])), (9, (0, 0, 23, [])), (10, (0, 0, 22, [])), (11, (0, 0, 23, [])), (12, (0, 1, 23, [])), (13, (2, 0, 0, [102])), (14, (0, 2, 24, [])), (15, (2, 0, 0, [103])), (16, (0, 0, 23, [])), (17, (0, 2, 2, [])), (18, (0, 3, 23, [])), (19, (0, 1, 23, [])), (20, (0, 0, 23, [])), (21, (2, 0, 0, [104])), (22, (0, 0, 16777215, [])), (23, (0, 0, 0, [])), (24, (0, 0, 16777215, [])), (25, (0, 2, 24, []))], [(9, [21, 7], [4]), (9, [15, 7], [2]), (9, [14, 7], [3]), (9, [13, 7], [1]), (6, [25, 12], [1]), (23, [18, 6], [0, 1, -1]), (23, [18, 6], [0, -1, 1]), (23, [19, 12], [0, 1, -1]), (23, [19, 12], [0, -1, 1]), (23, [20, 9], [0, 1, -1]), (23, [20, 9], [0, -1, 1]), (20, [17], [50, 0, 0, 2, 6, 0, 2, 0, 1, 1, 0, 0, 2, 1, 0, 0, 2]), (20, [7, 16, 18], [60, 0, 1, 891, 1]), (20, [7, 6], [60, 1, 2, 889, 3, 2, 1]), (20, [10, 7, 11], [50, 1, 0, 1003, 2, 19, 2, 6, 0, 2, 0, 0, 1, 0, 0, 6, 4, 2, 1, 0, 0, 1, 2, 1, 3, 2, 6, 0, 2, 0, 0, 1, 2, 0, 6, 4, 2, 1, 2, 0, 1, 2, 1, 3]), (20, [12, 10], [50, 0, 0, 2, 6, 0, 2, 0, 1, 1, 0, 0, 6, 4, 2, 1, 1, 0, 1, 1, 0]), (20, [9, 7, 6], [50, 0, 1, 1001, 1, 2, 1, 0, 3, 1, 1, 1, 2]), (24, [3, 13], []), (24, [0, 7], []), (24, [1, 8], []), (100, [21, 9, 24], []), (13, [24, 22, 23], []), (16, [24, 22, 23], [1]), (7, [12, 11], [3]), (10, [22, 21, 9], []), (23, [18, 6], [0, 1, -1]), (23, [18, 6], [0, -1, 1]), (23, [19, 12], [0, 1, -1]), (23, [19, 12], [0, -1, 1]), (23, [20, 9], [0, 1, -1]), (23, [20, 9], [0, -1, 1]), (20, [17], [50, 0, 0, 2, 6, 0, 2, 0, 1, 1, 0, 0, 2, 1, 0, 0, 2]), (20, [7, 16, 18], [60, 0, 1, 891, 1]), (20, [7, 6], [60, 1, 2, 889, 3, 2, 1]), (20, [10, 7, 11], [50, 1, 0, 1003, 2, 19, 2, 6, 0, 2, 0, 0, 1, 0, 0, 6, 4, 2, 1, 0, 0, 1, 2, 1, 3, 2, 6, 0, 2, 0, 0, 1, 2, 0, 6, 4, 2, 1, 2, 0, 1, 2, 1, 3]), (20, [12, 10], [50, 0, 0, 2, 6, 0, 2, 0, 1, 1, 0, 0, 6, 4, 2, 1, 1, 0, 1, 1, 0]), (20, [9, 7, 6], [50, 0, 1, 1001, 1, 2, 1, 0, 3, 1, 1, 1, 2]), (20, [7, 8, 18, 19, 20], [60, 0, 4, 886, 1, 4, 1002, 1003]), (102, [20], [16384]), (23, [18, 6], [0, 1, -1]), (23, [18, 6], [0, -1, 1]), (23, [19, 12], [0, 1, -1]), (23, [19, 12], [0, -1, 1]), (23, [20, 9], [0, 1, -1]), (23, [20, 9], [0, -1, 1]), (7, [12, 11], [3]), (7, [12, 14], [2])], [], [], [(20, [7, 8, 6, 25, 9], [60, 0, 4, 885, 1, 4, 1002, 1003]), (20, [25, 10], [50, 0, 0, 2, 6, 0, 2, 0, 1, 1, 0, 0, 6, 4, 2, 1, 1, 0, 1, 1, 0])], [], [(25, 12, 1, 1), (25, 11, 1, 4294967296), (25, 14, -4294967296, 0), (12, 11, 0, 4294967296), (12, 14, -4294967296, -1), (10, 12, -4294967296, -1)])
theorem oo_Pn_placeNext_12 {kA : Nat → ClassId} : or_ok PRD kA GG o_Pn_placeNext_12 := by
  refine or_mk fun A ta ws vs hD hth hl => ?_
  intro t0 r0 t1 r1 t3 r3 t6 k6 t7 r7 t8 r8 t9 k9 t10 k10 t11 k11 t12 k12 t13 r13 t14 k14 t15 r15 t16 k16 t17 k17 t18 k18 t19 k19 t20 k20 t21 r21 t22 k22 t23 k23 t24 k24 t25 k25 d0 d1 d2 d3 d4 d5 f0 f1 f2 f3 f4 f5 f6 f7 f8 f9 f10 f11 f12 f13 f14 f15 f16 f17 f18 f19 ta1 w1 le1 s1 f21 f22 f23 f24 f25 f26 f27 f28 f29 f30 f31 f32 f33 f34 f35 f36 f37 ta2 w2 le2 s2 f39 f40 f41 f42 f43 f44 f45 f46
  replace f0 := shm_108 f0
  replace f4 := shm_4 f4
  replace f5 := shm_7 f5
  replace f6 := shm_22 f6
  replace f7 := shm_7 f7
  replace f8 := shm_22 f8
  replace f9 := shm_7 f9
  replace f10 := shm_22 f10
  replace f16 := shm_1394 f16
  replace f18 := shm_5 f18
  replace f19 := shm_5 f19
  have s1 : (∀ b j, w_el ws b j = if b = v_ad (n_v vs 21) ∧ j = (v_iv (n_v vs 9)).toNat then v_iv (n_v vs 24) else w_el w1 b j) ∧ ∀ b k, w_fd ws b k = w_fd w1 b k := s1.2
  replace f22 := shm_354 f22
  replace f24 := shm_107 f24
  replace f37 := shm_435 f37
  have q7 : n_v vs 7 = n_v vs 0 := f18.symm
  have q8 : n_v vs 8 = n_v vs 1 := f19.symm
  simp only [q7, q8] at f0 f16 f37
  have ar_0_1_1 : w_ar w1 (n_v vs 0) 1 = w_ar ws (n_v vs 0) 1 := congrArg v_ad (s1.2 _ _).symm
  have cr_0_1 := fdq_92 hD hth r0
  have ar_0_2_1 : w_ar w1 (n_v vs 0) 2 = w_ar ws (n_v vs 0) 2 := congrArg v_ad (s1.2 _ _).symm
  have cr_0_2 := fdq_227 hD hth r0
  have ar_0_4_1 : w_ar w1 (n_v vs 0) 4 = w_ar ws (n_v vs 0) 4 := congrArg v_ad (s1.2 _ _).symm
  have ar_1_2_1 : w_ar w1 (n_v vs 1) 2 = w_ar ws (n_v vs 1) 2 := congrArg v_ad (s1.2 _ _).symm
  have cr_1_2 := fdq_45 hD hth r1
  have ar_1_3_1 : w_ar w1 (n_v vs 1) 3 = w_ar ws (n_v vs 1) 3 := congrArg v_ad (s1.2 _ _).symm
  have cr_1_3 := fdq_48 hD hth r1
  have ad_21 : v_ad (n_v vs 21) = w_ar ws (n_v vs 0) 4 := congrArg v_ad f0
  simp only [ad_21] at f24
  have h24 : v_iv (n_v vs 22) = w_ei w1 (w_ar ws (n_v vs 0) 4) (v_iv (n_v vs 9)) := f24
  simp only [ar_0_1_1, ar_0_2_1, ar_0_4_1, ar_1_2_1, ar_1_3_1] at f37
  have fe_0_3_1 : w_fi ws (n_v vs 0) 3 = w_fi w1 (n_v vs 0) 3 := congrArg v_iv (s1.2 _ _)
  have hE_0_1_1 : ∀ j : Int, w_ei ws (w_ar ws (n_v vs 0) 1) j = w_ei w1 (w_ar ws (n_v vs 0) 1) j := el_kp s1.1 r21 cr_0_1 (by decide)
  have hE_0_2_1 : ∀ j : Int, w_ei ws (w_ar ws (n_v vs 0) 2) j = w_ei w1 (w_ar ws (n_v vs 0) 2) j := el_kp s1.1 r21 cr_0_2 (by decide)
  have hE_0_4_1 : ∀ j : Int, 0 ≤ j → (j = v_iv (n_v vs 9) → w_ei ws (w_ar ws (n_v vs 0) 4) j = v_iv (n_v vs 24)) ∧ (j ≠ v_iv (n_v vs 9) → w_ei ws (w_ar ws (n_v vs 0) 4) j = w_ei w1 (w_ar ws (n_v vs 0) 4) j) := fun j hj => ⟨fun h => by unfold w_ei; rw [s1.1, if_pos ⟨ad_21.symm, by rw [h]⟩], fun h => by unfold w_ei; rw [s1.1, if_neg (fun e => h (by have := e.2; omega))]⟩
  have hE_1_2_1 : ∀ j : Int, w_ei ws (w_ar ws (n_v vs 1) 2) j = w_ei w1 (w_ar ws (n_v vs 1) 2) j := el_kp s1.1 r21 cr_1_2 (by decide)
  have hE_1_3_1 : ∀ j : Int, w_ei ws (w_ar ws (n_v vs 1) 3) j = w_ei w1 (w_ar ws (n_v vs 1) 3) j := el_kp s1.1 r21 cr_1_3 (by decide)
  have kz_0_3 := fdq_13 hD hth r0
  have nf0 : fc_1 PRD (20, [7, 8, 6, 25, 9], [60, 0, 4, 885, 1, 4, 1002, 1003]) ws (vs) := by
    refine ⟨nf_in hl rfl, sgq_431 ?_⟩
    · show CO2 (w_ei ws (w_ar ws (n_v vs 7) 1)) (w_ei ws (w_ar ws (n_v vs 7) 4)) (w_ei ws (w_ar ws (n_v vs 8) 2)) (w_ei ws (w_ar ws (n_v vs 8) 3)) (v_iv (n_v vs 6)) (v_iv (n_v vs 25)) (v_iv (n_v vs 9))
      simp only [q7, q8]
      exact vc_Pn_placeNext_12_0 (v_iv (n_v vs 6)) (v_iv (n_v vs 9)) (v_iv (n_v vs 12)) (v_iv (n_v vs 18)) (v_iv (n_v vs 19)) (v_iv (n_v vs 20)) (v_iv (n_v vs 22)) (v_iv (n_v vs 23)) (v_iv (n_v vs 24)) (v_iv (n_v vs 25)) (w_fi ws (n_v vs 0) 3) (w_ei ws (w_ar ws (n_v vs 0) 1)) (w_ei ws (w_ar ws (n_v vs 0) 2)) (w_ei w1 (w_ar ws (n_v vs 0) 4)) (w_ei w1 (w_ar ws (n_v vs 0) 1)) (w_ei w1 (w_ar ws (n_v vs 0) 2)) (w_fi w1 (n_v vs 0) 3) (w_ei w1 (w_ar ws (n_v vs 1) 2)) (w_ei w1 (w_ar ws (n_v vs 1) 3)) (w_ei ws (w_ar ws (n_v vs 0) 4)) (w_ei ws (w_ar ws (n_v vs 1) 2)) (w_ei ws (w_ar ws (n_v vs 1) 3)) k6 k9 k12 k18 k19 k20 k22 k23 k24 k25 d0 f4 f5 f6 f7 f8 f9 f10 f16 f22 h24 f37 fe_0_3_1 hE_0_1_1 hE_0_2_1 hE_0_4_1 hE_1_2_1 hE_1_3_1 kz_0_3
  have nf1 : fc_1 PRD (20, [25, 10], [50, 0, 0, 2, 6, 0, 2, 0, 1, 1, 0, 0, 6, 4, 2, 1, 1, 0, 1, 1, 0]) ws (vs) := ⟨nf_in hl rfl, sgq_1397 (vc_Pn_placeNext_12_1 (v_iv (n_v vs 6)) (v_iv (n_v vs 10)) (v_iv (n_v vs 12)) (v_iv (n_v vs 25)) (w_fi ws (n_v vs 0) 3) (w_ei ws (w_ar ws (n_v vs 0) 1)) (w_ei ws (w_ar ws (n_v vs 0) 2)) (w_ei w1 (w_ar ws (n_v vs 0) 1)) (w_ei w1 (w_ar ws (n_v vs 0) 2)) (w_fi w1 (n_v vs 0) 3) (w_ei w1 (w_ar ws (n_v vs 1) 2)) (w_ei w1 (w_ar ws (n_v vs 1) 3)) (w_ei ws (w_ar ws (n_v vs 1) 2)) (w_ei ws (w_ar ws (n_v vs 1) 3)) k10 k12 k25 d0 d5 fe_0_3_1 hE_0_1_1 hE_0_2_1 hE_1_2_1 hE_1_3_1 kz_0_3)⟩
  refine ⟨(fun _ h => (by cases h)), [], trivial, ?_, (fun _ h => (by cases h))⟩
  rw [List.append_nil]
  exact List.forall_mem_cons.mpr ⟨⟨show (20 : Nat) < 100 from by decide, nf0⟩, List.forall_mem_cons.mpr ⟨⟨show (20 : Nat) < 100 from by decide, nf1⟩, (fun _ h => (by cases h))⟩⟩
set_option maxHeartbeats 4000000 in
theorem vc_Pn_placeNext_13_0 (x6 : Int) (x9 : Int) (x11 : Int) (x12 : Int) (x18 : Int) (x19 : Int) (x20 : Int) (x22 : Int) (x23 : Int) (x24 : Int) (x25 : Int) (x26 : Int) (lineLength_0 : Int) (order_0 : Int → Int) (line_0 : Int → Int) (under_1 : Int → Int) (line_1 : Int → Int) (order_1 : Int → Int) (lineLength_1 : Int) (x_1o1 : Int → Int) (y_1o1 : Int → Int) (under_0 : Int → Int) (x_0o1 : Int → Int) (y_0o1 : Int → Int) (k6 : 3 ≤ x6 ∧ x6 ≤ 23) (k9 : 0 ≤ x9 ∧ x9 ≤ 23) (k11 : 2 ≤ x11 ∧ x11 ≤ 22) (k12 : 2 ≤ x12 ∧ x12 ≤ 22) (k18 : 3 ≤ x18 ∧ x18 ≤ 23) (k19 : 1 ≤ x19 ∧ x19 ≤ 23) (k20 : 0 ≤ x20 ∧ x20 ≤ 23) (k22 : 0 ≤ x22 ∧ x22 ≤ 16777215) (k23 : 0 ≤ x23 ∧ x23 ≤ 23) (k24 : 0 ≤ x24 ∧ x24 ≤ 16777215) (k25 : 0 ≤ x25 ∧ x25 ≤ 16777215) (k26 : 3 ≤ x26 ∧ x26 ≤ 23) (d1 : x11 + (-4294967296) ≤ x26 ∧ x26 ≤ x11 + 0) (d2 : x11 + 1 ≤ x26 ∧ x26 ≤ x11 + 4294967296) (f4 : x26 = x12 + 1) (f22 : bvp (x25) = bvp (x22) ||| bvp (x24)) (h23 : x24 = under_1 (x23)) (h24 : x23 = line_1 (x12)) (h26 : x22 = under_1 (x9)) (f35 : LNO (lineLength_1) (line_1) (order_1) (x6)) (f39 : CO2n (order_1) (under_1) (x_1o1) (y_1o1) (x18) (x19) (x20)) (fe_0_3_1 : lineLength_0 = lineLength_1) (hE_0_1_1 : ∀ j : Int, order_0 j = order_1 j) (hE_0_2_1 : ∀ j : Int, line_0 j = line_1 j) (hE_0_4_1 : ∀ j : Int, 0 ≤ j → (j = x9 → under_0 j = x25) ∧ (j ≠ x9 → under_0 j = under_1 j)) (hE_1_2_1 : ∀ j : Int, x_0o1 j = x_1o1 j) (hE_1_3_1 : ∀ j : Int, y_0o1 j = y_1o1 j) (kz_0_3 : 0 ≤ lineLength_0 ∧ lineLength_0 ≤ 24) : CO2 (order_0) (under_0) (x_0o1) (y_0o1) (x6) (x26) (x9) := by
  subst fe_0_3_1
  have e_hE_0_1_1 := funext hE_0_1_1; subst e_hE_0_1_1
  have e_hE_0_2_1 := funext hE_0_2_1; subst e_hE_0_2_1
  have e_hE_1_2_1 := funext hE_1_2_1; subst e_hE_1_2_1
  have e_hE_1_3_1 := funext hE_1_3_1; subst e_hE_1_3_1
  first
    | (have g := ‹CO2n _ _ _ _ _ _ _›
       have l := ‹LNO _ _ _ _›
       rw [show x18 = x6 by omega, show x19 = x12 by omega, show x20 = x9 by omega] at g
       exact co2_step (a := x24) g (by omega) (by assumption) rfl (by omega) (by assumption) (fun z => (bit_or (by assumption) z).1) (Or.inr ⟨x23, lno_toq (q := x12) l (by omega) (by omega) (by assumption), by assumption⟩))
set_option maxHeartbeats 4000000 in
theorem vc_Pn_placeNext_13_1 (x6 : Int) (x10 : Int) (x11 : Int) (x26 : Int) (lineLength_0 : Int) (order_0 : Int → Int) (line_0 : Int → Int) (line_1 : Int → Int) (order_1 : Int → Int) (lineLength_1 : Int) (x_1o1 : Int → Int) (y_1o1 : Int → Int) (x_0o1 : Int → Int) (y_0o1 : Int → Int) (k10 : 0 ≤ x10 ∧ x10 ≤ 21) (k11 : 2 ≤ x11 ∧ x11 ≤ 22) (k26 : 3 ≤ x26 ∧ x26 ≤ 23) (d1 : x11 + (-4294967296) ≤ x26 ∧ x26 ≤ x11 + 0) (d2 : x11 + 1 ≤ x26 ∧ x26 ≤ x11 + 4294967296) (fe_0_3_1 : lineLength_0 = lineLength_1) (hE_0_1_1 : ∀ j : Int, order_0 j = order_1 j) (hE_0_2_1 : ∀ j : Int, line_0 j = line_1 j) (hE_1_2_1 : ∀ j : Int, x_0o1 j = x_1o1 j) (hE_1_3_1 : ∀ j : Int, y_0o1 j = y_1o1 j) (kz_0_3 : 0 ≤ lineLength_0 ∧ lineLength_0 ≤ 24) : (1 ≤ x26) ∧ ((x10 + 1) ≤ x26) := by
  subst fe_0_3_1
  have e_hE_0_1_1 := funext hE_0_1_1; subst e_hE_0_1_1
  have e_hE_0_2_1 := funext hE_0_2_1; subst e_hE_0_2_1
  have e_hE_1_2_1 := funext hE_1_2_1; subst e_hE_1_2_1
  have e_hE_1_3_1 := funext hE_1_3_1; subst e_hE_1_3_1
  first
    | omega
    | assumption
    | (have h := (‹LNO _ _ _ _›).1; omega)
    | (rw [(hE_0_6_1 0 (by omega)).1 (by omega), show gx = x6 by omega]; assumption)
def o_Pn_placeNext_13 : or_T := (81, 27, [(0, (2, 0, 0, [7])), (1, (2, 0, 0, [0])), (3, (2, 0, 0, [102])), (6, (0, 3, 23, [])), (7, (2, 0, 0, [7])), (8, (2, 0, 0, [0])), (9, (0, 0, 23, [])), (10, (0, 0, 21, [])), (11, (0, 2, 22, [])), (12, (0, 2, 22, [])), (13, (2, 0, 0, [102])), (14, (0, 2, 24, [])), (15, (2, 0, 0, [103])), (16, (0, 0, 23, [])), (17, (0, 2, 2, [])), (18, (0, 3, 23, [])), (19, (0, 1, 23, [])), (20, (0, 0, 23, [])), (21, (2, 0, 0, [104])), (22, (0, 0, 16777215, [])), (23, (0, 0, 23, [])), (24, (0, 0, 16777215, [])), (25, (0, 0, 16777215, [])), (26, (0, 3, 23, []))], [(9, [21, 7], [4]), (9, [15, 7], [2]), (9, [14, 7], [3]), (9, [13, 7], [1]), (6, [26, 12], [1]), (23, [18, 6], [0, 1, -1]), (23, [18, 6], [0, -1, 1]), (23, [19, 12], [0, 1, -1]), (23, [19, 12], [0, -1, 1]), (23, [20, 9], [0, 1, -1]), (23, [20, 9], [0, -1, 1]), (20, [17], [50, 0, 0, 2, 6, 0, 2, 0, 1, 1, 0, 0, 2, 1, 0, 0, 2]), (20, [7, 16, 18], [60, 0, 1, 891, 1]), (20, [7, 6], [60, 1, 2, 889, 3, 2, 1]), (20, [10, 7, 11], [50, 1, 0, 1003, 2, 19, 2, 6, 0, 2, 0, 0, 1, 0, 0, 6, 4, 2, 1, 0, 0, 1, 2, 1, 3, 2, 6, 0, 2, 0, 0, 1, 2, 0, 6, 4, 2, 1, 2, 0, 1, 2, 1, 3]), (20, [12, 10], [50, 0, 0, 2, 6, 0, 2, 0, 1, 1, 0, 0, 6, 4, 2, 1, 1, 0, 1, 1, 0]), (20, [9, 7, 6], [50, 0, 1, 1001, 1, 2, 1, 0, 3, 1, 1, 1, 2]), (24, [3, 13], []), (24, [0, 7], []), (24, [1, 8], []), (100, [21, 9, 25], []), (13, [25, 22, 24], []), (16, [25, 22, 24], [1]), (10, [24, 21, 23], []), (10, [23, 15, 12], []), (7, [12, 11], [2]), (10, [22, 21, 9], []), (23, [18, 6], [0, 1, -1]), (23, [18, 6], [0, -1, 1]), (23, [19, 12], [0, 1, -1]), (23, [19, 12], [0, -1, 1]), (23, [20, 9], [0, 1, -1]), (23, [20, 9], [0, -1, 1]), (20, [17], [50, 0, 0, 2, 6, 0, 2, 0, 1, 1, 0, 0, 2, 1, 0, 0, 2]), (20, [7, 16, 18], [60, 0, 1, 891, 1]), (20, [7, 6], [60, 1, 2, 889, 3, 2, 1]), (20, [10, 7, 11], [50, 1, 0, 1003, 2, 19, 2, 6, 0, 2, 0, 0, 1, 0, 0, 6, 4, 2, 1, 0, 0, 1, 2, 1, 3, 2, 6, 0, 2, 0, 0, 1, 2, 0, 6, 4, 2, 1, 2, 0, 1, 2, 1, 3]), (20, [12, 10], [50, 0, 0, 2, 6, 0, 2, 0, 1, 1, 0, 0, 6, 4, 2, 1, 1, 0, 1, 1, 0]), (20, [9, 7, 6], [50, 0, 1, 1001, 1, 2, 1, 0, 3, 1, 1, 1, 2]), (20, [7, 8, 18, 19, 20], [60, 0, 4, 886, 1, 4, 1002, 1003]), (102, [20], [16384]), (23, [18, 6], [0, 1, -1]), (23, [18, 6], [0, -1, 1]), (23, [19, 12], [0, 1, -1]), (23, [19, 12], [0, -1, 1]), (23, [20, 9], [0, 1, -1]), (23, [20, 9], [0, -1, 1]), (7, [12, 11], [3]), (7, [12, 14], [2])], [], [], [(20, [7, 8, 6, 26, 9], [60, 0, 4, 885, 1, 4, 1002, 1003]), (20, [26, 10], [50, 0, 0, 2, 6, 0, 2, 0, 1, 1, 0, 0, 6, 4, 2, 1, 1, 0, 1, 1, 0])], [], [(26, 12, 1, 1), (26, 11, -4294967296, 0), (26, 11, 1, 4294967296), (26, 14, -4294967296, 0), (12, 11, -4294967296, -1), (12, 11, 0, 4294967296), (12, 14, -4294967296, -1), (10, 12, -4294967296, -1)])
theorem oo_Pn_placeNext_13 {kA : Nat → ClassId} : or_ok PRD kA GG o_Pn_placeNext_13 := by
  refine or_mk fun A ta ws vs hD hth hl => ?_
  intro t0 r0 t1 r1 t3 r3 t6 k6 t7 r7 t8 r8 t9 k9 t10 k10 t11 k11 t12 k12 t13 r13 t14 k14 t15 r15 t16 k16 t17 k17 t18 k18 t19 k19 t20 k20 t21 r21 t22 k22 t23 k23 t24 k24 t25 k25 t26 k26 d0 d1 d2 d3 d4 d5 d6 d7 f0 f1 f2 f3 f4 f5 f6 f7 f8 f9 f10 f11 f12 f13 f14 f15 f16 f17 f18 f19 ta1 w1 le1 s1 f21 f22 f23 f24 f25 f26 f27 f28 f29 f30 f31 f32 f33 f34 f35 f36 f37 f38 f39 ta2 w2 le2 s2 f41 f42 f43 f44 f45 f46 f47 f48
  replace f0 := shm_108 f0
  replace f1 := shm_120 f1
  replace f4 := shm_4 f4
  replace f18 := shm_5 f18
  replace f19 := shm_5 f19
  have s1 : (∀ b j, w_el ws b j = if b = v_ad (n_v vs 21) ∧ j = (v_iv (n_v vs 9)).toNat then v_iv (n_v vs 25) else w_el w1 b j) ∧ ∀ b k, w_fd ws b k = w_fd w1 b k := s1.2
  replace f22 := shm_354 f22
  replace f23 := shm_107 f23
  replace f24 := shm_107 f24
  replace f26 := shm_107 f26
  replace f35 := shm_899 f35
  replace f39 := shm_435 f39
  have q7 : n_v vs 7 = n_v vs 0 := f18.symm
  have q8 : n_v vs 8 = n_v vs 1 := f19.symm
  simp only [q7, q8] at f0 f1 f35 f39
  have ar_0_1_1 : w_ar w1 (n_v vs 0) 1 = w_ar ws (n_v vs 0) 1 := congrArg v_ad (s1.2 _ _).symm
  have cr_0_1 := fdq_92 hD hth r0
  have ar_0_2_1 : w_ar w1 (n_v vs 0) 2 = w_ar ws (n_v vs 0) 2 := congrArg v_ad (s1.2 _ _).symm
  have cr_0_2 := fdq_227 hD hth r0
  have ar_0_4_1 : w_ar w1 (n_v vs 0) 4 = w_ar ws (n_v vs 0) 4 := congrArg v_ad (s1.2 _ _).symm
  have ar_1_2_1 : w_ar w1 (n_v vs 1) 2 = w_ar ws (n_v vs 1) 2 := congrArg v_ad (s1.2 _ _).symm
  have cr_1_2 := fdq_45 hD hth r1
  have ar_1_3_1 : w_ar w1 (n_v vs 1) 3 = w_ar ws (n_v vs 1) 3 := congrArg v_ad (s1.2 _ _).symm
  have cr_1_3 := fdq_48 hD hth r1
  have ad_21 : v_ad (n_v vs 21) = w_ar ws (n_v vs 0) 4 := congrArg v_ad f0
  have ad_15 : v_ad (n_v vs 15) = w_ar ws (n_v vs 0) 2 := congrArg v_ad f1
  simp only [ad_21] at f23
  have h23 : v_iv (n_v vs 24) = w_ei w1 (w_ar ws (n_v vs 0) 4) (v_iv (n_v vs 23)) := f23
  simp only [ad_15] at f24
  have h24 : v_iv (n_v vs 23) = w_ei w1 (w_ar ws (n_v vs 0) 2) (v_iv (n_v vs 12)) := f24
  simp only [ad_21] at f26
  have h26 : v_iv (n_v vs 22) = w_ei w1 (w_ar ws (n_v vs 0) 4) (v_iv (n_v vs 9)) := f26
  simp only [ar_0_1_1, ar_0_2_1, ar_0_4_1, ar_1_2_1, ar_1_3_1] at f35 f39
  have fe_0_3_1 : w_fi ws (n_v vs 0) 3 = w_fi w1 (n_v vs 0) 3 := congrArg v_iv (s1.2 _ _)
  have hE_0_1_1 : ∀ j : Int, w_ei ws (w_ar ws (n_v vs 0) 1) j = w_ei w1 (w_ar ws (n_v vs 0) 1) j := el_kp s1.1 r21 cr_0_1 (by decide)
  have hE_0_2_1 : ∀ j : Int, w_ei ws (w_ar ws (n_v vs 0) 2) j = w_ei w1 (w_ar ws (n_v vs 0) 2) j := el_kp s1.1 r21 cr_0_2 (by decide)
  have hE_0_4_1 : ∀ j : Int, 0 ≤ j → (j = v_iv (n_v vs 9) → w_ei ws (w_ar ws (n_v vs 0) 4) j = v_iv (n_v vs 25)) ∧ (j ≠ v_iv (n_v vs 9) → w_ei ws (w_ar ws (n_v vs 0) 4) j = w_ei w1 (w_ar ws (n_v vs 0) 4) j) := fun j hj => ⟨fun h => by unfold w_ei; rw [s1.1, if_pos ⟨ad_21.symm, by rw [h]⟩], fun h => by unfold w_ei; rw [s1.1, if_neg (fun e => h (by have := e.2; omega))]⟩
  have hE_1_2_1 : ∀ j : Int, w_ei ws (w_ar ws (n_v vs 1) 2) j = w_ei w1 (w_ar ws (n_v vs 1) 2) j := el_kp s1.1 r21 cr_1_2 (by decide)
  have hE_1_3_1 : ∀ j : Int, w_ei ws (w_ar ws (n_v vs 1) 3) j = w_ei w1 (w_ar ws (n_v vs 1) 3) j := el_kp s1.1 r21 cr_1_3 (by decide)
  have kz_0_3 := fdq_13 hD hth r0
  have nf0 : fc_1 PRD (20, [7, 8, 6, 26, 9], [60, 0, 4, 885, 1, 4, 1002, 1003]) ws (vs) := by
    refine ⟨nf_in hl rfl, sgq_431 ?_⟩
    · show CO2 (w_ei ws (w_ar ws (n_v vs 7) 1)) (w_ei ws (w_ar ws (n_v vs 7) 4)) (w_ei ws (w_ar ws (n_v vs 8) 2)) (w_ei ws (w_ar ws (n_v vs 8) 3)) (v_iv (n_v vs 6)) (v_iv (n_v vs 26)) (v_iv (n_v vs 9))
      simp only [q7, q8]
      exact vc_Pn_placeNext_13_0 (v_iv (n_v vs 6)) (v_iv (n_v vs 9)) (v_iv (n_v vs 11)) (v_iv (n_v vs 12)) (v_iv (n_v vs 18)) (v_iv (n_v vs 19)) (v_iv (n_v vs 20)) (v_iv (n_v vs 22)) (v_iv (n_v vs 23)) (v_iv (n_v vs 24)) (v_iv (n_v vs 25)) (v_iv (n_v vs 26)) (w_fi ws (n_v vs 0) 3) (w_ei ws (w_ar ws (n_v vs 0) 1)) (w_ei ws (w_ar ws (n_v vs 0) 2)) (w_ei w1 (w_ar ws (n_v vs 0) 4)) (w_ei w1 (w_ar ws (n_v vs 0) 2)) (w_ei w1 (w_ar ws (n_v vs 0) 1)) (w_fi w1 (n_v vs 0) 3) (w_ei w1 (w_ar ws (n_v vs 1) 2)) (w_ei w1 (w_ar ws (n_v vs 1) 3)) (w_ei ws (w_ar ws (n_v vs 0) 4)) (w_ei ws (w_ar ws (n_v vs 1) 2)) (w_ei ws (w_ar ws (n_v vs 1) 3)) k6 k9 k11 k12 k18 k19 k20 k22 k23 k24 k25 k26 d1 d2 f4 f22 h23 h24 h26 f35 f39 fe_0_3_1 hE_0_1_1 hE_0_2_1 hE_0_4_1 hE_1_2_1 hE_1_3_1 kz_0_3
  have nf1 : fc_1 PRD (20, [26, 10], [50, 0, 0, 2, 6, 0, 2, 0, 1, 1, 0, 0, 6, 4, 2, 1, 1, 0, 1, 1, 0]) ws (vs) := ⟨nf_in hl rfl, sgq_1397 (vc_Pn_placeNext_13_1 (v_iv (n_v vs 6)) (v_iv (n_v vs 10)) (v_iv (n_v vs 11)) (v_iv (n_v vs 26)) (w_fi ws (n_v vs 0) 3) (w_ei ws (w_ar ws (n_v vs 0) 1)) (w_ei ws (w_ar ws (n_v vs 0) 2)) (w_ei w1 (w_ar ws (n_v vs 0) 2)) (w_ei w1 (w_ar ws (n_v vs 0) 1)) (w_fi w1 (n_v vs 0) 3) (w_ei w1 (w_ar ws (n_v vs 1) 2)) (w_ei w1 (w_ar ws (n_v vs 1) 3)) (w_ei ws (w_ar ws (n_v vs 1) 2)) (w_ei ws (w_ar ws (n_v vs 1) 3)) k10 k11 k26 d1 d2 fe_0_3_1 hE_0_1_1 hE_0_2_1 hE_1_2_1 hE_1_3_1 kz_0_3)⟩
  refine ⟨(fun _ h => (by cases h)), [], trivial, ?_, (fun _ h => (by cases h))⟩
  rw [List.append_nil]
  exact List.forall_mem_cons.mpr ⟨⟨show (20 : Nat) < 100 from by decide, nf0⟩, List.forall_mem_cons.mpr ⟨⟨show (20 : Nat) < 100 from by decide, nf1⟩, (fun _ h => (by cases h))⟩⟩
set_option maxHeartbeats 4000000 in
theorem vc_Pn_placeNext_14_0 (x6 : Int) (gx : Int) (k6 : 3 ≤ x6 ∧ x6 ≤ 23) (ex2 : gx = x6) : 1 * gx + ((-1) * x6 + 0) ≤ 0 := by
  first
    | omega
    | assumption
    | (have h := (‹LNO _ _ _ _›).1; omega)
    | (rw [(hE_0_6_1 0 (by omega)).1 (by omega), show gx = x6 by omega]; assumption)
set_option maxHeartbeats 4000000 in
theorem vc_Pn_placeNext_14_1 (x6 : Int) (gx : Int) (k6 : 3 ≤ x6 ∧ x6 ≤ 23) (ex2 : gx = x6) : (-1) * gx + (1 * x6 + 0) ≤ 0 := by
  first
    | omega
    | assumption
    | (have h := (‹LNO _ _ _ _›).1; omega)
    | (rw [(hE_0_6_1 0 (by omega)).1 (by omega), show gx = x6 by omega]; assumption)
set_option maxHeartbeats 4000000 in
theorem vc_Pn_placeNext_14_2 (x6 : Int) (x12 : Int) (gx : Int) (gy : Int) (k12 : 1 ≤ x12 ∧ x12 ≤ 22) (ey2 : gy = x12) : 1 * gy + ((-1) * x12 + 0) ≤ 0 := by
  first
    | omega
    | assumption
    | (have h := (‹LNO _ _ _ _›).1; omega)
    | (rw [(hE_0_6_1 0 (by omega)).1 (by omega), show gx = x6 by omega]; assumption)
set_option maxHeartbeats 4000000 in
theorem vc_Pn_placeNext_14_3 (x6 : Int) (x12 : Int) (gx : Int) (gy : Int) (k12 : 1 ≤ x12 ∧ x12 ≤ 22) (ey2 : gy = x12) : (-1) * gy + (1 * x12 + 0) ≤ 0 := by
  first
    | omega
    | assumption
    | (have h := (‹LNO _ _ _ _›).1; omega)
    | (rw [(hE_0_6_1 0 (by omega)).1 (by omega), show gx = x6 by omega]; assumption)
set_option maxHeartbeats 4000000 in
theorem vc_Pn_placeNext_14_4 (x6 : Int) (x9 : Int) (order_0 : Int → Int) (gx : Int) (gu : Int) (k6 : 3 ≤ x6 ∧ x6 ≤ 23) (k9 : 0 ≤ x9 ∧ x9 ≤ 23) (f10 : x9 = order_0 (x6)) (eu2 : gu = x9) : 1 * gu + ((-1) * x9 + 0) ≤ 0 := by
  first
    | omega
    | assumption
    | (have h := (‹LNO _ _ _ _›).1; omega)
    | (rw [(hE_0_6_1 0 (by omega)).1 (by omega), show gx = x6 by omega]; assumption)
set_option maxHeartbeats 4000000 in
theorem vc_Pn_placeNext_14_5 (x6 : Int) (x9 : Int) (order_0 : Int → Int) (gx : Int) (gu : Int) (k6 : 3 ≤ x6 ∧ x6 ≤ 23) (k9 : 0 ≤ x9 ∧ x9 ≤ 23) (f10 : x9 = order_0 (x6)) (eu2 : gu = x9) : (-1) * gu + (1 * x9 + 0) ≤ 0 := by
  first
    | omega
    | assumption
    | (have h := (‹LNO _ _ _ _›).1; omega)
    | (rw [(hE_0_6_1 0 (by omega)).1 (by omega), show gx = x6 by omega]; assumption)
set_option maxHeartbeats 4000000 in
theorem vc_Pn_placeNext_14_6 (x6 : Int) (x9 : Int) (x12 : Int) (order_0 : Int → Int) (under_0 : Int → Int) (x_0o1 : Int → Int) (y_0o1 : Int → Int) (gx : Int) (gy : Int) (gu : Int) (k6 : 3 ≤ x6 ∧ x6 ≤ 23) (k9 : 0 ≤ x9 ∧ x9 ≤ 23) (k12 : 1 ≤ x12 ∧ x12 ≤ 22) (f7 : CO2 (order_0) (under_0) (x_0o1) (y_0o1) (x6) (x12) (x9)) (ex2 : gx = x6) (ey2 : gy = x12) (eu2 : gu = x9) : CO2 (order_0) (under_0) (x_0o1) (y_0o1) (gx) (gy) (gu) := by
  first
    | assumption
    | (rw [show gx = x6 by omega, show gy = x12 by omega, show gu = x9 by omega]; assumption)
set_option maxHeartbeats 4000000 in
theorem vc_Pn_placeNext_14_7 (x6 : Int) (x17 : Int) (gx : Int) (k17 : 1 ≤ x17 ∧ x17 ≤ 1) : (1 ≤ x17) ∧ (x17 ≤ 2) := by
  first
    | omega
    | assumption
    | (have h := (‹LNO _ _ _ _›).1; omega)
    | (rw [(hE_0_6_1 0 (by omega)).1 (by omega), show gx = x6 by omega]; assumption)
set_option maxHeartbeats 4000000 in
theorem vc_Pn_placeNext_14_8 (x6 : Int) (x10 : Int) (x11 : Int) (x12 : Int) (x14 : Int) (x16 : Int) (line_0 : Int → Int) (lineLength_0 : Int) (order_0 : Int → Int) (gx : Int) (gy : Int) (k6 : 3 ≤ x6 ∧ x6 ≤ 23) (k12 : 1 ≤ x12 ∧ x12 ≤ 22) (k14 : 2 ≤ x14 ∧ x14 ≤ 24) (k16 : 0 ≤ x16 ∧ x16 ≤ 23) (d1 : x14 + (-4294967296) ≤ x12 ∧ x12 ≤ x14 + (-1)) (h2 : x16 = line_0 (x12)) (g5 : x14 = lineLength_0) (f6 : LNO (lineLength_0) (line_0) (order_0) (x6)) (kz_0_3 : 0 ≤ lineLength_0 ∧ lineLength_0 ≤ 24) (ex2 : gx = x6) (ey2 : gy = x12) : TOQ (order_0) (x16) (gx) := by
  first
    | exact lno_toq (q := x10) ‹LNO _ _ _ _› (by omega) (by omega) (by assumption)
    | exact lno_toq (q := x11) ‹LNO _ _ _ _› (by omega) (by omega) (by assumption)
    | (rw [show gx = x6 by omega]; exact lno_toq (q := x12) ‹LNO _ _ _ _› (by omega) (by omega) (by assumption))
def o_Pn_placeNext_14 : or_T := (111, 18, [(0, (2, 0, 0, [7])), (1, (2, 0, 0, [0])), (3, (2, 0, 0, [102])), (6, (0, 3, 23, [])), (7, (2, 0, 0, [7])), (8, (2, 0, 0, [0])), (9, (0, 0, 23, [])), (10, (0, 0, 21, [])), (11, (0, 2, 23, [])), (12, (0, 1, 22, [])), (13, (2, 0, 0, [102])), (14, (0, 2, 24, [])), (15, (2, 0, 0, [103])), (16, (0, 0, 23, [])), (17, (0, 1, 1, []))], [(9, [13, 7], [1]), (7, [12, 11], [2]), (10, [16, 15, 12], []), (9, [15, 7], [2]), (7, [12, 14], [2]), (9, [14, 7], [3]), (20, [7, 6], [60, 1, 2, 889, 3, 2, 1]), (20, [7, 8, 6, 12, 9], [60, 0, 4, 885, 1, 4, 1002, 1003]), (20, [10, 7, 11], [50, 1, 0, 1003, 2, 19, 2, 6, 0, 2, 0, 0, 1, 0, 0, 6, 4, 2, 1, 0, 0, 1, 2, 1, 3, 2, 6, 0, 2, 0, 0, 1, 2, 0, 6, 4, 2, 1, 2, 0, 1, 2, 1, 3]), (20, [12, 10], [50, 0, 0, 2, 6, 0, 2, 0, 1, 1, 0, 0, 6, 4, 2, 1, 1, 0, 1, 1, 0]), (20, [9, 7, 6], [50, 0, 1, 1001, 1, 2, 1, 0, 3, 1, 1, 1, 2]), (24, [3, 13], []), (24, [0, 7], []), (24, [1, 8], [])], [], [(0, 3, 23, []), (0, 1, 23, []), (0, 0, 23, [])], [(23, [18, 6], [0, 1, -1]), (23, [18, 6], [0, -1, 1]), (23, [19, 12], [0, 1, -1]), (23, [19, 12], [0, -1, 1]), (23, [20, 9], [0, 1, -1]), (23, [20, 9], [0, -1, 1]), (20, [7, 8, 18, 19, 20], [60, 0, 4, 885, 1, 4, 1002, 1003]), (20, [17], [50, 0, 0, 2, 6, 0, 2, 0, 1, 1, 0, 0, 2, 1, 0, 0, 2]), (20, [7, 16, 18], [60, 0, 1, 891, 1])], [], [(12, 11, -4294967296, -1), (12, 14, -4294967296, -1), (10, 12, -4294967296, -1)])
theorem oo_Pn_placeNext_14 {kA : Nat → ClassId} : or_ok PRD kA GG o_Pn_placeNext_14 := by
  refine or_mk fun A ta ws vs hD hth hl => ?_
  intro t0 r0 t1 r1 t3 r3 t6 k6 t7 r7 t8 r8 t9 k9 t10 k10 t11 k11 t12 k12 t13 r13 t14 k14 t15 r15 t16 k16 t17 k17 d0 d1 d2 f0 f1 f2 f3 f4 f5 f6 f7 f8 f9 f10 f11 f12 f13
  replace f2 := shm_107 f2
  replace f3 := shm_120 f3
  replace f5 := shm_137 f5
  replace f6 := shm_899 f6
  replace f7 := shm_431 f7
  replace f10 := shm_1394 f10
  replace f12 := shm_5 f12
  replace f13 := shm_5 f13
  have q7 : n_v vs 7 = n_v vs 0 := f12.symm
  have q8 : n_v vs 8 = n_v vs 1 := f13.symm
  simp only [q7, q8] at f3 f5 f6 f7 f10
  have ad_15 : v_ad (n_v vs 15) = w_ar ws (n_v vs 0) 2 := congrArg v_ad f3
  simp only [ad_15] at f2
  have h2 : v_iv (n_v vs 16) = w_ei ws (w_ar ws (n_v vs 0) 2) (v_iv (n_v vs 12)) := f2
  have g5 : v_iv (n_v vs 14) = w_fi ws (n_v vs 0) 3 := congrArg v_iv f5
  have kz_0_3 := fdq_13 hD hth r0
  obtain ⟨x, ex, hx⟩ := iv_ex (ta := ta) (lo := 3) (hi := 23) (z := v_iv (n_v vs 6)) (by omega) (by omega) (by omega) (by omega)
  have ex2 : v_iv (Value.int x) = v_iv (n_v vs 6) := ex
  have ex3 : 3 ≤ v_iv (Value.int x) ∧ v_iv (Value.int x) ≤ 23 := tv_rng hx
  obtain ⟨y, ey, hy⟩ := iv_ex (ta := ta) (lo := 1) (hi := 23) (z := v_iv (n_v vs 12)) (by omega) (by omega) (by omega) (by omega)
  have ey2 : v_iv (Value.int y) = v_iv (n_v vs 12) := ey
  have ey3 : 1 ≤ v_iv (Value.int y) ∧ v_iv (Value.int y) ≤ 23 := tv_rng hy
  obtain ⟨u, eu, hu⟩ := iv_ex (ta := ta) (lo := 0) (hi := 23) (z := v_iv (n_v vs 9)) (by omega) (by omega) (by omega) (by omega)
  have eu2 : v_iv (Value.int u) = v_iv (n_v vs 9) := eu
  have eu3 : 0 ≤ v_iv (Value.int u) ∧ v_iv (Value.int u) ≤ 23 := tv_rng hu
  have e_6 : n_v (vs ++ [Value.int x, Value.int y, Value.int u]) 6 = n_v vs 6 := n_v_old (by rw [hl]; decide)
  have e_7 : n_v (vs ++ [Value.int x, Value.int y, Value.int u]) 7 = n_v vs 7 := n_v_old (by rw [hl]; decide)
  have e_8 : n_v (vs ++ [Value.int x, Value.int y, Value.int u]) 8 = n_v vs 8 := n_v_old (by rw [hl]; decide)
  have e_9 : n_v (vs ++ [Value.int x, Value.int y, Value.int u]) 9 = n_v vs 9 := n_v_old (by rw [hl]; decide)
  have e_12 : n_v (vs ++ [Value.int x, Value.int y, Value.int u]) 12 = n_v vs 12 := n_v_old (by rw [hl]; decide)
  have e_16 : n_v (vs ++ [Value.int x, Value.int y, Value.int u]) 16 = n_v vs 16 := n_v_old (by rw [hl]; decide)
  have e_17 : n_v (vs ++ [Value.int x, Value.int y, Value.int u]) 17 = n_v vs 17 := n_v_old (by rw [hl]; decide)
  have e_18 : n_v (vs ++ [Value.int x, Value.int y, Value.int u]) 18 = Value.int x := n_v_newk (k := 0) hl rfl
  have e_19 : n_v (vs ++ [Value.int x, Value.int y, Value.int u]) 19 = Value.int y := n_v_newk (k := 1) hl rfl
  have e_20 : n_v (vs ++ [Value.int x, Value.int y, Value.int u]) 20 = Value.int u := n_v_newk (k := 2) hl rfl
  have nf0 : fc_1 PRD (23, [18, 6], [0, 1, -1]) ws (vs ++ [Value.int x, Value.int y, Value.int u]) := by
    refine ⟨nf_inA hl rfl, sgq_7 ?_⟩
    · show 1 * v_iv (n_v (vs ++ [Value.int x, Value.int y, Value.int u]) 18) + ((-1) * v_iv (n_v (vs ++ [Value.int x, Value.int y, Value.int u]) 6) + 0) ≤ 0
      simp only [e_6, e_18]
      exact vc_Pn_placeNext_14_0 (v_iv (n_v vs 6)) (v_iv (Value.int x)) k6 ex2
  have nf1 : fc_1 PRD (23, [18, 6], [0, -1, 1]) ws (vs ++ [Value.int x, Value.int y, Value.int u]) := by
    refine ⟨nf_inA hl rfl, sgq_22 ?_⟩
    · show (-1) * v_iv (n_v (vs ++ [Value.int x, Value.int y, Value.int u]) 18) + (1 * v_iv (n_v (vs ++ [Value.int x, Value.int y, Value.int u]) 6) + 0) ≤ 0
      simp only [e_6, e_18]
      exact vc_Pn_placeNext_14_1 (v_iv (n_v vs 6)) (v_iv (Value.int x)) k6 ex2
  have nf2 : fc_1 PRD (23, [19, 12], [0, 1, -1]) ws (vs ++ [Value.int x, Value.int y, Value.int u]) := by
    refine ⟨nf_inA hl rfl, sgq_7 ?_⟩
    · show 1 * v_iv (n_v (vs ++ [Value.int x, Value.int y, Value.int u]) 19) + ((-1) * v_iv (n_v (vs ++ [Value.int x, Value.int y, Value.int u]) 12) + 0) ≤ 0
      simp only [e_12, e_19]
      exact vc_Pn_placeNext_14_2 (v_iv (n_v vs 6)) (v_iv (n_v vs 12)) (v_iv (Value.int x)) (v_iv (Value.int y)) k12 ey2
  have nf3 : fc_1 PRD (23, [19, 12], [0, -1, 1]) ws (vs ++ [Value.int x, Value.int y, Value.int u]) := by
    refine ⟨nf_inA hl rfl, sgq_22 ?_⟩
    · show (-1) * v_iv (n_v (vs ++ [Value.int x, Value.int y, Value.int u]) 19) + (1 * v_iv (n_v (vs ++ [Value.int x, Value.int y, Value.int u]) 12) + 0) ≤ 0
      simp only [e_12, e_19]
      exact vc_Pn_placeNext_14_3 (v_iv (n_v vs 6)) (v_iv (n_v vs 12)) (v_iv (Value.int x)) (v_iv (Value.int y)) k12 ey2
  have nf4 : fc_1 PRD (23, [20, 9], [0, 1, -1]) ws (vs ++ [Value.int x, Value.int y, Value.int u]) := by
    refine ⟨nf_inA hl rfl, sgq_7 ?_⟩
    · show 1 * v_iv (n_v (vs ++ [Value.int x, Value.int y, Value.int u]) 20) + ((-1) * v_iv (n_v (vs ++ [Value.int x, Value.int y, Value.int u]) 9) + 0) ≤ 0
      simp only [e_9, e_20]
      exact vc_Pn_placeNext_14_4 (v_iv (n_v vs 6)) (v_iv (n_v vs 9)) (w_ei ws (w_ar ws (n_v vs 0) 1)) (v_iv (Value.int x)) (v_iv (Value.int u)) k6 k9 f10 eu2
  have nf5 : fc_1 PRD (23, [20, 9], [0, -1, 1]) ws (vs ++ [Value.int x, Value.int y, Value.int u]) := by
    refine ⟨nf_inA hl rfl, sgq_22 ?_⟩
    · show (-1) * v_iv (n_v (vs ++ [Value.int x, Value.int y, Value.int u]) 20) + (1 * v_iv (n_v (vs ++ [Value.int x, Value.int y, Value.int u]) 9) + 0) ≤ 0
      simp only [e_9, e_20]
      exact vc_Pn_placeNext_14_5 (v_iv (n_v vs 6)) (v_iv (n_v vs 9)) (w_ei ws (w_ar ws (n_v vs 0) 1)) (v_iv (Value.int x)) (v_iv (Value.int u)) k6 k9 f10 eu2
  have nf6 : fc_1 PRD (20, [7, 8, 18, 19, 20], [60, 0, 4, 885, 1, 4, 1002, 1003]) ws (vs ++ [Value.int x, Value.int y, Value.int u]) := by
    refine ⟨nf_inA hl rfl, sgq_431 ?_⟩
    · show CO2 (w_ei ws (w_ar ws (n_v (vs ++ [Value.int x, Value.int y, Value.int u]) 7) 1)) (w_ei ws (w_ar ws (n_v (vs ++ [Value.int x, Value.int y, Value.int u]) 7) 4)) (w_ei ws (w_ar ws (n_v (vs ++ [Value.int x, Value.int y, Value.int u]) 8) 2)) (w_ei ws (w_ar ws (n_v (vs ++ [Value.int x, Value.int y, Value.int u]) 8) 3)) (v_iv (n_v (vs ++ [Value.int x, Value.int y, Value.int u]) 18)) (v_iv (n_v (vs ++ [Value.int x, Value.int y, Value.int u]) 19)) (v_iv (n_v (vs ++ [Value.int x, Value.int y, Value.int u]) 20))
      simp only [e_7, e_8, e_18, e_19, e_20, q7, q8]
      exact vc_Pn_placeNext_14_6 (v_iv (n_v vs 6)) (v_iv (n_v vs 9)) (v_iv (n_v vs 12)) (w_ei ws (w_ar ws (n_v vs 0) 1)) (w_ei ws (w_ar ws (n_v vs 0) 4)) (w_ei ws (w_ar ws (n_v vs 1) 2)) (w_ei ws (w_ar ws (n_v vs 1) 3)) (v_iv (Value.int x)) (v_iv (Value.int y)) (v_iv (Value.int u)) k6 k9 k12 f7 ex2 ey2 eu2
  have nf7 : fc_1 PRD (20, [17], [50, 0, 0, 2, 6, 0, 2, 0, 1, 1, 0, 0, 2, 1, 0, 0, 2]) ws (vs ++ [Value.int x, Value.int y, Value.int u]) := by
    refine ⟨nf_inA hl rfl, sgq_432 ?_⟩
    · show (1 ≤ v_iv (n_v (vs ++ [Value.int x, Value.int y, Value.int u]) 17)) ∧ (v_iv (n_v (vs ++ [Value.int x, Value.int y, Value.int u]) 17) ≤ 2)
      rw [e_17]
      exact vc_Pn_placeNext_14_7 (v_iv (n_v vs 6)) (v_iv (n_v vs 17)) (v_iv (Value.int x)) k17
  have nf8 : fc_1 PRD (20, [7, 16, 18], [60, 0, 1, 891, 1]) ws (vs ++ [Value.int x, Value.int y, Value.int u]) := by
    refine ⟨nf_inA hl rfl, sgq_433 ?_⟩
    · show TOQ (w_ei ws (w_ar ws (n_v (vs ++ [Value.int x, Value.int y, Value.int u]) 7) 1)) (v_iv (n_v (vs ++ [Value.int x, Value.int y, Value.int u]) 16)) (v_iv (n_v (vs ++ [Value.int x, Value.int y, Value.int u]) 18))
      simp only [e_7, e_16, e_18, q7]
      exact vc_Pn_placeNext_14_8 (v_iv (n_v vs 6)) (v_iv (n_v vs 10)) (v_iv (n_v vs 11)) (v_iv (n_v vs 12)) (v_iv (n_v vs 14)) (v_iv (n_v vs 16)) (w_ei ws (w_ar ws (n_v vs 0) 2)) (w_fi ws (n_v vs 0) 3) (w_ei ws (w_ar ws (n_v vs 0) 1)) (v_iv (Value.int x)) (v_iv (Value.int y)) k6 k12 k14 k16 d1 h2 g5 f6 kz_0_3 ex2 ey2
  exact ⟨(fun _ h => (by cases h)), [Value.int x, Value.int y, Value.int u], ag_three hx hy hu, List.forall_mem_cons.mpr ⟨⟨show (23 : Nat) < 100 from by decide, nf0⟩, List.forall_mem_cons.mpr ⟨⟨show (23 : Nat) < 100 from by decide, nf1⟩, List.forall_mem_cons.mpr ⟨⟨show (23 : Nat) < 100 from by decide, nf2⟩, List.forall_mem_cons.mpr ⟨⟨show (23 : Nat) < 100 from by decide, nf3⟩, List.forall_mem_cons.mpr ⟨⟨show (23 : Nat) < 100 from by decide, nf4⟩, List.forall_mem_cons.mpr ⟨⟨show (23 : Nat) < 100 from by decide, nf5⟩, List.forall_mem_cons.mpr ⟨⟨show (20 : Nat) < 100 from by decide, nf6⟩, List.forall_mem_cons.mpr ⟨⟨show (20 : Nat) < 100 from by decide, nf7⟩, List.forall_mem_cons.mpr ⟨⟨show (20 : Nat) < 100 from by decide, nf8⟩, (fun _ h => (by cases h))⟩⟩⟩⟩⟩⟩⟩⟩⟩, (fun _ h => (by cases h))⟩
set_option maxHeartbeats 4000000 in
theorem vc_Pn_placeNext_15_0 (x6 : Int) (x9 : Int) (x11 : Int) (x12 : Int) (x18 : Int) (x19 : Int) (x20 : Int) (x22 : Int) (x23 : Int) (x24 : Int) (x25 : Int) (lineLength_0 : Int) (order_0 : Int → Int) (line_0 : Int → Int) (under_1 : Int → Int) (order_1 : Int → Int) (line_1 : Int → Int) (lineLength_1 : Int) (x_1o1 : Int → Int) (y_1o1 : Int → Int) (under_0 : Int → Int) (x_0o1 : Int → Int) (y_0o1 : Int → Int) (k6 : 3 ≤ x6 ∧ x6 ≤ 23) (k9 : 0 ≤ x9 ∧ x9 ≤ 23) (k11 : 3 ≤ x11 ∧ x11 ≤ 22) (k12 : 2 ≤ x12 ∧ x12 ≤ 21) (k18 : 3 ≤ x18 ∧ x18 ≤ 23) (k19 : 1 ≤ x19 ∧ x19 ≤ 23) (k20 : 0 ≤ x20 ∧ x20 ≤ 23) (k22 : 0 ≤ x22 ∧ x22 ≤ 16777215) (k23 : 0 ≤ x23 ∧ x23 ≤ 0) (k24 : 0 ≤ x24 ∧ x24 ≤ 16777215) (k25 : 3 ≤ x25 ∧ x25 ≤ 22) (d1 : x11 + 1 ≤ x25 ∧ x25 ≤ x11 + 4294967296) (d2 : x11 + (-4294967296) ≤ x25 ∧ x25 ≤ x11 + 0) (f4 : x25 = x12 + 1) (f22 : bvp (x24) = bvp (x22) ||| bvp (x23)) (h24 : x22 = under_1 (x9)) (f37 : CO2n (order_1) (under_1) (x_1o1) (y_1o1) (x18) (x19) (x20)) (fe_0_3_1 : lineLength_0 = lineLength_1) (hE_0_1_1 : ∀ j : Int, order_0 j = order_1 j) (hE_0_2_1 : ∀ j : Int, line_0 j = line_1 j) (hE_0_4_1 : ∀ j : Int, 0 ≤ j → (j = x9 → under_0 j = x24) ∧ (j ≠ x9 → under_0 j = under_1 j)) (hE_1_2_1 : ∀ j : Int, x_0o1 j = x_1o1 j) (hE_1_3_1 : ∀ j : Int, y_0o1 j = y_1o1 j) (kz_0_3 : 0 ≤ lineLength_0 ∧ lineLength_0 ≤ 24) : CO2 (order_0) (under_0) (x_0o1) (y_0o1) (x6) (x25) (x9) := by
  subst fe_0_3_1
  have e_hE_0_1_1 := funext hE_0_1_1; subst e_hE_0_1_1
  have e_hE_0_2_1 := funext hE_0_2_1; subst e_hE_0_2_1
  have e_hE_1_2_1 := funext hE_1_2_1; subst e_hE_1_2_1
  have e_hE_1_3_1 := funext hE_1_3_1; subst e_hE_1_3_1
  first
    | (have g := ‹CO2n _ _ _ _ _ _ _›
       rw [show x18 = x6 by omega, show x19 = x12 by omega, show x20 = x9 by omega] at g
       exact co2_step (a := x23) g (by omega) (by assumption) rfl (by omega) (by assumption) (fun z => (bit_or (by assumption) z).1) (Or.inl (fun z => by rw [show x23 = 0 by omega]; exact bit_zero z)))
set_option maxHeartbeats 4000000 in
theorem vc_Pn_placeNext_15_1 (x6 : Int) (x10 : Int) (x11 : Int) (x25 : Int) (lineLength_0 : Int) (order_0 : Int → Int) (line_0 : Int → Int) (order_1 : Int → Int) (line_1 : Int → Int) (lineLength_1 : Int) (x_1o1 : Int → Int) (y_1o1 : Int → Int) (x_0o1 : Int → Int) (y_0o1 : Int → Int) (k10 : 0 ≤ x10 ∧ x10 ≤ 21) (k11 : 3 ≤ x11 ∧ x11 ≤ 22) (k25 : 3 ≤ x25 ∧ x25 ≤ 22) (d1 : x11 + 1 ≤ x25 ∧ x25 ≤ x11 + 4294967296) (d2 : x11 + (-4294967296) ≤ x25 ∧ x25 ≤ x11 + 0) (fe_0_3_1 : lineLength_0 = lineLength_1) (hE_0_1_1 : ∀ j : Int, order_0 j = order_1 j) (hE_0_2_1 : ∀ j : Int, line_0 j = line_1 j) (hE_1_2_1 : ∀ j : Int, x_0o1 j = x_1o1 j) (hE_1_3_1 : ∀ j : Int, y_0o1 j = y_1o1 j) (kz_0_3 : 0 ≤ lineLength_0 ∧ lineLength_0 ≤ 24) : (1 ≤ x25) ∧ ((x10 + 1) ≤ x25) := by
  subst fe_0_3_1
  have e_hE_0_1_1 := funext hE_0_1_1; subst e_hE_0_1_1
  have e_hE_0_2_1 := funext hE_0_2_1; subst e_hE_0_2_1
  have e_hE_1_2_1 := funext hE_1_2_1; subst e_hE_1_2_1
  have e_hE_1_3_1 := funext hE_1_3_1; subst e_hE_1_3_1
  first
    | omega
    | assumption
    | (have h := (‹LNO _ _ _ _›).1; omega)
    | (rw [(hE_0_6_1 0 (by omega)).1 (by omega), show gx = x6 by omega]; assumption)
def o_Pn_placeNext_15 : or_T := (81, 26, [(0, (2, 0, 0, [7])), (1, (2, 0, 0, [0])), (3, (2, 0, 0, [102])), (6, (0, 3, 23, [])), (7, (2, 0, 0, [7])), (8, (2, 0, 0, [0])), (9, (0, 0, 23, [])), (10, (0, 0, 21, [])), (11, (0, 3, 22, [])), (12, (0, 2, 21, [])), (13, (2, 0, 0, [102])), (14, (0, 3, 24, [])), (15, (2, 0, 0, [103])), (16, (0, 0, 23, [])), (17, (0, 1, 1, [])), (18, (0, 3, 23, [])), (19, (0, 1, 23, [])), (20, (0, 0, 23, [])), (21, (2, 0, 0, [104])), (22, (0, 0, 16777215, [])), (23, (0, 0, 0, [])), (24, (0, 0, 16777215, [])), (25, (0, 3, 22, []))], [(9, [21, 7], [4]), (9, [15, 7], [2]), (9, [14, 7], [3]), (9, [13, 7], [1]), (6, [25, 12], [1]), (23, [18, 6], [0, 1, -1]), (23, [18, 6], [0, -1, 1]), (23, [19, 12], [0, 1, -1]), (23, [19, 12], [0, -1, 1]), (23, [20, 9], [0, 1, -1]), (23, [20, 9], [0, -1, 1]), (20, [17], [50, 0, 0, 2, 6, 0, 2, 0, 1, 1, 0, 0, 2, 1, 0, 0, 2]), (20, [7, 16, 18], [60, 0, 1, 891, 1]), (20, [7, 6], [60, 1, 2, 889, 3, 2, 1]), (20, [10, 7, 11], [50, 1, 0, 1003, 2, 19, 2, 6, 0, 2, 0, 0, 1, 0, 0, 6, 4, 2, 1, 0, 0, 1, 2, 1, 3, 2, 6, 0, 2, 0, 0, 1, 2, 0, 6, 4, 2, 1, 2, 0, 1, 2, 1, 3]), (20, [12, 10], [50, 0, 0, 2, 6, 0, 2, 0, 1, 1, 0, 0, 6, 4, 2, 1, 1, 0, 1, 1, 0]), (20, [9, 7, 6], [50, 0, 1, 1001, 1, 2, 1, 0, 3, 1, 1, 1, 2]), (24, [3, 13], []), (24, [0, 7], []), (24, [1, 8], []), (100, [21, 9, 24], []), (13, [24, 22, 23], []), (16, [24, 22, 23], [1]), (7, [12, 11], [3]), (10, [22, 21, 9], []), (23, [18, 6], [0, 1, -1]), (23, [18, 6], [0, -1, 1]), (23, [19, 12], [0, 1, -1]), (23, [19, 12], [0, -1, 1]), (23, [20, 9], [0, 1, -1]), (23, [20, 9], [0, -1, 1]), (20, [17], [50, 0, 0, 2, 6, 0, 2, 0, 1, 1, 0, 0, 2, 1, 0, 0, 2]), (20, [7, 16, 18], [60, 0, 1, 891, 1]), (20, [7, 6], [60, 1, 2, 889, 3, 2, 1]), (20, [10, 7, 11], [50, 1, 0, 1003, 2, 19, 2, 6, 0, 2, 0, 0, 1, 0, 0, 6, 4, 2, 1, 0, 0, 1, 2, 1, 3, 2, 6, 0, 2, 0, 0, 1, 2, 0, 6, 4, 2, 1, 2, 0, 1, 2, 1, 3]), (20, [12, 10], [50, 0, 0, 2, 6, 0, 2, 0, 1, 1, 0, 0, 6, 4, 2, 1, 1, 0, 1, 1, 0]), (20, [9, 7, 6], [50, 0, 1, 1001, 1, 2, 1, 0, 3, 1, 1, 1, 2]), (20, [7, 8, 18, 19, 20], [60, 0, 4, 886, 1, 4, 1002, 1003]), (102, [20], [16384]), (23, [18, 6], [0, 1, -1]), (23, [18, 6], [0, -1, 1]), (23, [19, 12], [0, 1, -1]), (23, [19, 12], [0, -1, 1]), (23, [20, 9], [0, 1, -1]), (23, [20, 9], [0, -1, 1]), (7, [12, 11], [2]), (7, [12, 14], [2])], [], [], [(20, [7, 8, 6, 25, 9], [60, 0, 4, 885, 1, 4, 1002, 1003]), (20, [25, 10], [50, 0, 0, 2, 6, 0, 2, 0, 1, 1, 0, 0, 6, 4, 2, 1, 1, 0, 1, 1, 0])], [], [(25, 12, 1, 1), (25, 11, 1, 4294967296), (25, 11, -4294967296, 0), (25, 14, -4294967296, 0), (12, 11, 0, 4294967296), (12, 11, -4294967296, -1), (12, 14, -4294967296, -1), (10, 12, -4294967296, -1)])
theorem oo_Pn_placeNext_15 {kA : Nat → ClassId} : or_ok PRD kA GG o_Pn_placeNext_15 := by
  refine or_mk fun A ta ws vs hD hth hl => ?_
  intro t0 r0 t1 r1 t3 r3 t6 k6 t7 r7 t8 r8 t9 k9 t10 k10 t11 k11 t12 k12 t13 r13 t14 k14 t15 r15 t16 k16 t17 k17 t18 k18 t19 k19 t20 k20 t21 r21 t22 k22 t23 k23 t24 k24 t25 k25 d0 d1 d2 d3 d4 d5 d6 d7 f0 f1 f2 f3 f4 f5 f6 f7 f8 f9 f10 f11 f12 f13 f14 f15 f16 f17 f18 f19 ta1 w1 le1 s1 f21 f22 f23 f24 f25 f26 f27 f28 f29 f30 f31 f32 f33 f34 f35 f36 f37 ta2 w2 le2 s2 f39 f40 f41 f42 f43 f44 f45 f46
  replace f0 := shm_108 f0
  replace f4 := shm_4 f4
  replace f18 := shm_5 f18
  replace f19 := shm_5 f19
  have s1 : (∀ b j, w_el ws b j = if b = v_ad (n_v vs 21) ∧ j = (v_iv (n_v vs 9)).toNat then v_iv (n_v vs 24) else w_el w1 b j) ∧ ∀ b k, w_fd ws b k = w_fd w1 b k := s1.2
  replace f22 := shm_354 f22
  replace f24 := shm_107 f24
  replace f37 := shm_435 f37
  have q7 : n_v vs 7 = n_v vs 0 := f18.symm
  have q8 : n_v vs 8 = n_v vs 1 := f19.symm
  simp only [q7, q8] at f0 f37
  have ar_0_1_1 : w_ar w1 (n_v vs 0) 1 = w_ar ws (n_v vs 0) 1 := congrArg v_ad (s1.2 _ _).symm
  have cr_0_1 := fdq_92 hD hth r0
  have ar_0_2_1 : w_ar w1 (n_v vs 0) 2 = w_ar ws (n_v vs 0) 2 := congrArg v_ad (s1.2 _ _).symm
  have cr_0_2 := fdq_227 hD hth r0
  have ar_0_4_1 : w_ar w1 (n_v vs 0) 4 = w_ar ws (n_v vs 0) 4 := congrArg v_ad (s1.2 _ _).symm
  have ar_1_2_1 : w_ar w1 (n_v vs 1) 2 = w_ar ws (n_v vs 1) 2 := congrArg v_ad (s1.2 _ _).symm
  have cr_1_2 := fdq_45 hD hth r1
  have ar_1_3_1 : w_ar w1 (n_v vs 1) 3 = w_ar ws (n_v vs 1) 3 := congrArg v_ad (s1.2 _ _).symm
  have cr_1_3 := fdq_48 hD hth r1
  have ad_21 : v_ad (n_v vs 21) = w_ar ws (n_v vs 0) 4 := congrArg v_ad f0
  simp only [ad_21] at f24
  have h24 : v_iv (n_v vs 22) = w_ei w1 (w_ar ws (n_v vs 0) 4) (v_iv (n_v vs 9)) := f24
  simp only [ar_0_1_1, ar_0_2_1, ar_0_4_1, ar_1_2_1, ar_1_3_1] at f37
  have fe_0_3_1 : w_fi ws (n_v vs 0) 3 = w_fi w1 (n_v vs 0) 3 := congrArg v_iv (s1.2 _ _)
  have hE_0_1_1 : ∀ j : Int, w_ei ws (w_ar ws (n_v vs 0) 1) j = w_ei w1 (w_ar ws (n_v vs 0) 1) j := el_kp s1.1 r21 cr_0_1 (by decide)
  have hE_0_2_1 : ∀ j : Int, w_ei ws (w_ar ws (n_v vs 0) 2) j = w_ei w1 (w_ar ws (n_v vs 0) 2) j := el_kp s1.1 r21 cr_0_2 (by decide)
  have hE_0_4_1 : ∀ j : Int, 0 ≤ j → (j = v_iv (n_v vs 9) → w_ei ws (w_ar ws (n_v vs 0) 4) j = v_iv (n_v vs 24)) ∧ (j ≠ v_iv (n_v vs 9) → w_ei ws (w_ar ws (n_v vs 0) 4) j = w_ei w1 (w_ar ws (n_v vs 0) 4) j) := fun j hj => ⟨fun h => by unfold w_ei; rw [s1.1, if_pos ⟨ad_21.symm, by rw [h]⟩], fun h => by unfold w_ei; rw [s1.1, if_neg (fun e => h (by have := e.2; omega))]⟩
  have hE_1_2_1 : ∀ j : Int, w_ei ws (w_ar ws (n_v vs 1) 2) j = w_ei w1 (w_ar ws (n_v vs 1) 2) j := el_kp s1.1 r21 cr_1_2 (by decide)
  have hE_1_3_1 : ∀ j : Int, w_ei ws (w_ar ws (n_v vs 1) 3) j = w_ei w1 (w_ar ws (n_v vs 1) 3) j := el_kp s1.1 r21 cr_1_3 (by decide)
  have kz_0_3 := fdq_13 hD hth r0
  have nf0 : fc_1 PRD (20, [7, 8, 6, 25, 9], [60, 0, 4, 885, 1, 4, 1002, 1003]) ws (vs) := by
    refine ⟨nf_in hl rfl, sgq_431 ?_⟩
    · show CO2 (w_ei ws (w_ar ws (n_v vs 7) 1)) (w_ei ws (w_ar ws (n_v vs 7) 4)) (w_ei ws (w_ar ws (n_v vs 8) 2)) (w_ei ws (w_ar ws (n_v vs 8) 3)) (v_iv (n_v vs 6)) (v_iv (n_v vs 25)) (v_iv (n_v vs 9))
      simp only [q7, q8]
      exact vc_Pn_placeNext_15_0 (v_iv (n_v vs 6)) (v_iv (n_v vs 9)) (v_iv (n_v vs 11)) (v_iv (n_v vs 12)) (v_iv (n_v vs 18)) (v_iv (n_v vs 19)) (v_iv (n_v vs 20)) (v_iv (n_v vs 22)) (v_iv (n_v vs 23)) (v_iv (n_v vs 24)) (v_iv (n_v vs 25)) (w_fi ws (n_v vs 0) 3) (w_ei ws (w_ar ws (n_v vs 0) 1)) (w_ei ws (w_ar ws (n_v vs 0) 2)) (w_ei w1 (w_ar ws (n_v vs 0) 4)) (w_ei w1 (w_ar ws (n_v vs 0) 1)) (w_ei w1 (w_ar ws (n_v vs 0) 2)) (w_fi w1 (n_v vs 0) 3) (w_ei w1 (w_ar ws (n_v vs 1) 2)) (w_ei w1 (w_ar ws (n_v vs 1) 3)) (w_ei ws (w_ar ws (n_v vs 0) 4)) (w_ei ws (w_ar ws (n_v vs 1) 2)) (w_ei ws (w_ar ws (n_v vs 1) 3)) k6 k9 k11 k12 k18 k19 k20 k22 k23 k24 k25 d1 d2 f4 f22 h24 f37 fe_0_3_1 hE_0_1_1 hE_0_2_1 hE_0_4_1 hE_1_2_1 hE_1_3_1 kz_0_3
  have nf1 : fc_1 PRD (20, [25, 10], [50, 0, 0, 2, 6, 0, 2, 0, 1, 1, 0, 0, 6, 4, 2, 1, 1, 0, 1, 1, 0]) ws (vs) := ⟨nf_in hl rfl, sgq_1397 (vc_Pn_placeNext_15_1 (v_iv (n_v vs 6)) (v_iv (n_v vs 10)) (v_iv (n_v vs 11)) (v_iv (n_v vs 25)) (w_fi ws (n_v vs 0) 3) (w_ei ws (w_ar ws (n_v vs 0) 1)) (w_ei ws (w_ar ws (n_v vs 0) 2)) (w_ei w1 (w_ar ws (n_v vs 0) 1)) (w_ei w1 (w_ar ws (n_v vs 0) 2)) (w_fi w1 (n_v vs 0) 3) (w_ei w1 (w_ar ws (n_v vs 1) 2)) (w_ei w1 (w_ar ws (n_v vs 1) 3)) (w_ei ws (w_ar ws (n_v vs 1) 2)) (w_ei ws (w_ar ws (n_v vs 1) 3)) k10 k11 k25 d1 d2 fe_0_3_1 hE_0_1_1 hE_0_2_1 hE_1_2_1 hE_1_3_1 kz_0_3)⟩
  refine ⟨(fun _ h => (by cases h)), [], trivial, ?_, (fun _ h => (by cases h))⟩
  rw [List.append_nil]
  exact List.forall_mem_cons.mpr ⟨⟨show (20 : Nat) < 100 from by decide, nf0⟩, List.forall_mem_cons.mpr ⟨⟨show (20 : Nat) < 100 from by decide, nf1⟩, (fun _ h => (by cases h))⟩⟩

set_option maxHeartbeats 4000000 in
theorem vc_Pn_placeNext_16_0 (x6 : Int) (x9 : Int) (x12 : Int) (x14 : Int) (x18 : Int) (x19 : Int) (x20 : Int) (x22 : Int) (x23 : Int) (x24 : Int) (x25 : Int) (x26 : Int) (lineLength_0 : Int) (order_0 : Int → Int) (line_0 : Int → Int) (under_1 : Int → Int) (line_1 : Int → Int) (order_1 : Int → Int) (lineLength_1 : Int) (x_1o1 : Int → Int) (y_1o1 : Int → Int) (under_0 : Int → Int) (x_0o1 : Int → Int) (y_0o1 : Int → Int) (k6 : 3 ≤ x6 ∧ x6 ≤ 23) (k9 : 0 ≤ x9 ∧ x9 ≤ 23) (k12 : 1 ≤ x12 ∧ x12 ≤ 22) (k14 : 2 ≤ x14 ∧ x14 ≤ 24) (k18 : 3 ≤ x18 ∧ x18 ≤ 23) (k19 : 1 ≤ x19 ∧ x19 ≤ 23) (k20 : 0 ≤ x20 ∧ x20 ≤ 23) (k22 : 0 ≤ x22 ∧ x22 ≤ 16777215) (k23 : 0 ≤ x23 ∧ x23 ≤ 23) (k24 : 0 ≤ x24 ∧ x24 ≤ 16777215) (k25 : 0 ≤ x25 ∧ x25 ≤ 16777215) (k26 : 2 ≤ x26 ∧ x26 ≤ 23) (d0 : x12 + 1 ≤ x26 ∧ x26 ≤ x12 + 1) (d2 : x14 + (-4294967296) ≤ x26 ∧ x26 ≤ x14 + 0) (d4 : x14 + (-4294967296) ≤ x12 ∧ x12 ≤ x14 + (-1)) (g2 : x14 = lineLength_0) (f4 : x26 = x12 + 1) (f5 : 1 * x18 + ((-1) * x6 + 0) ≤ 0) (f6 : (-1) * x18 + (1 * x6 + 0) ≤ 0) (f7 : 1 * x19 + ((-1) * x12 + 0) ≤ 0) (f8 : (-1) * x19 + (1 * x12 + 0) ≤ 0) (f9 : 1 * x20 + ((-1) * x9 + 0) ≤ 0) (f10 : (-1) * x20 + (1 * x9 + 0) ≤ 0) (f16 : x9 = order_0 (x6)) (f22 : bvp (x25) = bvp (x22) ||| bvp (x24)) (h23 : x24 = under_1 (x23)) (h24 : x23 = line_1 (x12)) (h26 : x22 = under_1 (x9)) (f35 : LNO (lineLength_1) (line_1) (order_1) (x6)) (f39 : CO2n (order_1) (under_1) (x_1o1) (y_1o1) (x18) (x19) (x20)) (fe_0_3_1 : lineLength_0 = lineLength_1) (hE_0_1_1 : ∀ j : Int, order_0 j = order_1 j) (hE_0_2_1 : ∀ j : Int, line_0 j = line_1 j) (hE_0_4_1 : ∀ j : Int, 0 ≤ j → (j = x9 → under_0 j = x25) ∧ (j ≠ x9 → under_0 j = under_1 j)) (hE_1_2_1 : ∀ j : Int, x_0o1 j = x_1o1 j) (hE_1_3_1 : ∀ j : Int, y_0o1 j = y_1o1 j) (kz_0_3 : 0 ≤ lineLength_0 ∧ lineLength_0 ≤ 24) : CO2 (order_0) (under_0) (x_0o1) (y_0o1) (x6) (x26) (x9) := by
  subst fe_0_3_1
  have e_hE_0_1_1 := funext hE_0_1_1; subst e_hE_0_1_1
  have e_hE_0_2_1 := funext hE_0_2_1; subst e_hE_0_2_1
  have e_hE_1_2_1 := funext hE_1_2_1; subst e_hE_1_2_1
  have e_hE_1_3_1 := funext hE_1_3_1; subst e_hE_1_3_1
  first
    | (have g := ‹CO2n _ _ _ _ _ _ _›
       have l := ‹LNO _ _ _ _›
       rw [show x18 = x6 by omega, show x19 = x12 by omega, show x20 = x9 by omega] at g
       exact co2_step (a := x24) g (by omega) (by assumption) rfl (by omega) (by assumption) (fun z => (bit_or (by assumption) z).1) (Or.inr ⟨x23, lno_toq (q := x12) l (by omega) (by omega) (by assumption), by assumption⟩))
set_option maxHeartbeats 4000000 in
theorem vc_Pn_placeNext_16_1 (x6 : Int) (x10 : Int) (x12 : Int) (x26 : Int) (lineLength_0 : Int) (order_0 : Int → Int) (line_0 : Int → Int) (line_1 : Int → Int) (order_1 : Int → Int) (lineLength_1 : Int) (x_1o1 : Int → Int) (y_1o1 : Int → Int) (x_0o1 : Int → Int) (y_0o1 : Int → Int) (k10 : 0 ≤ x10 ∧ x10 ≤ 21) (k12 : 1 ≤ x12 ∧ x12 ≤ 22) (k26 : 2 ≤ x26 ∧ x26 ≤ 23) (d0 : x12 + 1 ≤ x26 ∧ x26 ≤ x12 + 1) (d5 : x12 + (-4294967296) ≤ x10 ∧ x10 ≤ x12 + (-1)) (fe_0_3_1 : lineLength_0 = lineLength_1) (hE_0_1_1 : ∀ j : Int, order_0 j = order_1 j) (hE_0_2_1 : ∀ j : Int, line_0 j = line_1 j) (hE_1_2_1 : ∀ j : Int, x_0o1 j = x_1o1 j) (hE_1_3_1 : ∀ j : Int, y_0o1 j = y_1o1 j) (kz_0_3 : 0 ≤ lineLength_0 ∧ lineLength_0 ≤ 24) : (1 ≤ x26) ∧ ((x10 + 1) ≤ x26) := by
  subst fe_0_3_1
  have e_hE_0_1_1 := funext hE_0_1_1; subst e_hE_0_1_1
  have e_hE_0_2_1 := funext hE_0_2_1; subst e_hE_0_2_1
  have e_hE_1_2_1 := funext hE_1_2_1; subst e_hE_1_2_1
  have e_hE_1_3_1 := funext hE_1_3_1; subst e_hE_1_3_1
  first
    | omega
    | assumption
    | (have h := (‹LNO _ _ _ _›).1; omega)
    | (rw [(hE_0_6_1 0 (by omega)).1 (by omega), show gx = x6 by omega]; assumption)
def o_Pn_placeNext_16 : or_T := (81, 27, [(0, (2, 0, 0, [7])), (1, (2, 0, 0, [0])), (3, (2, 0, 0, [102])), (6, (0, 3, 23, [])), (7, (2, 0, 0, [7])), (8, (2, 0, 0, [0])), (9, (0, 0, 23, [])), (10, (0, 0, 21, [])), (11, (0, 2, 23, [])), (12, (0, 1, 22, [])), (13, (2, 0, 0, [102])), (14, (0, 2, 24, [])), (15, (2, 0, 0, [103])), (16, (0, 0, 23, [])), (17, (0, 1, 1, [])), (18, (0, 3, 23, [])), (19, (0, 1, 23, [])), (20, (0, 0, 23, [])), (21, (2, 0, 0, [104])), (22, (0, 0, 16777215, [])), (23, (0, 0, 23, [])), (24, (0, 0, 16777215, [])), (25, (0, 0, 16777215, [])), (26, (0, 2, 23, []))], [(9, [21, 7], [4]), (9, [15, 7], [2]), (9, [14, 7], [3]), (9, [13, 7], [1]), (6, [26, 12], [1]), (23, [18, 6], [0, 1, -1]), (23, [18, 6], [0, -1, 1]), (23, [19, 12], [0, 1, -1]), (23, [19, 12], [0, -1, 1]), (23, [20, 9], [0, 1, -1]), (23, [20, 9], [0, -1, 1]), (20, [17], [50, 0, 0, 2, 6, 0, 2, 0, 1, 1, 0, 0, 2, 1, 0, 0, 2]), (20, [7, 16, 18], [60, 0, 1, 891, 1]), (20, [7, 6], [60, 1, 2, 889, 3, 2, 1]), (20, [10, 7, 11], [50, 1, 0, 1003, 2, 19, 2, 6, 0, 2, 0, 0, 1, 0, 0, 6, 4, 2, 1, 0, 0, 1, 2, 1, 3, 2, 6, 0, 2, 0, 0, 1, 2, 0, 6, 4, 2, 1, 2, 0, 1, 2, 1, 3]), (20, [12, 10], [50, 0, 0, 2, 6, 0, 2, 0, 1, 1, 0, 0, 6, 4, 2, 1, 1, 0, 1, 1, 0]), (20, [9, 7, 6], [50, 0, 1, 1001, 1, 2, 1, 0, 3, 1, 1, 1, 2]), (24, [3, 13], []), (24, [0, 7], []), (24, [1, 8], []), (100, [21, 9, 25], []), (13, [25, 22, 24], []), (16, [25, 22, 24], [1]), (10, [24, 21, 23], []), (10, [23, 15, 12], []), (7, [12, 11], [2]), (10, [22, 21, 9], []), (23, [18, 6], [0, 1, -1]), (23, [18, 6], [0, -1, 1]), (23, [19, 12], [0, 1, -1]), (23, [19, 12], [0, -1, 1]), (23, [20, 9], [0, 1, -1]), (23, [20, 9], [0, -1, 1]), (20, [17], [50, 0, 0, 2, 6, 0, 2, 0, 1, 1, 0, 0, 2, 1, 0, 0, 2]), (20, [7, 16, 18], [60, 0, 1, 891, 1]), (20, [7, 6], [60, 1, 2, 889, 3, 2, 1]), (20, [10, 7, 11], [50, 1, 0, 1003, 2, 19, 2, 6, 0, 2, 0, 0, 1, 0, 0, 6, 4, 2, 1, 0, 0, 1, 2, 1, 3, 2, 6, 0, 2, 0, 0, 1, 2, 0, 6, 4, 2, 1, 2, 0, 1, 2, 1, 3]), (20, [12, 10], [50, 0, 0, 2, 6, 0, 2, 0, 1, 1, 0, 0, 6, 4, 2, 1, 1, 0, 1, 1, 0]), (20, [9, 7, 6], [50, 0, 1, 1001, 1, 2, 1, 0, 3, 1, 1, 1, 2]), (20, [7, 8, 18, 19, 20], [60, 0, 4, 886, 1, 4, 1002, 1003]), (102, [20], [16384]), (23, [18, 6], [0, 1, -1]), (23, [18, 6], [0, -1, 1]), (23, [19, 12], [0, 1, -1]), (23, [19, 12], [0, -1, 1]), (23, [20, 9], [0, 1, -1]), (23, [20, 9], [0, -1, 1]), (7, [12, 11], [2]), (7, [12, 14], [2])], [], [], [(20, [7, 8, 6, 26, 9], [60, 0, 4, 885, 1, 4, 1002, 1003]), (20, [26, 10], [50, 0, 0, 2, 6, 0, 2, 0, 1, 1, 0, 0, 6, 4, 2, 1, 1, 0, 1, 1, 0])], [], [(26, 12, 1, 1), (26, 11, -4294967296, 0), (26, 14, -4294967296, 0), (12, 11, -4294967296, -1), (12, 14, -4294967296, -1), (10, 12, -4294967296, -1)])
theorem oo_Pn_placeNext_16 {kA : Nat → ClassId} : or_ok PRD kA GG o_Pn_placeNext_16 := by
  refine or_mk fun A ta ws vs hD hth hl => ?_
  intro t0 r0 t1 r1 t3 r3 t6 k6 t7 r7 t8 r8 t9 k9 t10 k10 t11 k11 t12 k12 t13 r13 t14 k14 t15 r15 t16 k16 t17 k17 t18 k18 t19 k19 t20 k20 t21 r21 t22 k22 t23 k23 t24 k24 t25 k25 t26 k26 d0 d1 d2 d3 d4 d5 f0 f1 f2 f3 f4 f5 f6 f7 f8 f9 f10 f11 f12 f13 f14 f15 f16 f17 f18 f19 ta1 w1 le1 s1 f21 f22 f23 f24 f25 f26 f27 f28 f29 f30 f31 f32 f33 f34 f35 f36 f37 f38 f39 ta2 w2 le2 s2 f41 f42 f43 f44 f45 f46 f47 f48
  replace f0 := shm_108 f0
  replace f1 := shm_120 f1
  replace f2 := shm_137 f2
  replace f4 := shm_4 f4
  replace f5 := shm_7 f5
  replace f6 := shm_22 f6
  replace f7 := shm_7 f7
  replace f8 := shm_22 f8
  replace f9 := shm_7 f9
  replace f10 := shm_22 f10
  replace f16 := shm_1394 f16
  replace f18 := shm_5 f18
  replace f19 := shm_5 f19
  have s1 : (∀ b j, w_el ws b j = if b = v_ad (n_v vs 21) ∧ j = (v_iv (n_v vs 9)).toNat then v_iv (n_v vs 25) else w_el w1 b j) ∧ ∀ b k, w_fd ws b k = w_fd w1 b k := s1.2
  replace f22 := shm_354 f22
  replace f23 := shm_107 f23
  replace f24 := shm_107 f24
  replace f26 := shm_107 f26
  replace f35 := shm_899 f35
  replace f39 := shm_435 f39
  have q7 : n_v vs 7 = n_v vs 0 := f18.symm
  have q8 : n_v vs 8 = n_v vs 1 := f19.symm
  simp only [q7, q8] at f0 f1 f2 f16 f35 f39
  have ar_0_1_1 : w_ar w1 (n_v vs 0) 1 = w_ar ws (n_v vs 0) 1 := congrArg v_ad (s1.2 _ _).symm
  have cr_0_1 := fdq_92 hD hth r0
  have ar_0_2_1 : w_ar w1 (n_v vs 0) 2 = w_ar ws (n_v vs 0) 2 := congrArg v_ad (s1.2 _ _).symm
  have cr_0_2 := fdq_227 hD hth r0
  have ar_0_4_1 : w_ar w1 (n_v vs 0) 4 = w_ar ws (n_v vs 0) 4 := congrArg v_ad (s1.2 _ _).symm
  have ar_1_2_1 : w_ar w1 (n_v vs 1) 2 = w_ar ws (n_v vs 1) 2 := congrArg v_ad (s1.2 _ _).symm
  have cr_1_2 := fdq_45 hD hth r1
  have ar_1_3_1 : w_ar w1 (n_v vs 1) 3 = w_ar ws (n_v vs 1) 3 := congrArg v_ad (s1.2 _ _).symm
  have cr_1_3 := fdq_48 hD hth r1
  have ad_21 : v_ad (n_v vs 21) = w_ar ws (n_v vs 0) 4 := congrArg v_ad f0
  have ad_15 : v_ad (n_v vs 15) = w_ar ws (n_v vs 0) 2 := congrArg v_ad f1
  have g2 : v_iv (n_v vs 14) = w_fi ws (n_v vs 0) 3 := congrArg v_iv f2
  simp only [ad_21] at f23
  have h23 : v_iv (n_v vs 24) = w_ei w1 (w_ar ws (n_v vs 0) 4) (v_iv (n_v vs 23)) := f23
  simp only [ad_15] at f24
  have h24 : v_iv (n_v vs 23) = w_ei w1 (w_ar ws (n_v vs 0) 2) (v_iv (n_v vs 12)) := f24
  simp only [ad_21] at f26
  have h26 : v_iv (n_v vs 22) = w_ei w1 (w_ar ws (n_v vs 0) 4) (v_iv (n_v vs 9)) := f26
  simp only [ar_0_1_1, ar_0_2_1, ar_0_4_1, ar_1_2_1, ar_1_3_1] at f35 f39
  have fe_0_3_1 : w_fi ws (n_v vs 0) 3 = w_fi w1 (n_v vs 0) 3 := congrArg v_iv (s1.2 _ _)
  have hE_0_1_1 : ∀ j : Int, w_ei ws (w_ar ws (n_v vs 0) 1) j = w_ei w1 (w_ar ws (n_v vs 0) 1) j := el_kp s1.1 r21 cr_0_1 (by decide)
  have hE_0_2_1 : ∀ j : Int, w_ei ws (w_ar ws (n_v vs 0) 2) j = w_ei w1 (w_ar ws (n_v vs 0) 2) j := el_kp s1.1 r21 cr_0_2 (by decide)
  have hE_0_4_1 : ∀ j : Int, 0 ≤ j → (j = v_iv (n_v vs 9) → w_ei ws (w_ar ws (n_v vs 0) 4) j = v_iv (n_v vs 25)) ∧ (j ≠ v_iv (n_v vs 9) → w_ei ws (w_ar ws (n_v vs 0) 4) j = w_ei w1 (w_ar ws (n_v vs 0) 4) j) := fun j hj => ⟨fun h => by unfold w_ei; rw [s1.1, if_pos ⟨ad_21.symm, by rw [h]⟩], fun h => by unfold w_ei; rw [s1.1, if_neg (fun e => h (by have := e.2; omega))]⟩
  have hE_1_2_1 : ∀ j : Int, w_ei ws (w_ar ws (n_v vs 1) 2) j = w_ei w1 (w_ar ws (n_v vs 1) 2) j := el_kp s1.1 r21 cr_1_2 (by decide)
  have hE_1_3_1 : ∀ j : Int, w_ei ws (w_ar ws (n_v vs 1) 3) j = w_ei w1 (w_ar ws (n_v vs 1) 3) j := el_kp s1.1 r21 cr_1_3 (by decide)
  have kz_0_3 := fdq_13 hD hth r0
  have nf0 : fc_1 PRD (20, [7, 8, 6, 26, 9], [60, 0, 4, 885, 1, 4, 1002, 1003]) ws (vs) := by
    refine ⟨nf_in hl rfl, sgq_431 ?_⟩
    · show CO2 (w_ei ws (w_ar ws (n_v vs 7) 1)) (w_ei ws (w_ar ws (n_v vs 7) 4)) (w_ei ws (w_ar ws (n_v vs 8) 2)) (w_ei ws (w_ar ws (n_v vs 8) 3)) (v_iv (n_v vs 6)) (v_iv (n_v vs 26)) (v_iv (n_v vs 9))
      simp only [q7, q8]
      exact vc_Pn_placeNext_16_0 (v_iv (n_v vs 6)) (v_iv (n_v vs 9)) (v_iv (n_v vs 12)) (v_iv (n_v vs 14)) (v_iv (n_v vs 18)) (v_iv (n_v vs 19)) (v_iv (n_v vs 20)) (v_iv (n_v vs 22)) (v_iv (n_v vs 23)) (v_iv (n_v vs 24)) (v_iv (n_v vs 25)) (v_iv (n_v vs 26)) (w_fi ws (n_v vs 0) 3) (w_ei ws (w_ar ws (n_v vs 0) 1)) (w_ei ws (w_ar ws (n_v vs 0) 2)) (w_ei w1 (w_ar ws (n_v vs 0) 4)) (w_ei w1 (w_ar ws (n_v vs 0) 2)) (w_ei w1 (w_ar ws (n_v vs 0) 1)) (w_fi w1 (n_v vs 0) 3) (w_ei w1 (w_ar ws (n_v vs 1) 2)) (w_ei w1 (w_ar ws (n_v vs 1) 3)) (w_ei ws (w_ar ws (n_v vs 0) 4)) (w_ei ws (w_ar ws (n_v vs 1) 2)) (w_ei ws (w_ar ws (n_v vs 1) 3)) k6 k9 k12 k14 k18 k19 k20 k22 k23 k24 k25 k26 d0 d2 d4 g2 f4 f5 f6 f7 f8 f9 f10 f16 f22 h23 h24 h26 f35 f39 fe_0_3_1 hE_0_1_1 hE_0_2_1 hE_0_4_1 hE_1_2_1 hE_1_3_1 kz_0_3
  have nf1 : fc_1 PRD (20, [26, 10], [50, 0, 0, 2, 6, 0, 2, 0, 1, 1, 0, 0, 6, 4, 2, 1, 1, 0, 1, 1, 0]) ws (vs) := ⟨nf_in hl rfl, sgq_1397 (vc_Pn_placeNext_16_1 (v_iv (n_v vs 6)) (v_iv (n_v vs 10)) (v_iv (n_v vs 12)) (v_iv (n_v vs 26)) (w_fi ws (n_v vs 0) 3) (w_ei ws (w_ar ws (n_v vs 0) 1)) (w_ei ws (w_ar ws (n_v vs 0) 2)) (w_ei w1 (w_ar ws (n_v vs 0) 2)) (w_ei w1 (w_ar ws (n_v vs 0) 1)) (w_fi w1 (n_v vs 0) 3) (w_ei w1 (w_ar ws (n_v vs 1) 2)) (w_ei w1 (w_ar ws (n_v vs 1) 3)) (w_ei ws (w_ar ws (n_v vs 1) 2)) (w_ei ws (w_ar ws (n_v vs 1) 3)) k10 k12 k26 d0 d5 fe_0_3_1 hE_0_1_1 hE_0_2_1 hE_1_2_1 hE_1_3_1 kz_0_3)⟩
  refine ⟨(fun _ h => (by cases h)), [], trivial, ?_, (fun _ h => (by cases h))⟩
  rw [List.append_nil]
  exact List.forall_mem_cons.mpr ⟨⟨show (20 : Nat) < 100 from by decide, nf0⟩, List.forall_mem_cons.mpr ⟨⟨show (20 : Nat) < 100 from by decide, nf1⟩, (fun _ h => (by cases h))⟩⟩
def n_Pn_placeNext_an : List an_T := [(8, [(0, (2, 0, 0, [7])), (1, (2, 0, 0, [0])), (2, (0, 0, 23, [])), (3, (0, (Int.negSucc 0), 23, [])), (4, (0, 0, 23, [])), (5, (0, 0, 24, []))], [], (0, 0), [(0, 0, 99992), (1, 12, 24), (0, 0, 100000)], [(2, 9, (Int.negSucc 999999999999), 0), (9, 2, (Int.negSucc 999999999999), 0), (10, 11, (Int.negSucc 999999999999), 0), (10, 12, (Int.negSucc 999999999999), (Int.negSucc 0)), (11, 12, (Int.negSucc 999999999999), 0)], [((0, 1), (2, 0, 0, [102]))], [(2, 0, 0, [7]), (2, 0, 0, [0]), (0, 0, 23, []), (2, 0, 0, [102]), (2, 0, 0, [12]), (0, 0, 3072, []), (0, 3, 23, [])], 0, [], [(20, [4, 5, 8], [62, 2000000]), (20, [7, 6], [60, 1, 2, 889, 3, 2, 1]), (20, [7, 8, 6], [60, 0, 4, 883, 1, 4, 1002, 1003]), (20, [10, 7, 11], [50, 1, 0, 1003, 2, 19, 2, 6, 0, 2, 0, (Int.negSucc 0), 1, 0, 0, 6, 4, 2, 1, 0, 0, 1, 2, 1, 3, 2, 6, 0, 2, 0, 0, 1, 2, 0, 6, 4, 2, 1, 2, 0, 1, 2, 1, 3]), (20, [9, 7, 6], [50, 0, 1, 1001, 1, 2, 1, 0, 3, 1, 1, 1, 2]), (24, [3, 13], []), (24, [0, 7], []), (24, [1, 8], [])]), (81, [(0, (2, 0, 0, [7])), (1, (2, 0, 0, [0])), (2, (0, 0, 23, [])), (3, (0, 0, 23, [])), (4, (0, 0, 23, [])), (5, (0, 1, 24, []))], [], (0, 0), [(0, 0, 99919), (1, 12, 24), (0, 0, 100000)], [(2, 9, (Int.negSucc 999999999999), 0), (9, 2, (Int.negSucc 999999999999), 0), (10, 12, (Int.negSucc 999999999999), (Int.negSucc 0))], [((0, 1), (2, 0, 0, [102]))], [(2, 0, 0, [7]), (2, 0, 0, [0]), (0, 0, 23, []), (2, 0, 0, [102]), (2, 0, 0, [12]), (0, 0, 3072, []), (0, 3, 23, [])], 0, [], [(20, [4, 5, 8], [62, 2000000]), (20, [7, 6], [60, 1, 2, 889, 3, 2, 1]), (20, [7, 8, 6, 12, 9], [60, 0, 4, 885, 1, 4, 1002, 1003]), (20, [10, 7, 11], [50, 1, 0, 1003, 2, 19, 2, 6, 0, 2, 0, 0, 1, 0, 0, 6, 4, 2, 1, 0, 0, 1, 2, 1, 3, 2, 6, 0, 2, 0, 0, 1, 2, 0, 6, 4, 2, 1, 2, 0, 1, 2, 1, 3]), (20, [12, 10], [50, 0, 0, 2, 6, 0, 2, 0, 1, 1, 0, 0, 6, 4, 2, 1, 1, 0, 1, 1, 0]), (20, [9, 7, 6], [50, 0, 1, 1001, 1, 2, 1, 0, 3, 1, 1, 1, 2]), (24, [3, 13], []), (24, [0, 7], []), (24, [1, 8], [])])]
def t_Pn_placeNext_ct : ct_L := [(1, 184, e_Pn_shiftUnder), (192, 92, e_jMath_max1_v133), (192, 92, e_jMath_max1_v134), (192, 92, e_jMath_max1_v135), (192, 92, e_jMath_max1_v136), (192, 92, e_jMath_max1_v137), (192, 92, e_jMath_max1_v138), (192, 92, e_jMath_max1_v139), (192, 92, e_jMath_max1_v140), (192, 92, e_jMath_max1_v141), (192, 92, e_jMath_max1_v142), (192, 92, e_jMath_max1_v143), (799, 168, e_Pn_replaceInLine_at_gg)]
set_option maxRecDepth 100000 in
theorem c_Pn_placeNext {l : Launch} {D : va_G} {kA : Nat → ClassId} (h_Pn_replaceInLine_at_gg : ct_ok PRD l D kA GG y_Pn_replaceInLine_at_gg z_Pn_replaceInLine_at_gg e_Pn_replaceInLine_at_gg) (h_Pn_shiftUnder : ct_ok PRD l D kA GG y_Pn_shiftUnder z_Pn_shiftUnder e_Pn_shiftUnder) : ct_ok PRD l D kA GG y_Pn_placeNext z_Pn_placeNext e_Pn_placeNext := chk_all_ok (FT := [(12, 7, 0), (22, 7, 2), (25, 7, 3), (29, 7, 4), (35, 7, 6), (87, 0, 3), (131, 5, 9), (177, 0, 2)]) (PT := []) (CT := t_Pn_placeNext_ct) (KT := []) (NT := []) (AN := n_Pn_placeNext_an) (OT := [o_Pn_placeNext_0, o_Pn_placeNext_1, o_Pn_placeNext_2, o_Pn_placeNext_3, o_Pn_placeNext_4, o_Pn_placeNext_5, o_Pn_placeNext_6, o_Pn_placeNext_7, o_Pn_placeNext_8, o_Pn_placeNext_9, o_Pn_placeNext_10, o_Pn_placeNext_11, o_Pn_placeNext_12, o_Pn_placeNext_13, o_Pn_placeNext_14, o_Pn_placeNext_15, o_Pn_placeNext_16]) 3 812 (List.forall_mem_cons.mpr ⟨oo_Pn_placeNext_0, List.forall_mem_cons.mpr ⟨oo_Pn_placeNext_1, List.forall_mem_cons.mpr ⟨oo_Pn_placeNext_2, List.forall_mem_cons.mpr ⟨oo_Pn_placeNext_3, List.forall_mem_cons.mpr ⟨oo_Pn_placeNext_4, List.forall_mem_cons.mpr ⟨oo_Pn_placeNext_5, List.forall_mem_cons.mpr ⟨oo_Pn_placeNext_6, List.forall_mem_cons.mpr ⟨oo_Pn_placeNext_7, List.forall_mem_cons.mpr ⟨oo_Pn_placeNext_8, List.forall_mem_cons.mpr ⟨oo_Pn_placeNext_9, List.forall_mem_cons.mpr ⟨oo_Pn_placeNext_10, List.forall_mem_cons.mpr ⟨oo_Pn_placeNext_11, List.forall_mem_cons.mpr ⟨oo_Pn_placeNext_12, List.forall_mem_cons.mpr ⟨oo_Pn_placeNext_13, List.forall_mem_cons.mpr ⟨oo_Pn_placeNext_14, List.forall_mem_cons.mpr ⟨oo_Pn_placeNext_15, List.forall_mem_cons.mpr ⟨oo_Pn_placeNext_16, List.forall_mem_nil _⟩⟩⟩⟩⟩⟩⟩⟩⟩⟩⟩⟩⟩⟩⟩⟩⟩) (by decide +kernel) ⟨List.forall_mem_cons.mpr ⟨gf_Pn_12, List.forall_mem_cons.mpr ⟨gf_Pn_22, List.forall_mem_cons.mpr ⟨gf_Pn_25, List.forall_mem_cons.mpr ⟨gf_Pn_29, List.forall_mem_cons.mpr ⟨gf_Pn_35, List.forall_mem_cons.mpr ⟨gf_Pn_87, List.forall_mem_cons.mpr ⟨gf_Pn_131, List.forall_mem_cons.mpr ⟨gf_Pn_177, List.forall_mem_nil _⟩⟩⟩⟩⟩⟩⟩⟩, List.forall_mem_nil _, List.forall_mem_cons.mpr ⟨cl_virtual (y := y_Pn_shiftUnder) (ci := 7) rfl rfl ⟨_, _, rfl⟩ (by decide +kernel) h_Pn_shiftUnder wm_1578 wm_20 wm_1575 wm_1577 wv_6_15 ⟨by decide, by decide, by decide +kernel⟩ (by decide), List.forall_mem_cons.mpr ⟨cl_static (y := y_jMath_max1) c_jMath_max1_v133 wm_836 wm_10 wm_1574 wm_835 ⟨by decide, by decide, by decide +kernel⟩ (by decide), List.forall_mem_cons.mpr ⟨cl_static (y := y_jMath_max1) c_jMath_max1_v134 wm_836 wm_10 wm_1574 wm_835 ⟨by decide, by decide, by decide +kernel⟩ (by decide), List.forall_mem_cons.mpr ⟨cl_static (y := y_jMath_max1) c_jMath_max1_v135 wm_836 wm_10 wm_1574 wm_835 ⟨by decide, by decide, by decide +kernel⟩ (by decide), List.forall_mem_cons.mpr ⟨cl_static (y := y_jMath_max1) c_jMath_max1_v136 wm_836 wm_10 wm_1574 wm_835 ⟨by decide, by decide, by decide +kernel⟩ (by decide), List.forall_mem_cons.mpr ⟨cl_static (y := y_jMath_max1) c_jMath_max1_v137 wm_836 wm_10 wm_1574 wm_835 ⟨by decide, by decide, by decide +kernel⟩ (by decide), List.forall_mem_cons.mpr ⟨cl_static (y := y_jMath_max1) c_jMath_max1_v138 wm_836 wm_10 wm_1574 wm_835 ⟨by decide, by decide, by decide +kernel⟩ (by decide), List.forall_mem_cons.mpr ⟨cl_static (y := y_jMath_max1) c_jMath_max1_v139 wm_836 wm_10 wm_1574 wm_835 ⟨by decide, by decide, by decide +kernel⟩ (by decide), List.forall_mem_cons.mpr ⟨cl_static (y := y_jMath_max1) c_jMath_max1_v140 wm_836 wm_10 wm_1574 wm_835 ⟨by decide, by decide, by decide +kernel⟩ (by decide), List.forall_mem_cons.mpr ⟨cl_static (y := y_jMath_max1) c_jMath_max1_v141 wm_836 wm_10 wm_1574 wm_835 ⟨by decide, by decide, by decide +kernel⟩ (by decide), List.forall_mem_cons.mpr ⟨cl_static (y := y_jMath_max1) c_jMath_max1_v142 wm_836 wm_10 wm_1574 wm_835 ⟨by decide, by decide, by decide +kernel⟩ (by decide), List.forall_mem_cons.mpr ⟨cl_static (y := y_jMath_max1) c_jMath_max1_v143 wm_836 wm_10 wm_1574 wm_835 ⟨by decide, by decide, by decide +kernel⟩ (by decide), List.forall_mem_cons.mpr ⟨cl_virtual (y := y_Pn_replaceInLine_at_gg) (ci := 7) rfl rfl ⟨_, _, rfl⟩ (by decide +kernel) h_Pn_replaceInLine_at_gg wm_1564 wm_20 wm_1561 wm_1563 wv_6_12 ⟨by decide, by decide, by decide +kernel⟩ (by decide), List.forall_mem_nil _⟩⟩⟩⟩⟩⟩⟩⟩⟩⟩⟩⟩⟩, List.forall_mem_nil _, List.forall_mem_nil _, GG_pl⟩ (by decide +kernel)
set_option maxHeartbeats 4000000 in
theorem vc_Re_meetNode_at_ga_0_r0 (x5 : Int) (x6 : Int) (x7 : Int) (begin_0 : Int) (next_0 : Int) (k5 : 0 ≤ x5 ∧ x5 ≤ 2000) (k6 : 0 ≤ x6 ∧ x6 ≤ 2000) (k7 : (-2000) ≤ x7 ∧ x7 ≤ 2000) (f0 : x7 = x6 - x5) (g1 : x5 = begin_0) (g2 : x6 = next_0) (f4 : 1 * next_0 + ((-1) * begin_0 + 0) ≤ 8) (f5 : (-1) * next_0 + (1 * begin_0 + 0) ≤ 0) (kz_0_6 : 0 ≤ next_0 ∧ next_0 ≤ 2000) (kz_0_8 : 0 ≤ begin_0 ∧ begin_0 ≤ 2000) : 0 ≤ x7 ∧ x7 ≤ 8 := by
  first
    | omega
  
set_option maxHeartbeats 4000000 in
theorem vc_Re_meetNode_at_ga_0_0 (x5 : Int) (x6 : Int) (x7 : Int) (begin_0 : Int) (next_0 : Int) (k5 : 0 ≤ x5 ∧ x5 ≤ 2000) (k6 : 0 ≤ x6 ∧ x6 ≤ 2000) (k7 : (-2000) ≤ x7 ∧ x7 ≤ 2000) (f0 : x7 = x6 - x5) (g1 : x5 = begin_0) (g2 : x6 = next_0) (kz_0_6 : 0 ≤ next_0 ∧ next_0 ≤ 2000) (kz_0_8 : 0 ≤ begin_0 ∧ begin_0 ≤ 2000) : x5 + x7 ≤ 2000 := by
  first
    | omega
  
set_option maxHeartbeats 4000000 in
theorem vc_Re_meetNode_at_ga_0_1 (nodes_0o1 : Int) (gx : Int) (kz_1_0 : 0 ≤ nodes_0o1 ∧ nodes_0o1 ≤ 24) (ex2 : gx = nodes_0o1) : 1 * nodes_0o1 + ((-1) * gx + 0) ≤ 0 := by
  first
    | omega
  
set_option maxHeartbeats 4000000 in
theorem vc_Re_meetNode_at_ga_0_2 (nodes_0o1 : Int) (gx : Int) (kz_1_0 : 0 ≤ nodes_0o1 ∧ nodes_0o1 ≤ 24) (ex2 : gx = nodes_0o1) : (-1) * nodes_0o1 + (1 * gx + 0) ≤ 0 := by
  first
    | omega
  
def o_Re_meetNode_at_ga_0 : or_T := (21, 8, [(0, (2, 0, 0, [8])), (1, (2, 0, 0, [164])), (2, (0, 0, 23, [])), (3, (0, 0, 2000, [])), (4, (2, 0, 0, [109])), (5, (0, 0, 2000, [])), (6, (0, 0, 2000, [])), (7, (0, -2000, 2000, []))], [(2, [7, 6, 5], []), (9, [5, 0], [8]), (9, [6, 0], [6]), (9, [4, 0], [0]), (20, [0, 0], [30, 8, 1, 1, 6, -1, 1, 8]), (20, [0, 0], [30, 0, -1, 1, 6, 1, 1, 8]), (20, [1], [60, 2, 3, 670, 0, 1, 14, 7, 8]), (20, [1], [60, 2, 2, 596, 0, 1, 7, 8]), (20, [2, 1], [50, 1, 0, 1000, 2, 6, 0, 2, 0, 0, 1, 0, 0, 6, 4, 2, 1, 0, 0, 1, 2, 1, 0]), (20, [0, 3], [30, 0, 1, 1, 5, -1, 0, 0]), (20, [0, 3], [30, 0, -1, 1, 5, 1, 0, 0]), (20, [0, 1], [60, 6, 5, 1065, 5, 6, 8, 1000, 1001, 1002, 0, 1004, 1003, 1007, 1008])], [(7, (0, 0, 8, []))], [(0, 0, 24, [])], [(21, [5, 7], [2000]), (20, [1, 8], [30, 0, 1, 1, 0, -1, 0, 0]), (20, [1, 8], [30, 0, -1, 1, 0, 1, 0, 0])], [], [(7, 6, -2000, 0)])
theorem oo_Re_meetNode_at_ga_0 {kA : Nat → ClassId} : or_ok PRD kA GG o_Re_meetNode_at_ga_0 := by
  refine or_mk fun A ta ws vs hD hth hl => ?_
  intro t0 r0 t1 r1 t2 k2 t3 k3 t4 r4 t5 k5 t6 k6 t7 k7 d0 f0 f1 f2 f3 f4 f5 f6 f7 f8 f9 f10 f11
  replace f0 := shm_14 f0
  replace f1 := shm_293 f1
  replace f2 := shm_111 f2
  replace f4 := shm_1401 f4
  replace f5 := shm_1402 f5
  have g1 : v_iv (n_v vs 5) = w_fi ws (n_v vs 0) 8 := congrArg v_iv f1
  have g2 : v_iv (n_v vs 6) = w_fi ws (n_v vs 0) 6 := congrArg v_iv f2
  have kz_0_6 := fdq_208 hD hth r0
  have kz_0_8 := fdq_99 hD hth r0
  have kz_1_0 := fdq_73 hD hth r1
  obtain ⟨x, ex, hx⟩ := iv_ex (ta := ta) (lo := 0) (hi := 24) (z := w_fi ws (n_v vs 1) 0) (by omega) (by omega) (by omega) (by omega)
  have ex2 : v_iv (Value.int x) = w_fi ws (n_v vs 1) 0 := ex
  have ex3 : 0 ≤ v_iv (Value.int x) ∧ v_iv (Value.int x) ≤ 24 := tv_rng hx
  have hrf0 : 0 ≤ v_iv (n_v vs 7) ∧ v_iv (n_v vs 7) ≤ 8 := vc_Re_meetNode_at_ga_0_r0 (v_iv (n_v vs 5)) (v_iv (n_v vs 6)) (v_iv (n_v vs 7)) (w_fi ws (n_v vs 0) 8) (w_fi ws (n_v vs 0) 6) k5 k6 k7 f0 g1 g2 f4 f5 kz_0_6 kz_0_8
  have e_1 : n_v (vs ++ [Value.int x]) 1 = n_v vs 1 := n_v_old (by rw [hl]; decide)
  have e_5 : n_v (vs ++ [Value.int x]) 5 = n_v vs 5 := n_v_old (by rw [hl]; decide)
  have e_7 : n_v (vs ++ [Value.int x]) 7 = n_v vs 7 := n_v_old (by rw [hl]; decide)
  have e_8 : n_v (vs ++ [Value.int x]) 8 = Value.int x := n_v_new hl
  have nf0 : fc_1 PRD (21, [5, 7], [2000]) ws (vs ++ [Value.int x]) := by
    refine ⟨nf_inA hl rfl, sgq_831 ?_⟩
    · show v_iv (n_v (vs ++ [Value.int x]) 5) + v_iv (n_v (vs ++ [Value.int x]) 7) ≤ 2000
      simp only [e_5, e_7]
      exact vc_Re_meetNode_at_ga_0_0 (v_iv (n_v vs 5)) (v_iv (n_v vs 6)) (v_iv (n_v vs 7)) (w_fi ws (n_v vs 0) 8) (w_fi ws (n_v vs 0) 6) k5 k6 k7 f0 g1 g2 kz_0_6 kz_0_8
  have nf1 : fc_1 PRD (20, [1, 8], [30, 0, 1, 1, 0, -1, 0, 0]) ws (vs ++ [Value.int x]) := by
    refine ⟨nf_inA hl rfl, sgq_844 ?_⟩
    · show 1 * w_fi ws (n_v (vs ++ [Value.int x]) 1) 0 + ((-1) * v_iv (n_v (vs ++ [Value.int x]) 8) + 0) ≤ 0
      simp only [e_1, e_8]
      exact vc_Re_meetNode_at_ga_0_1 (w_fi ws (n_v vs 1) 0) (v_iv (Value.int x)) kz_1_0 ex2
  have nf2 : fc_1 PRD (20, [1, 8], [30, 0, -1, 1, 0, 1, 0, 0]) ws (vs ++ [Value.int x]) := by
    refine ⟨nf_inA hl rfl, sgq_845 ?_⟩
    · show (-1) * w_fi ws (n_v (vs ++ [Value.int x]) 1) 0 + (1 * v_iv (n_v (vs ++ [Value.int x]) 8) + 0) ≤ 0
      simp only [e_1, e_8]
      exact vc_Re_meetNode_at_ga_0_2 (w_fi ws (n_v vs 1) 0) (v_iv (Value.int x)) kz_1_0 ex2
  have rf7 : tv_ok ta (0, 0, 8, []) (n_v vs 7) := tv_in t7 (by first | omega | grind) (by first | omega | grind)
  exact ⟨List.forall_mem_cons.mpr ⟨rf7, (fun _ h => (by cases h))⟩, [Value.int x], ag_one hx, List.forall_mem_cons.mpr ⟨⟨show (21 : Nat) < 100 from by decide, nf0⟩, List.forall_mem_cons.mpr ⟨⟨show (20 : Nat) < 100 from by decide, nf1⟩, List.forall_mem_cons.mpr ⟨⟨show (20 : Nat) < 100 from by decide, nf2⟩, (fun _ h => (by cases h))⟩⟩⟩, (fun _ h => (by cases h))⟩
set_option maxHeartbeats 4000000 in
theorem vc_Re_meetNode_at_ga_1_0 (x5 : Int) (x6 : Int) (x7 : Int) (x8 : Int) (x13 : Int) (x14 : Int) (x15 : Int) (x16 : Int) (groups_0o1 : Int) (edges_0o1 : Int) (nodes_0o1 : Int) (nameLength_0o1 : Int → Int) (name_0o1 : Int → Int) (tape_0 : Int → Int) (begin_0 : Int) (next_0 : Int) (tail_0o1 : Int → Int) (head_0o1 : Int → Int) (end_0 : Int) (k5 : 0 ≤ x5 ∧ x5 ≤ 2000) (k6 : 0 ≤ x6 ∧ x6 ≤ 2000) (k7 : 0 ≤ x7 ∧ x7 ≤ 8) (k8 : 0 ≤ x8 ∧ x8 ≤ 24) (k13 : 0 ≤ x13 ∧ x13 ≤ 24) (k14 : 0 ≤ x14 ∧ x14 ≤ 48) (k15 : 0 ≤ x15 ∧ x15 ≤ 8) (k16 : 0 ≤ x16 ∧ x16 ≤ 23) (g0 : x15 = groups_0o1) (g1 : x14 = edges_0o1) (g2 : x13 = nodes_0o1) (f9 : cFNp (nameLength_0o1) (name_0o1) (tape_0) (x8) (x5) (x7) (x16)) (f10 : nodes_0o1 = x8) (f14 : x7 = x6 - x5) (g15 : x5 = begin_0) (g16 : x6 = next_0) (f25 : CGT (end_0) (next_0) (begin_0) (nodes_0o1) (edges_0o1) (groups_0o1) (tape_0) (nameLength_0o1) (name_0o1) (tail_0o1) (head_0o1)) (kz_0_5 : 0 ≤ end_0 ∧ end_0 ≤ 2000) (kz_0_6 : 0 ≤ next_0 ∧ next_0 ≤ 2000) (kz_0_8 : 0 ≤ begin_0 ∧ begin_0 ≤ 2000) (kz_1_0 : 0 ≤ nodes_0o1 ∧ nodes_0o1 ≤ 24) (kz_1_1 : 0 ≤ edges_0o1 ∧ edges_0o1 ≤ 48) (kz_1_2 : 0 ≤ groups_0o1 ∧ groups_0o1 ≤ 8) : CGM (end_0) (next_0) (begin_0) (nodes_0o1) (edges_0o1) (groups_0o1) (tape_0) (nameLength_0o1) (name_0o1) (tail_0o1) (head_0o1) (x16) := by
  first | subst g0 | skip
  first | subst g1 | skip
  first | subst g2 | skip
  first | subst g15 | skip
  first | subst g16 | skip
  first
    | exact mt_old ‹CGT _ _ _ _ _ _ _ _ _ _ _› ‹cFNp _ _ _ _ _ _ _› (by omega) (by omega) (by omega) (by omega)
    | exact mt_pm ‹CGMp _ _ _ _ _ _ _ _ _ _ _ _› (by omega) (by omega) (by omega) (by omega) (by omega) (by omega)
def o_Re_meetNode_at_ga_1 : or_T := (77, 18, [(0, (2, 0, 0, [8])), (1, (2, 0, 0, [164])), (5, (0, 0, 2000, [])), (6, (0, 0, 2000, [])), (7, (0, 0, 8, [])), (8, (0, 0, 24, [])), (13, (0, 0, 24, [])), (14, (0, 0, 48, [])), (15, (0, 0, 8, [])), (16, (0, 0, 23, []))], [(9, [15, 1], [2]), (9, [14, 1], [1]), (9, [13, 1], [0]), (9, [10, 1], [4]), (9, [9, 1], [3]), (20, [10, 9, 4, 8, 5, 7, 16], [61, 3, 1091]), (20, [1, 8], [50, 1, 0, 0, 1, 3, 2, 0, 0, 1, 1]), (2, [7, 6, 5], []), (9, [5, 0], [8]), (9, [6, 0], [6]), (9, [4, 0], [0]), (20, [0, 1], [60, 6, 5, 1065, 5, 6, 8, 1000, 1001, 1002, 0, 1004, 1003, 1007, 1008])], [], [], [(20, [0, 1, 16], [60, 6, 5, 1066, 5, 6, 8, 1000, 1001, 1002, 0, 1004, 1003, 1007, 1008])], [], [])
theorem oo_Re_meetNode_at_ga_1 {kA : Nat → ClassId} : or_ok PRD kA GG o_Re_meetNode_at_ga_1 := by
  refine or_mk fun A ta ws vs hD hth hl => ?_
  intro t0 r0 t1 r1 t5 k5 t6 k6 t7 k7 t8 k8 t13 k13 t14 k14 t15 k15 t16 k16 f0 f1 f2 f5 f6 f9 f10 f14 f15 f16 f17 f25
  replace f0 := shm_120 f0
  replace f1 := shm_215 f1
  replace f2 := shm_163 f2
  replace f5 := shm_108 f5
  replace f6 := shm_137 f6
  replace f9 := shm_848 f9
  replace f15 := shm_293 f15
  replace f16 := shm_111 f16
  replace f17 := shm_163 f17
  have ad_10 : v_ad (n_v vs 10) = w_ar ws (n_v vs 1) 4 := congrArg v_ad f5
  have ad_9 : v_ad (n_v vs 9) = w_ar ws (n_v vs 1) 3 := congrArg v_ad f6
  have ad_4 : v_ad (n_v vs 4) = w_ar ws (n_v vs 0) 0 := congrArg v_ad f17
  have g0 : v_iv (n_v vs 15) = w_fi ws (n_v vs 1) 2 := congrArg v_iv f0
  have g1 : v_iv (n_v vs 14) = w_fi ws (n_v vs 1) 1 := congrArg v_iv f1
  have g2 : v_iv (n_v vs 13) = w_fi ws (n_v vs 1) 0 := congrArg v_iv f2
  simp only [ad_4, ad_9, ad_10] at f9
  have g15 : v_iv (n_v vs 5) = w_fi ws (n_v vs 0) 8 := congrArg v_iv f15
  have g16 : v_iv (n_v vs 6) = w_fi ws (n_v vs 0) 6 := congrArg v_iv f16
  have kz_0_5 := fdq_207 hD hth r0
  have kz_0_6 := fdq_208 hD hth r0
  have kz_0_8 := fdq_99 hD hth r0
  have kz_1_0 := fdq_73 hD hth r1
  have kz_1_1 := fdq_74 hD hth r1
  have kz_1_2 := fdq_206 hD hth r1
  have nf0 : fc_1 PRD (20, [0, 1, 16], [60, 6, 5, 1066, 5, 6, 8, 1000, 1001, 1002, 0, 1004, 1003, 1007, 1008]) ws (vs) := ⟨nf_in hl rfl, sgq_1406 (vc_Re_meetNode_at_ga_1_0 (v_iv (n_v vs 5)) (v_iv (n_v vs 6)) (v_iv (n_v vs 7)) (v_iv (n_v vs 8)) (v_iv (n_v vs 13)) (v_iv (n_v vs 14)) (v_iv (n_v vs 15)) (v_iv (n_v vs 16)) (w_fi ws (n_v vs 1) 2) (w_fi ws (n_v vs 1) 1) (w_fi ws (n_v vs 1) 0) (w_ei ws (w_ar ws (n_v vs 1) 4)) (w_ei ws (w_ar ws (n_v vs 1) 3)) (w_ei ws (w_ar ws (n_v vs 0) 0)) (w_fi ws (n_v vs 0) 8) (w_fi ws (n_v vs 0) 6) (w_ei ws (w_ar ws (n_v vs 1) 7)) (w_ei ws (w_ar ws (n_v vs 1) 8)) (w_fi ws (n_v vs 0) 5) k5 k6 k7 k8 k13 k14 k15 k16 g0 g1 g2 f9 (shm_570 f10) (shm_14 f14) g15 g16 (shm_1405 f25) kz_0_5 kz_0_6 kz_0_8 kz_1_0 kz_1_1 kz_1_2)⟩
  refine ⟨(fun _ h => (by cases h)), [], trivial, ?_, (fun _ h => (by cases h))⟩
  rw [List.append_nil]
  exact List.forall_mem_cons.mpr ⟨⟨show (20 : Nat) < 100 from by decide, nf0⟩, (fun _ h => (by cases h))⟩
set_option maxHeartbeats 4000000 in
theorem vc_Re_meetNode_at_ga_2_0 (x2 : Int) (x13 : Int) (nodes_0o1 : Int) (k2 : 0 ≤ x2 ∧ x2 ≤ 23) (k13 : 0 ≤ x13 ∧ x13 ≤ 24) (g6 : x13 = nodes_0o1) (f22 : (0 ≤ x2) ∧ ((x2 + 1) ≤ nodes_0o1)) (kz_1_0 : 0 ≤ nodes_0o1 ∧ nodes_0o1 ≤ 24) : (x2 + 1) ≤ x13 := by
  first
    | omega
  
def o_Re_meetNode_at_ga_2 : or_T := (39, 19, [(1, (2, 0, 0, [164])), (2, (0, 0, 23, [])), (13, (0, 0, 24, []))], [(9, [13, 1], [0]), (20, [2, 1], [50, 1, 0, 1000, 2, 6, 0, 2, 0, 0, 1, 0, 0, 6, 4, 2, 1, 0, 0, 1, 2, 1, 0])], [], [], [(20, [2, 13], [50, 0, 0, 0, 6, 4, 2, 1, 0, 0, 1, 1, 1])], [], [])
theorem oo_Re_meetNode_at_ga_2 {kA : Nat → ClassId} : or_ok PRD kA GG o_Re_meetNode_at_ga_2 := by
  refine or_mk fun A ta ws vs hD hth hl => ?_
  intro t1 r1 t2 k2 t13 k13 f6 f22
  replace f6 := shm_163 f6
  have g6 : v_iv (n_v vs 13) = w_fi ws (n_v vs 1) 0 := congrArg v_iv f6
  have kz_1_0 := fdq_73 hD hth r1
  have nf0 : fc_1 PRD (20, [2, 13], [50, 0, 0, 0, 6, 4, 2, 1, 0, 0, 1, 1, 1]) ws (vs) := ⟨nf_in hl rfl, sgq_396 (vc_Re_meetNode_at_ga_2_0 (v_iv (n_v vs 2)) (v_iv (n_v vs 13)) (w_fi ws (n_v vs 1) 0) k2 k13 g6 (shm_416 f22) kz_1_0)⟩
  refine ⟨(fun _ h => (by cases h)), [], trivial, ?_, (fun _ h => (by cases h))⟩
  rw [List.append_nil]
  exact List.forall_mem_cons.mpr ⟨⟨show (20 : Nat) < 100 from by decide, nf0⟩, (fun _ h => (by cases h))⟩
set_option maxHeartbeats 4000000 in
theorem vc_Re_meetNode_at_ga_3_0 (x5 : Int) (x6 : Int) (x7 : Int) (x8 : Int) (x13 : Int) (x14 : Int) (x15 : Int) (x16 : Int) (groups_0o1 : Int) (edges_0o1 : Int) (nodes_0o1 : Int) (nameLength_0o1 : Int → Int) (name_0o1 : Int → Int) (tape_0 : Int → Int) (begin_0 : Int) (next_0 : Int) (tail_0o1 : Int → Int) (head_0o1 : Int → Int) (end_0 : Int) (k5 : 0 ≤ x5 ∧ x5 ≤ 2000) (k6 : 0 ≤ x6 ∧ x6 ≤ 2000) (k7 : 0 ≤ x7 ∧ x7 ≤ 8) (k8 : 0 ≤ x8 ∧ x8 ≤ 24) (k13 : 24 ≤ x13 ∧ x13 ≤ 24) (k14 : 0 ≤ x14 ∧ x14 ≤ 48) (k15 : 0 ≤ x15 ∧ x15 ≤ 8) (k16 : (-1) ≤ x16 ∧ x16 ≤ (-1)) (g0 : x15 = groups_0o1) (g1 : x14 = edges_0o1) (g8 : x13 = nodes_0o1) (f11 : cFNp (nameLength_0o1) (name_0o1) (tape_0) (x8) (x5) (x7) (x16)) (f12 : nodes_0o1 = x8) (f16 : x7 = x6 - x5) (g17 : x5 = begin_0) (g18 : x6 = next_0) (f27 : CGT (end_0) (next_0) (begin_0) (nodes_0o1) (edges_0o1) (groups_0o1) (tape_0) (nameLength_0o1) (name_0o1) (tail_0o1) (head_0o1)) (kz_0_5 : 0 ≤ end_0 ∧ end_0 ≤ 2000) (kz_0_6 : 0 ≤ next_0 ∧ next_0 ≤ 2000) (kz_0_8 : 0 ≤ begin_0 ∧ begin_0 ≤ 2000) (kz_1_0 : 0 ≤ nodes_0o1 ∧ nodes_0o1 ≤ 24) (kz_1_1 : 0 ≤ edges_0o1 ∧ edges_0o1 ≤ 48) (kz_1_2 : 0 ≤ groups_0o1 ∧ groups_0o1 ≤ 8) : CGM (end_0) (next_0) (begin_0) (nodes_0o1) (edges_0o1) (groups_0o1) (tape_0) (nameLength_0o1) (name_0o1) (tail_0o1) (head_0o1) (x16) := by
  first | subst g0 | skip
  first | subst g1 | skip
  first | subst g8 | skip
  first | subst g17 | skip
  first | subst g18 | skip
  first
    | exact mt_old ‹CGT _ _ _ _ _ _ _ _ _ _ _› ‹cFNp _ _ _ _ _ _ _› (by omega) (by omega) (by omega) (by omega)
    | exact mt_pm ‹CGMp _ _ _ _ _ _ _ _ _ _ _ _› (by omega) (by omega) (by omega) (by omega) (by omega) (by omega)
def o_Re_meetNode_at_ga_3 : or_T := (77, 19, [(0, (2, 0, 0, [8])), (1, (2, 0, 0, [164])), (5, (0, 0, 2000, [])), (6, (0, 0, 2000, [])), (7, (0, 0, 8, [])), (8, (0, 0, 24, [])), (13, (0, 24, 24, [])), (14, (0, 0, 48, [])), (15, (0, 0, 8, [])), (16, (0, -1, -1, []))], [(9, [15, 1], [2]), (9, [14, 1], [1]), (9, [10, 1], [4]), (9, [9, 1], [3]), (9, [13, 1], [0]), (20, [10, 9, 4, 8, 5, 7, 16], [61, 3, 1091]), (20, [1, 8], [50, 1, 0, 0, 1, 3, 2, 0, 0, 1, 1]), (2, [7, 6, 5], []), (9, [5, 0], [8]), (9, [6, 0], [6]), (9, [4, 0], [0]), (20, [0, 1], [60, 6, 5, 1065, 5, 6, 8, 1000, 1001, 1002, 0, 1004, 1003, 1007, 1008])], [], [], [(20, [0, 1, 16], [60, 6, 5, 1066, 5, 6, 8, 1000, 1001, 1002, 0, 1004, 1003, 1007, 1008])], [], [])
theorem oo_Re_meetNode_at_ga_3 {kA : Nat → ClassId} : or_ok PRD kA GG o_Re_meetNode_at_ga_3 := by
  refine or_mk fun A ta ws vs hD hth hl => ?_
  intro t0 r0 t1 r1 t5 k5 t6 k6 t7 k7 t8 k8 t13 k13 t14 k14 t15 k15 t16 k16 f0 f1 f4 f5 f8 f11 f12 f16 f17 f18 f19 f27
  replace f0 := shm_120 f0
  replace f1 := shm_215 f1
  replace f4 := shm_108 f4
  replace f5 := shm_137 f5
  replace f8 := shm_163 f8
  replace f11 := shm_848 f11
  replace f17 := shm_293 f17
  replace f18 := shm_111 f18
  replace f19 := shm_163 f19
  have ad_10 : v_ad (n_v vs 10) = w_ar ws (n_v vs 1) 4 := congrArg v_ad f4
  have ad_9 : v_ad (n_v vs 9) = w_ar ws (n_v vs 1) 3 := congrArg v_ad f5
  have ad_4 : v_ad (n_v vs 4) = w_ar ws (n_v vs 0) 0 := congrArg v_ad f19
  have g0 : v_iv (n_v vs 15) = w_fi ws (n_v vs 1) 2 := congrArg v_iv f0
  have g1 : v_iv (n_v vs 14) = w_fi ws (n_v vs 1) 1 := congrArg v_iv f1
  have g8 : v_iv (n_v vs 13) = w_fi ws (n_v vs 1) 0 := congrArg v_iv f8
  simp only [ad_4, ad_9, ad_10] at f11
  have g17 : v_iv (n_v vs 5) = w_fi ws (n_v vs 0) 8 := congrArg v_iv f17
  have g18 : v_iv (n_v vs 6) = w_fi ws (n_v vs 0) 6 := congrArg v_iv f18
  have kz_0_5 := fdq_207 hD hth r0
  have kz_0_6 := fdq_208 hD hth r0
  have kz_0_8 := fdq_99 hD hth r0
  have kz_1_0 := fdq_73 hD hth r1
  have kz_1_1 := fdq_74 hD hth r1
  have kz_1_2 := fdq_206 hD hth r1
  have nf0 : fc_1 PRD (20, [0, 1, 16], [60, 6, 5, 1066, 5, 6, 8, 1000, 1001, 1002, 0, 1004, 1003, 1007, 1008]) ws (vs) := ⟨nf_in hl rfl, sgq_1406 (vc_Re_meetNode_at_ga_3_0 (v_iv (n_v vs 5)) (v_iv (n_v vs 6)) (v_iv (n_v vs 7)) (v_iv (n_v vs 8)) (v_iv (n_v vs 13)) (v_iv (n_v vs 14)) (v_iv (n_v vs 15)) (v_iv (n_v vs 16)) (w_fi ws (n_v vs 1) 2) (w_fi ws (n_v vs 1) 1) (w_fi ws (n_v vs 1) 0) (w_ei ws (w_ar ws (n_v vs 1) 4)) (w_ei ws (w_ar ws (n_v vs 1) 3)) (w_ei ws (w_ar ws (n_v vs 0) 0)) (w_fi ws (n_v vs 0) 8) (w_fi ws (n_v vs 0) 6) (w_ei ws (w_ar ws (n_v vs 1) 7)) (w_ei ws (w_ar ws (n_v vs 1) 8)) (w_fi ws (n_v vs 0) 5) k5 k6 k7 k8 k13 k14 k15 k16 g0 g1 g8 f11 (shm_570 f12) (shm_14 f16) g17 g18 (shm_1405 f27) kz_0_5 kz_0_6 kz_0_8 kz_1_0 kz_1_1 kz_1_2)⟩
  refine ⟨(fun _ h => (by cases h)), [], trivial, ?_, (fun _ h => (by cases h))⟩
  rw [List.append_nil]
  exact List.forall_mem_cons.mpr ⟨⟨show (20 : Nat) < 100 from by decide, nf0⟩, (fun _ h => (by cases h))⟩
set_option maxHeartbeats 4000000 in
theorem vc_Re_meetNode_at_ga_4_r0 (x5 : Int) (x6 : Int) (x7 : Int) (x19 : Int) (begin_0 : Int) (next_0 : Int) (k5 : 0 ≤ x5 ∧ x5 ≤ 2000) (k6 : 0 ≤ x6 ∧ x6 ≤ 2000) (k7 : 0 ≤ x7 ∧ x7 ≤ 8) (k19 : (-2000) ≤ x19 ∧ x19 ≤ 2000) (f6 : x19 = x6 - x5) (g7 : x5 = begin_0) (g8 : x6 = next_0) (f20 : x7 = x6 - x5) (kz_0_6 : 0 ≤ next_0 ∧ next_0 ≤ 2000) (kz_0_8 : 0 ≤ begin_0 ∧ begin_0 ≤ 2000) : 0 ≤ x19 ∧ x19 ≤ 8 := by
  first
    | omega
  
set_option maxHeartbeats 4000000 in
theorem vc_Re_meetNode_at_ga_4_0 (x3 : Int) (end_0 : Int) (gy : Int) (k3 : 0 ≤ x3 ∧ x3 ≤ 2000) (f26 : 1 * end_0 + ((-1) * x3 + 0) ≤ 0) (f27 : (-1) * end_0 + (1 * x3 + 0) ≤ 0) (kz_0_5 : 0 ≤ end_0 ∧ end_0 ≤ 2000) (ey2 : gy = x3) : 1 * gy + ((-1) * x3 + 0) ≤ 0 := by
  first
    | omega
  
set_option maxHeartbeats 4000000 in
theorem vc_Re_meetNode_at_ga_4_1 (x3 : Int) (end_0 : Int) (gy : Int) (k3 : 0 ≤ x3 ∧ x3 ≤ 2000) (f26 : 1 * end_0 + ((-1) * x3 + 0) ≤ 0) (f27 : (-1) * end_0 + (1 * x3 + 0) ≤ 0) (kz_0_5 : 0 ≤ end_0 ∧ end_0 ≤ 2000) (ey2 : gy = x3) : (-1) * gy + (1 * x3 + 0) ≤ 0 := by
  first
    | omega
  
set_option maxHeartbeats 4000000 in
theorem vc_Re_meetNode_at_ga_4_2 (x5 : Int) (x6 : Int) (x19 : Int) (begin_0 : Int) (next_0 : Int) (k5 : 0 ≤ x5 ∧ x5 ≤ 2000) (k6 : 0 ≤ x6 ∧ x6 ≤ 2000) (k19 : (-2000) ≤ x19 ∧ x19 ≤ 2000) (f6 : x19 = x6 - x5) (g7 : x5 = begin_0) (g8 : x6 = next_0) (kz_0_6 : 0 ≤ next_0 ∧ next_0 ≤ 2000) (kz_0_8 : 0 ≤ begin_0 ∧ begin_0 ≤ 2000) : x5 + x19 ≤ 2000 := by
  first
    | omega
  
set_option maxHeartbeats 4000000 in
theorem vc_Re_meetNode_at_ga_4_3 (nodes_0o1 : Int) (gx : Int) (kz_1_0 : 0 ≤ nodes_0o1 ∧ nodes_0o1 ≤ 24) (ex2 : gx = nodes_0o1) : nodes_0o1 = gx := by
  first
    | omega
  
set_option maxHeartbeats 4000000 in
theorem vc_Re_meetNode_at_ga_4_4 (x13 : Int) (nodes_0o1 : Int) (gx : Int) (k13 : 0 ≤ x13 ∧ x13 ≤ 23) (g12 : x13 = nodes_0o1) (kz_1_0 : 0 ≤ nodes_0o1 ∧ nodes_0o1 ≤ 24) (ex2 : gx = nodes_0o1) : nodes_0o1 ≤ 23 := by
  first
    | omega
  
set_option maxHeartbeats 4000000 in
theorem vc_Re_meetNode_at_ga_4_5 (edges_0o1 : Int) (nodes_0o1 : Int) (near_0o1 : Int → Int) (tail_0o1 : Int → Int) (head_0o1 : Int → Int) (f23 : GNB (nodes_0o1) (edges_0o1) (near_0o1) (tail_0o1) (head_0o1)) (kz_1_0 : 0 ≤ nodes_0o1 ∧ nodes_0o1 ≤ 24) (kz_1_1 : 0 ≤ edges_0o1 ∧ edges_0o1 ≤ 48) : GNB (nodes_0o1) (edges_0o1) (near_0o1) (tail_0o1) (head_0o1) := by
  first
    | assumption
  
set_option maxHeartbeats 4000000 in
theorem vc_Re_meetNode_at_ga_4_6 (edges_0o1 : Int) (nodes_0o1 : Int) (tail_0o1 : Int → Int) (head_0o1 : Int → Int) (f24 : GKE (nodes_0o1) (edges_0o1) (tail_0o1) (head_0o1)) (kz_1_0 : 0 ≤ nodes_0o1 ∧ nodes_0o1 ≤ 24) (kz_1_1 : 0 ≤ edges_0o1 ∧ edges_0o1 ≤ 48) : GKE (nodes_0o1) (edges_0o1) (tail_0o1) (head_0o1) := by
  first
    | assumption
  
set_option maxHeartbeats 4000000 in
theorem vc_Re_meetNode_at_ga_4_7 (x3 : Int) (x5 : Int) (x6 : Int) (x7 : Int) (x8 : Int) (x13 : Int) (x14 : Int) (x15 : Int) (x16 : Int) (x19 : Int) (groups_0o1 : Int) (edges_0o1 : Int) (begin_0 : Int) (next_0 : Int) (nodes_0o1 : Int) (nameLength_0o1 : Int → Int) (name_0o1 : Int → Int) (tape_0 : Int → Int) (tail_0o1 : Int → Int) (head_0o1 : Int → Int) (end_0 : Int) (gx : Int) (gy : Int) (k3 : 0 ≤ x3 ∧ x3 ≤ 2000) (k5 : 0 ≤ x5 ∧ x5 ≤ 2000) (k6 : 0 ≤ x6 ∧ x6 ≤ 2000) (k7 : 0 ≤ x7 ∧ x7 ≤ 8) (k8 : 0 ≤ x8 ∧ x8 ≤ 24) (k13 : 0 ≤ x13 ∧ x13 ≤ 23) (k14 : 0 ≤ x14 ∧ x14 ≤ 48) (k15 : 0 ≤ x15 ∧ x15 ≤ 8) (k16 : (-1) ≤ x16 ∧ x16 ≤ (-1)) (k19 : (-2000) ≤ x19 ∧ x19 ≤ 2000) (g0 : x15 = groups_0o1) (g1 : x14 = edges_0o1) (f6 : x19 = x6 - x5) (g7 : x5 = begin_0) (g8 : x6 = next_0) (g12 : x13 = nodes_0o1) (f15 : cFNp (nameLength_0o1) (name_0o1) (tape_0) (x8) (x5) (x7) (x16)) (f16 : nodes_0o1 = x8) (f20 : x7 = x6 - x5) (f26 : 1 * end_0 + ((-1) * x3 + 0) ≤ 0) (f27 : (-1) * end_0 + (1 * x3 + 0) ≤ 0) (f28 : CGT (end_0) (next_0) (begin_0) (nodes_0o1) (edges_0o1) (groups_0o1) (tape_0) (nameLength_0o1) (name_0o1) (tail_0o1) (head_0o1)) (kz_0_5 : 0 ≤ end_0 ∧ end_0 ≤ 2000) (kz_0_6 : 0 ≤ next_0 ∧ next_0 ≤ 2000) (kz_0_8 : 0 ≤ begin_0 ∧ begin_0 ≤ 2000) (kz_1_0 : 0 ≤ nodes_0o1 ∧ nodes_0o1 ≤ 24) (kz_1_1 : 0 ≤ edges_0o1 ∧ edges_0o1 ≤ 48) (kz_1_2 : 0 ≤ groups_0o1 ∧ groups_0o1 ≤ 8) (ex2 : gx = nodes_0o1) (ey2 : gy = x3) : CANp (nameLength_0o1) (name_0o1) (tail_0o1) (head_0o1) (tape_0) (x5) (x19) (gy) (gx) (x14) (x15) := by
  exact mt_can ‹CGT _ _ _ _ _ _ _ _ _ _ _› ‹cFNp _ _ _ _ _ _ _› (by omega) (by omega) (by omega) (by omega) (by omega) (by omega) (by omega) (by omega) (by omega) (by omega) (by omega)
def o_Re_meetNode_at_ga_4 : or_T := (72, 23, [(0, (2, 0, 0, [8])), (1, (2, 0, 0, [164])), (2, (0, 0, 23, [])), (3, (0, 0, 2000, [])), (4, (2, 0, 0, [109])), (5, (0, 0, 2000, [])), (6, (0, 0, 2000, [])), (7, (0, 0, 8, [])), (8, (0, 0, 24, [])), (9, (2, 0, 0, [150])), (10, (2, 0, 0, [151])), (11, (2, 0, 0, [154])), (12, (2, 0, 0, [155])), (13, (0, 0, 23, [])), (14, (0, 0, 48, [])), (15, (0, 0, 8, [])), (16, (0, -1, -1, [])), (17, (0, -1, -1, [])), (18, (0, 24, 24, [])), (19, (0, -2000, 2000, []))], [(9, [15, 1], [2]), (9, [14, 1], [1]), (9, [12, 1], [8]), (9, [11, 1], [7]), (9, [10, 1], [4]), (9, [9, 1], [3]), (2, [19, 6, 5], []), (9, [5, 0], [8]), (9, [6, 0], [6]), (9, [4, 0], [0]), (7, [13, 18], [2]), (20, [2, 13], [50, 0, 0, 0, 6, 4, 2, 1, 0, 0, 1, 1, 1]), (9, [13, 1], [0]), (7, [16, 17], [0]), (20, [16, 1], [50, 1, 0, 1000, 3, 6, 1, 2, 1, 0, 0, -1, 2, 6, 0, 2, 0, 0, 1, 0, 0, 6, 4, 2, 1, 0, 0, 1, 2, 1, 0]), (20, [10, 9, 4, 8, 5, 7, 16], [61, 3, 1091]), (20, [1, 8], [50, 1, 0, 0, 1, 3, 2, 0, 0, 1, 1]), (21, [5, 7], [2000]), (20, [1, 8], [30, 0, 1, 1, 0, -1, 0, 0]), (20, [1, 8], [30, 0, -1, 1, 0, 1, 0, 0]), (2, [7, 6, 5], []), (20, [0, 0], [30, 8, 1, 1, 6, -1, 1, 8]), (20, [0, 0], [30, 0, -1, 1, 6, 1, 1, 8]), (20, [1], [60, 2, 3, 670, 0, 1, 14, 7, 8]), (20, [1], [60, 2, 2, 596, 0, 1, 7, 8]), (20, [2, 1], [50, 1, 0, 1000, 2, 6, 0, 2, 0, 0, 1, 0, 0, 6, 4, 2, 1, 0, 0, 1, 2, 1, 0]), (20, [0, 3], [30, 0, 1, 1, 5, -1, 0, 0]), (20, [0, 3], [30, 0, -1, 1, 5, 1, 0, 0]), (20, [0, 1], [60, 6, 5, 1065, 5, 6, 8, 1000, 1001, 1002, 0, 1004, 1003, 1007, 1008])], [(19, (0, 0, 8, []))], [(0, 0, 24, []), (0, 0, 2000, [])], [(23, [24, 3], [0, 1, -1]), (23, [24, 3], [0, -1, 1]), (21, [5, 19], [2000]), (20, [1, 23], [50, 1, 0, 0, 1, 3, 2, 0, 0, 1, 1]), (20, [1], [50, 1, 0, 0, 0, 3, 2, 0, 0, 0, 23]), (20, [1], [60, 2, 3, 670, 0, 1, 14, 7, 8]), (20, [1], [60, 2, 2, 596, 0, 1, 7, 8]), (20, [10, 9, 11, 12, 4, 5, 19, 24, 23, 14, 15], [61, 5, 1092])], [], [(19, 6, -2000, 0), (7, 6, -2000, 0)])
theorem oo_Re_meetNode_at_ga_4 {kA : Nat → ClassId} : or_ok PRD kA GG o_Re_meetNode_at_ga_4 := by
  refine or_mk fun A ta ws vs hD hth hl => ?_
  intro t0 r0 t1 r1 t2 k2 t3 k3 t4 r4 t5 k5 t6 k6 t7 k7 t8 k8 t9 r9 t10 r10 t11 r11 t12 r12 t13 k13 t14 k14 t15 k15 t16 k16 t17 k17 t18 k18 t19 k19 d0 d1 f0 f1 f2 f3 f4 f5 f6 f7 f8 f9 f10 f11 f12 f13 f14 f15 f16 f17 f18 f19 f20 f21 f22 f23 f24 f25 f26 f27 f28
  replace f0 := shm_120 f0
  replace f1 := shm_215 f1
  replace f2 := shm_293 f2
  replace f3 := shm_198 f3
  replace f4 := shm_108 f4
  replace f5 := shm_137 f5
  replace f6 := shm_14 f6
  replace f7 := shm_293 f7
  replace f8 := shm_111 f8
  replace f9 := shm_163 f9
  replace f12 := shm_163 f12
  replace f15 := shm_848 f15
  replace f16 := shm_570 f16
  replace f20 := shm_14 f20
  replace f23 := shm_825 f23
  replace f24 := shm_386 f24
  replace f26 := shm_1403 f26
  replace f27 := shm_1404 f27
  replace f28 := shm_1405 f28
  have ad_12 : v_ad (n_v vs 12) = w_ar ws (n_v vs 1) 8 := congrArg v_ad f2
  have ad_11 : v_ad (n_v vs 11) = w_ar ws (n_v vs 1) 7 := congrArg v_ad f3
  have ad_10 : v_ad (n_v vs 10) = w_ar ws (n_v vs 1) 4 := congrArg v_ad f4
  have ad_9 : v_ad (n_v vs 9) = w_ar ws (n_v vs 1) 3 := congrArg v_ad f5
  have ad_4 : v_ad (n_v vs 4) = w_ar ws (n_v vs 0) 0 := congrArg v_ad f9
  have g0 : v_iv (n_v vs 15) = w_fi ws (n_v vs 1) 2 := congrArg v_iv f0
  have g1 : v_iv (n_v vs 14) = w_fi ws (n_v vs 1) 1 := congrArg v_iv f1
  have g7 : v_iv (n_v vs 5) = w_fi ws (n_v vs 0) 8 := congrArg v_iv f7
  have g8 : v_iv (n_v vs 6) = w_fi ws (n_v vs 0) 6 := congrArg v_iv f8
  have g12 : v_iv (n_v vs 13) = w_fi ws (n_v vs 1) 0 := congrArg v_iv f12
  simp only [ad_4, ad_9, ad_10] at f15
  have kz_0_5 := fdq_207 hD hth r0
  have kz_0_6 := fdq_208 hD hth r0
  have kz_0_8 := fdq_99 hD hth r0
  have kz_1_0 := fdq_73 hD hth r1
  have kz_1_1 := fdq_74 hD hth r1
  have kz_1_2 := fdq_206 hD hth r1
  obtain ⟨x, ex, hx⟩ := iv_ex (ta := ta) (lo := 0) (hi := 24) (z := w_fi ws (n_v vs 1) 0) (by omega) (by omega) (by omega) (by omega)
  have ex2 : v_iv (Value.int x) = w_fi ws (n_v vs 1) 0 := ex
  have ex3 : 0 ≤ v_iv (Value.int x) ∧ v_iv (Value.int x) ≤ 24 := tv_rng hx
  obtain ⟨y, ey, hy⟩ := iv_ex (ta := ta) (lo := 0) (hi := 2000) (z := v_iv (n_v vs 3)) (by omega) (by omega) (by omega) (by omega)
  have ey2 : v_iv (Value.int y) = v_iv (n_v vs 3) := ey
  have ey3 : 0 ≤ v_iv (Value.int y) ∧ v_iv (Value.int y) ≤ 2000 := tv_rng hy
  have hrf0 : 0 ≤ v_iv (n_v vs 19) ∧ v_iv (n_v vs 19) ≤ 8 := vc_Re_meetNode_at_ga_4_r0 (v_iv (n_v vs 5)) (v_iv (n_v vs 6)) (v_iv (n_v vs 7)) (v_iv (n_v vs 19)) (w_fi ws (n_v vs 0) 8) (w_fi ws (n_v vs 0) 6) k5 k6 k7 k19 f6 g7 g8 f20 kz_0_6 kz_0_8
  have e_1 : n_v (vs ++ [Value.int x, Value.int y]) 1 = n_v vs 1 := n_v_old (by rw [hl]; decide)
  have e_3 : n_v (vs ++ [Value.int x, Value.int y]) 3 = n_v vs 3 := n_v_old (by rw [hl]; decide)
  have e_4 : n_v (vs ++ [Value.int x, Value.int y]) 4 = n_v vs 4 := n_v_old (by rw [hl]; decide)
  have e_5 : n_v (vs ++ [Value.int x, Value.int y]) 5 = n_v vs 5 := n_v_old (by rw [hl]; decide)
  have e_9 : n_v (vs ++ [Value.int x, Value.int y]) 9 = n_v vs 9 := n_v_old (by rw [hl]; decide)
  have e_10 : n_v (vs ++ [Value.int x, Value.int y]) 10 = n_v vs 10 := n_v_old (by rw [hl]; decide)
  have e_11 : n_v (vs ++ [Value.int x, Value.int y]) 11 = n_v vs 11 := n_v_old (by rw [hl]; decide)
  have e_12 : n_v (vs ++ [Value.int x, Value.int y]) 12 = n_v vs 12 := n_v_old (by rw [hl]; decide)
  have e_14 : n_v (vs ++ [Value.int x, Value.int y]) 14 = n_v vs 14 := n_v_old (by rw [hl]; decide)
  have e_15 : n_v (vs ++ [Value.int x, Value.int y]) 15 = n_v vs 15 := n_v_old (by rw [hl]; decide)
  have e_19 : n_v (vs ++ [Value.int x, Value.int y]) 19 = n_v vs 19 := n_v_old (by rw [hl]; decide)
  have e_23 : n_v (vs ++ [Value.int x, Value.int y]) 23 = Value.int x := n_v_new0 hl
  have e_24 : n_v (vs ++ [Value.int x, Value.int y]) 24 = Value.int y := n_v_new1 hl
  have nf0 : fc_1 PRD (23, [24, 3], [0, 1, -1]) ws (vs ++ [Value.int x, Value.int y]) := by
    refine ⟨nf_inA hl rfl, sgq_7 ?_⟩
    · show 1 * v_iv (n_v (vs ++ [Value.int x, Value.int y]) 24) + ((-1) * v_iv (n_v (vs ++ [Value.int x, Value.int y]) 3) + 0) ≤ 0
      simp only [e_3, e_24]
      exact vc_Re_meetNode_at_ga_4_0 (v_iv (n_v vs 3)) (w_fi ws (n_v vs 0) 5) (v_iv (Value.int y)) k3 f26 f27 kz_0_5 ey2
  have nf1 : fc_1 PRD (23, [24, 3], [0, -1, 1]) ws (vs ++ [Value.int x, Value.int y]) := by
    refine ⟨nf_inA hl rfl, sgq_22 ?_⟩
    · show (-1) * v_iv (n_v (vs ++ [Value.int x, Value.int y]) 24) + (1 * v_iv (n_v (vs ++ [Value.int x, Value.int y]) 3) + 0) ≤ 0
      simp only [e_3, e_24]
      exact vc_Re_meetNode_at_ga_4_1 (v_iv (n_v vs 3)) (w_fi ws (n_v vs 0) 5) (v_iv (Value.int y)) k3 f26 f27 kz_0_5 ey2
  have nf2 : fc_1 PRD (21, [5, 19], [2000]) ws (vs ++ [Value.int x, Value.int y]) := by
    refine ⟨nf_inA hl rfl, sgq_831 ?_⟩
    · show v_iv (n_v (vs ++ [Value.int x, Value.int y]) 5) + v_iv (n_v (vs ++ [Value.int x, Value.int y]) 19) ≤ 2000
      simp only [e_5, e_19]
      exact vc_Re_meetNode_at_ga_4_2 (v_iv (n_v vs 5)) (v_iv (n_v vs 6)) (v_iv (n_v vs 19)) (w_fi ws (n_v vs 0) 8) (w_fi ws (n_v vs 0) 6) k5 k6 k19 f6 g7 g8 kz_0_6 kz_0_8
  have nf3 : fc_1 PRD (20, [1, 23], [50, 1, 0, 0, 1, 3, 2, 0, 0, 1, 1]) ws (vs ++ [Value.int x, Value.int y]) := by
    refine ⟨nf_inA hl rfl, sgq_570 ?_⟩
    · show w_fi ws (n_v (vs ++ [Value.int x, Value.int y]) 1) 0 = v_iv (n_v (vs ++ [Value.int x, Value.int y]) 23)
      simp only [e_1, e_23]
      exact vc_Re_meetNode_at_ga_4_3 (w_fi ws (n_v vs 1) 0) (v_iv (Value.int x)) kz_1_0 ex2
  have nf4 : fc_1 PRD (20, [1], [50, 1, 0, 0, 0, 3, 2, 0, 0, 0, 23]) ws (vs ++ [Value.int x, Value.int y]) := by
    refine ⟨nf_inA hl rfl, sgq_832 ?_⟩
    · show w_fi ws (n_v (vs ++ [Value.int x, Value.int y]) 1) 0 ≤ 23
      rw [e_1]
      exact vc_Re_meetNode_at_ga_4_4 (v_iv (n_v vs 13)) (w_fi ws (n_v vs 1) 0) (v_iv (Value.int x)) k13 g12 kz_1_0 ex2
  have nf5 : fc_1 PRD (20, [1], [60, 2, 3, 670, 0, 1, 14, 7, 8]) ws (vs ++ [Value.int x, Value.int y]) := by
    refine ⟨nf_inA hl rfl, sgq_825 ?_⟩
    · show GNB (w_fi ws (n_v (vs ++ [Value.int x, Value.int y]) 1) 0) (w_fi ws (n_v (vs ++ [Value.int x, Value.int y]) 1) 1) (w_ei ws (w_ar ws (n_v (vs ++ [Value.int x, Value.int y]) 1) 14)) (w_ei ws (w_ar ws (n_v (vs ++ [Value.int x, Value.int y]) 1) 7)) (w_ei ws (w_ar ws (n_v (vs ++ [Value.int x, Value.int y]) 1) 8))
      rw [e_1]
      exact vc_Re_meetNode_at_ga_4_5 (w_fi ws (n_v vs 1) 1) (w_fi ws (n_v vs 1) 0) (w_ei ws (w_ar ws (n_v vs 1) 14)) (w_ei ws (w_ar ws (n_v vs 1) 7)) (w_ei ws (w_ar ws (n_v vs 1) 8)) f23 kz_1_0 kz_1_1
  have nf6 : fc_1 PRD (20, [1], [60, 2, 2, 596, 0, 1, 7, 8]) ws (vs ++ [Value.int x, Value.int y]) := by
    refine ⟨nf_inA hl rfl, sgq_386 ?_⟩
    · show GKE (w_fi ws (n_v (vs ++ [Value.int x, Value.int y]) 1) 0) (w_fi ws (n_v (vs ++ [Value.int x, Value.int y]) 1) 1) (w_ei ws (w_ar ws (n_v (vs ++ [Value.int x, Value.int y]) 1) 7)) (w_ei ws (w_ar ws (n_v (vs ++ [Value.int x, Value.int y]) 1) 8))
      rw [e_1]
      exact vc_Re_meetNode_at_ga_4_6 (w_fi ws (n_v vs 1) 1) (w_fi ws (n_v vs 1) 0) (w_ei ws (w_ar ws (n_v vs 1) 7)) (w_ei ws (w_ar ws (n_v vs 1) 8)) f24 kz_1_0 kz_1_1
  have nf7 : fc_1 PRD (20, [10, 9, 11, 12, 4, 5, 19, 24, 23, 14, 15], [61, 5, 1092]) ws (vs ++ [Value.int x, Value.int y]) := by
    refine ⟨nf_inA hl rfl, sgq_833 ?_⟩
    · show CANp (w_ei ws (v_ad (n_v (vs ++ [Value.int x, Value.int y]) 10))) (w_ei ws (v_ad (n_v (vs ++ [Value.int x, Value.int y]) 9))) (w_ei ws (v_ad (n_v (vs ++ [Value.int x, Value.int y]) 11))) (w_ei ws (v_ad (n_v (vs ++ [Value.int x, Value.int y]) 12))) (w_ei ws (v_ad (n_v (vs ++ [Value.int x, Value.int y]) 4))) (v_iv (n_v (vs ++ [Value.int x, Value.int y]) 5)) (v_iv (n_v (vs ++ [Value.int x, Value.int y]) 19)) (v_iv (n_v (vs ++ [Value.int x, Value.int y]) 24)) (v_iv (n_v (vs ++ [Value.int x, Value.int y]) 23)) (v_iv (n_v (vs ++ [Value.int x, Value.int y]) 14)) (v_iv (n_v (vs ++ [Value.int x, Value.int y]) 15))
      simp only [e_4, e_5, e_9, e_10, e_11, e_12, e_14, e_15, e_19, e_23, e_24, ad_4, ad_9, ad_10, ad_11, ad_12]
      exact vc_Re_meetNode_at_ga_4_7 (v_iv (n_v vs 3)) (v_iv (n_v vs 5)) (v_iv (n_v vs 6)) (v_iv (n_v vs 7)) (v_iv (n_v vs 8)) (v_iv (n_v vs 13)) (v_iv (n_v vs 14)) (v_iv (n_v vs 15)) (v_iv (n_v vs 16)) (v_iv (n_v vs 19)) (w_fi ws (n_v vs 1) 2) (w_fi ws (n_v vs 1) 1) (w_fi ws (n_v vs 0) 8) (w_fi ws (n_v vs 0) 6) (w_fi ws (n_v vs 1) 0) (w_ei ws (w_ar ws (n_v vs 1) 4)) (w_ei ws (w_ar ws (n_v vs 1) 3)) (w_ei ws (w_ar ws (n_v vs 0) 0)) (w_ei ws (w_ar ws (n_v vs 1) 7)) (w_ei ws (w_ar ws (n_v vs 1) 8)) (w_fi ws (n_v vs 0) 5) (v_iv (Value.int x)) (v_iv (Value.int y)) k3 k5 k6 k7 k8 k13 k14 k15 k16 k19 g0 g1 f6 g7 g8 g12 f15 f16 f20 f26 f27 f28 kz_0_5 kz_0_6 kz_0_8 kz_1_0 kz_1_1 kz_1_2 ex2 ey2
  have rf19 : tv_ok ta (0, 0, 8, []) (n_v vs 19) := tv_in t19 (by first | omega | grind) (by first | omega | grind)
  exact ⟨List.forall_mem_cons.mpr ⟨rf19, (fun _ h => (by cases h))⟩, [Value.int x, Value.int y], ag_two hx hy, List.forall_mem_cons.mpr ⟨⟨show (23 : Nat) < 100 from by decide, nf0⟩, List.forall_mem_cons.mpr ⟨⟨show (23 : Nat) < 100 from by decide, nf1⟩, List.forall_mem_cons.mpr ⟨⟨show (21 : Nat) < 100 from by decide, nf2⟩, List.forall_mem_cons.mpr ⟨⟨show (20 : Nat) < 100 from by decide, nf3⟩, List.forall_mem_cons.mpr ⟨⟨show (20 : Nat) < 100 from by decide, nf4⟩, List.forall_mem_cons.mpr ⟨⟨show (20 : Nat) < 100 from by decide, nf5⟩, List.forall_mem_cons.mpr ⟨⟨show (20 : Nat) < 100 from by decide, nf6⟩, List.forall_mem_cons.mpr ⟨⟨show (20 : Nat) < 100 from by decide, nf7⟩, (fun _ h => (by cases h))⟩⟩⟩⟩⟩⟩⟩⟩, (fun _ h => (by cases h))⟩
set_option maxHeartbeats 4000000 in
theorem vc_Re_meetNode_at_ga_5_0 (x13 : Int) (x25 : Int) (nodes_0o1 : Int) (k13 : 0 ≤ x13 ∧ x13 ≤ 23) (k25 : 1 ≤ x25 ∧ x25 ≤ 24) (d0 : x13 + 1 ≤ x25 ∧ x25 ≤ x13 + 1) (g6 : x25 = nodes_0o1) (kz_1_0 : 0 ≤ nodes_0o1 ∧ nodes_0o1 ≤ 24) : (x13 = (-1)) ∨ ((0 ≤ x13) ∧ ((x13 + 1) ≤ nodes_0o1)) := by
  first
    | omega
  
set_option maxHeartbeats 4000000 in
theorem vc_Re_meetNode_at_ga_5_1 (x2 : Int) (x13 : Int) (x25 : Int) (nodes_0o1 : Int) (k2 : 0 ≤ x2 ∧ x2 ≤ 23) (k13 : 0 ≤ x13 ∧ x13 ≤ 23) (k25 : 1 ≤ x25 ∧ x25 ≤ 24) (d0 : x13 + 1 ≤ x25 ∧ x25 ≤ x13 + 1) (g6 : x25 = nodes_0o1) (f13 : (x2 + 1) ≤ x13) (kz_1_0 : 0 ≤ nodes_0o1 ∧ nodes_0o1 ≤ 24) : (0 ≤ x2) ∧ ((x2 + 1) ≤ nodes_0o1) := by
  first
    | omega
  
set_option maxHeartbeats 4000000 in
theorem vc_Re_meetNode_at_ga_5_2 (x3 : Int) (x5 : Int) (x6 : Int) (x13 : Int) (x14 : Int) (x15 : Int) (x19 : Int) (x23 : Int) (x24 : Int) (x25 : Int) (edges_0o1 : Int) (groups_0o1 : Int) (nodes_0o1 : Int) (next_0 : Int) (begin_0 : Int) (end_0 : Int) (tail_0o1 : Int → Int) (head_0o1 : Int → Int) (nameLength_0o1 : Int → Int) (name_0o1 : Int → Int) (tape_0 : Int → Int) (k3 : 0 ≤ x3 ∧ x3 ≤ 2000) (k5 : 0 ≤ x5 ∧ x5 ≤ 2000) (k6 : 0 ≤ x6 ∧ x6 ≤ 2000) (k13 : 0 ≤ x13 ∧ x13 ≤ 23) (k14 : 0 ≤ x14 ∧ x14 ≤ 48) (k15 : 0 ≤ x15 ∧ x15 ≤ 8) (k19 : 0 ≤ x19 ∧ x19 ≤ 8) (k23 : 0 ≤ x23 ∧ x23 ≤ 24) (k24 : 0 ≤ x24 ∧ x24 ≤ 2000) (k25 : 1 ≤ x25 ∧ x25 ≤ 24) (d0 : x13 + 1 ≤ x25 ∧ x25 ≤ x13 + 1) (g4 : x14 = edges_0o1) (g5 : x15 = groups_0o1) (g6 : x25 = nodes_0o1) (g7 : x6 = next_0) (g8 : x5 = begin_0) (f10 : 1 * x24 + ((-1) * x3 + 0) ≤ 0) (f11 : (-1) * x24 + (1 * x3 + 0) ≤ 0) (f17 : 1 * end_0 + ((-1) * x3 + 0) ≤ 0) (f18 : (-1) * end_0 + (1 * x3 + 0) ≤ 0) (f22 : x13 = x23) (f23 : CGMp (nameLength_0o1) (name_0o1) (tail_0o1) (head_0o1) (tape_0) (x5) (x19) (x24) (x13) (x23) (x14) (x15)) (f28 : x19 = x6 - x5) (kz_0_5 : 0 ≤ end_0 ∧ end_0 ≤ 2000) (kz_0_6 : 0 ≤ next_0 ∧ next_0 ≤ 2000) (kz_0_8 : 0 ≤ begin_0 ∧ begin_0 ≤ 2000) (kz_1_0 : 0 ≤ nodes_0o1 ∧ nodes_0o1 ≤ 24) (kz_1_1 : 0 ≤ edges_0o1 ∧ edges_0o1 ≤ 48) (kz_1_2 : 0 ≤ groups_0o1 ∧ groups_0o1 ≤ 8) : CGM (end_0) (next_0) (begin_0) (nodes_0o1) (edges_0o1) (groups_0o1) (tape_0) (nameLength_0o1) (name_0o1) (tail_0o1) (head_0o1) (x13) := by
  first | subst g4 | skip
  first | subst g5 | skip
  first | subst g6 | skip
  first | subst g7 | skip
  first | subst g8 | skip
  first
    | exact mt_old ‹CGT _ _ _ _ _ _ _ _ _ _ _› ‹cFNp _ _ _ _ _ _ _› (by omega) (by omega) (by omega) (by omega)
    | exact mt_pm ‹CGMp _ _ _ _ _ _ _ _ _ _ _ _› (by omega) (by omega) (by omega) (by omega) (by omega) (by omega)
def o_Re_meetNode_at_ga_5 : or_T := (77, 26, [(0, (2, 0, 0, [8])), (1, (2, 0, 0, [164])), (2, (0, 0, 23, [])), (3, (0, 0, 2000, [])), (5, (0, 0, 2000, [])), (6, (0, 0, 2000, [])), (13, (0, 0, 23, [])), (14, (0, 0, 48, [])), (15, (0, 0, 8, [])), (19, (0, 0, 8, [])), (23, (0, 0, 24, [])), (24, (0, 0, 2000, [])), (25, (0, 1, 24, []))], [(9, [9, 1], [3]), (9, [10, 1], [4]), (9, [11, 1], [7]), (9, [12, 1], [8]), (9, [14, 1], [1]), (9, [15, 1], [2]), (9, [25, 1], [0]), (9, [6, 0], [6]), (9, [5, 0], [8]), (9, [4, 0], [0]), (23, [24, 3], [0, 1, -1]), (23, [24, 3], [0, -1, 1]), (20, [2, 13], [50, 0, 0, 0, 6, 4, 2, 1, 0, 0, 1, 1, 1]), (20, [0, 3], [30, 0, 1, 1, 5, -1, 0, 0]), (20, [0, 3], [30, 0, -1, 1, 5, 1, 0, 0]), (20, [13, 23], [50, 0, 0, 1, 2, 1, 0, 1, 1]), (20, [10, 9, 11, 12, 4, 5, 19, 24, 13, 23, 14, 15], [61, 5, 1093]), (102, [24], [2944411990052395234623243954974308466357606285312, 164000]), (2, [19, 6, 5], [])], [], [], [(20, [13, 1], [50, 1, 0, 1000, 3, 6, 1, 2, 1, 0, 0, -1, 2, 6, 0, 2, 0, 0, 1, 0, 0, 6, 4, 2, 1, 0, 0, 1, 2, 1, 0]), (20, [2, 1], [50, 1, 0, 1000, 2, 6, 0, 2, 0, 0, 1, 0, 0, 6, 4, 2, 1, 0, 0, 1, 2, 1, 0]), (20, [0, 1, 13], [60, 6, 5, 1066, 5, 6, 8, 1000, 1001, 1002, 0, 1004, 1003, 1007, 1008])], [], [(25, 13, 1, 1)])
theorem oo_Re_meetNode_at_ga_5 {kA : Nat → ClassId} : or_ok PRD kA GG o_Re_meetNode_at_ga_5 := by
  refine or_mk fun A ta ws vs hD hth hl => ?_
  intro t0 r0 t1 r1 t2 k2 t3 k3 t5 k5 t6 k6 t13 k13 t14 k14 t15 k15 t19 k19 t23 k23 t24 k24 t25 k25 d0 f0 f1 f2 f3 f4 f5 f6 f7 f8 f9 f10 f11 f13 f17 f18 f22 f23 ta1 w1 le1 s1 f28
  replace f0 := shm_137 f0
  replace f1 := shm_108 f1
  replace f2 := shm_198 f2
  replace f3 := shm_293 f3
  replace f4 := shm_215 f4
  replace f5 := shm_120 f5
  replace f6 := shm_163 f6
  replace f7 := shm_111 f7
  replace f8 := shm_293 f8
  replace f9 := shm_163 f9
  replace f23 := shm_840 f23
  have ad_9 : v_ad (n_v vs 9) = w_ar ws (n_v vs 1) 3 := congrArg v_ad f0
  have ad_10 : v_ad (n_v vs 10) = w_ar ws (n_v vs 1) 4 := congrArg v_ad f1
  have ad_11 : v_ad (n_v vs 11) = w_ar ws (n_v vs 1) 7 := congrArg v_ad f2
  have ad_12 : v_ad (n_v vs 12) = w_ar ws (n_v vs 1) 8 := congrArg v_ad f3
  have ad_4 : v_ad (n_v vs 4) = w_ar ws (n_v vs 0) 0 := congrArg v_ad f9
  have g4 : v_iv (n_v vs 14) = w_fi ws (n_v vs 1) 1 := congrArg v_iv f4
  have g5 : v_iv (n_v vs 15) = w_fi ws (n_v vs 1) 2 := congrArg v_iv f5
  have g6 : v_iv (n_v vs 25) = w_fi ws (n_v vs 1) 0 := congrArg v_iv f6
  have g7 : v_iv (n_v vs 6) = w_fi ws (n_v vs 0) 6 := congrArg v_iv f7
  have g8 : v_iv (n_v vs 5) = w_fi ws (n_v vs 0) 8 := congrArg v_iv f8
  simp only [ad_4, ad_9, ad_10, ad_11, ad_12] at f23
  have kz_0_5 := fdq_207 hD hth r0
  have kz_0_6 := fdq_208 hD hth r0
  have kz_0_8 := fdq_99 hD hth r0
  have kz_1_0 := fdq_73 hD hth r1
  have kz_1_1 := fdq_74 hD hth r1
  have kz_1_2 := fdq_206 hD hth r1
  have nf0 : fc_1 PRD (20, [13, 1], [50, 1, 0, 1000, 3, 6, 1, 2, 1, 0, 0, -1, 2, 6, 0, 2, 0, 0, 1, 0, 0, 6, 4, 2, 1, 0, 0, 1, 2, 1, 0]) ws (vs) := ⟨nf_in hl rfl, sgq_847 (vc_Re_meetNode_at_ga_5_0 (v_iv (n_v vs 13)) (v_iv (n_v vs 25)) (w_fi ws (n_v vs 1) 0) k13 k25 d0 g6 kz_1_0)⟩
  have nf1 : fc_1 PRD (20, [2, 1], [50, 1, 0, 1000, 2, 6, 0, 2, 0, 0, 1, 0, 0, 6, 4, 2, 1, 0, 0, 1, 2, 1, 0]) ws (vs) := ⟨nf_in hl rfl, sgq_416 (vc_Re_meetNode_at_ga_5_1 (v_iv (n_v vs 2)) (v_iv (n_v vs 13)) (v_iv (n_v vs 25)) (w_fi ws (n_v vs 1) 0) k2 k13 k25 d0 g6 (shm_396 f13) kz_1_0)⟩
  have nf2 : fc_1 PRD (20, [0, 1, 13], [60, 6, 5, 1066, 5, 6, 8, 1000, 1001, 1002, 0, 1004, 1003, 1007, 1008]) ws (vs) := ⟨nf_in hl rfl, sgq_1406 (vc_Re_meetNode_at_ga_5_2 (v_iv (n_v vs 3)) (v_iv (n_v vs 5)) (v_iv (n_v vs 6)) (v_iv (n_v vs 13)) (v_iv (n_v vs 14)) (v_iv (n_v vs 15)) (v_iv (n_v vs 19)) (v_iv (n_v vs 23)) (v_iv (n_v vs 24)) (v_iv (n_v vs 25)) (w_fi ws (n_v vs 1) 1) (w_fi ws (n_v vs 1) 2) (w_fi ws (n_v vs 1) 0) (w_fi ws (n_v vs 0) 6) (w_fi ws (n_v vs 0) 8) (w_fi ws (n_v vs 0) 5) (w_ei ws (w_ar ws (n_v vs 1) 7)) (w_ei ws (w_ar ws (n_v vs 1) 8)) (w_ei ws (w_ar ws (n_v vs 1) 4)) (w_ei ws (w_ar ws (n_v vs 1) 3)) (w_ei ws (w_ar ws (n_v vs 0) 0)) k3 k5 k6 k13 k14 k15 k19 k23 k24 k25 d0 g4 g5 g6 g7 g8 (shm_7 f10) (shm_22 f11) (shm_1403 f17) (shm_1404 f18) (shm_48 f22) f23 (shm_14 f28) kz_0_5 kz_0_6 kz_0_8 kz_1_0 kz_1_1 kz_1_2)⟩
  refine ⟨(fun _ h => (by cases h)), [], trivial, ?_, (fun _ h => (by cases h))⟩
  rw [List.append_nil]
  exact List.forall_mem_cons.mpr ⟨⟨show (20 : Nat) < 100 from by decide, nf0⟩, List.forall_mem_cons.mpr ⟨⟨show (20 : Nat) < 100 from by decide, nf1⟩, List.forall_mem_cons.mpr ⟨⟨show (20 : Nat) < 100 from by decide, nf2⟩, (fun _ h => (by cases h))⟩⟩⟩
def n_Re_meetNode_at_ga_an : List an_T := []
def t_Re_meetNode_at_ga_ct : ct_L := [(67, 116, e_Gr_findNode_at_Gq_Retape), (220, 123, e_Gr_addNode_at_Gq_Retape)]
set_option maxRecDepth 100000 in
theorem c_Re_meetNode_at_ga {l : Launch} {D : va_G} {kA : Nat → ClassId} (h_Gr_addNode_at_Gq_Retape : ct_ok PRD l D kA GG y_Gr_addNode_at_Gq_Retape z_Gr_addNode_at_Gq_Retape e_Gr_addNode_at_Gq_Retape) (h_Gr_findNode_at_Gq_Retape : ct_ok PRD l D kA GG y_Gr_findNode_at_Gq_Retape z_Gr_findNode_at_Gq_Retape e_Gr_findNode_at_Gq_Retape) : ct_ok PRD l D kA GG y_Re_meetNode_at_ga z_Re_meetNode_at_ga e_Re_meetNode_at_ga := chk_all_ok (FT := [(9, 8, 0), (28, 8, 4), (35, 8, 6), (41, 8, 8), (47, 8, 10), (51, 8, 11), (120, 3, 0)]) (PT := []) (CT := t_Re_meetNode_at_ga_ct) (KT := []) (NT := []) (AN := n_Re_meetNode_at_ga_an) (OT := [o_Re_meetNode_at_ga_0, o_Re_meetNode_at_ga_1, o_Re_meetNode_at_ga_2, o_Re_meetNode_at_ga_3, o_Re_meetNode_at_ga_4, o_Re_meetNode_at_ga_5]) 0 200 (List.forall_mem_cons.mpr ⟨oo_Re_meetNode_at_ga_0, List.forall_mem_cons.mpr ⟨oo_Re_meetNode_at_ga_1, List.forall_mem_cons.mpr ⟨oo_Re_meetNode_at_ga_2, List.forall_mem_cons.mpr ⟨oo_Re_meetNode_at_ga_3, List.forall_mem_cons.mpr ⟨oo_Re_meetNode_at_ga_4, List.forall_mem_cons.mpr ⟨oo_Re_meetNode_at_ga_5, List.forall_mem_nil _⟩⟩⟩⟩⟩⟩) (by decide +kernel) ⟨List.forall_mem_cons.mpr ⟨gf_Re_9, List.forall_mem_cons.mpr ⟨gf_Re_28, List.forall_mem_cons.mpr ⟨gf_Re_35, List.forall_mem_cons.mpr ⟨gf_Re_41, List.forall_mem_cons.mpr ⟨gf_Re_47, List.forall_mem_cons.mpr ⟨gf_Re_51, List.forall_mem_cons.mpr ⟨gf_Re_120, List.forall_mem_nil _⟩⟩⟩⟩⟩⟩⟩, List.forall_mem_nil _, List.forall_mem_cons.mpr ⟨cl_virtual (y := y_Gr_findNode_at_Gq_Retape) (ci := 3) rfl rfl ⟨_, _, rfl⟩ (by decide +kernel) h_Gr_findNode_at_Gq_Retape wm_739 wm_3 wm_736 wm_737 wm_738 ⟨by decide, by decide, by decide +kernel⟩ (by decide), List.forall_mem_cons.mpr ⟨cl_virtual (y := y_Gr_addNode_at_Gq_Retape) (ci := 3) rfl rfl ⟨_, _, rfl⟩ (by decide +kernel) h_Gr_addNode_at_Gq_Retape wm_747 wm_3 wm_744 wm_745 wm_746 ⟨by decide, by decide, by decide +kernel⟩ (by decide), List.forall_mem_nil _⟩⟩, List.forall_mem_nil _, List.forall_mem_nil _, GG_pl⟩ (by decide +kernel)
set_option maxHeartbeats 4000000 in
theorem vc_Re_meetNode_at_gx_0_r0 (x4 : Int) (x5 : Int) (x6 : Int) (begin_0 : Int) (next_0 : Int) (k4 : 0 ≤ x4 ∧ x4 ≤ 2000) (k5 : 0 ≤ x5 ∧ x5 ≤ 2000) (k6 : (-2000) ≤ x6 ∧ x6 ≤ 2000) (f0 : x6 = x5 - x4) (g1 : x4 = begin_0) (g2 : x5 = next_0) (f4 : 1 * next_0 + ((-1) * begin_0 + 0) ≤ 8) (f5 : (-1) * next_0 + (1 * begin_0 + 0) ≤ 0) (kz_0_6 : 0 ≤ next_0 ∧ next_0 ≤ 2000) (kz_0_8 : 0 ≤ begin_0 ∧ begin_0 ≤ 2000) : 0 ≤ x6 ∧ x6 ≤ 8 := by
  first
    | omega
  
set_option maxHeartbeats 4000000 in
theorem vc_Re_meetNode_at_gx_0_0 (x4 : Int) (x5 : Int) (x6 : Int) (begin_0 : Int) (next_0 : Int) (k4 : 0 ≤ x4 ∧ x4 ≤ 2000) (k5 : 0 ≤ x5 ∧ x5 ≤ 2000) (k6 : (-2000) ≤ x6 ∧ x6 ≤ 2000) (f0 : x6 = x5 - x4) (g1 : x4 = begin_0) (g2 : x5 = next_0) (kz_0_6 : 0 ≤ next_0 ∧ next_0 ≤ 2000) (kz_0_8 : 0 ≤ begin_0 ∧ begin_0 ≤ 2000) : x4 + x6 ≤ 2000 := by
  first
    | omega
  
set_option maxHeartbeats 4000000 in
theorem vc_Re_meetNode_at_gx_0_1 (nodes_0o1 : Int) (gx : Int) (kz_1_0 : 0 ≤ nodes_0o1 ∧ nodes_0o1 ≤ 24) (ex2 : gx = nodes_0o1) : 1 * nodes_0o1 + ((-1) * gx + 0) ≤ 0 := by
  first
    | omega
  
set_option maxHeartbeats 4000000 in
theorem vc_Re_meetNode_at_gx_0_2 (nodes_0o1 : Int) (gx : Int) (kz_1_0 : 0 ≤ nodes_0o1 ∧ nodes_0o1 ≤ 24) (ex2 : gx = nodes_0o1) : (-1) * nodes_0o1 + (1 * gx + 0) ≤ 0 := by
  first
    | omega
  
def o_Re_meetNode_at_gx_0 : or_T := (21, 7, [(0, (2, 0, 0, [8])), (1, (2, 0, 0, [164])), (2, (0, 0, 2000, [])), (3, (2, 0, 0, [109])), (4, (0, 0, 2000, [])), (5, (0, 0, 2000, [])), (6, (0, -2000, 2000, []))], [(2, [6, 5, 4], []), (9, [4, 0], [8]), (9, [5, 0], [6]), (9, [3, 0], [0]), (20, [0, 0], [30, 8, 1, 1, 6, -1, 1, 8]), (20, [0, 0], [30, 0, -1, 1, 6, 1, 1, 8]), (20, [1], [60, 2, 3, 670, 0, 1, 14, 7, 8]), (20, [1], [60, 2, 2, 596, 0, 1, 7, 8]), (20, [0, 2], [30, 0, 1, 1, 5, -1, 0, 0]), (20, [0, 2], [30, 0, -1, 1, 5, 1, 0, 0]), (20, [0, 1], [60, 6, 5, 1065, 5, 6, 8, 1000, 1001, 1002, 0, 1004, 1003, 1007, 1008])], [(6, (0, 0, 8, []))], [(0, 0, 24, [])], [(21, [4, 6], [2000]), (20, [1, 7], [30, 0, 1, 1, 0, -1, 0, 0]), (20, [1, 7], [30, 0, -1, 1, 0, 1, 0, 0])], [], [(6, 5, -2000, 0)])
theorem oo_Re_meetNode_at_gx_0 {kA : Nat → ClassId} : or_ok PRD kA GG o_Re_meetNode_at_gx_0 := by
  refine or_mk fun A ta ws vs hD hth hl => ?_
  intro t0 r0 t1 r1 t2 k2 t3 r3 t4 k4 t5 k5 t6 k6 d0 f0 f1 f2 f3 f4 f5 f6 f7 f8 f9 f10
  replace f0 := shm_14 f0
  replace f1 := shm_293 f1
  replace f2 := shm_111 f2
  replace f4 := shm_1401 f4
  replace f5 := shm_1402 f5
  have g1 : v_iv (n_v vs 4) = w_fi ws (n_v vs 0) 8 := congrArg v_iv f1
  have g2 : v_iv (n_v vs 5) = w_fi ws (n_v vs 0) 6 := congrArg v_iv f2
  have kz_0_6 := fdq_208 hD hth r0
  have kz_0_8 := fdq_99 hD hth r0
  have kz_1_0 := fdq_73 hD hth r1
  obtain ⟨x, ex, hx⟩ := iv_ex (ta := ta) (lo := 0) (hi := 24) (z := w_fi ws (n_v vs 1) 0) (by omega) (by omega) (by omega) (by omega)
  have ex2 : v_iv (Value.int x) = w_fi ws (n_v vs 1) 0 := ex
  have ex3 : 0 ≤ v_iv (Value.int x) ∧ v_iv (Value.int x) ≤ 24 := tv_rng hx
  have hrf0 : 0 ≤ v_iv (n_v vs 6) ∧ v_iv (n_v vs 6) ≤ 8 := vc_Re_meetNode_at_gx_0_r0 (v_iv (n_v vs 4)) (v_iv (n_v vs 5)) (v_iv (n_v vs 6)) (w_fi ws (n_v vs 0) 8) (w_fi ws (n_v vs 0) 6) k4 k5 k6 f0 g1 g2 f4 f5 kz_0_6 kz_0_8
  have e_1 : n_v (vs ++ [Value.int x]) 1 = n_v vs 1 := n_v_old (by rw [hl]; decide)
  have e_4 : n_v (vs ++ [Value.int x]) 4 = n_v vs 4 := n_v_old (by rw [hl]; decide)
  have e_6 : n_v (vs ++ [Value.int x]) 6 = n_v vs 6 := n_v_old (by rw [hl]; decide)
  have e_7 : n_v (vs ++ [Value.int x]) 7 = Value.int x := n_v_new hl
  have nf0 : fc_1 PRD (21, [4, 6], [2000]) ws (vs ++ [Value.int x]) := by
    refine ⟨nf_inA hl rfl, sgq_831 ?_⟩
    · show v_iv (n_v (vs ++ [Value.int x]) 4) + v_iv (n_v (vs ++ [Value.int x]) 6) ≤ 2000
      simp only [e_4, e_6]
      exact vc_Re_meetNode_at_gx_0_0 (v_iv (n_v vs 4)) (v_iv (n_v vs 5)) (v_iv (n_v vs 6)) (w_fi ws (n_v vs 0) 8) (w_fi ws (n_v vs 0) 6) k4 k5 k6 f0 g1 g2 kz_0_6 kz_0_8
  have nf1 : fc_1 PRD (20, [1, 7], [30, 0, 1, 1, 0, -1, 0, 0]) ws (vs ++ [Value.int x]) := by
    refine ⟨nf_inA hl rfl, sgq_844 ?_⟩
    · show 1 * w_fi ws (n_v (vs ++ [Value.int x]) 1) 0 + ((-1) * v_iv (n_v (vs ++ [Value.int x]) 7) + 0) ≤ 0
      simp only [e_1, e_7]
      exact vc_Re_meetNode_at_gx_0_1 (w_fi ws (n_v vs 1) 0) (v_iv (Value.int x)) kz_1_0 ex2
  have nf2 : fc_1 PRD (20, [1, 7], [30, 0, -1, 1, 0, 1, 0, 0]) ws (vs ++ [Value.int x]) := by
    refine ⟨nf_inA hl rfl, sgq_845 ?_⟩
    · show (-1) * w_fi ws (n_v (vs ++ [Value.int x]) 1) 0 + (1 * v_iv (n_v (vs ++ [Value.int x]) 7) + 0) ≤ 0
      simp only [e_1, e_7]
      exact vc_Re_meetNode_at_gx_0_2 (w_fi ws (n_v vs 1) 0) (v_iv (Value.int x)) kz_1_0 ex2
  have rf6 : tv_ok ta (0, 0, 8, []) (n_v vs 6) := tv_in t6 (by first | omega | grind) (by first | omega | grind)
  exact ⟨List.forall_mem_cons.mpr ⟨rf6, (fun _ h => (by cases h))⟩, [Value.int x], ag_one hx, List.forall_mem_cons.mpr ⟨⟨show (21 : Nat) < 100 from by decide, nf0⟩, List.forall_mem_cons.mpr ⟨⟨show (20 : Nat) < 100 from by decide, nf1⟩, List.forall_mem_cons.mpr ⟨⟨show (20 : Nat) < 100 from by decide, nf2⟩, (fun _ h => (by cases h))⟩⟩⟩, (fun _ h => (by cases h))⟩
set_option maxHeartbeats 4000000 in
theorem vc_Re_meetNode_at_gx_1_0 (x4 : Int) (x5 : Int) (x6 : Int) (x7 : Int) (x12 : Int) (x13 : Int) (x14 : Int) (x15 : Int) (groups_0o1 : Int) (edges_0o1 : Int) (nodes_0o1 : Int) (nameLength_0o1 : Int → Int) (name_0o1 : Int → Int) (tape_0 : Int → Int) (begin_0 : Int) (next_0 : Int) (tail_0o1 : Int → Int) (head_0o1 : Int → Int) (end_0 : Int) (k4 : 0 ≤ x4 ∧ x4 ≤ 2000) (k5 : 0 ≤ x5 ∧ x5 ≤ 2000) (k6 : 0 ≤ x6 ∧ x6 ≤ 8) (k7 : 0 ≤ x7 ∧ x7 ≤ 24) (k12 : 0 ≤ x12 ∧ x12 ≤ 24) (k13 : 0 ≤ x13 ∧ x13 ≤ 48) (k14 : 0 ≤ x14 ∧ x14 ≤ 8) (k15 : 0 ≤ x15 ∧ x15 ≤ 23) (g0 : x14 = groups_0o1) (g1 : x13 = edges_0o1) (g2 : x12 = nodes_0o1) (f9 : cFNp (nameLength_0o1) (name_0o1) (tape_0) (x7) (x4) (x6) (x15)) (f10 : nodes_0o1 = x7) (f14 : x6 = x5 - x4) (g15 : x4 = begin_0) (g16 : x5 = next_0) (f24 : CGT (end_0) (next_0) (begin_0) (nodes_0o1) (edges_0o1) (groups_0o1) (tape_0) (nameLength_0o1) (name_0o1) (tail_0o1) (head_0o1)) (kz_0_5 : 0 ≤ end_0 ∧ end_0 ≤ 2000) (kz_0_6 : 0 ≤ next_0 ∧ next_0 ≤ 2000) (kz_0_8 : 0 ≤ begin_0 ∧ begin_0 ≤ 2000) (kz_1_0 : 0 ≤ nodes_0o1 ∧ nodes_0o1 ≤ 24) (kz_1_1 : 0 ≤ edges_0o1 ∧ edges_0o1 ≤ 48) (kz_1_2 : 0 ≤ groups_0o1 ∧ groups_0o1 ≤ 8) : CGM (end_0) (next_0) (begin_0) (nodes_0o1) (edges_0o1) (groups_0o1) (tape_0) (nameLength_0o1) (name_0o1) (tail_0o1) (head_0o1) (x15) := by
  first | subst g0 | skip
  first | subst g1 | skip
  first | subst g2 | skip
  first | subst g15 | skip
  first | subst g16 | skip
  first
    | exact mt_old ‹CGT _ _ _ _ _ _ _ _ _ _ _› ‹cFNp _ _ _ _ _ _ _› (by omega) (by omega) (by omega) (by omega)
    | exact mt_pm ‹CGMp _ _ _ _ _ _ _ _ _ _ _ _› (by omega) (by omega) (by omega) (by omega) (by omega) (by omega)
def o_Re_meetNode_at_gx_1 : or_T := (77, 17, [(0, (2, 0, 0, [8])), (1, (2, 0, 0, [164])), (4, (0, 0, 2000, [])), (5, (0, 0, 2000, [])), (6, (0, 0, 8, [])), (7, (0, 0, 24, [])), (12, (0, 0, 24, [])), (13, (0, 0, 48, [])), (14, (0, 0, 8, [])), (15, (0, 0, 23, []))], [(9, [14, 1], [2]), (9, [13, 1], [1]), (9, [12, 1], [0]), (9, [9, 1], [4]), (9, [8, 1], [3]), (20, [9, 8, 3, 7, 4, 6, 15], [61, 3, 1091]), (20, [1, 7], [50, 1, 0, 0, 1, 3, 2, 0, 0, 1, 1]), (2, [6, 5, 4], []), (9, [4, 0], [8]), (9, [5, 0], [6]), (9, [3, 0], [0]), (20, [0, 1], [60, 6, 5, 1065, 5, 6, 8, 1000, 1001, 1002, 0, 1004, 1003, 1007, 1008])], [], [], [(20, [0, 1, 15], [60, 6, 5, 1066, 5, 6, 8, 1000, 1001, 1002, 0, 1004, 1003, 1007, 1008])], [], [])
theorem oo_Re_meetNode_at_gx_1 {kA : Nat → ClassId} : or_ok PRD kA GG o_Re_meetNode_at_gx_1 := by
  refine or_mk fun A ta ws vs hD hth hl => ?_
  intro t0 r0 t1 r1 t4 k4 t5 k5 t6 k6 t7 k7 t12 k12 t13 k13 t14 k14 t15 k15 f0 f1 f2 f5 f6 f9 f10 f14 f15 f16 f17 f24
  replace f0 := shm_120 f0
  replace f1 := shm_215 f1
  replace f2 := shm_163 f2
  replace f5 := shm_108 f5
  replace f6 := shm_137 f6
  replace f9 := shm_848 f9
  replace f15 := shm_293 f15
  replace f16 := shm_111 f16
  replace f17 := shm_163 f17
  have ad_9 : v_ad (n_v vs 9) = w_ar ws (n_v vs 1) 4 := congrArg v_ad f5
  have ad_8 : v_ad (n_v vs 8) = w_ar ws (n_v vs 1) 3 := congrArg v_ad f6
  have ad_3 : v_ad (n_v vs 3) = w_ar ws (n_v vs 0) 0 := congrArg v_ad f17
  have g0 : v_iv (n_v vs 14) = w_fi ws (n_v vs 1) 2 := congrArg v_iv f0
  have g1 : v_iv (n_v vs 13) = w_fi ws (n_v vs 1) 1 := congrArg v_iv f1
  have g2 : v_iv (n_v vs 12) = w_fi ws (n_v vs 1) 0 := congrArg v_iv f2
  simp only [ad_3, ad_8, ad_9] at f9
  have g15 : v_iv (n_v vs 4) = w_fi ws (n_v vs 0) 8 := congrArg v_iv f15
  have g16 : v_iv (n_v vs 5) = w_fi ws (n_v vs 0) 6 := congrArg v_iv f16
  have kz_0_5 := fdq_207 hD hth r0
  have kz_0_6 := fdq_208 hD hth r0
  have kz_0_8 := fdq_99 hD hth r0
  have kz_1_0 := fdq_73 hD hth r1
  have kz_1_1 := fdq_74 hD hth r1
  have kz_1_2 := fdq_206 hD hth r1
  have nf0 : fc_1 PRD (20, [0, 1, 15], [60, 6, 5, 1066, 5, 6, 8, 1000, 1001, 1002, 0, 1004, 1003, 1007, 1008]) ws (vs) := ⟨nf_in hl rfl, sgq_1406 (vc_Re_meetNode_at_gx_1_0 (v_iv (n_v vs 4)) (v_iv (n_v vs 5)) (v_iv (n_v vs 6)) (v_iv (n_v vs 7)) (v_iv (n_v vs 12)) (v_iv (n_v vs 13)) (v_iv (n_v vs 14)) (v_iv (n_v vs 15)) (w_fi ws (n_v vs 1) 2) (w_fi ws (n_v vs 1) 1) (w_fi ws (n_v vs 1) 0) (w_ei ws (w_ar ws (n_v vs 1) 4)) (w_ei ws (w_ar ws (n_v vs 1) 3)) (w_ei ws (w_ar ws (n_v vs 0) 0)) (w_fi ws (n_v vs 0) 8) (w_fi ws (n_v vs 0) 6) (w_ei ws (w_ar ws (n_v vs 1) 7)) (w_ei ws (w_ar ws (n_v vs 1) 8)) (w_fi ws (n_v vs 0) 5) k4 k5 k6 k7 k12 k13 k14 k15 g0 g1 g2 f9 (shm_570 f10) (shm_14 f14) g15 g16 (shm_1405 f24) kz_0_5 kz_0_6 kz_0_8 kz_1_0 kz_1_1 kz_1_2)⟩
  refine ⟨(fun _ h => (by cases h)), [], trivial, ?_, (fun _ h => (by cases h))⟩
  rw [List.append_nil]
  exact List.forall_mem_cons.mpr ⟨⟨show (20 : Nat) < 100 from by decide, nf0⟩, (fun _ h => (by cases h))⟩
set_option maxHeartbeats 4000000 in
theorem vc_Re_meetNode_at_gx_2_0 (x4 : Int) (x5 : Int) (x6 : Int) (x7 : Int) (x12 : Int) (x13 : Int) (x14 : Int) (x15 : Int) (groups_0o1 : Int) (edges_0o1 : Int) (nodes_0o1 : Int) (nameLength_0o1 : Int → Int) (name_0o1 : Int → Int) (tape_0 : Int → Int) (begin_0 : Int) (next_0 : Int) (tail_0o1 : Int → Int) (head_0o1 : Int → Int) (end_0 : Int) (k4 : 0 ≤ x4 ∧ x4 ≤ 2000) (k5 : 0 ≤ x5 ∧ x5 ≤ 2000) (k6 : 0 ≤ x6 ∧ x6 ≤ 8) (k7 : 0 ≤ x7 ∧ x7 ≤ 24) (k12 : 24 ≤ x12 ∧ x12 ≤ 24) (k13 : 0 ≤ x13 ∧ x13 ≤ 48) (k14 : 0 ≤ x14 ∧ x14 ≤ 8) (k15 : (-1) ≤ x15 ∧ x15 ≤ (-1)) (g0 : x14 = groups_0o1) (g1 : x13 = edges_0o1) (g7 : x12 = nodes_0o1) (f10 : cFNp (nameLength_0o1) (name_0o1) (tape_0) (x7) (x4) (x6) (x15)) (f11 : nodes_0o1 = x7) (f15 : x6 = x5 - x4) (g16 : x4 = begin_0) (g17 : x5 = next_0) (f25 : CGT (end_0) (next_0) (begin_0) (nodes_0o1) (edges_0o1) (groups_0o1) (tape_0) (nameLength_0o1) (name_0o1) (tail_0o1) (head_0o1)) (kz_0_5 : 0 ≤ end_0 ∧ end_0 ≤ 2000) (kz_0_6 : 0 ≤ next_0 ∧ next_0 ≤ 2000) (kz_0_8 : 0 ≤ begin_0 ∧ begin_0 ≤ 2000) (kz_1_0 : 0 ≤ nodes_0o1 ∧ nodes_0o1 ≤ 24) (kz_1_1 : 0 ≤ edges_0o1 ∧ edges_0o1 ≤ 48) (kz_1_2 : 0 ≤ groups_0o1 ∧ groups_0o1 ≤ 8) : CGM (end_0) (next_0) (begin_0) (nodes_0o1) (edges_0o1) (groups_0o1) (tape_0) (nameLength_0o1) (name_0o1) (tail_0o1) (head_0o1) (x15) := by
  first | subst g0 | skip
  first | subst g1 | skip
  first | subst g7 | skip
  first | subst g16 | skip
  first | subst g17 | skip
  first
    | exact mt_old ‹CGT _ _ _ _ _ _ _ _ _ _ _› ‹cFNp _ _ _ _ _ _ _› (by omega) (by omega) (by omega) (by omega)
    | exact mt_pm ‹CGMp _ _ _ _ _ _ _ _ _ _ _ _› (by omega) (by omega) (by omega) (by omega) (by omega) (by omega)
def o_Re_meetNode_at_gx_2 : or_T := (77, 18, [(0, (2, 0, 0, [8])), (1, (2, 0, 0, [164])), (4, (0, 0, 2000, [])), (5, (0, 0, 2000, [])), (6, (0, 0, 8, [])), (7, (0, 0, 24, [])), (12, (0, 24, 24, [])), (13, (0, 0, 48, [])), (14, (0, 0, 8, [])), (15, (0, -1, -1, []))], [(9, [14, 1], [2]), (9, [13, 1], [1]), (9, [9, 1], [4]), (9, [8, 1], [3]), (9, [12, 1], [0]), (20, [9, 8, 3, 7, 4, 6, 15], [61, 3, 1091]), (20, [1, 7], [50, 1, 0, 0, 1, 3, 2, 0, 0, 1, 1]), (2, [6, 5, 4], []), (9, [4, 0], [8]), (9, [5, 0], [6]), (9, [3, 0], [0]), (20, [0, 1], [60, 6, 5, 1065, 5, 6, 8, 1000, 1001, 1002, 0, 1004, 1003, 1007, 1008])], [], [], [(20, [0, 1, 15], [60, 6, 5, 1066, 5, 6, 8, 1000, 1001, 1002, 0, 1004, 1003, 1007, 1008])], [], [])
theorem oo_Re_meetNode_at_gx_2 {kA : Nat → ClassId} : or_ok PRD kA GG o_Re_meetNode_at_gx_2 := by
  refine or_mk fun A ta ws vs hD hth hl => ?_
  intro t0 r0 t1 r1 t4 k4 t5 k5 t6 k6 t7 k7 t12 k12 t13 k13 t14 k14 t15 k15 f0 f1 f4 f5 f7 f10 f11 f15 f16 f17 f18 f25
  replace f0 := shm_120 f0
  replace f1 := shm_215 f1
  replace f4 := shm_108 f4
  replace f5 := shm_137 f5
  replace f7 := shm_163 f7
  replace f10 := shm_848 f10
  replace f16 := shm_293 f16
  replace f17 := shm_111 f17
  replace f18 := shm_163 f18
  have ad_9 : v_ad (n_v vs 9) = w_ar ws (n_v vs 1) 4 := congrArg v_ad f4
  have ad_8 : v_ad (n_v vs 8) = w_ar ws (n_v vs 1) 3 := congrArg v_ad f5
  have ad_3 : v_ad (n_v vs 3) = w_ar ws (n_v vs 0) 0 := congrArg v_ad f18
  have g0 : v_iv (n_v vs 14) = w_fi ws (n_v vs 1) 2 := congrArg v_iv f0
  have g1 : v_iv (n_v vs 13) = w_fi ws (n_v vs 1) 1 := congrArg v_iv f1
  have g7 : v_iv (n_v vs 12) = w_fi ws (n_v vs 1) 0 := congrArg v_iv f7
  simp only [ad_3, ad_8, ad_9] at f10
  have g16 : v_iv (n_v vs 4) = w_fi ws (n_v vs 0) 8 := congrArg v_iv f16
  have g17 : v_iv (n_v vs 5) = w_fi ws (n_v vs 0) 6 := congrArg v_iv f17
  have kz_0_5 := fdq_207 hD hth r0
  have kz_0_6 := fdq_208 hD hth r0
  have kz_0_8 := fdq_99 hD hth r0
  have kz_1_0 := fdq_73 hD hth r1
  have kz_1_1 := fdq_74 hD hth r1
  have kz_1_2 := fdq_206 hD hth r1
  have nf0 : fc_1 PRD (20, [0, 1, 15], [60, 6, 5, 1066, 5, 6, 8, 1000, 1001, 1002, 0, 1004, 1003, 1007, 1008]) ws (vs) := ⟨nf_in hl rfl, sgq_1406 (vc_Re_meetNode_at_gx_2_0 (v_iv (n_v vs 4)) (v_iv (n_v vs 5)) (v_iv (n_v vs 6)) (v_iv (n_v vs 7)) (v_iv (n_v vs 12)) (v_iv (n_v vs 13)) (v_iv (n_v vs 14)) (v_iv (n_v vs 15)) (w_fi ws (n_v vs 1) 2) (w_fi ws (n_v vs 1) 1) (w_fi ws (n_v vs 1) 0) (w_ei ws (w_ar ws (n_v vs 1) 4)) (w_ei ws (w_ar ws (n_v vs 1) 3)) (w_ei ws (w_ar ws (n_v vs 0) 0)) (w_fi ws (n_v vs 0) 8) (w_fi ws (n_v vs 0) 6) (w_ei ws (w_ar ws (n_v vs 1) 7)) (w_ei ws (w_ar ws (n_v vs 1) 8)) (w_fi ws (n_v vs 0) 5) k4 k5 k6 k7 k12 k13 k14 k15 g0 g1 g7 f10 (shm_570 f11) (shm_14 f15) g16 g17 (shm_1405 f25) kz_0_5 kz_0_6 kz_0_8 kz_1_0 kz_1_1 kz_1_2)⟩
  refine ⟨(fun _ h => (by cases h)), [], trivial, ?_, (fun _ h => (by cases h))⟩
  rw [List.append_nil]
  exact List.forall_mem_cons.mpr ⟨⟨show (20 : Nat) < 100 from by decide, nf0⟩, (fun _ h => (by cases h))⟩
set_option maxHeartbeats 4000000 in
theorem vc_Re_meetNode_at_gx_3_r0 (x4 : Int) (x5 : Int) (x6 : Int) (x18 : Int) (begin_0 : Int) (next_0 : Int) (k4 : 0 ≤ x4 ∧ x4 ≤ 2000) (k5 : 0 ≤ x5 ∧ x5 ≤ 2000) (k6 : 0 ≤ x6 ∧ x6 ≤ 8) (k18 : (-2000) ≤ x18 ∧ x18 ≤ 2000) (f6 : x18 = x5 - x4) (g7 : x4 = begin_0) (g8 : x5 = next_0) (f19 : x6 = x5 - x4) (kz_0_6 : 0 ≤ next_0 ∧ next_0 ≤ 2000) (kz_0_8 : 0 ≤ begin_0 ∧ begin_0 ≤ 2000) : 0 ≤ x18 ∧ x18 ≤ 8 := by
  first
    | omega
  
set_option maxHeartbeats 4000000 in
theorem vc_Re_meetNode_at_gx_3_0 (x2 : Int) (end_0 : Int) (gy : Int) (k2 : 0 ≤ x2 ∧ x2 ≤ 2000) (f24 : 1 * end_0 + ((-1) * x2 + 0) ≤ 0) (f25 : (-1) * end_0 + (1 * x2 + 0) ≤ 0) (kz_0_5 : 0 ≤ end_0 ∧ end_0 ≤ 2000) (ey2 : gy = x2) : 1 * gy + ((-1) * x2 + 0) ≤ 0 := by
  first
    | omega
  
set_option maxHeartbeats 4000000 in
theorem vc_Re_meetNode_at_gx_3_1 (x2 : Int) (end_0 : Int) (gy : Int) (k2 : 0 ≤ x2 ∧ x2 ≤ 2000) (f24 : 1 * end_0 + ((-1) * x2 + 0) ≤ 0) (f25 : (-1) * end_0 + (1 * x2 + 0) ≤ 0) (kz_0_5 : 0 ≤ end_0 ∧ end_0 ≤ 2000) (ey2 : gy = x2) : (-1) * gy + (1 * x2 + 0) ≤ 0 := by
  first
    | omega
  
set_option maxHeartbeats 4000000 in
theorem vc_Re_meetNode_at_gx_3_2 (x4 : Int) (x5 : Int) (x18 : Int) (begin_0 : Int) (next_0 : Int) (k4 : 0 ≤ x4 ∧ x4 ≤ 2000) (k5 : 0 ≤ x5 ∧ x5 ≤ 2000) (k18 : (-2000) ≤ x18 ∧ x18 ≤ 2000) (f6 : x18 = x5 - x4) (g7 : x4 = begin_0) (g8 : x5 = next_0) (kz_0_6 : 0 ≤ next_0 ∧ next_0 ≤ 2000) (kz_0_8 : 0 ≤ begin_0 ∧ begin_0 ≤ 2000) : x4 + x18 ≤ 2000 := by
  first
    | omega
  
set_option maxHeartbeats 4000000 in
theorem vc_Re_meetNode_at_gx_3_3 (nodes_0o1 : Int) (gx : Int) (kz_1_0 : 0 ≤ nodes_0o1 ∧ nodes_0o1 ≤ 24) (ex2 : gx = nodes_0o1) : nodes_0o1 = gx := by
  first
    | omega
  
set_option maxHeartbeats 4000000 in
theorem vc_Re_meetNode_at_gx_3_4 (x12 : Int) (nodes_0o1 : Int) (gx : Int) (k12 : 0 ≤ x12 ∧ x12 ≤ 23) (g11 : x12 = nodes_0o1) (kz_1_0 : 0 ≤ nodes_0o1 ∧ nodes_0o1 ≤ 24) (ex2 : gx = nodes_0o1) : nodes_0o1 ≤ 23 := by
  first
    | omega
  
set_option maxHeartbeats 4000000 in
theorem vc_Re_meetNode_at_gx_3_5 (edges_0o1 : Int) (nodes_0o1 : Int) (near_0o1 : Int → Int) (tail_0o1 : Int → Int) (head_0o1 : Int → Int) (f22 : GNB (nodes_0o1) (edges_0o1) (near_0o1) (tail_0o1) (head_0o1)) (kz_1_0 : 0 ≤ nodes_0o1 ∧ nodes_0o1 ≤ 24) (kz_1_1 : 0 ≤ edges_0o1 ∧ edges_0o1 ≤ 48) : GNB (nodes_0o1) (edges_0o1) (near_0o1) (tail_0o1) (head_0o1) := by
  first
    | assumption
  
set_option maxHeartbeats 4000000 in
theorem vc_Re_meetNode_at_gx_3_6 (edges_0o1 : Int) (nodes_0o1 : Int) (tail_0o1 : Int → Int) (head_0o1 : Int → Int) (f23 : GKE (nodes_0o1) (edges_0o1) (tail_0o1) (head_0o1)) (kz_1_0 : 0 ≤ nodes_0o1 ∧ nodes_0o1 ≤ 24) (kz_1_1 : 0 ≤ edges_0o1 ∧ edges_0o1 ≤ 48) : GKE (nodes_0o1) (edges_0o1) (tail_0o1) (head_0o1) := by
  first
    | assumption
  
set_option maxHeartbeats 4000000 in
theorem vc_Re_meetNode_at_gx_3_7 (x2 : Int) (x4 : Int) (x5 : Int) (x6 : Int) (x7 : Int) (x12 : Int) (x13 : Int) (x14 : Int) (x15 : Int) (x18 : Int) (groups_0o1 : Int) (edges_0o1 : Int) (begin_0 : Int) (next_0 : Int) (nodes_0o1 : Int) (nameLength_0o1 : Int → Int) (name_0o1 : Int → Int) (tape_0 : Int → Int) (tail_0o1 : Int → Int) (head_0o1 : Int → Int) (end_0 : Int) (gx : Int) (gy : Int) (k2 : 0 ≤ x2 ∧ x2 ≤ 2000) (k4 : 0 ≤ x4 ∧ x4 ≤ 2000) (k5 : 0 ≤ x5 ∧ x5 ≤ 2000) (k6 : 0 ≤ x6 ∧ x6 ≤ 8) (k7 : 0 ≤ x7 ∧ x7 ≤ 24) (k12 : 0 ≤ x12 ∧ x12 ≤ 23) (k13 : 0 ≤ x13 ∧ x13 ≤ 48) (k14 : 0 ≤ x14 ∧ x14 ≤ 8) (k15 : (-1) ≤ x15 ∧ x15 ≤ (-1)) (k18 : (-2000) ≤ x18 ∧ x18 ≤ 2000) (g0 : x14 = groups_0o1) (g1 : x13 = edges_0o1) (f6 : x18 = x5 - x4) (g7 : x4 = begin_0) (g8 : x5 = next_0) (g11 : x12 = nodes_0o1) (f14 : cFNp (nameLength_0o1) (name_0o1) (tape_0) (x7) (x4) (x6) (x15)) (f15 : nodes_0o1 = x7) (f19 : x6 = x5 - x4) (f24 : 1 * end_0 + ((-1) * x2 + 0) ≤ 0) (f25 : (-1) * end_0 + (1 * x2 + 0) ≤ 0) (f26 : CGT (end_0) (next_0) (begin_0) (nodes_0o1) (edges_0o1) (groups_0o1) (tape_0) (nameLength_0o1) (name_0o1) (tail_0o1) (head_0o1)) (kz_0_5 : 0 ≤ end_0 ∧ end_0 ≤ 2000) (kz_0_6 : 0 ≤ next_0 ∧ next_0 ≤ 2000) (kz_0_8 : 0 ≤ begin_0 ∧ begin_0 ≤ 2000) (kz_1_0 : 0 ≤ nodes_0o1 ∧ nodes_0o1 ≤ 24) (kz_1_1 : 0 ≤ edges_0o1 ∧ edges_0o1 ≤ 48) (kz_1_2 : 0 ≤ groups_0o1 ∧ groups_0o1 ≤ 8) (ex2 : gx = nodes_0o1) (ey2 : gy = x2) : CANp (nameLength_0o1) (name_0o1) (tail_0o1) (head_0o1) (tape_0) (x4) (x18) (gy) (gx) (x13) (x14) := by
  exact mt_can ‹CGT _ _ _ _ _ _ _ _ _ _ _› ‹cFNp _ _ _ _ _ _ _› (by omega) (by omega) (by omega) (by omega) (by omega) (by omega) (by omega) (by omega) (by omega) (by omega) (by omega)
def o_Re_meetNode_at_gx_3 : or_T := (72, 22, [(0, (2, 0, 0, [8])), (1, (2, 0, 0, [164])), (2, (0, 0, 2000, [])), (3, (2, 0, 0, [109])), (4, (0, 0, 2000, [])), (5, (0, 0, 2000, [])), (6, (0, 0, 8, [])), (7, (0, 0, 24, [])), (8, (2, 0, 0, [150])), (9, (2, 0, 0, [151])), (10, (2, 0, 0, [154])), (11, (2, 0, 0, [155])), (12, (0, 0, 23, [])), (13, (0, 0, 48, [])), (14, (0, 0, 8, [])), (15, (0, -1, -1, [])), (16, (0, -1, -1, [])), (17, (0, 24, 24, [])), (18, (0, -2000, 2000, []))], [(9, [14, 1], [2]), (9, [13, 1], [1]), (9, [11, 1], [8]), (9, [10, 1], [7]), (9, [9, 1], [4]), (9, [8, 1], [3]), (2, [18, 5, 4], []), (9, [4, 0], [8]), (9, [5, 0], [6]), (9, [3, 0], [0]), (7, [12, 17], [2]), (9, [12, 1], [0]), (7, [15, 16], [0]), (20, [15, 1], [50, 1, 0, 1000, 3, 6, 1, 2, 1, 0, 0, -1, 2, 6, 0, 2, 0, 0, 1, 0, 0, 6, 4, 2, 1, 0, 0, 1, 2, 1, 0]), (20, [9, 8, 3, 7, 4, 6, 15], [61, 3, 1091]), (20, [1, 7], [50, 1, 0, 0, 1, 3, 2, 0, 0, 1, 1]), (21, [4, 6], [2000]), (20, [1, 7], [30, 0, 1, 1, 0, -1, 0, 0]), (20, [1, 7], [30, 0, -1, 1, 0, 1, 0, 0]), (2, [6, 5, 4], []), (20, [0, 0], [30, 8, 1, 1, 6, -1, 1, 8]), (20, [0, 0], [30, 0, -1, 1, 6, 1, 1, 8]), (20, [1], [60, 2, 3, 670, 0, 1, 14, 7, 8]), (20, [1], [60, 2, 2, 596, 0, 1, 7, 8]), (20, [0, 2], [30, 0, 1, 1, 5, -1, 0, 0]), (20, [0, 2], [30, 0, -1, 1, 5, 1, 0, 0]), (20, [0, 1], [60, 6, 5, 1065, 5, 6, 8, 1000, 1001, 1002, 0, 1004, 1003, 1007, 1008])], [(18, (0, 0, 8, []))], [(0, 0, 24, []), (0, 0, 2000, [])], [(23, [23, 2], [0, 1, -1]), (23, [23, 2], [0, -1, 1]), (21, [4, 18], [2000]), (20, [1, 22], [50, 1, 0, 0, 1, 3, 2, 0, 0, 1, 1]), (20, [1], [50, 1, 0, 0, 0, 3, 2, 0, 0, 0, 23]), (20, [1], [60, 2, 3, 670, 0, 1, 14, 7, 8]), (20, [1], [60, 2, 2, 596, 0, 1, 7, 8]), (20, [9, 8, 10, 11, 3, 4, 18, 23, 22, 13, 14], [61, 5, 1092])], [], [(18, 5, -2000, 0), (6, 5, -2000, 0)])
theorem oo_Re_meetNode_at_gx_3 {kA : Nat → ClassId} : or_ok PRD kA GG o_Re_meetNode_at_gx_3 := by
  refine or_mk fun A ta ws vs hD hth hl => ?_
  intro t0 r0 t1 r1 t2 k2 t3 r3 t4 k4 t5 k5 t6 k6 t7 k7 t8 r8 t9 r9 t10 r10 t11 r11 t12 k12 t13 k13 t14 k14 t15 k15 t16 k16 t17 k17 t18 k18 d0 d1 f0 f1 f2 f3 f4 f5 f6 f7 f8 f9 f10 f11 f12 f13 f14 f15 f16 f17 f18 f19 f20 f21 f22 f23 f24 f25 f26
  replace f0 := shm_120 f0
  replace f1 := shm_215 f1
  replace f2 := shm_293 f2
  replace f3 := shm_198 f3
  replace f4 := shm_108 f4
  replace f5 := shm_137 f5
  replace f6 := shm_14 f6
  replace f7 := shm_293 f7
  replace f8 := shm_111 f8
  replace f9 := shm_163 f9
  replace f11 := shm_163 f11
  replace f14 := shm_848 f14
  replace f15 := shm_570 f15
  replace f19 := shm_14 f19
  replace f22 := shm_825 f22
  replace f23 := shm_386 f23
  replace f24 := shm_1403 f24
  replace f25 := shm_1404 f25
  replace f26 := shm_1405 f26
  have ad_11 : v_ad (n_v vs 11) = w_ar ws (n_v vs 1) 8 := congrArg v_ad f2
  have ad_10 : v_ad (n_v vs 10) = w_ar ws (n_v vs 1) 7 := congrArg v_ad f3
  have ad_9 : v_ad (n_v vs 9) = w_ar ws (n_v vs 1) 4 := congrArg v_ad f4
  have ad_8 : v_ad (n_v vs 8) = w_ar ws (n_v vs 1) 3 := congrArg v_ad f5
  have ad_3 : v_ad (n_v vs 3) = w_ar ws (n_v vs 0) 0 := congrArg v_ad f9
  have g0 : v_iv (n_v vs 14) = w_fi ws (n_v vs 1) 2 := congrArg v_iv f0
  have g1 : v_iv (n_v vs 13) = w_fi ws (n_v vs 1) 1 := congrArg v_iv f1
  have g7 : v_iv (n_v vs 4) = w_fi ws (n_v vs 0) 8 := congrArg v_iv f7
  have g8 : v_iv (n_v vs 5) = w_fi ws (n_v vs 0) 6 := congrArg v_iv f8
  have g11 : v_iv (n_v vs 12) = w_fi ws (n_v vs 1) 0 := congrArg v_iv f11
  simp only [ad_3, ad_8, ad_9] at f14
  have kz_0_5 := fdq_207 hD hth r0
  have kz_0_6 := fdq_208 hD hth r0
  have kz_0_8 := fdq_99 hD hth r0
  have kz_1_0 := fdq_73 hD hth r1
  have kz_1_1 := fdq_74 hD hth r1
  have kz_1_2 := fdq_206 hD hth r1
  obtain ⟨x, ex, hx⟩ := iv_ex (ta := ta) (lo := 0) (hi := 24) (z := w_fi ws (n_v vs 1) 0) (by omega) (by omega) (by omega) (by omega)
  have ex2 : v_iv (Value.int x) = w_fi ws (n_v vs 1) 0 := ex
  have ex3 : 0 ≤ v_iv (Value.int x) ∧ v_iv (Value.int x) ≤ 24 := tv_rng hx
  obtain ⟨y, ey, hy⟩ := iv_ex (ta := ta) (lo := 0) (hi := 2000) (z := v_iv (n_v vs 2)) (by omega) (by omega) (by omega) (by omega)
  have ey2 : v_iv (Value.int y) = v_iv (n_v vs 2) := ey
  have ey3 : 0 ≤ v_iv (Value.int y) ∧ v_iv (Value.int y) ≤ 2000 := tv_rng hy
  have hrf0 : 0 ≤ v_iv (n_v vs 18) ∧ v_iv (n_v vs 18) ≤ 8 := vc_Re_meetNode_at_gx_3_r0 (v_iv (n_v vs 4)) (v_iv (n_v vs 5)) (v_iv (n_v vs 6)) (v_iv (n_v vs 18)) (w_fi ws (n_v vs 0) 8) (w_fi ws (n_v vs 0) 6) k4 k5 k6 k18 f6 g7 g8 f19 kz_0_6 kz_0_8
  have e_1 : n_v (vs ++ [Value.int x, Value.int y]) 1 = n_v vs 1 := n_v_old (by rw [hl]; decide)
  have e_2 : n_v (vs ++ [Value.int x, Value.int y]) 2 = n_v vs 2 := n_v_old (by rw [hl]; decide)
  have e_3 : n_v (vs ++ [Value.int x, Value.int y]) 3 = n_v vs 3 := n_v_old (by rw [hl]; decide)
  have e_4 : n_v (vs ++ [Value.int x, Value.int y]) 4 = n_v vs 4 := n_v_old (by rw [hl]; decide)
  have e_8 : n_v (vs ++ [Value.int x, Value.int y]) 8 = n_v vs 8 := n_v_old (by rw [hl]; decide)
  have e_9 : n_v (vs ++ [Value.int x, Value.int y]) 9 = n_v vs 9 := n_v_old (by rw [hl]; decide)
  have e_10 : n_v (vs ++ [Value.int x, Value.int y]) 10 = n_v vs 10 := n_v_old (by rw [hl]; decide)
  have e_11 : n_v (vs ++ [Value.int x, Value.int y]) 11 = n_v vs 11 := n_v_old (by rw [hl]; decide)
  have e_13 : n_v (vs ++ [Value.int x, Value.int y]) 13 = n_v vs 13 := n_v_old (by rw [hl]; decide)
  have e_14 : n_v (vs ++ [Value.int x, Value.int y]) 14 = n_v vs 14 := n_v_old (by rw [hl]; decide)
  have e_18 : n_v (vs ++ [Value.int x, Value.int y]) 18 = n_v vs 18 := n_v_old (by rw [hl]; decide)
  have e_22 : n_v (vs ++ [Value.int x, Value.int y]) 22 = Value.int x := n_v_new0 hl
  have e_23 : n_v (vs ++ [Value.int x, Value.int y]) 23 = Value.int y := n_v_new1 hl
  have nf0 : fc_1 PRD (23, [23, 2], [0, 1, -1]) ws (vs ++ [Value.int x, Value.int y]) := by
    refine ⟨nf_inA hl rfl, sgq_7 ?_⟩
    · show 1 * v_iv (n_v (vs ++ [Value.int x, Value.int y]) 23) + ((-1) * v_iv (n_v (vs ++ [Value.int x, Value.int y]) 2) + 0) ≤ 0
      simp only [e_2, e_23]
      exact vc_Re_meetNode_at_gx_3_0 (v_iv (n_v vs 2)) (w_fi ws (n_v vs 0) 5) (v_iv (Value.int y)) k2 f24 f25 kz_0_5 ey2
  have nf1 : fc_1 PRD (23, [23, 2], [0, -1, 1]) ws (vs ++ [Value.int x, Value.int y]) := by
    refine ⟨nf_inA hl rfl, sgq_22 ?_⟩
    · show (-1) * v_iv (n_v (vs ++ [Value.int x, Value.int y]) 23) + (1 * v_iv (n_v (vs ++ [Value.int x, Value.int y]) 2) + 0) ≤ 0
      simp only [e_2, e_23]
      exact vc_Re_meetNode_at_gx_3_1 (v_iv (n_v vs 2)) (w_fi ws (n_v vs 0) 5) (v_iv (Value.int y)) k2 f24 f25 kz_0_5 ey2
  have nf2 : fc_1 PRD (21, [4, 18], [2000]) ws (vs ++ [Value.int x, Value.int y]) := by
    refine ⟨nf_inA hl rfl, sgq_831 ?_⟩
    · show v_iv (n_v (vs ++ [Value.int x, Value.int y]) 4) + v_iv (n_v (vs ++ [Value.int x, Value.int y]) 18) ≤ 2000
      simp only [e_4, e_18]
      exact vc_Re_meetNode_at_gx_3_2 (v_iv (n_v vs 4)) (v_iv (n_v vs 5)) (v_iv (n_v vs 18)) (w_fi ws (n_v vs 0) 8) (w_fi ws (n_v vs 0) 6) k4 k5 k18 f6 g7 g8 kz_0_6 kz_0_8
  have nf3 : fc_1 PRD (20, [1, 22], [50, 1, 0, 0, 1, 3, 2, 0, 0, 1, 1]) ws (vs ++ [Value.int x, Value.int y]) := by
    refine ⟨nf_inA hl rfl, sgq_570 ?_⟩
    · show w_fi ws (n_v (vs ++ [Value.int x, Value.int y]) 1) 0 = v_iv (n_v (vs ++ [Value.int x, Value.int y]) 22)
      simp only [e_1, e_22]
      exact vc_Re_meetNode_at_gx_3_3 (w_fi ws (n_v vs 1) 0) (v_iv (Value.int x)) kz_1_0 ex2
  have nf4 : fc_1 PRD (20, [1], [50, 1, 0, 0, 0, 3, 2, 0, 0, 0, 23]) ws (vs ++ [Value.int x, Value.int y]) := by
    refine ⟨nf_inA hl rfl, sgq_832 ?_⟩
    · show w_fi ws (n_v (vs ++ [Value.int x, Value.int y]) 1) 0 ≤ 23
      rw [e_1]
      exact vc_Re_meetNode_at_gx_3_4 (v_iv (n_v vs 12)) (w_fi ws (n_v vs 1) 0) (v_iv (Value.int x)) k12 g11 kz_1_0 ex2
  have nf5 : fc_1 PRD (20, [1], [60, 2, 3, 670, 0, 1, 14, 7, 8]) ws (vs ++ [Value.int x, Value.int y]) := by
    refine ⟨nf_inA hl rfl, sgq_825 ?_⟩
    · show GNB (w_fi ws (n_v (vs ++ [Value.int x, Value.int y]) 1) 0) (w_fi ws (n_v (vs ++ [Value.int x, Value.int y]) 1) 1) (w_ei ws (w_ar ws (n_v (vs ++ [Value.int x, Value.int y]) 1) 14)) (w_ei ws (w_ar ws (n_v (vs ++ [Value.int x, Value.int y]) 1) 7)) (w_ei ws (w_ar ws (n_v (vs ++ [Value.int x, Value.int y]) 1) 8))
      rw [e_1]
      exact vc_Re_meetNode_at_gx_3_5 (w_fi ws (n_v vs 1) 1) (w_fi ws (n_v vs 1) 0) (w_ei ws (w_ar ws (n_v vs 1) 14)) (w_ei ws (w_ar ws (n_v vs 1) 7)) (w_ei ws (w_ar ws (n_v vs 1) 8)) f22 kz_1_0 kz_1_1
  have nf6 : fc_1 PRD (20, [1], [60, 2, 2, 596, 0, 1, 7, 8]) ws (vs ++ [Value.int x, Value.int y]) := by
    refine ⟨nf_inA hl rfl, sgq_386 ?_⟩
    · show GKE (w_fi ws (n_v (vs ++ [Value.int x, Value.int y]) 1) 0) (w_fi ws (n_v (vs ++ [Value.int x, Value.int y]) 1) 1) (w_ei ws (w_ar ws (n_v (vs ++ [Value.int x, Value.int y]) 1) 7)) (w_ei ws (w_ar ws (n_v (vs ++ [Value.int x, Value.int y]) 1) 8))
      rw [e_1]
      exact vc_Re_meetNode_at_gx_3_6 (w_fi ws (n_v vs 1) 1) (w_fi ws (n_v vs 1) 0) (w_ei ws (w_ar ws (n_v vs 1) 7)) (w_ei ws (w_ar ws (n_v vs 1) 8)) f23 kz_1_0 kz_1_1
  have nf7 : fc_1 PRD (20, [9, 8, 10, 11, 3, 4, 18, 23, 22, 13, 14], [61, 5, 1092]) ws (vs ++ [Value.int x, Value.int y]) := by
    refine ⟨nf_inA hl rfl, sgq_833 ?_⟩
    · show CANp (w_ei ws (v_ad (n_v (vs ++ [Value.int x, Value.int y]) 9))) (w_ei ws (v_ad (n_v (vs ++ [Value.int x, Value.int y]) 8))) (w_ei ws (v_ad (n_v (vs ++ [Value.int x, Value.int y]) 10))) (w_ei ws (v_ad (n_v (vs ++ [Value.int x, Value.int y]) 11))) (w_ei ws (v_ad (n_v (vs ++ [Value.int x, Value.int y]) 3))) (v_iv (n_v (vs ++ [Value.int x, Value.int y]) 4)) (v_iv (n_v (vs ++ [Value.int x, Value.int y]) 18)) (v_iv (n_v (vs ++ [Value.int x, Value.int y]) 23)) (v_iv (n_v (vs ++ [Value.int x, Value.int y]) 22)) (v_iv (n_v (vs ++ [Value.int x, Value.int y]) 13)) (v_iv (n_v (vs ++ [Value.int x, Value.int y]) 14))
      simp only [e_3, e_4, e_8, e_9, e_10, e_11, e_13, e_14, e_18, e_22, e_23, ad_3, ad_8, ad_9, ad_10, ad_11]
      exact vc_Re_meetNode_at_gx_3_7 (v_iv (n_v vs 2)) (v_iv (n_v vs 4)) (v_iv (n_v vs 5)) (v_iv (n_v vs 6)) (v_iv (n_v vs 7)) (v_iv (n_v vs 12)) (v_iv (n_v vs 13)) (v_iv (n_v vs 14)) (v_iv (n_v vs 15)) (v_iv (n_v vs 18)) (w_fi ws (n_v vs 1) 2) (w_fi ws (n_v vs 1) 1) (w_fi ws (n_v vs 0) 8) (w_fi ws (n_v vs 0) 6) (w_fi ws (n_v vs 1) 0) (w_ei ws (w_ar ws (n_v vs 1) 4)) (w_ei ws (w_ar ws (n_v vs 1) 3)) (w_ei ws (w_ar ws (n_v vs 0) 0)) (w_ei ws (w_ar ws (n_v vs 1) 7)) (w_ei ws (w_ar ws (n_v vs 1) 8)) (w_fi ws (n_v vs 0) 5) (v_iv (Value.int x)) (v_iv (Value.int y)) k2 k4 k5 k6 k7 k12 k13 k14 k15 k18 g0 g1 f6 g7 g8 g11 f14 f15 f19 f24 f25 f26 kz_0_5 kz_0_6 kz_0_8 kz_1_0 kz_1_1 kz_1_2 ex2 ey2
  have rf18 : tv_ok ta (0, 0, 8, []) (n_v vs 18) := tv_in t18 (by first | omega | grind) (by first | omega | grind)
  exact ⟨List.forall_mem_cons.mpr ⟨rf18, (fun _ h => (by cases h))⟩, [Value.int x, Value.int y], ag_two hx hy, List.forall_mem_cons.mpr ⟨⟨show (23 : Nat) < 100 from by decide, nf0⟩, List.forall_mem_cons.mpr ⟨⟨show (23 : Nat) < 100 from by decide, nf1⟩, List.forall_mem_cons.mpr ⟨⟨show (21 : Nat) < 100 from by decide, nf2⟩, List.forall_mem_cons.mpr ⟨⟨show (20 : Nat) < 100 from by decide, nf3⟩, List.forall_mem_cons.mpr ⟨⟨show (20 : Nat) < 100 from by decide, nf4⟩, List.forall_mem_cons.mpr ⟨⟨show (20 : Nat) < 100 from by decide, nf5⟩, List.forall_mem_cons.mpr ⟨⟨show (20 : Nat) < 100 from by decide, nf6⟩, List.forall_mem_cons.mpr ⟨⟨show (20 : Nat) < 100 from by decide, nf7⟩, (fun _ h => (by cases h))⟩⟩⟩⟩⟩⟩⟩⟩, (fun _ h => (by cases h))⟩
set_option maxHeartbeats 4000000 in
theorem vc_Re_meetNode_at_gx_4_0 (x12 : Int) (x24 : Int) (nodes_0o1 : Int) (k12 : 0 ≤ x12 ∧ x12 ≤ 23) (k24 : 1 ≤ x24 ∧ x24 ≤ 24) (d0 : x12 + 1 ≤ x24 ∧ x24 ≤ x12 + 1) (g6 : x24 = nodes_0o1) (kz_1_0 : 0 ≤ nodes_0o1 ∧ nodes_0o1 ≤ 24) : (x12 = (-1)) ∨ ((0 ≤ x12) ∧ ((x12 + 1) ≤ nodes_0o1)) := by
  first
    | omega
  
set_option maxHeartbeats 4000000 in
theorem vc_Re_meetNode_at_gx_4_1 (x2 : Int) (x4 : Int) (x5 : Int) (x12 : Int) (x13 : Int) (x14 : Int) (x18 : Int) (x22 : Int) (x23 : Int) (x24 : Int) (edges_0o1 : Int) (groups_0o1 : Int) (nodes_0o1 : Int) (next_0 : Int) (begin_0 : Int) (end_0 : Int) (tail_0o1 : Int → Int) (head_0o1 : Int → Int) (nameLength_0o1 : Int → Int) (name_0o1 : Int → Int) (tape_0 : Int → Int) (k2 : 0 ≤ x2 ∧ x2 ≤ 2000) (k4 : 0 ≤ x4 ∧ x4 ≤ 2000) (k5 : 0 ≤ x5 ∧ x5 ≤ 2000) (k12 : 0 ≤ x12 ∧ x12 ≤ 23) (k13 : 0 ≤ x13 ∧ x13 ≤ 48) (k14 : 0 ≤ x14 ∧ x14 ≤ 8) (k18 : 0 ≤ x18 ∧ x18 ≤ 8) (k22 : 0 ≤ x22 ∧ x22 ≤ 24) (k23 : 0 ≤ x23 ∧ x23 ≤ 2000) (k24 : 1 ≤ x24 ∧ x24 ≤ 24) (d0 : x12 + 1 ≤ x24 ∧ x24 ≤ x12 + 1) (g4 : x13 = edges_0o1) (g5 : x14 = groups_0o1) (g6 : x24 = nodes_0o1) (g7 : x5 = next_0) (g8 : x4 = begin_0) (f10 : 1 * x23 + ((-1) * x2 + 0) ≤ 0) (f11 : (-1) * x23 + (1 * x2 + 0) ≤ 0) (f16 : 1 * end_0 + ((-1) * x2 + 0) ≤ 0) (f17 : (-1) * end_0 + (1 * x2 + 0) ≤ 0) (f21 : x12 = x22) (f22 : CGMp (nameLength_0o1) (name_0o1) (tail_0o1) (head_0o1) (tape_0) (x4) (x18) (x23) (x12) (x22) (x13) (x14)) (f27 : x18 = x5 - x4) (kz_0_5 : 0 ≤ end_0 ∧ end_0 ≤ 2000) (kz_0_6 : 0 ≤ next_0 ∧ next_0 ≤ 2000) (kz_0_8 : 0 ≤ begin_0 ∧ begin_0 ≤ 2000) (kz_1_0 : 0 ≤ nodes_0o1 ∧ nodes_0o1 ≤ 24) (kz_1_1 : 0 ≤ edges_0o1 ∧ edges_0o1 ≤ 48) (kz_1_2 : 0 ≤ groups_0o1 ∧ groups_0o1 ≤ 8) : CGM (end_0) (next_0) (begin_0) (nodes_0o1) (edges_0o1) (groups_0o1) (tape_0) (nameLength_0o1) (name_0o1) (tail_0o1) (head_0o1) (x12) := by
  first | subst g4 | skip
  first | subst g5 | skip
  first | subst g6 | skip
  first | subst g7 | skip
  first | subst g8 | skip
  first
    | exact mt_old ‹CGT _ _ _ _ _ _ _ _ _ _ _› ‹cFNp _ _ _ _ _ _ _› (by omega) (by omega) (by omega) (by omega)
    | exact mt_pm ‹CGMp _ _ _ _ _ _ _ _ _ _ _ _› (by omega) (by omega) (by omega) (by omega) (by omega) (by omega)
def o_Re_meetNode_at_gx_4 : or_T := (77, 25, [(0, (2, 0, 0, [8])), (1, (2, 0, 0, [164])), (2, (0, 0, 2000, [])), (4, (0, 0, 2000, [])), (5, (0, 0, 2000, [])), (12, (0, 0, 23, [])), (13, (0, 0, 48, [])), (14, (0, 0, 8, [])), (18, (0, 0, 8, [])), (22, (0, 0, 24, [])), (23, (0, 0, 2000, [])), (24, (0, 1, 24, []))], [(9, [8, 1], [3]), (9, [9, 1], [4]), (9, [10, 1], [7]), (9, [11, 1], [8]), (9, [13, 1], [1]), (9, [14, 1], [2]), (9, [24, 1], [0]), (9, [5, 0], [6]), (9, [4, 0], [8]), (9, [3, 0], [0]), (23, [23, 2], [0, 1, -1]), (23, [23, 2], [0, -1, 1]), (20, [0, 2], [30, 0, 1, 1, 5, -1, 0, 0]), (20, [0, 2], [30, 0, -1, 1, 5, 1, 0, 0]), (20, [12, 22], [50, 0, 0, 1, 2, 1, 0, 1, 1]), (20, [9, 8, 10, 11, 3, 4, 18, 23, 12, 22, 13, 14], [61, 5, 1093]), (102, [23], [2944411990052395234623243954974308466357606285312, 164000]), (2, [18, 5, 4], [])], [], [], [(20, [12, 1], [50, 1, 0, 1000, 3, 6, 1, 2, 1, 0, 0, -1, 2, 6, 0, 2, 0, 0, 1, 0, 0, 6, 4, 2, 1, 0, 0, 1, 2, 1, 0]), (20, [0, 1, 12], [60, 6, 5, 1066, 5, 6, 8, 1000, 1001, 1002, 0, 1004, 1003, 1007, 1008])], [], [(24, 12, 1, 1)])
theorem oo_Re_meetNode_at_gx_4 {kA : Nat → ClassId} : or_ok PRD kA GG o_Re_meetNode_at_gx_4 := by
  refine or_mk fun A ta ws vs hD hth hl => ?_
  intro t0 r0 t1 r1 t2 k2 t4 k4 t5 k5 t12 k12 t13 k13 t14 k14 t18 k18 t22 k22 t23 k23 t24 k24 d0 f0 f1 f2 f3 f4 f5 f6 f7 f8 f9 f10 f11 f16 f17 f21 f22 ta1 w1 le1 s1 f27
  replace f0 := shm_137 f0
  replace f1 := shm_108 f1
  replace f2 := shm_198 f2
  replace f3 := shm_293 f3
  replace f4 := shm_215 f4
  replace f5 := shm_120 f5
  replace f6 := shm_163 f6
  replace f7 := shm_111 f7
  replace f8 := shm_293 f8
  replace f9 := shm_163 f9
  replace f22 := shm_840 f22
  have ad_8 : v_ad (n_v vs 8) = w_ar ws (n_v vs 1) 3 := congrArg v_ad f0
  have ad_9 : v_ad (n_v vs 9) = w_ar ws (n_v vs 1) 4 := congrArg v_ad f1
  have ad_10 : v_ad (n_v vs 10) = w_ar ws (n_v vs 1) 7 := congrArg v_ad f2
  have ad_11 : v_ad (n_v vs 11) = w_ar ws (n_v vs 1) 8 := congrArg v_ad f3
  have ad_3 : v_ad (n_v vs 3) = w_ar ws (n_v vs 0) 0 := congrArg v_ad f9
  have g4 : v_iv (n_v vs 13) = w_fi ws (n_v vs 1) 1 := congrArg v_iv f4
  have g5 : v_iv (n_v vs 14) = w_fi ws (n_v vs 1) 2 := congrArg v_iv f5
  have g6 : v_iv (n_v vs 24) = w_fi ws (n_v vs 1) 0 := congrArg v_iv f6
  have g7 : v_iv (n_v vs 5) = w_fi ws (n_v vs 0) 6 := congrArg v_iv f7
  have g8 : v_iv (n_v vs 4) = w_fi ws (n_v vs 0) 8 := congrArg v_iv f8
  simp only [ad_3, ad_8, ad_9, ad_10, ad_11] at f22
  have kz_0_5 := fdq_207 hD hth r0
  have kz_0_6 := fdq_208 hD hth r0
  have kz_0_8 := fdq_99 hD hth r0
  have kz_1_0 := fdq_73 hD hth r1
  have kz_1_1 := fdq_74 hD hth r1
  have kz_1_2 := fdq_206 hD hth r1
  have nf0 : fc_1 PRD (20, [12, 1], [50, 1, 0, 1000, 3, 6, 1, 2, 1, 0, 0, -1, 2, 6, 0, 2, 0, 0, 1, 0, 0, 6, 4, 2, 1, 0, 0, 1, 2, 1, 0]) ws (vs) := ⟨nf_in hl rfl, sgq_847 (vc_Re_meetNode_at_gx_4_0 (v_iv (n_v vs 12)) (v_iv (n_v vs 24)) (w_fi ws (n_v vs 1) 0) k12 k24 d0 g6 kz_1_0)⟩
  have nf1 : fc_1 PRD (20, [0, 1, 12], [60, 6, 5, 1066, 5, 6, 8, 1000, 1001, 1002, 0, 1004, 1003, 1007, 1008]) ws (vs) := ⟨nf_in hl rfl, sgq_1406 (vc_Re_meetNode_at_gx_4_1 (v_iv (n_v vs 2)) (v_iv (n_v vs 4)) (v_iv (n_v vs 5)) (v_iv (n_v vs 12)) (v_iv (n_v vs 13)) (v_iv (n_v vs 14)) (v_iv (n_v vs 18)) (v_iv (n_v vs 22)) (v_iv (n_v vs 23)) (v_iv (n_v vs 24)) (w_fi ws (n_v vs 1) 1) (w_fi ws (n_v vs 1) 2) (w_fi ws (n_v vs 1) 0) (w_fi ws (n_v vs 0) 6) (w_fi ws (n_v vs 0) 8) (w_fi ws (n_v vs 0) 5) (w_ei ws (w_ar ws (n_v vs 1) 7)) (w_ei ws (w_ar ws (n_v vs 1) 8)) (w_ei ws (w_ar ws (n_v vs 1) 4)) (w_ei ws (w_ar ws (n_v vs 1) 3)) (w_ei ws (w_ar ws (n_v vs 0) 0)) k2 k4 k5 k12 k13 k14 k18 k22 k23 k24 d0 g4 g5 g6 g7 g8 (shm_7 f10) (shm_22 f11) (shm_1403 f16) (shm_1404 f17) (shm_48 f21) f22 (shm_14 f27) kz_0_5 kz_0_6 kz_0_8 kz_1_0 kz_1_1 kz_1_2)⟩
  refine ⟨(fun _ h => (by cases h)), [], trivial, ?_, (fun _ h => (by cases h))⟩
  rw [List.append_nil]
  exact List.forall_mem_cons.mpr ⟨⟨show (20 : Nat) < 100 from by decide, nf0⟩, List.forall_mem_cons.mpr ⟨⟨show (20 : Nat) < 100 from by decide, nf1⟩, (fun _ h => (by cases h))⟩⟩
def n_Re_meetNode_at_gx_an : List an_T := []
def t_Re_meetNode_at_gx_ct : ct_L := [(67, 116, e_Gr_findNode_at_Gq_Retape), (220, 123, e_Gr_addNode_at_Gq_Retape)]
set_option maxRecDepth 100000 in
theorem c_Re_meetNode_at_gx {l : Launch} {D : va_G} {kA : Nat → ClassId} (h_Gr_addNode_at_Gq_Retape : ct_ok PRD l D kA GG y_Gr_addNode_at_Gq_Retape z_Gr_addNode_at_Gq_Retape e_Gr_addNode_at_Gq_Retape) (h_Gr_findNode_at_Gq_Retape : ct_ok PRD l D kA GG y_Gr_findNode_at_Gq_Retape z_Gr_findNode_at_Gq_Retape e_Gr_findNode_at_Gq_Retape) : ct_ok PRD l D kA GG y_Re_meetNode_at_gx z_Re_meetNode_at_gx e_Re_meetNode_at_gx := chk_all_ok (FT := [(9, 8, 0), (28, 8, 4), (35, 8, 6), (41, 8, 8), (47, 8, 10), (51, 8, 11), (120, 3, 0)]) (PT := []) (CT := t_Re_meetNode_at_gx_ct) (KT := []) (NT := []) (AN := n_Re_meetNode_at_gx_an) (OT := [o_Re_meetNode_at_gx_0, o_Re_meetNode_at_gx_1, o_Re_meetNode_at_gx_2, o_Re_meetNode_at_gx_3, o_Re_meetNode_at_gx_4]) 0 200 (List.forall_mem_cons.mpr ⟨oo_Re_meetNode_at_gx_0, List.forall_mem_cons.mpr ⟨oo_Re_meetNode_at_gx_1, List.forall_mem_cons.mpr ⟨oo_Re_meetNode_at_gx_2, List.forall_mem_cons.mpr ⟨oo_Re_meetNode_at_gx_3, List.forall_mem_cons.mpr ⟨oo_Re_meetNode_at_gx_4, List.forall_mem_nil _⟩⟩⟩⟩⟩) (by decide +kernel) ⟨List.forall_mem_cons.mpr ⟨gf_Re_9, List.forall_mem_cons.mpr ⟨gf_Re_28, List.forall_mem_cons.mpr ⟨gf_Re_35, List.forall_mem_cons.mpr ⟨gf_Re_41, List.forall_mem_cons.mpr ⟨gf_Re_47, List.forall_mem_cons.mpr ⟨gf_Re_51, List.forall_mem_cons.mpr ⟨gf_Re_120, List.forall_mem_nil _⟩⟩⟩⟩⟩⟩⟩, List.forall_mem_nil _, List.forall_mem_cons.mpr ⟨cl_virtual (y := y_Gr_findNode_at_Gq_Retape) (ci := 3) rfl rfl ⟨_, _, rfl⟩ (by decide +kernel) h_Gr_findNode_at_Gq_Retape wm_739 wm_3 wm_736 wm_737 wm_738 ⟨by decide, by decide, by decide +kernel⟩ (by decide), List.forall_mem_cons.mpr ⟨cl_virtual (y := y_Gr_addNode_at_Gq_Retape) (ci := 3) rfl rfl ⟨_, _, rfl⟩ (by decide +kernel) h_Gr_addNode_at_Gq_Retape wm_747 wm_3 wm_744 wm_745 wm_746 ⟨by decide, by decide, by decide +kernel⟩ (by decide), List.forall_mem_nil _⟩⟩, List.forall_mem_nil _, List.forall_mem_nil _, GG_pl⟩ (by decide +kernel)

set_option maxHeartbeats 4000000 in
theorem vc_Mo_backFrom_0_r0 (x2 : Int) (x3 : Int) (x8 : Int) (wide_0 : Int) (barredPoint_0 : Int → Int) (costOf_0 : Int → Int) (bucket_0 : Int → Int) (bucketMany_0 : Int → Int) (tall_0 : Int) (k2 : 0 ≤ x2 ∧ x2 ≤ 1000000) (k3 : 0 ≤ x3 ∧ x3 ≤ 5999) (k8 : (-3999999) ≤ x8 ∧ x8 ≤ 600000023) (g0 : x8 = wide_0) (f3 : RTQ (wide_0) (tall_0) (barredPoint_0) (costOf_0) (bucket_0) (bucketMany_0) (x3) (x2)) (kz_0_146 : (-3999999) ≤ wide_0 ∧ wide_0 ≤ 600000023) (kz_0_147 : (-3999999) ≤ tall_0 ∧ tall_0 ≤ 600000007) : 1 ≤ x8 ∧ x8 ≤ 6000 := by
  first
    | (have g := gok_bd (show GRX wide_0 tall_0 from ‹RTQ _ _ _ _ _ _ _ _›.1); omega)
def o_Mo_backFrom_0 : or_T := (14, 9, [(0, (2, 0, 0, [165])), (1, (0, 0, 23999, [])), (2, (0, 0, 1000000, [])), (3, (0, 0, 5999, [])), (5, (0, 0, 5999, [])), (7, (0, 0, 3, [])), (8, (0, -3999999, 600000023, []))], [(9, [8, 0], [146]), (12, [7, 1], [4]), (11, [5, 1], [4]), (20, [0, 3, 2], [60, 2, 4, 495, 146, 147, 143, 140, 141, 142]), (20, [0, 1, 2], [60, 0, 1, 497, 140]), (20, [1, 0], [50, 2, 0, 1146, 1147, 2, 6, 0, 2, 0, 0, 1, 0, 0, 6, 4, 2, 1, 0, 0, 1, 6, 2, 0, 4, 6, 3, 2, 1, 146, 2, 1, 147]), (20, [2], [50, 0, 0, 2, 6, 0, 2, 0, 0, 1, 0, 0, 2, 1, 0, 0, 999999])], [(8, (0, 1, 6000, []))], [], [], [], [])
theorem oo_Mo_backFrom_0 {kA : Nat → ClassId} : or_ok PRD kA GG o_Mo_backFrom_0 := by
  refine or_mk fun A ta ws vs hD hth hl => ?_
  intro t0 r0 t1 k1 t2 k2 t3 k3 t5 k5 t7 k7 t8 k8 f0 f1 f2 f3 f4 f5 f6
  replace f0 := shm_1288 f0
  have g0 : v_iv (n_v vs 8) = w_fi ws (n_v vs 0) 146 := congrArg v_iv f0
  have kz_0_146 := fdq_179 hD hth r0
  have kz_0_147 := fdq_180 hD hth r0
  have hrf0 : 1 ≤ v_iv (n_v vs 8) ∧ v_iv (n_v vs 8) ≤ 6000 := vc_Mo_backFrom_0_r0 (v_iv (n_v vs 2)) (v_iv (n_v vs 3)) (v_iv (n_v vs 8)) (w_fi ws (n_v vs 0) 146) (w_ei ws (w_ar ws (n_v vs 0) 143)) (w_ei ws (w_ar ws (n_v vs 0) 140)) (w_ei ws (w_ar ws (n_v vs 0) 141)) (w_ei ws (w_ar ws (n_v vs 0) 142)) (w_fi ws (n_v vs 0) 147) k2 k3 k8 g0 (shm_704 f3) kz_0_146 kz_0_147
  have rf8 : tv_ok ta (0, 1, 6000, []) (n_v vs 8) := tv_in t8 (by first | omega | grind) (by first | omega | grind)
  refine ⟨List.forall_mem_cons.mpr ⟨rf8, (fun _ h => (by cases h))⟩, [], trivial, ?_, (fun _ h => (by cases h))⟩
  rw [List.append_nil]
  exact (fun _ h => (by cases h))
set_option maxHeartbeats 4000000 in
theorem vc_Mo_backFrom_1_r0 (x7 : Int) (x8 : Int) (x10 : Int) (x11 : Int) (x13 : Int) (x14 : Int) (x20 : Int) (tall_0 : Int) (wide_0 : Int) (k7 : 1 ≤ x7 ∧ x7 ≤ 2) (k10 : 0 ≤ x10 ∧ x10 ≤ 0) (k13 : 0 ≤ x13 ∧ x13 ≤ 0) (k20 : (-3999999) ≤ x20 ∧ x20 ≤ 600000007) (g0 : x20 = tall_0) (f4 : ((x7 = 1) ∧ (x13 = 1)) ∨ (((x7 = 3) ∧ (x13 = (-1))) ∨ ((x7 ≠ 1) ∧ ((x7 ≠ 3) ∧ (x13 = 0))))) (f7 : ((x7 = 0) ∧ (x10 = 1)) ∨ (((x7 = 2) ∧ (x10 = (-1))) ∨ ((x7 ≠ 0) ∧ ((x7 ≠ 2) ∧ (x10 = 0))))) (kz_0_147 : (-3999999) ≤ tall_0 ∧ tall_0 ≤ 600000007) : 1 ≤ x20 ∧ x20 ≤ 6000 := by
  first
    | omega
    | (have h := ‹BFP _ _ _ _ _›.2.2.1; omega)
def o_Mo_backFrom_1 : or_T := (60, 22, [(0, (2, 0, 0, [165])), (1, (0, 0, 23999, [])), (2, (0, 0, 1000000, [])), (3, (0, 0, 5999, [])), (5, (0, 0, 5999, [])), (7, (0, 1, 2, [])), (8, (0, 1, 6000, [])), (9, (0, 0, 5999, [])), (10, (0, 0, 0, [])), (11, (0, 0, 5999, [])), (12, (0, 0, 5999, [])), (13, (0, 0, 0, [])), (14, (0, 0, 5999, [])), (16, (0, 1, 1, [])), (17, (0, 0, 5999, [])), (20, (0, -3999999, 600000007, []))], [(9, [20, 0], [147]), (2, [17, 8, 16], []), (9, [8, 0], [146]), (2, [14, 12, 13], []), (20, [7, 13], [50, 0, 0, 3, 14, 2, 6, 1, 2, 1, 0, 0, 1, 1, 2, 1, 1, 0, 1, 3, 14, 2, 6, 1, 2, 1, 0, 0, 3, 1, 2, 1, 1, 0, -1, 2, 6, 7, 2, 1, 0, 0, 1, 2, 6, 7, 2, 1, 0, 0, 3, 1, 2, 1, 1, 0, 0]), (4, [12, 5, 8], []), (2, [11, 9, 10], []), (20, [7, 10], [50, 0, 0, 3, 14, 2, 6, 1, 2, 1, 0, 0, 0, 1, 2, 1, 1, 0, 1, 3, 14, 2, 6, 1, 2, 1, 0, 0, 2, 1, 2, 1, 1, 0, -1, 2, 6, 7, 2, 1, 0, 0, 0, 2, 6, 7, 2, 1, 0, 0, 2, 1, 2, 1, 1, 0, 0]), (5, [9, 5, 8], []), (12, [7, 1], [4]), (11, [5, 1], [4]), (20, [0, 3, 2], [60, 2, 4, 495, 146, 147, 143, 140, 141, 142]), (20, [0, 1, 2], [60, 0, 1, 497, 140]), (20, [1, 0], [50, 2, 0, 1146, 1147, 2, 6, 0, 2, 0, 0, 1, 0, 0, 6, 4, 2, 1, 0, 0, 1, 6, 2, 0, 4, 6, 3, 2, 1, 146, 2, 1, 147]), (20, [2], [50, 0, 0, 2, 6, 0, 2, 0, 0, 1, 0, 0, 2, 1, 0, 0, 999999])], [(20, (0, 1, 6000, []))], [], [], [], [(11, 17, -4294967296, 0), (17, 8, -1, -1), (14, 12, 0, 0), (11, 9, 0, 0), (11, 8, -4294967295, -1), (9, 8, -4294967295, -1)])
theorem oo_Mo_backFrom_1 {kA : Nat → ClassId} : or_ok PRD kA GG o_Mo_backFrom_1 := by
  refine or_mk fun A ta ws vs hD hth hl => ?_
  intro t0 r0 t1 k1 t2 k2 t3 k3 t5 k5 t7 k7 t8 k8 t9 k9 t10 k10 t11 k11 t12 k12 t13 k13 t14 k14 t16 k16 t17 k17 t20 k20 d0 d1 d2 d3 d4 d5 f0 f1 f2 f3 f4 f5 f6 f7 f8 f9 f10 f11 f12 f13 f14
  replace f0 := shm_1293 f0
  have g0 : v_iv (n_v vs 20) = w_fi ws (n_v vs 0) 147 := congrArg v_iv f0
  have kz_0_147 := fdq_180 hD hth r0
  have hrf0 : 1 ≤ v_iv (n_v vs 20) ∧ v_iv (n_v vs 20) ≤ 6000 := vc_Mo_backFrom_1_r0 (v_iv (n_v vs 7)) (v_iv (n_v vs 8)) (v_iv (n_v vs 10)) (v_iv (n_v vs 11)) (v_iv (n_v vs 13)) (v_iv (n_v vs 14)) (v_iv (n_v vs 20)) (w_fi ws (n_v vs 0) 147) (w_fi ws (n_v vs 0) 146) k7 k10 k13 k20 g0 (shm_565 f4) (shm_564 f7) kz_0_147
  have rf20 : tv_ok ta (0, 1, 6000, []) (n_v vs 20) := tv_in t20 (by first | omega | grind) (by first | omega | grind)
  refine ⟨List.forall_mem_cons.mpr ⟨rf20, (fun _ h => (by cases h))⟩, [], trivial, ?_, (fun _ h => (by cases h))⟩
  rw [List.append_nil]
  exact (fun _ h => (by cases h))
set_option maxHeartbeats 4000000 in
theorem vc_Mo_backFrom_2_r0 (x5 : Int) (x7 : Int) (x8 : Int) (x9 : Int) (x10 : Int) (x11 : Int) (x13 : Int) (x14 : Int) (x20 : Int) (x24 : Int) (x25 : Int) (wide_0 : Int) (tall_0 : Int) (k5 : 0 ≤ x5 ∧ x5 ≤ 5999) (k7 : 1 ≤ x7 ∧ x7 ≤ 2) (k8 : 1 ≤ x8 ∧ x8 ≤ 6000) (k9 : 0 ≤ x9 ∧ x9 ≤ 5999) (k10 : 0 ≤ x10 ∧ x10 ≤ 0) (k11 : 0 ≤ x11 ∧ x11 ≤ 5999) (k13 : 0 ≤ x13 ∧ x13 ≤ 0) (k14 : 0 ≤ x14 ∧ x14 ≤ 5999) (k24 : 0 ≤ x24 ∧ x24 ≤ 35994000) (k25 : 0 ≤ x25 ∧ x25 ≤ 35999999) (d10 : x9 + 0 ≤ x11 ∧ x11 ≤ x9 + 0) (f1 : x25 = x24 + x11) (f2 : x24 = x14 * x8) (g3 : x8 = wide_0) (f8 : ((x7 = 1) ∧ (x13 = 1)) ∨ (((x7 = 3) ∧ (x13 = (-1))) ∨ ((x7 ≠ 1) ∧ ((x7 ≠ 3) ∧ (x13 = 0))))) (f11 : ((x7 = 0) ∧ (x10 = 1)) ∨ (((x7 = 2) ∧ (x10 = (-1))) ∨ ((x7 ≠ 0) ∧ ((x7 ≠ 2) ∧ (x10 = 0))))) (f12 : x9 = Int.tmod (x5) (x8)) (kz_0_146 : (-3999999) ≤ wide_0 ∧ wide_0 ≤ 600000023) : 0 ≤ x25 ∧ x25 ≤ 5999 := by
  first
    | omega
    | (have h := ‹BFP _ _ _ _ _›.2.2.1; omega)
def o_Mo_backFrom_2 : or_T := (86, 27, [(0, (2, 0, 0, [165])), (1, (0, 0, 23999, [])), (2, (0, 0, 1000000, [])), (3, (0, 0, 5999, [])), (5, (0, 0, 5999, [])), (7, (0, 1, 2, [])), (8, (0, 1, 6000, [])), (9, (0, 0, 5999, [])), (10, (0, 0, 0, [])), (11, (0, 0, 5999, [])), (12, (0, 0, 5999, [])), (13, (0, 0, 0, [])), (14, (0, 0, 5999, [])), (16, (0, 1, 1, [])), (17, (0, 0, 5999, [])), (20, (0, 1, 6000, [])), (21, (0, 1, 1, [])), (22, (0, 0, 5999, [])), (24, (0, 0, 35994000, [])), (25, (0, 0, 35999999, [])), (26, (2, 0, 0, [269]))], [(9, [26, 0], [143]), (1, [25, 24, 11], []), (3, [24, 14, 8], []), (9, [8, 0], [146]), (2, [22, 20, 21], []), (9, [20, 0], [147]), (2, [17, 8, 16], []), (2, [14, 12, 13], []), (20, [7, 13], [50, 0, 0, 3, 14, 2, 6, 1, 2, 1, 0, 0, 1, 1, 2, 1, 1, 0, 1, 3, 14, 2, 6, 1, 2, 1, 0, 0, 3, 1, 2, 1, 1, 0, -1, 2, 6, 7, 2, 1, 0, 0, 1, 2, 6, 7, 2, 1, 0, 0, 3, 1, 2, 1, 1, 0, 0]), (4, [12, 5, 8], []), (2, [11, 9, 10], []), (20, [7, 10], [50, 0, 0, 3, 14, 2, 6, 1, 2, 1, 0, 0, 0, 1, 2, 1, 1, 0, 1, 3, 14, 2, 6, 1, 2, 1, 0, 0, 2, 1, 2, 1, 1, 0, -1, 2, 6, 7, 2, 1, 0, 0, 0, 2, 6, 7, 2, 1, 0, 0, 2, 1, 2, 1, 1, 0, 0]), (5, [9, 5, 8], []), (12, [7, 1], [4]), (11, [5, 1], [4]), (20, [0, 3, 2], [60, 2, 4, 495, 146, 147, 143, 140, 141, 142]), (20, [0, 1, 2], [60, 0, 1, 497, 140]), (20, [1, 0], [50, 2, 0, 1146, 1147, 2, 6, 0, 2, 0, 0, 1, 0, 0, 6, 4, 2, 1, 0, 0, 1, 6, 2, 0, 4, 6, 3, 2, 1, 146, 2, 1, 147]), (20, [2], [50, 0, 0, 2, 6, 0, 2, 0, 0, 1, 0, 0, 2, 1, 0, 0, 999999])], [(25, (0, 0, 5999, []))], [], [], [], [(25, 11, 0, 35994000), (25, 17, -4294967296, 35994000), (25, 9, 0, 35994000), (25, 8, -4294967295, 35993999), (25, 24, 0, 5999), (14, 22, -4294967296, 0), (22, 20, -1, -1), (11, 17, -4294967296, 0), (17, 8, -1, -1), (14, 12, 0, 0), (11, 9, 0, 0), (11, 8, -4294967295, -1), (9, 8, -4294967295, -1)])
theorem oo_Mo_backFrom_2 {kA : Nat → ClassId} : or_ok PRD kA GG o_Mo_backFrom_2 := by
  refine or_mk fun A ta ws vs hD hth hl => ?_
  intro t0 r0 t1 k1 t2 k2 t3 k3 t5 k5 t7 k7 t8 k8 t9 k9 t10 k10 t11 k11 t12 k12 t13 k13 t14 k14 t16 k16 t17 k17 t20 k20 t21 k21 t22 k22 t24 k24 t25 k25 t26 r26 d0 d1 d2 d3 d4 d5 d6 d7 d8 d9 d10 d11 d12 f0 f1 f2 f3 f4 f5 f6 f7 f8 f9 f10 f11 f12 f13 f14 f15 f16 f17 f18
  replace f3 := shm_1288 f3
  have g3 : v_iv (n_v vs 8) = w_fi ws (n_v vs 0) 146 := congrArg v_iv f3
  have kz_0_146 := fdq_179 hD hth r0
  have hrf0 : 0 ≤ v_iv (n_v vs 25) ∧ v_iv (n_v vs 25) ≤ 5999 := vc_Mo_backFrom_2_r0 (v_iv (n_v vs 5)) (v_iv (n_v vs 7)) (v_iv (n_v vs 8)) (v_iv (n_v vs 9)) (v_iv (n_v vs 10)) (v_iv (n_v vs 11)) (v_iv (n_v vs 13)) (v_iv (n_v vs 14)) (v_iv (n_v vs 20)) (v_iv (n_v vs 24)) (v_iv (n_v vs 25)) (w_fi ws (n_v vs 0) 146) (w_fi ws (n_v vs 0) 147) k5 k7 k8 k9 k10 k11 k13 k14 k24 k25 d10 (shm_12 f1) (shm_38 f2) g3 (shm_565 f8) (shm_564 f11) (shm_468 f12) kz_0_146
  have rf25 : tv_ok ta (0, 0, 5999, []) (n_v vs 25) := tv_in t25 (by first | omega | grind) (by first | omega | grind)
  refine ⟨List.forall_mem_cons.mpr ⟨rf25, (fun _ h => (by cases h))⟩, [], trivial, ?_, (fun _ h => (by cases h))⟩
  rw [List.append_nil]
  exact (fun _ h => (by cases h))
set_option maxHeartbeats 4000000 in
theorem vc_Mo_backFrom_3_0 (x1 : Int) (x2 : Int) (x3 : Int) (x5 : Int) (x7 : Int) (x8 : Int) (x9 : Int) (x10 : Int) (x11 : Int) (x12 : Int) (x13 : Int) (x14 : Int) (x17 : Int) (x20 : Int) (x22 : Int) (x24 : Int) (x25 : Int) (x27 : Int) (barredPoint_0 : Int → Int) (wide_0 : Int) (tall_0 : Int) (costOf_0 : Int → Int) (bucket_0 : Int → Int) (bucketMany_0 : Int → Int) (k1 : 0 ≤ x1 ∧ x1 ≤ 23999) (k2 : 0 ≤ x2 ∧ x2 ≤ 1000000) (k3 : 0 ≤ x3 ∧ x3 ≤ 5999) (k5 : 0 ≤ x5 ∧ x5 ≤ 5999) (k7 : 1 ≤ x7 ∧ x7 ≤ 2) (k8 : 1 ≤ x8 ∧ x8 ≤ 6000) (k9 : 0 ≤ x9 ∧ x9 ≤ 5999) (k10 : 0 ≤ x10 ∧ x10 ≤ 0) (k11 : 0 ≤ x11 ∧ x11 ≤ 5999) (k12 : 0 ≤ x12 ∧ x12 ≤ 5999) (k13 : 0 ≤ x13 ∧ x13 ≤ 0) (k14 : 0 ≤ x14 ∧ x14 ≤ 5999) (k17 : 0 ≤ x17 ∧ x17 ≤ 5999) (k20 : 1 ≤ x20 ∧ x20 ≤ 6000) (k22 : 0 ≤ x22 ∧ x22 ≤ 5999) (k24 : 0 ≤ x24 ∧ x24 ≤ 35994000) (k25 : 0 ≤ x25 ∧ x25 ≤ 5999) (k27 : 0 ≤ x27 ∧ x27 ≤ 0) (d2 : x24 + 0 ≤ x25 ∧ x25 ≤ x24 + 5999) (d3 : x22 + (-4294967296) ≤ x14 ∧ x14 ≤ x22 + 0) (d4 : x20 + (-1) ≤ x22 ∧ x22 ≤ x20 + (-1)) (d5 : x17 + (-4294967296) ≤ x11 ∧ x11 ≤ x17 + 0) (d6 : x8 + (-1) ≤ x17 ∧ x17 ≤ x8 + (-1)) (d7 : x12 + 0 ≤ x14 ∧ x14 ≤ x12 + 0) (d8 : x9 + 0 ≤ x11 ∧ x11 ≤ x9 + 0) (d9 : x8 + (-4294967295) ≤ x11 ∧ x11 ≤ x8 + (-1)) (f0 : x27 = 0) (h1 : x27 = barredPoint_0 (x25)) (f3 : x25 = x24 + x11) (f4 : x24 = x14 * x8) (g5 : x8 = wide_0) (g7 : x20 = tall_0) (f10 : ((x7 = 1) ∧ (x13 = 1)) ∨ (((x7 = 3) ∧ (x13 = (-1))) ∨ ((x7 ≠ 1) ∧ ((x7 ≠ 3) ∧ (x13 = 0))))) (f11 : x12 = Int.tdiv (x5) (x8)) (f13 : ((x7 = 0) ∧ (x10 = 1)) ∨ (((x7 = 2) ∧ (x10 = (-1))) ∨ ((x7 ≠ 0) ∧ ((x7 ≠ 2) ∧ (x10 = 0))))) (f14 : x9 = Int.tmod (x5) (x8)) (f15 : x7 = x1 % 4) (f16 : x5 = x1 / 4) (f17 : RTQ (wide_0) (tall_0) (barredPoint_0) (costOf_0) (bucket_0) (bucketMany_0) (x3) (x2)) (f18 : PIV (costOf_0) (x1) (x2)) (f19 : (0 ≤ x1) ∧ ((x1 + 1) ≤ (4 * (wide_0 * tall_0)))) (f20 : (0 ≤ x2) ∧ (x2 ≤ 999999)) (kz_0_146 : (-3999999) ≤ wide_0 ∧ wide_0 ≤ 600000023) (kz_0_147 : (-3999999) ≤ tall_0 ∧ tall_0 ≤ 600000007) : BFP (wide_0) (tall_0) (barredPoint_0) (x1) (x25) := by
  first
    | (have g0 : GRX wide_0 tall_0 := ‹RTQ _ _ _ _ _ _ _ _›.1
       have g := gok_bd g0
       have e8 : x8 = wide_0 := by assumption
       have e20 : x20 = tall_0 := by assumption
       have tm : x9 = x5 % wide_0 := by rw [← e8, ‹x9 = Int.tmod x5 x8›]; exact Int.tmod_eq_emod_of_nonneg (by omega)
       have td : x12 = x5 / wide_0 := by rw [← e8, ‹x12 = Int.tdiv x5 x8›]; exact Int.tdiv_eq_ediv_of_nonneg (by omega)
       have hx : x11 = x5 % wide_0 - dxf x7 := by rw [← tm]; unfold dxf; split; omega; split <;> omega
       have hy : x14 = x5 / wide_0 - dyf x7 := by rw [← td]; unfold dyf; split; omega; split <;> omega
       have n := nb_back (T := tall_0) (q := x5) (d := x7) (x := x11) (y := x14) (p := x25) (by omega) (by omega) (by omega) hx hy (by omega) (by omega) (by omega) (by omega) (by rw [← e8, ‹x25 = x24 + x11›, ‹x24 = x14 * x8›])
       have b := rtq_bar ‹RTQ _ _ _ _ _ _ _ _› ‹PIV _ _ _› (by omega) (by omega)
       exact ⟨⟨by omega, by omega⟩, by rw [show x1 % 4 = x7 by omega, show x1 / 4 = x5 by omega]; exact n.1, n.2, by rw [← ‹x27 = barredPoint_0 x25›]; omega, b⟩)
set_option maxHeartbeats 4000000 in
theorem vc_Mo_backFrom_3_1 (x1 : Int) (x7 : Int) (x8 : Int) (x11 : Int) (x14 : Int) (x20 : Int) (x24 : Int) (x25 : Int) (wide_0 : Int) (tall_0 : Int) (k1 : 0 ≤ x1 ∧ x1 ≤ 23999) (k7 : 1 ≤ x7 ∧ x7 ≤ 2) (f15 : x7 = x1 % 4) : x7 = (x1 % 4) := by
  first
    | omega
    | (have h := ‹BFP _ _ _ _ _›.2.2.1; omega)
set_option maxHeartbeats 4000000 in
theorem vc_Mo_backFrom_3_2 (x5 : Int) (x7 : Int) (x8 : Int) (x9 : Int) (x10 : Int) (x11 : Int) (x13 : Int) (x14 : Int) (x20 : Int) (x24 : Int) (x25 : Int) (wide_0 : Int) (tall_0 : Int) (k5 : 0 ≤ x5 ∧ x5 ≤ 5999) (k7 : 1 ≤ x7 ∧ x7 ≤ 2) (k8 : 1 ≤ x8 ∧ x8 ≤ 6000) (k9 : 0 ≤ x9 ∧ x9 ≤ 5999) (k10 : 0 ≤ x10 ∧ x10 ≤ 0) (k11 : 0 ≤ x11 ∧ x11 ≤ 5999) (k13 : 0 ≤ x13 ∧ x13 ≤ 0) (k14 : 0 ≤ x14 ∧ x14 ≤ 5999) (k24 : 0 ≤ x24 ∧ x24 ≤ 35994000) (k25 : 0 ≤ x25 ∧ x25 ≤ 5999) (d8 : x9 + 0 ≤ x11 ∧ x11 ≤ x9 + 0) (f3 : x25 = x24 + x11) (f4 : x24 = x14 * x8) (f10 : ((x7 = 1) ∧ (x13 = 1)) ∨ (((x7 = 3) ∧ (x13 = (-1))) ∨ ((x7 ≠ 1) ∧ ((x7 ≠ 3) ∧ (x13 = 0))))) (f13 : ((x7 = 0) ∧ (x10 = 1)) ∨ (((x7 = 2) ∧ (x10 = (-1))) ∨ ((x7 ≠ 0) ∧ ((x7 ≠ 2) ∧ (x10 = 0))))) (f14 : x9 = Int.tmod (x5) (x8)) (kz_0_146 : (-3999999) ≤ wide_0 ∧ wide_0 ≤ 600000023) (kz_0_147 : (-3999999) ≤ tall_0 ∧ tall_0 ≤ 600000007) : (0 ≤ x25) ∧ ((x25 + 1) ≤ (wide_0 * tall_0)) := by
  first
    | omega
    | (have h := ‹BFP _ _ _ _ _›.2.2.1; omega)
def o_Mo_backFrom_3 : or_T := (94, 29, [(0, (2, 0, 0, [165])), (1, (0, 0, 23999, [])), (2, (0, 0, 1000000, [])), (3, (0, 0, 5999, [])), (5, (0, 0, 5999, [])), (7, (0, 1, 2, [])), (8, (0, 1, 6000, [])), (9, (0, 0, 5999, [])), (10, (0, 0, 0, [])), (11, (0, 0, 5999, [])), (12, (0, 0, 5999, [])), (13, (0, 0, 0, [])), (14, (0, 0, 5999, [])), (16, (0, 1, 1, [])), (17, (0, 0, 5999, [])), (20, (0, 1, 6000, [])), (21, (0, 1, 1, [])), (22, (0, 0, 5999, [])), (24, (0, 0, 35994000, [])), (25, (0, 0, 5999, [])), (26, (2, 0, 0, [269])), (27, (0, 0, 0, []))], [(8, [27], [0]), (10, [27, 26, 25], []), (9, [26, 0], [143]), (1, [25, 24, 11], []), (3, [24, 14, 8], []), (9, [8, 0], [146]), (2, [22, 20, 21], []), (9, [20, 0], [147]), (2, [17, 8, 16], []), (2, [14, 12, 13], []), (20, [7, 13], [50, 0, 0, 3, 14, 2, 6, 1, 2, 1, 0, 0, 1, 1, 2, 1, 1, 0, 1, 3, 14, 2, 6, 1, 2, 1, 0, 0, 3, 1, 2, 1, 1, 0, -1, 2, 6, 7, 2, 1, 0, 0, 1, 2, 6, 7, 2, 1, 0, 0, 3, 1, 2, 1, 1, 0, 0]), (4, [12, 5, 8], []), (2, [11, 9, 10], []), (20, [7, 10], [50, 0, 0, 3, 14, 2, 6, 1, 2, 1, 0, 0, 0, 1, 2, 1, 1, 0, 1, 3, 14, 2, 6, 1, 2, 1, 0, 0, 2, 1, 2, 1, 1, 0, -1, 2, 6, 7, 2, 1, 0, 0, 0, 2, 6, 7, 2, 1, 0, 0, 2, 1, 2, 1, 1, 0, 0]), (5, [9, 5, 8], []), (12, [7, 1], [4]), (11, [5, 1], [4]), (20, [0, 3, 2], [60, 2, 4, 495, 146, 147, 143, 140, 141, 142]), (20, [0, 1, 2], [60, 0, 1, 497, 140]), (20, [1, 0], [50, 2, 0, 1146, 1147, 2, 6, 0, 2, 0, 0, 1, 0, 0, 6, 4, 2, 1, 0, 0, 1, 6, 2, 0, 4, 6, 3, 2, 1, 146, 2, 1, 147]), (20, [2], [50, 0, 0, 2, 6, 0, 2, 0, 0, 1, 0, 0, 2, 1, 0, 0, 999999])], [], [], [(20, [0, 1, 25], [60, 2, 1, 500, 146, 147, 143]), (20, [7, 1], [50, 0, 0, 1, 2, 1, 0, 9, 2, 1, 1, 0, 4]), (20, [25, 0], [50, 2, 0, 1146, 1147, 2, 6, 0, 2, 0, 0, 1, 0, 0, 6, 4, 2, 1, 0, 0, 1, 6, 3, 2, 1, 146, 2, 1, 147]), (24, [0, 0], []), (24, [1, 1], []), (24, [2, 2], [])], [], [(25, 11, 0, 35994000), (25, 9, 0, 35994000), (25, 24, 0, 5999), (14, 22, -4294967296, 0), (22, 20, -1, -1), (11, 17, -4294967296, 0), (17, 8, -1, -1), (14, 12, 0, 0), (11, 9, 0, 0), (11, 8, -4294967295, -1), (9, 8, -4294967295, -1)])
theorem oo_Mo_backFrom_3 {kA : Nat → ClassId} : or_ok PRD kA GG o_Mo_backFrom_3 := by
  refine or_mk fun A ta ws vs hD hth hl => ?_
  intro t0 r0 t1 k1 t2 k2 t3 k3 t5 k5 t7 k7 t8 k8 t9 k9 t10 k10 t11 k11 t12 k12 t13 k13 t14 k14 t16 k16 t17 k17 t20 k20 t21 k21 t22 k22 t24 k24 t25 k25 t26 r26 t27 k27 d0 d1 d2 d3 d4 d5 d6 d7 d8 d9 d10 f0 f1 f2 f3 f4 f5 f6 f7 f8 f9 f10 f11 f12 f13 f14 f15 f16 f17 f18 f19 f20
  replace f1 := shm_107 f1
  replace f2 := shm_1294 f2
  replace f5 := shm_1288 f5
  replace f7 := shm_1293 f7
  replace f11 := shm_34 f11
  have ad_26 : v_ad (n_v vs 26) = w_ar ws (n_v vs 0) 143 := congrArg v_ad f2
  simp only [ad_26] at f1
  have h1 : v_iv (n_v vs 27) = w_ei ws (w_ar ws (n_v vs 0) 143) (v_iv (n_v vs 25)) := f1
  have g5 : v_iv (n_v vs 8) = w_fi ws (n_v vs 0) 146 := congrArg v_iv f5
  have g7 : v_iv (n_v vs 20) = w_fi ws (n_v vs 0) 147 := congrArg v_iv f7
  have kz_0_146 := fdq_179 hD hth r0
  have kz_0_147 := fdq_180 hD hth r0
  have nf0 : fc_1 PRD (20, [0, 1, 25], [60, 2, 1, 500, 146, 147, 143]) ws (vs) := ⟨nf_in hl rfl, sgq_1409 (vc_Mo_backFrom_3_0 (v_iv (n_v vs 1)) (v_iv (n_v vs 2)) (v_iv (n_v vs 3)) (v_iv (n_v vs 5)) (v_iv (n_v vs 7)) (v_iv (n_v vs 8)) (v_iv (n_v vs 9)) (v_iv (n_v vs 10)) (v_iv (n_v vs 11)) (v_iv (n_v vs 12)) (v_iv (n_v vs 13)) (v_iv (n_v vs 14)) (v_iv (n_v vs 17)) (v_iv (n_v vs 20)) (v_iv (n_v vs 22)) (v_iv (n_v vs 24)) (v_iv (n_v vs 25)) (v_iv (n_v vs 27)) (w_ei ws (w_ar ws (n_v vs 0) 143)) (w_fi ws (n_v vs 0) 146) (w_fi ws (n_v vs 0) 147) (w_ei ws (w_ar ws (n_v vs 0) 140)) (w_ei ws (w_ar ws (n_v vs 0) 141)) (w_ei ws (w_ar ws (n_v vs 0) 142)) k1 k2 k3 k5 k7 k8 k9 k10 k11 k12 k13 k14 k17 k20 k22 k24 k25 k27 d2 d3 d4 d5 d6 d7 d8 d9 (shm_192 f0) h1 (shm_12 f3) (shm_38 f4) g5 g7 (shm_565 f10) f11 (shm_564 f13) (shm_468 f14) (shm_573 f15) (shm_1223 f16) (shm_704 f17) (shm_706 f18) (shm_1407 f19) (shm_1408 f20) kz_0_146 kz_0_147)⟩
  have nf1 : fc_1 PRD (20, [7, 1], [50, 0, 0, 1, 2, 1, 0, 9, 2, 1, 1, 0, 4]) ws (vs) := ⟨nf_in hl rfl, sgq_1410 (vc_Mo_backFrom_3_1 (v_iv (n_v vs 1)) (v_iv (n_v vs 7)) (v_iv (n_v vs 8)) (v_iv (n_v vs 11)) (v_iv (n_v vs 14)) (v_iv (n_v vs 20)) (v_iv (n_v vs 24)) (v_iv (n_v vs 25)) (w_fi ws (n_v vs 0) 146) (w_fi ws (n_v vs 0) 147) k1 k7 (shm_573 f15))⟩
  have nf2 : fc_1 PRD (20, [25, 0], [50, 2, 0, 1146, 1147, 2, 6, 0, 2, 0, 0, 1, 0, 0, 6, 4, 2, 1, 0, 0, 1, 6, 3, 2, 1, 146, 2, 1, 147]) ws (vs) := ⟨nf_in hl rfl, sgq_1290 (vc_Mo_backFrom_3_2 (v_iv (n_v vs 5)) (v_iv (n_v vs 7)) (v_iv (n_v vs 8)) (v_iv (n_v vs 9)) (v_iv (n_v vs 10)) (v_iv (n_v vs 11)) (v_iv (n_v vs 13)) (v_iv (n_v vs 14)) (v_iv (n_v vs 20)) (v_iv (n_v vs 24)) (v_iv (n_v vs 25)) (w_fi ws (n_v vs 0) 146) (w_fi ws (n_v vs 0) 147) k5 k7 k8 k9 k10 k11 k13 k14 k24 k25 d8 (shm_12 f3) (shm_38 f4) (shm_565 f10) (shm_564 f13) (shm_468 f14) kz_0_146 kz_0_147)⟩
  have nf3 : fc_1 PRD (24, [0, 0], []) ws (vs) := by
    refine ⟨nf_in hl rfl, sgq_1 ?_⟩
    · show n_v vs 0 = n_v vs 0
      first | rfl | simp only [true_and]
  have nf4 : fc_1 PRD (24, [1, 1], []) ws (vs) := by
    refine ⟨nf_in hl rfl, sgq_1 ?_⟩
    · show n_v vs 1 = n_v vs 1
      first | rfl | simp only [true_and]
  have nf5 : fc_1 PRD (24, [2, 2], []) ws (vs) := by
    refine ⟨nf_in hl rfl, sgq_1 ?_⟩
    · show n_v vs 2 = n_v vs 2
      first | rfl | simp only [true_and]
  refine ⟨(fun _ h => (by cases h)), [], trivial, ?_, (fun _ h => (by cases h))⟩
  rw [List.append_nil]
  exact List.forall_mem_cons.mpr ⟨⟨show (20 : Nat) < 100 from by decide, nf0⟩, List.forall_mem_cons.mpr ⟨⟨show (20 : Nat) < 100 from by decide, nf1⟩, List.forall_mem_cons.mpr ⟨⟨show (20 : Nat) < 100 from by decide, nf2⟩, List.forall_mem_cons.mpr ⟨⟨show (24 : Nat) < 100 from by decide, nf3⟩, List.forall_mem_cons.mpr ⟨⟨show (24 : Nat) < 100 from by decide, nf4⟩, List.forall_mem_cons.mpr ⟨⟨show (24 : Nat) < 100 from by decide, nf5⟩, (fun _ h => (by cases h))⟩⟩⟩⟩⟩⟩
set_option maxHeartbeats 4000000 in
theorem vc_Mo_backFrom_4_r0 (x2 : Int) (x3 : Int) (x8 : Int) (x11 : Int) (x14 : Int) (x20 : Int) (tall_0 : Int) (wide_0 : Int) (barredPoint_0 : Int → Int) (costOf_0 : Int → Int) (bucket_0 : Int → Int) (bucketMany_0 : Int → Int) (k2 : 0 ≤ x2 ∧ x2 ≤ 1000000) (k3 : 0 ≤ x3 ∧ x3 ≤ 5999) (k20 : (-3999999) ≤ x20 ∧ x20 ≤ 600000007) (g0 : x20 = tall_0) (f11 : RTQ (wide_0) (tall_0) (barredPoint_0) (costOf_0) (bucket_0) (bucketMany_0) (x3) (x2)) (kz_0_146 : (-3999999) ≤ wide_0 ∧ wide_0 ≤ 600000023) (kz_0_147 : (-3999999) ≤ tall_0 ∧ tall_0 ≤ 600000007) : 1 ≤ x20 ∧ x20 ≤ 6000 := by
  first
    | (have g := gok_bd (show GRX wide_0 tall_0 from ‹RTQ _ _ _ _ _ _ _ _›.1); omega)
def o_Mo_backFrom_4 : or_T := (60, 22, [(0, (2, 0, 0, [165])), (1, (0, 0, 23999, [])), (2, (0, 0, 1000000, [])), (3, (0, 0, 5999, [])), (5, (0, 0, 5999, [])), (7, (0, 3, 3, [])), (8, (0, 1, 6000, [])), (9, (0, 0, 5999, [])), (10, (0, 0, 0, [])), (11, (0, 0, 5999, [])), (12, (0, 0, 5999, [])), (13, (0, -1, -1, [])), (14, (0, 1, 6000, [])), (16, (0, 1, 1, [])), (17, (0, 0, 5999, [])), (20, (0, -3999999, 600000007, []))], [(9, [20, 0], [147]), (2, [17, 8, 16], []), (9, [8, 0], [146]), (2, [14, 12, 13], []), (20, [7, 13], [50, 0, 0, 3, 14, 2, 6, 1, 2, 1, 0, 0, 1, 1, 2, 1, 1, 0, 1, 3, 14, 2, 6, 1, 2, 1, 0, 0, 3, 1, 2, 1, 1, 0, -1, 2, 6, 7, 2, 1, 0, 0, 1, 2, 6, 7, 2, 1, 0, 0, 3, 1, 2, 1, 1, 0, 0]), (4, [12, 5, 8], []), (2, [11, 9, 10], []), (20, [7, 10], [50, 0, 0, 3, 14, 2, 6, 1, 2, 1, 0, 0, 0, 1, 2, 1, 1, 0, 1, 3, 14, 2, 6, 1, 2, 1, 0, 0, 2, 1, 2, 1, 1, 0, -1, 2, 6, 7, 2, 1, 0, 0, 0, 2, 6, 7, 2, 1, 0, 0, 2, 1, 2, 1, 1, 0, 0]), (5, [9, 5, 8], []), (12, [7, 1], [4]), (11, [5, 1], [4]), (20, [0, 3, 2], [60, 2, 4, 495, 146, 147, 143, 140, 141, 142]), (20, [0, 1, 2], [60, 0, 1, 497, 140]), (20, [1, 0], [50, 2, 0, 1146, 1147, 2, 6, 0, 2, 0, 0, 1, 0, 0, 6, 4, 2, 1, 0, 0, 1, 6, 2, 0, 4, 6, 3, 2, 1, 146, 2, 1, 147]), (20, [2], [50, 0, 0, 2, 6, 0, 2, 0, 0, 1, 0, 0, 2, 1, 0, 0, 999999])], [(20, (0, 1, 6000, []))], [], [], [], [(11, 17, -4294967296, 0), (17, 8, -1, -1), (14, 12, 1, 1), (11, 9, 0, 0), (11, 8, -4294967295, -1), (9, 8, -4294967295, -1)])
theorem oo_Mo_backFrom_4 {kA : Nat → ClassId} : or_ok PRD kA GG o_Mo_backFrom_4 := by
  refine or_mk fun A ta ws vs hD hth hl => ?_
  intro t0 r0 t1 k1 t2 k2 t3 k3 t5 k5 t7 k7 t8 k8 t9 k9 t10 k10 t11 k11 t12 k12 t13 k13 t14 k14 t16 k16 t17 k17 t20 k20 d0 d1 d2 d3 d4 d5 f0 f1 f2 f3 f4 f5 f6 f7 f8 f9 f10 f11 f12 f13 f14
  replace f0 := shm_1293 f0
  have g0 : v_iv (n_v vs 20) = w_fi ws (n_v vs 0) 147 := congrArg v_iv f0
  have kz_0_146 := fdq_179 hD hth r0
  have kz_0_147 := fdq_180 hD hth r0
  have hrf0 : 1 ≤ v_iv (n_v vs 20) ∧ v_iv (n_v vs 20) ≤ 6000 := vc_Mo_backFrom_4_r0 (v_iv (n_v vs 2)) (v_iv (n_v vs 3)) (v_iv (n_v vs 8)) (v_iv (n_v vs 11)) (v_iv (n_v vs 14)) (v_iv (n_v vs 20)) (w_fi ws (n_v vs 0) 147) (w_fi ws (n_v vs 0) 146) (w_ei ws (w_ar ws (n_v vs 0) 143)) (w_ei ws (w_ar ws (n_v vs 0) 140)) (w_ei ws (w_ar ws (n_v vs 0) 141)) (w_ei ws (w_ar ws (n_v vs 0) 142)) k2 k3 k20 g0 (shm_704 f11) kz_0_146 kz_0_147
  have rf20 : tv_ok ta (0, 1, 6000, []) (n_v vs 20) := tv_in t20 (by first | omega | grind) (by first | omega | grind)
  refine ⟨List.forall_mem_cons.mpr ⟨rf20, (fun _ h => (by cases h))⟩, [], trivial, ?_, (fun _ h => (by cases h))⟩
  rw [List.append_nil]
  exact (fun _ h => (by cases h))
set_option maxHeartbeats 4000000 in
theorem vc_Mo_backFrom_5_r0 (x1 : Int) (x2 : Int) (x3 : Int) (x5 : Int) (x7 : Int) (x8 : Int) (x9 : Int) (x11 : Int) (x12 : Int) (x14 : Int) (x17 : Int) (x20 : Int) (x22 : Int) (x24 : Int) (x25 : Int) (wide_0 : Int) (tall_0 : Int) (barredPoint_0 : Int → Int) (costOf_0 : Int → Int) (bucket_0 : Int → Int) (bucketMany_0 : Int → Int) (k1 : 0 ≤ x1 ∧ x1 ≤ 23999) (k2 : 0 ≤ x2 ∧ x2 ≤ 1000000) (k3 : 0 ≤ x3 ∧ x3 ≤ 5999) (k5 : 0 ≤ x5 ∧ x5 ≤ 5999) (k7 : 3 ≤ x7 ∧ x7 ≤ 3) (k8 : 1 ≤ x8 ∧ x8 ≤ 6000) (k9 : 0 ≤ x9 ∧ x9 ≤ 5999) (k11 : 0 ≤ x11 ∧ x11 ≤ 5999) (k12 : 0 ≤ x12 ∧ x12 ≤ 5999) (k14 : 1 ≤ x14 ∧ x14 ≤ 5999) (k17 : 0 ≤ x17 ∧ x17 ≤ 5999) (k20 : 1 ≤ x20 ∧ x20 ≤ 6000) (k22 : 1 ≤ x22 ∧ x22 ≤ 5999) (k24 : 1 ≤ x24 ∧ x24 ≤ 35994000) (k25 : 1 ≤ x25 ∧ x25 ≤ 35999999) (d4 : x24 + 0 ≤ x25 ∧ x25 ≤ x24 + 5999) (d5 : x22 + (-4294967296) ≤ x14 ∧ x14 ≤ x22 + 0) (d6 : x20 + (-1) ≤ x22 ∧ x22 ≤ x20 + (-1)) (d7 : x17 + (-4294967296) ≤ x11 ∧ x11 ≤ x17 + 0) (d8 : x8 + (-1) ≤ x17 ∧ x17 ≤ x8 + (-1)) (d9 : x12 + 1 ≤ x14 ∧ x14 ≤ x12 + 1) (d10 : x9 + 0 ≤ x11 ∧ x11 ≤ x9 + 0) (d11 : x8 + (-4294967295) ≤ x11 ∧ x11 ≤ x8 + (-1)) (f1 : x25 = x24 + x11) (f2 : x24 = x14 * x8) (g3 : x8 = wide_0) (g5 : x20 = tall_0) (f9 : x12 = Int.tdiv (x5) (x8)) (f12 : x9 = Int.tmod (x5) (x8)) (f13 : x7 = x1 % 4) (f14 : x5 = x1 / 4) (f15 : RTQ (wide_0) (tall_0) (barredPoint_0) (costOf_0) (bucket_0) (bucketMany_0) (x3) (x2)) (f17 : (0 ≤ x1) ∧ ((x1 + 1) ≤ (4 * (wide_0 * tall_0)))) (kz_0_146 : (-3999999) ≤ wide_0 ∧ wide_0 ≤ 600000023) (kz_0_147 : (-3999999) ≤ tall_0 ∧ tall_0 ≤ 600000007) : 1 ≤ x25 ∧ x25 ≤ 5999 := by
  first
    | (have g := gok_bd (show GRX wide_0 tall_0 from ‹RTQ _ _ _ _ _ _ _ _›.1); omega)
    | (have g0 : GRX wide_0 tall_0 := ‹RTQ _ _ _ _ _ _ _ _›.1
       have g := gok_bd g0
       have e8 : x8 = wide_0 := by assumption
       have e20 : x20 = tall_0 := by assumption
       have c := cell_ix (W := x8) (T := x20) (x := x11) (y := x14) (p := x25) (by omega) (by omega) (by omega) (by omega) (by omega) (by rw [‹x25 = x24 + x11›, ‹x24 = x14 * x8›])
       have g3 := g0.2.2
       rw [e8, e20] at c
       omega)
def o_Mo_backFrom_5 : or_T := (86, 27, [(0, (2, 0, 0, [165])), (1, (0, 0, 23999, [])), (2, (0, 0, 1000000, [])), (3, (0, 0, 5999, [])), (5, (0, 0, 5999, [])), (7, (0, 3, 3, [])), (8, (0, 1, 6000, [])), (9, (0, 0, 5999, [])), (10, (0, 0, 0, [])), (11, (0, 0, 5999, [])), (12, (0, 0, 5999, [])), (13, (0, -1, -1, [])), (14, (0, 1, 5999, [])), (16, (0, 1, 1, [])), (17, (0, 0, 5999, [])), (20, (0, 1, 6000, [])), (21, (0, 1, 1, [])), (22, (0, 1, 5999, [])), (24, (0, 1, 35994000, [])), (25, (0, 1, 35999999, [])), (26, (2, 0, 0, [269]))], [(9, [26, 0], [143]), (1, [25, 24, 11], []), (3, [24, 14, 8], []), (9, [8, 0], [146]), (2, [22, 20, 21], []), (9, [20, 0], [147]), (2, [17, 8, 16], []), (2, [14, 12, 13], []), (20, [7, 13], [50, 0, 0, 3, 14, 2, 6, 1, 2, 1, 0, 0, 1, 1, 2, 1, 1, 0, 1, 3, 14, 2, 6, 1, 2, 1, 0, 0, 3, 1, 2, 1, 1, 0, -1, 2, 6, 7, 2, 1, 0, 0, 1, 2, 6, 7, 2, 1, 0, 0, 3, 1, 2, 1, 1, 0, 0]), (4, [12, 5, 8], []), (2, [11, 9, 10], []), (20, [7, 10], [50, 0, 0, 3, 14, 2, 6, 1, 2, 1, 0, 0, 0, 1, 2, 1, 1, 0, 1, 3, 14, 2, 6, 1, 2, 1, 0, 0, 2, 1, 2, 1, 1, 0, -1, 2, 6, 7, 2, 1, 0, 0, 0, 2, 6, 7, 2, 1, 0, 0, 2, 1, 2, 1, 1, 0, 0]), (5, [9, 5, 8], []), (12, [7, 1], [4]), (11, [5, 1], [4]), (20, [0, 3, 2], [60, 2, 4, 495, 146, 147, 143, 140, 141, 142]), (20, [0, 1, 2], [60, 0, 1, 497, 140]), (20, [1, 0], [50, 2, 0, 1146, 1147, 2, 6, 0, 2, 0, 0, 1, 0, 0, 6, 4, 2, 1, 0, 0, 1, 6, 2, 0, 4, 6, 3, 2, 1, 146, 2, 1, 147]), (20, [2], [50, 0, 0, 2, 6, 0, 2, 0, 0, 1, 0, 0, 2, 1, 0, 0, 999999])], [(25, (0, 1, 5999, []))], [], [], [], [(25, 11, 1, 35994000), (25, 17, -4294967296, 35994000), (25, 9, 1, 35994000), (25, 8, -4294967294, 35993999), (25, 24, 0, 5999), (14, 22, -4294967296, 0), (22, 20, -1, -1), (11, 17, -4294967296, 0), (17, 8, -1, -1), (14, 12, 1, 1), (11, 9, 0, 0), (11, 8, -4294967295, -1), (9, 8, -4294967295, -1)])
theorem oo_Mo_backFrom_5 {kA : Nat → ClassId} : or_ok PRD kA GG o_Mo_backFrom_5 := by
  refine or_mk fun A ta ws vs hD hth hl => ?_
  intro t0 r0 t1 k1 t2 k2 t3 k3 t5 k5 t7 k7 t8 k8 t9 k9 t10 k10 t11 k11 t12 k12 t13 k13 t14 k14 t16 k16 t17 k17 t20 k20 t21 k21 t22 k22 t24 k24 t25 k25 t26 r26 d0 d1 d2 d3 d4 d5 d6 d7 d8 d9 d10 d11 d12 f0 f1 f2 f3 f4 f5 f6 f7 f8 f9 f10 f11 f12 f13 f14 f15 f16 f17 f18
  replace f3 := shm_1288 f3
  replace f5 := shm_1293 f5
  replace f9 := shm_34 f9
  have g3 : v_iv (n_v vs 8) = w_fi ws (n_v vs 0) 146 := congrArg v_iv f3
  have g5 : v_iv (n_v vs 20) = w_fi ws (n_v vs 0) 147 := congrArg v_iv f5
  have kz_0_146 := fdq_179 hD hth r0
  have kz_0_147 := fdq_180 hD hth r0
  have hrf0 : 1 ≤ v_iv (n_v vs 25) ∧ v_iv (n_v vs 25) ≤ 5999 := vc_Mo_backFrom_5_r0 (v_iv (n_v vs 1)) (v_iv (n_v vs 2)) (v_iv (n_v vs 3)) (v_iv (n_v vs 5)) (v_iv (n_v vs 7)) (v_iv (n_v vs 8)) (v_iv (n_v vs 9)) (v_iv (n_v vs 11)) (v_iv (n_v vs 12)) (v_iv (n_v vs 14)) (v_iv (n_v vs 17)) (v_iv (n_v vs 20)) (v_iv (n_v vs 22)) (v_iv (n_v vs 24)) (v_iv (n_v vs 25)) (w_fi ws (n_v vs 0) 146) (w_fi ws (n_v vs 0) 147) (w_ei ws (w_ar ws (n_v vs 0) 143)) (w_ei ws (w_ar ws (n_v vs 0) 140)) (w_ei ws (w_ar ws (n_v vs 0) 141)) (w_ei ws (w_ar ws (n_v vs 0) 142)) k1 k2 k3 k5 k7 k8 k9 k11 k12 k14 k17 k20 k22 k24 k25 d4 d5 d6 d7 d8 d9 d10 d11 (shm_12 f1) (shm_38 f2) g3 g5 f9 (shm_468 f12) (shm_573 f13) (shm_1223 f14) (shm_704 f15) (shm_1407 f17) kz_0_146 kz_0_147
  have rf25 : tv_ok ta (0, 1, 5999, []) (n_v vs 25) := tv_in t25 (by first | omega | grind) (by first | omega | grind)
  refine ⟨List.forall_mem_cons.mpr ⟨rf25, (fun _ h => (by cases h))⟩, [], trivial, ?_, (fun _ h => (by cases h))⟩
  rw [List.append_nil]
  exact (fun _ h => (by cases h))
set_option maxHeartbeats 4000000 in
theorem vc_Mo_backFrom_6_0 (x1 : Int) (x2 : Int) (x3 : Int) (x5 : Int) (x7 : Int) (x8 : Int) (x9 : Int) (x11 : Int) (x12 : Int) (x14 : Int) (x17 : Int) (x20 : Int) (x22 : Int) (x24 : Int) (x25 : Int) (x27 : Int) (barredPoint_0 : Int → Int) (wide_0 : Int) (tall_0 : Int) (costOf_0 : Int → Int) (bucket_0 : Int → Int) (bucketMany_0 : Int → Int) (k1 : 0 ≤ x1 ∧ x1 ≤ 23999) (k2 : 0 ≤ x2 ∧ x2 ≤ 1000000) (k3 : 0 ≤ x3 ∧ x3 ≤ 5999) (k5 : 0 ≤ x5 ∧ x5 ≤ 5999) (k7 : 3 ≤ x7 ∧ x7 ≤ 3) (k8 : 1 ≤ x8 ∧ x8 ≤ 6000) (k9 : 0 ≤ x9 ∧ x9 ≤ 5999) (k11 : 0 ≤ x11 ∧ x11 ≤ 5999) (k12 : 0 ≤ x12 ∧ x12 ≤ 5999) (k14 : 1 ≤ x14 ∧ x14 ≤ 5999) (k17 : 0 ≤ x17 ∧ x17 ≤ 5999) (k20 : 1 ≤ x20 ∧ x20 ≤ 6000) (k22 : 1 ≤ x22 ∧ x22 ≤ 5999) (k24 : 1 ≤ x24 ∧ x24 ≤ 35994000) (k25 : 1 ≤ x25 ∧ x25 ≤ 5999) (k27 : 0 ≤ x27 ∧ x27 ≤ 0) (d2 : x24 + 0 ≤ x25 ∧ x25 ≤ x24 + 5999) (d3 : x22 + (-4294967296) ≤ x14 ∧ x14 ≤ x22 + 0) (d4 : x20 + (-1) ≤ x22 ∧ x22 ≤ x20 + (-1)) (d5 : x17 + (-4294967296) ≤ x11 ∧ x11 ≤ x17 + 0) (d6 : x8 + (-1) ≤ x17 ∧ x17 ≤ x8 + (-1)) (d7 : x12 + 1 ≤ x14 ∧ x14 ≤ x12 + 1) (d8 : x9 + 0 ≤ x11 ∧ x11 ≤ x9 + 0) (d9 : x8 + (-4294967295) ≤ x11 ∧ x11 ≤ x8 + (-1)) (f0 : x27 = 0) (h1 : x27 = barredPoint_0 (x25)) (f3 : x25 = x24 + x11) (f4 : x24 = x14 * x8) (g5 : x8 = wide_0) (g7 : x20 = tall_0) (f11 : x12 = Int.tdiv (x5) (x8)) (f14 : x9 = Int.tmod (x5) (x8)) (f15 : x7 = x1 % 4) (f16 : x5 = x1 / 4) (f17 : RTQ (wide_0) (tall_0) (barredPoint_0) (costOf_0) (bucket_0) (bucketMany_0) (x3) (x2)) (f18 : PIV (costOf_0) (x1) (x2)) (f19 : (0 ≤ x1) ∧ ((x1 + 1) ≤ (4 * (wide_0 * tall_0)))) (f20 : (0 ≤ x2) ∧ (x2 ≤ 999999)) (kz_0_146 : (-3999999) ≤ wide_0 ∧ wide_0 ≤ 600000023) (kz_0_147 : (-3999999) ≤ tall_0 ∧ tall_0 ≤ 600000007) : BFP (wide_0) (tall_0) (barredPoint_0) (x1) (x25) := by
  first
    | (have g0 : GRX wide_0 tall_0 := ‹RTQ _ _ _ _ _ _ _ _›.1
       have g := gok_bd g0
       have e8 : x8 = wide_0 := by assumption
       have e20 : x20 = tall_0 := by assumption
       have tm : x9 = x5 % wide_0 := by rw [← e8, ‹x9 = Int.tmod x5 x8›]; exact Int.tmod_eq_emod_of_nonneg (by omega)
       have td : x12 = x5 / wide_0 := by rw [← e8, ‹x12 = Int.tdiv x5 x8›]; exact Int.tdiv_eq_ediv_of_nonneg (by omega)
       have hx : x11 = x5 % wide_0 - dxf x7 := by rw [← tm]; unfold dxf; split; omega; split <;> omega
       have hy : x14 = x5 / wide_0 - dyf x7 := by rw [← td]; unfold dyf; split; omega; split <;> omega
       have n := nb_back (T := tall_0) (q := x5) (d := x7) (x := x11) (y := x14) (p := x25) (by omega) (by omega) (by omega) hx hy (by omega) (by omega) (by omega) (by omega) (by rw [← e8, ‹x25 = x24 + x11›, ‹x24 = x14 * x8›])
       have b := rtq_bar ‹RTQ _ _ _ _ _ _ _ _› ‹PIV _ _ _› (by omega) (by omega)
       exact ⟨⟨by omega, by omega⟩, by rw [show x1 % 4 = x7 by omega, show x1 / 4 = x5 by omega]; exact n.1, n.2, by rw [← ‹x27 = barredPoint_0 x25›]; omega, b⟩)
set_option maxHeartbeats 4000000 in
theorem vc_Mo_backFrom_6_1 (x1 : Int) (x7 : Int) (x8 : Int) (x11 : Int) (x14 : Int) (x20 : Int) (x24 : Int) (x25 : Int) (wide_0 : Int) (tall_0 : Int) (k1 : 0 ≤ x1 ∧ x1 ≤ 23999) (k7 : 3 ≤ x7 ∧ x7 ≤ 3) (f15 : x7 = x1 % 4) : x7 = (x1 % 4) := by
  first
    | omega
    | (have h := ‹BFP _ _ _ _ _›.2.2.1; omega)
set_option maxHeartbeats 4000000 in
theorem vc_Mo_backFrom_6_2 (x2 : Int) (x3 : Int) (x5 : Int) (x8 : Int) (x9 : Int) (x11 : Int) (x12 : Int) (x14 : Int) (x17 : Int) (x20 : Int) (x22 : Int) (x24 : Int) (x25 : Int) (barredPoint_0 : Int → Int) (wide_0 : Int) (tall_0 : Int) (costOf_0 : Int → Int) (bucket_0 : Int → Int) (bucketMany_0 : Int → Int) (k2 : 0 ≤ x2 ∧ x2 ≤ 1000000) (k3 : 0 ≤ x3 ∧ x3 ≤ 5999) (k5 : 0 ≤ x5 ∧ x5 ≤ 5999) (k8 : 1 ≤ x8 ∧ x8 ≤ 6000) (k9 : 0 ≤ x9 ∧ x9 ≤ 5999) (k11 : 0 ≤ x11 ∧ x11 ≤ 5999) (k12 : 0 ≤ x12 ∧ x12 ≤ 5999) (k14 : 1 ≤ x14 ∧ x14 ≤ 5999) (k17 : 0 ≤ x17 ∧ x17 ≤ 5999) (k20 : 1 ≤ x20 ∧ x20 ≤ 6000) (k22 : 1 ≤ x22 ∧ x22 ≤ 5999) (k24 : 1 ≤ x24 ∧ x24 ≤ 35994000) (k25 : 1 ≤ x25 ∧ x25 ≤ 5999) (d2 : x24 + 0 ≤ x25 ∧ x25 ≤ x24 + 5999) (d3 : x22 + (-4294967296) ≤ x14 ∧ x14 ≤ x22 + 0) (d4 : x20 + (-1) ≤ x22 ∧ x22 ≤ x20 + (-1)) (d5 : x17 + (-4294967296) ≤ x11 ∧ x11 ≤ x17 + 0) (d6 : x8 + (-1) ≤ x17 ∧ x17 ≤ x8 + (-1)) (d7 : x12 + 1 ≤ x14 ∧ x14 ≤ x12 + 1) (d8 : x9 + 0 ≤ x11 ∧ x11 ≤ x9 + 0) (d9 : x8 + (-4294967295) ≤ x11 ∧ x11 ≤ x8 + (-1)) (f3 : x25 = x24 + x11) (f4 : x24 = x14 * x8) (g5 : x8 = wide_0) (g7 : x20 = tall_0) (f11 : x12 = Int.tdiv (x5) (x8)) (f14 : x9 = Int.tmod (x5) (x8)) (f17 : RTQ (wide_0) (tall_0) (barredPoint_0) (costOf_0) (bucket_0) (bucketMany_0) (x3) (x2)) (kz_0_146 : (-3999999) ≤ wide_0 ∧ wide_0 ≤ 600000023) (kz_0_147 : (-3999999) ≤ tall_0 ∧ tall_0 ≤ 600000007) : (0 ≤ x25) ∧ ((x25 + 1) ≤ (wide_0 * tall_0)) := by
  first
    | (have g := gok_bd (show GRX wide_0 tall_0 from ‹RTQ _ _ _ _ _ _ _ _›.1); omega)
    | (have g0 : GRX wide_0 tall_0 := ‹RTQ _ _ _ _ _ _ _ _›.1
       have g := gok_bd g0
       have e8 : x8 = wide_0 := by assumption
       have e20 : x20 = tall_0 := by assumption
       have c := cell_ix (W := x8) (T := x20) (x := x11) (y := x14) (p := x25) (by omega) (by omega) (by omega) (by omega) (by omega) (by rw [‹x25 = x24 + x11›, ‹x24 = x14 * x8›])
       have g3 := g0.2.2
       rw [e8, e20] at c
       omega)
def o_Mo_backFrom_6 : or_T := (94, 29, [(0, (2, 0, 0, [165])), (1, (0, 0, 23999, [])), (2, (0, 0, 1000000, [])), (3, (0, 0, 5999, [])), (5, (0, 0, 5999, [])), (7, (0, 3, 3, [])), (8, (0, 1, 6000, [])), (9, (0, 0, 5999, [])), (10, (0, 0, 0, [])), (11, (0, 0, 5999, [])), (12, (0, 0, 5999, [])), (13, (0, -1, -1, [])), (14, (0, 1, 5999, [])), (16, (0, 1, 1, [])), (17, (0, 0, 5999, [])), (20, (0, 1, 6000, [])), (21, (0, 1, 1, [])), (22, (0, 1, 5999, [])), (24, (0, 1, 35994000, [])), (25, (0, 1, 5999, [])), (26, (2, 0, 0, [269])), (27, (0, 0, 0, []))], [(8, [27], [0]), (10, [27, 26, 25], []), (9, [26, 0], [143]), (1, [25, 24, 11], []), (3, [24, 14, 8], []), (9, [8, 0], [146]), (2, [22, 20, 21], []), (9, [20, 0], [147]), (2, [17, 8, 16], []), (2, [14, 12, 13], []), (20, [7, 13], [50, 0, 0, 3, 14, 2, 6, 1, 2, 1, 0, 0, 1, 1, 2, 1, 1, 0, 1, 3, 14, 2, 6, 1, 2, 1, 0, 0, 3, 1, 2, 1, 1, 0, -1, 2, 6, 7, 2, 1, 0, 0, 1, 2, 6, 7, 2, 1, 0, 0, 3, 1, 2, 1, 1, 0, 0]), (4, [12, 5, 8], []), (2, [11, 9, 10], []), (20, [7, 10], [50, 0, 0, 3, 14, 2, 6, 1, 2, 1, 0, 0, 0, 1, 2, 1, 1, 0, 1, 3, 14, 2, 6, 1, 2, 1, 0, 0, 2, 1, 2, 1, 1, 0, -1, 2, 6, 7, 2, 1, 0, 0, 0, 2, 6, 7, 2, 1, 0, 0, 2, 1, 2, 1, 1, 0, 0]), (5, [9, 5, 8], []), (12, [7, 1], [4]), (11, [5, 1], [4]), (20, [0, 3, 2], [60, 2, 4, 495, 146, 147, 143, 140, 141, 142]), (20, [0, 1, 2], [60, 0, 1, 497, 140]), (20, [1, 0], [50, 2, 0, 1146, 1147, 2, 6, 0, 2, 0, 0, 1, 0, 0, 6, 4, 2, 1, 0, 0, 1, 6, 2, 0, 4, 6, 3, 2, 1, 146, 2, 1, 147]), (20, [2], [50, 0, 0, 2, 6, 0, 2, 0, 0, 1, 0, 0, 2, 1, 0, 0, 999999])], [], [], [(20, [0, 1, 25], [60, 2, 1, 500, 146, 147, 143]), (20, [7, 1], [50, 0, 0, 1, 2, 1, 0, 9, 2, 1, 1, 0, 4]), (20, [25, 0], [50, 2, 0, 1146, 1147, 2, 6, 0, 2, 0, 0, 1, 0, 0, 6, 4, 2, 1, 0, 0, 1, 6, 3, 2, 1, 146, 2, 1, 147]), (24, [0, 0], []), (24, [1, 1], []), (24, [2, 2], [])], [], [(25, 11, 1, 35994000), (25, 9, 1, 35994000), (25, 24, 0, 5999), (14, 22, -4294967296, 0), (22, 20, -1, -1), (11, 17, -4294967296, 0), (17, 8, -1, -1), (14, 12, 1, 1), (11, 9, 0, 0), (11, 8, -4294967295, -1), (9, 8, -4294967295, -1)])
theorem oo_Mo_backFrom_6 {kA : Nat → ClassId} : or_ok PRD kA GG o_Mo_backFrom_6 := by
  refine or_mk fun A ta ws vs hD hth hl => ?_
  intro t0 r0 t1 k1 t2 k2 t3 k3 t5 k5 t7 k7 t8 k8 t9 k9 t10 k10 t11 k11 t12 k12 t13 k13 t14 k14 t16 k16 t17 k17 t20 k20 t21 k21 t22 k22 t24 k24 t25 k25 t26 r26 t27 k27 d0 d1 d2 d3 d4 d5 d6 d7 d8 d9 d10 f0 f1 f2 f3 f4 f5 f6 f7 f8 f9 f10 f11 f12 f13 f14 f15 f16 f17 f18 f19 f20
  replace f1 := shm_107 f1
  replace f2 := shm_1294 f2
  replace f5 := shm_1288 f5
  replace f7 := shm_1293 f7
  replace f11 := shm_34 f11
  have ad_26 : v_ad (n_v vs 26) = w_ar ws (n_v vs 0) 143 := congrArg v_ad f2
  simp only [ad_26] at f1
  have h1 : v_iv (n_v vs 27) = w_ei ws (w_ar ws (n_v vs 0) 143) (v_iv (n_v vs 25)) := f1
  have g5 : v_iv (n_v vs 8) = w_fi ws (n_v vs 0) 146 := congrArg v_iv f5
  have g7 : v_iv (n_v vs 20) = w_fi ws (n_v vs 0) 147 := congrArg v_iv f7
  have kz_0_146 := fdq_179 hD hth r0
  have kz_0_147 := fdq_180 hD hth r0
  have nf0 : fc_1 PRD (20, [0, 1, 25], [60, 2, 1, 500, 146, 147, 143]) ws (vs) := ⟨nf_in hl rfl, sgq_1409 (vc_Mo_backFrom_6_0 (v_iv (n_v vs 1)) (v_iv (n_v vs 2)) (v_iv (n_v vs 3)) (v_iv (n_v vs 5)) (v_iv (n_v vs 7)) (v_iv (n_v vs 8)) (v_iv (n_v vs 9)) (v_iv (n_v vs 11)) (v_iv (n_v vs 12)) (v_iv (n_v vs 14)) (v_iv (n_v vs 17)) (v_iv (n_v vs 20)) (v_iv (n_v vs 22)) (v_iv (n_v vs 24)) (v_iv (n_v vs 25)) (v_iv (n_v vs 27)) (w_ei ws (w_ar ws (n_v vs 0) 143)) (w_fi ws (n_v vs 0) 146) (w_fi ws (n_v vs 0) 147) (w_ei ws (w_ar ws (n_v vs 0) 140)) (w_ei ws (w_ar ws (n_v vs 0) 141)) (w_ei ws (w_ar ws (n_v vs 0) 142)) k1 k2 k3 k5 k7 k8 k9 k11 k12 k14 k17 k20 k22 k24 k25 k27 d2 d3 d4 d5 d6 d7 d8 d9 (shm_192 f0) h1 (shm_12 f3) (shm_38 f4) g5 g7 f11 (shm_468 f14) (shm_573 f15) (shm_1223 f16) (shm_704 f17) (shm_706 f18) (shm_1407 f19) (shm_1408 f20) kz_0_146 kz_0_147)⟩
  have nf1 : fc_1 PRD (20, [7, 1], [50, 0, 0, 1, 2, 1, 0, 9, 2, 1, 1, 0, 4]) ws (vs) := ⟨nf_in hl rfl, sgq_1410 (vc_Mo_backFrom_6_1 (v_iv (n_v vs 1)) (v_iv (n_v vs 7)) (v_iv (n_v vs 8)) (v_iv (n_v vs 11)) (v_iv (n_v vs 14)) (v_iv (n_v vs 20)) (v_iv (n_v vs 24)) (v_iv (n_v vs 25)) (w_fi ws (n_v vs 0) 146) (w_fi ws (n_v vs 0) 147) k1 k7 (shm_573 f15))⟩
  have nf2 : fc_1 PRD (20, [25, 0], [50, 2, 0, 1146, 1147, 2, 6, 0, 2, 0, 0, 1, 0, 0, 6, 4, 2, 1, 0, 0, 1, 6, 3, 2, 1, 146, 2, 1, 147]) ws (vs) := ⟨nf_in hl rfl, sgq_1290 (vc_Mo_backFrom_6_2 (v_iv (n_v vs 2)) (v_iv (n_v vs 3)) (v_iv (n_v vs 5)) (v_iv (n_v vs 8)) (v_iv (n_v vs 9)) (v_iv (n_v vs 11)) (v_iv (n_v vs 12)) (v_iv (n_v vs 14)) (v_iv (n_v vs 17)) (v_iv (n_v vs 20)) (v_iv (n_v vs 22)) (v_iv (n_v vs 24)) (v_iv (n_v vs 25)) (w_ei ws (w_ar ws (n_v vs 0) 143)) (w_fi ws (n_v vs 0) 146) (w_fi ws (n_v vs 0) 147) (w_ei ws (w_ar ws (n_v vs 0) 140)) (w_ei ws (w_ar ws (n_v vs 0) 141)) (w_ei ws (w_ar ws (n_v vs 0) 142)) k2 k3 k5 k8 k9 k11 k12 k14 k17 k20 k22 k24 k25 d2 d3 d4 d5 d6 d7 d8 d9 (shm_12 f3) (shm_38 f4) g5 g7 f11 (shm_468 f14) (shm_704 f17) kz_0_146 kz_0_147)⟩
  have nf3 : fc_1 PRD (24, [0, 0], []) ws (vs) := by
    refine ⟨nf_in hl rfl, sgq_1 ?_⟩
    · show n_v vs 0 = n_v vs 0
      first | rfl | simp only [true_and]
  have nf4 : fc_1 PRD (24, [1, 1], []) ws (vs) := by
    refine ⟨nf_in hl rfl, sgq_1 ?_⟩
    · show n_v vs 1 = n_v vs 1
      first | rfl | simp only [true_and]
  have nf5 : fc_1 PRD (24, [2, 2], []) ws (vs) := by
    refine ⟨nf_in hl rfl, sgq_1 ?_⟩
    · show n_v vs 2 = n_v vs 2
      first | rfl | simp only [true_and]
  refine ⟨(fun _ h => (by cases h)), [], trivial, ?_, (fun _ h => (by cases h))⟩
  rw [List.append_nil]
  exact List.forall_mem_cons.mpr ⟨⟨show (20 : Nat) < 100 from by decide, nf0⟩, List.forall_mem_cons.mpr ⟨⟨show (20 : Nat) < 100 from by decide, nf1⟩, List.forall_mem_cons.mpr ⟨⟨show (20 : Nat) < 100 from by decide, nf2⟩, List.forall_mem_cons.mpr ⟨⟨show (24 : Nat) < 100 from by decide, nf3⟩, List.forall_mem_cons.mpr ⟨⟨show (24 : Nat) < 100 from by decide, nf4⟩, List.forall_mem_cons.mpr ⟨⟨show (24 : Nat) < 100 from by decide, nf5⟩, (fun _ h => (by cases h))⟩⟩⟩⟩⟩⟩
set_option maxHeartbeats 4000000 in
theorem vc_Mo_backFrom_7_r0 (x2 : Int) (x3 : Int) (x8 : Int) (x11 : Int) (x14 : Int) (x20 : Int) (tall_0 : Int) (wide_0 : Int) (barredPoint_0 : Int → Int) (costOf_0 : Int → Int) (bucket_0 : Int → Int) (bucketMany_0 : Int → Int) (k2 : 0 ≤ x2 ∧ x2 ≤ 1000000) (k3 : 0 ≤ x3 ∧ x3 ≤ 5999) (k20 : (-3999999) ≤ x20 ∧ x20 ≤ 600000007) (g0 : x20 = tall_0) (f11 : RTQ (wide_0) (tall_0) (barredPoint_0) (costOf_0) (bucket_0) (bucketMany_0) (x3) (x2)) (kz_0_146 : (-3999999) ≤ wide_0 ∧ wide_0 ≤ 600000023) (kz_0_147 : (-3999999) ≤ tall_0 ∧ tall_0 ≤ 600000007) : 1 ≤ x20 ∧ x20 ≤ 6000 := by
  first
    | (have g := gok_bd (show GRX wide_0 tall_0 from ‹RTQ _ _ _ _ _ _ _ _›.1); omega)
def o_Mo_backFrom_7 : or_T := (60, 22, [(0, (2, 0, 0, [165])), (1, (0, 0, 23999, [])), (2, (0, 0, 1000000, [])), (3, (0, 0, 5999, [])), (5, (0, 0, 5999, [])), (7, (0, 1, 1, [])), (8, (0, 1, 6000, [])), (9, (0, 0, 5999, [])), (10, (0, 0, 0, [])), (11, (0, 0, 5999, [])), (12, (0, 0, 5999, [])), (13, (0, 1, 1, [])), (14, (0, -1, 5998, [])), (16, (0, 1, 1, [])), (17, (0, 0, 5999, [])), (20, (0, -3999999, 600000007, []))], [(9, [20, 0], [147]), (2, [17, 8, 16], []), (9, [8, 0], [146]), (2, [14, 12, 13], []), (20, [7, 13], [50, 0, 0, 3, 14, 2, 6, 1, 2, 1, 0, 0, 1, 1, 2, 1, 1, 0, 1, 3, 14, 2, 6, 1, 2, 1, 0, 0, 3, 1, 2, 1, 1, 0, -1, 2, 6, 7, 2, 1, 0, 0, 1, 2, 6, 7, 2, 1, 0, 0, 3, 1, 2, 1, 1, 0, 0]), (4, [12, 5, 8], []), (2, [11, 9, 10], []), (20, [7, 10], [50, 0, 0, 3, 14, 2, 6, 1, 2, 1, 0, 0, 0, 1, 2, 1, 1, 0, 1, 3, 14, 2, 6, 1, 2, 1, 0, 0, 2, 1, 2, 1, 1, 0, -1, 2, 6, 7, 2, 1, 0, 0, 0, 2, 6, 7, 2, 1, 0, 0, 2, 1, 2, 1, 1, 0, 0]), (5, [9, 5, 8], []), (12, [7, 1], [4]), (11, [5, 1], [4]), (20, [0, 3, 2], [60, 2, 4, 495, 146, 147, 143, 140, 141, 142]), (20, [0, 1, 2], [60, 0, 1, 497, 140]), (20, [1, 0], [50, 2, 0, 1146, 1147, 2, 6, 0, 2, 0, 0, 1, 0, 0, 6, 4, 2, 1, 0, 0, 1, 6, 2, 0, 4, 6, 3, 2, 1, 146, 2, 1, 147]), (20, [2], [50, 0, 0, 2, 6, 0, 2, 0, 0, 1, 0, 0, 2, 1, 0, 0, 999999])], [(20, (0, 1, 6000, []))], [], [], [], [(11, 17, -4294967296, 0), (17, 8, -1, -1), (14, 12, -1, -1), (11, 9, 0, 0), (11, 8, -4294967295, -1), (9, 8, -4294967295, -1)])
theorem oo_Mo_backFrom_7 {kA : Nat → ClassId} : or_ok PRD kA GG o_Mo_backFrom_7 := by
  refine or_mk fun A ta ws vs hD hth hl => ?_
  intro t0 r0 t1 k1 t2 k2 t3 k3 t5 k5 t7 k7 t8 k8 t9 k9 t10 k10 t11 k11 t12 k12 t13 k13 t14 k14 t16 k16 t17 k17 t20 k20 d0 d1 d2 d3 d4 d5 f0 f1 f2 f3 f4 f5 f6 f7 f8 f9 f10 f11 f12 f13 f14
  replace f0 := shm_1293 f0
  have g0 : v_iv (n_v vs 20) = w_fi ws (n_v vs 0) 147 := congrArg v_iv f0
  have kz_0_146 := fdq_179 hD hth r0
  have kz_0_147 := fdq_180 hD hth r0
  have hrf0 : 1 ≤ v_iv (n_v vs 20) ∧ v_iv (n_v vs 20) ≤ 6000 := vc_Mo_backFrom_7_r0 (v_iv (n_v vs 2)) (v_iv (n_v vs 3)) (v_iv (n_v vs 8)) (v_iv (n_v vs 11)) (v_iv (n_v vs 14)) (v_iv (n_v vs 20)) (w_fi ws (n_v vs 0) 147) (w_fi ws (n_v vs 0) 146) (w_ei ws (w_ar ws (n_v vs 0) 143)) (w_ei ws (w_ar ws (n_v vs 0) 140)) (w_ei ws (w_ar ws (n_v vs 0) 141)) (w_ei ws (w_ar ws (n_v vs 0) 142)) k2 k3 k20 g0 (shm_704 f11) kz_0_146 kz_0_147
  have rf20 : tv_ok ta (0, 1, 6000, []) (n_v vs 20) := tv_in t20 (by first | omega | grind) (by first | omega | grind)
  refine ⟨List.forall_mem_cons.mpr ⟨rf20, (fun _ h => (by cases h))⟩, [], trivial, ?_, (fun _ h => (by cases h))⟩
  rw [List.append_nil]
  exact (fun _ h => (by cases h))
set_option maxHeartbeats 4000000 in
theorem vc_Mo_backFrom_8_r0 (x1 : Int) (x2 : Int) (x3 : Int) (x5 : Int) (x7 : Int) (x8 : Int) (x9 : Int) (x11 : Int) (x12 : Int) (x14 : Int) (x17 : Int) (x20 : Int) (x22 : Int) (x24 : Int) (x25 : Int) (wide_0 : Int) (tall_0 : Int) (barredPoint_0 : Int → Int) (costOf_0 : Int → Int) (bucket_0 : Int → Int) (bucketMany_0 : Int → Int) (k1 : 0 ≤ x1 ∧ x1 ≤ 23999) (k2 : 0 ≤ x2 ∧ x2 ≤ 1000000) (k3 : 0 ≤ x3 ∧ x3 ≤ 5999) (k5 : 0 ≤ x5 ∧ x5 ≤ 5999) (k7 : 1 ≤ x7 ∧ x7 ≤ 1) (k8 : 1 ≤ x8 ∧ x8 ≤ 6000) (k9 : 0 ≤ x9 ∧ x9 ≤ 5999) (k11 : 0 ≤ x11 ∧ x11 ≤ 5999) (k12 : 0 ≤ x12 ∧ x12 ≤ 5999) (k14 : 0 ≤ x14 ∧ x14 ≤ 5998) (k17 : 0 ≤ x17 ∧ x17 ≤ 5999) (k20 : 1 ≤ x20 ∧ x20 ≤ 6000) (k22 : 0 ≤ x22 ∧ x22 ≤ 5999) (k24 : 0 ≤ x24 ∧ x24 ≤ 35988000) (k25 : 0 ≤ x25 ∧ x25 ≤ 35993999) (d4 : x24 + 0 ≤ x25 ∧ x25 ≤ x24 + 5999) (d5 : x22 + (-4294967296) ≤ x14 ∧ x14 ≤ x22 + 0) (d6 : x20 + (-1) ≤ x22 ∧ x22 ≤ x20 + (-1)) (d7 : x17 + (-4294967296) ≤ x11 ∧ x11 ≤ x17 + 0) (d8 : x8 + (-1) ≤ x17 ∧ x17 ≤ x8 + (-1)) (d9 : x12 + (-1) ≤ x14 ∧ x14 ≤ x12 + (-1)) (d10 : x9 + 0 ≤ x11 ∧ x11 ≤ x9 + 0) (d11 : x8 + (-4294967295) ≤ x11 ∧ x11 ≤ x8 + (-1)) (f1 : x25 = x24 + x11) (f2 : x24 = x14 * x8) (g3 : x8 = wide_0) (g5 : x20 = tall_0) (f9 : x12 = Int.tdiv (x5) (x8)) (f12 : x9 = Int.tmod (x5) (x8)) (f13 : x7 = x1 % 4) (f14 : x5 = x1 / 4) (f15 : RTQ (wide_0) (tall_0) (barredPoint_0) (costOf_0) (bucket_0) (bucketMany_0) (x3) (x2)) (f17 : (0 ≤ x1) ∧ ((x1 + 1) ≤ (4 * (wide_0 * tall_0)))) (kz_0_146 : (-3999999) ≤ wide_0 ∧ wide_0 ≤ 600000023) (kz_0_147 : (-3999999) ≤ tall_0 ∧ tall_0 ≤ 600000007) : 0 ≤ x25 ∧ x25 ≤ 5999 := by
  first
    | (have g := gok_bd (show GRX wide_0 tall_0 from ‹RTQ _ _ _ _ _ _ _ _›.1); omega)
    | (have g0 : GRX wide_0 tall_0 := ‹RTQ _ _ _ _ _ _ _ _›.1
       have g := gok_bd g0
       have e8 : x8 = wide_0 := by assumption
       have e20 : x20 = tall_0 := by assumption
       have c := cell_ix (W := x8) (T := x20) (x := x11) (y := x14) (p := x25) (by omega) (by omega) (by omega) (by omega) (by omega) (by rw [‹x25 = x24 + x11›, ‹x24 = x14 * x8›])
       have g3 := g0.2.2
       rw [e8, e20] at c
       omega)
def o_Mo_backFrom_8 : or_T := (86, 27, [(0, (2, 0, 0, [165])), (1, (0, 0, 23999, [])), (2, (0, 0, 1000000, [])), (3, (0, 0, 5999, [])), (5, (0, 0, 5999, [])), (7, (0, 1, 1, [])), (8, (0, 1, 6000, [])), (9, (0, 0, 5999, [])), (10, (0, 0, 0, [])), (11, (0, 0, 5999, [])), (12, (0, 0, 5999, [])), (13, (0, 1, 1, [])), (14, (0, 0, 5998, [])), (16, (0, 1, 1, [])), (17, (0, 0, 5999, [])), (20, (0, 1, 6000, [])), (21, (0, 1, 1, [])), (22, (0, 0, 5999, [])), (24, (0, 0, 35988000, [])), (25, (0, 0, 35993999, [])), (26, (2, 0, 0, [269]))], [(9, [26, 0], [143]), (1, [25, 24, 11], []), (3, [24, 14, 8], []), (9, [8, 0], [146]), (2, [22, 20, 21], []), (9, [20, 0], [147]), (2, [17, 8, 16], []), (2, [14, 12, 13], []), (20, [7, 13], [50, 0, 0, 3, 14, 2, 6, 1, 2, 1, 0, 0, 1, 1, 2, 1, 1, 0, 1, 3, 14, 2, 6, 1, 2, 1, 0, 0, 3, 1, 2, 1, 1, 0, -1, 2, 6, 7, 2, 1, 0, 0, 1, 2, 6, 7, 2, 1, 0, 0, 3, 1, 2, 1, 1, 0, 0]), (4, [12, 5, 8], []), (2, [11, 9, 10], []), (20, [7, 10], [50, 0, 0, 3, 14, 2, 6, 1, 2, 1, 0, 0, 0, 1, 2, 1, 1, 0, 1, 3, 14, 2, 6, 1, 2, 1, 0, 0, 2, 1, 2, 1, 1, 0, -1, 2, 6, 7, 2, 1, 0, 0, 0, 2, 6, 7, 2, 1, 0, 0, 2, 1, 2, 1, 1, 0, 0]), (5, [9, 5, 8], []), (12, [7, 1], [4]), (11, [5, 1], [4]), (20, [0, 3, 2], [60, 2, 4, 495, 146, 147, 143, 140, 141, 142]), (20, [0, 1, 2], [60, 0, 1, 497, 140]), (20, [1, 0], [50, 2, 0, 1146, 1147, 2, 6, 0, 2, 0, 0, 1, 0, 0, 6, 4, 2, 1, 0, 0, 1, 6, 2, 0, 4, 6, 3, 2, 1, 146, 2, 1, 147]), (20, [2], [50, 0, 0, 2, 6, 0, 2, 0, 0, 1, 0, 0, 2, 1, 0, 0, 999999])], [(25, (0, 0, 5999, []))], [], [], [], [(25, 11, 0, 35988000), (25, 17, -4294967296, 35988000), (25, 9, 0, 35988000), (25, 8, -4294967295, 35987999), (25, 24, 0, 5999), (14, 22, -4294967296, 0), (22, 20, -1, -1), (11, 17, -4294967296, 0), (17, 8, -1, -1), (14, 12, -1, -1), (11, 9, 0, 0), (11, 8, -4294967295, -1), (9, 8, -4294967295, -1)])
theorem oo_Mo_backFrom_8 {kA : Nat → ClassId} : or_ok PRD kA GG o_Mo_backFrom_8 := by
  refine or_mk fun A ta ws vs hD hth hl => ?_
  intro t0 r0 t1 k1 t2 k2 t3 k3 t5 k5 t7 k7 t8 k8 t9 k9 t10 k10 t11 k11 t12 k12 t13 k13 t14 k14 t16 k16 t17 k17 t20 k20 t21 k21 t22 k22 t24 k24 t25 k25 t26 r26 d0 d1 d2 d3 d4 d5 d6 d7 d8 d9 d10 d11 d12 f0 f1 f2 f3 f4 f5 f6 f7 f8 f9 f10 f11 f12 f13 f14 f15 f16 f17 f18
  replace f3 := shm_1288 f3
  replace f5 := shm_1293 f5
  replace f9 := shm_34 f9
  have g3 : v_iv (n_v vs 8) = w_fi ws (n_v vs 0) 146 := congrArg v_iv f3
  have g5 : v_iv (n_v vs 20) = w_fi ws (n_v vs 0) 147 := congrArg v_iv f5
  have kz_0_146 := fdq_179 hD hth r0
  have kz_0_147 := fdq_180 hD hth r0
  have hrf0 : 0 ≤ v_iv (n_v vs 25) ∧ v_iv (n_v vs 25) ≤ 5999 := vc_Mo_backFrom_8_r0 (v_iv (n_v vs 1)) (v_iv (n_v vs 2)) (v_iv (n_v vs 3)) (v_iv (n_v vs 5)) (v_iv (n_v vs 7)) (v_iv (n_v vs 8)) (v_iv (n_v vs 9)) (v_iv (n_v vs 11)) (v_iv (n_v vs 12)) (v_iv (n_v vs 14)) (v_iv (n_v vs 17)) (v_iv (n_v vs 20)) (v_iv (n_v vs 22)) (v_iv (n_v vs 24)) (v_iv (n_v vs 25)) (w_fi ws (n_v vs 0) 146) (w_fi ws (n_v vs 0) 147) (w_ei ws (w_ar ws (n_v vs 0) 143)) (w_ei ws (w_ar ws (n_v vs 0) 140)) (w_ei ws (w_ar ws (n_v vs 0) 141)) (w_ei ws (w_ar ws (n_v vs 0) 142)) k1 k2 k3 k5 k7 k8 k9 k11 k12 k14 k17 k20 k22 k24 k25 d4 d5 d6 d7 d8 d9 d10 d11 (shm_12 f1) (shm_38 f2) g3 g5 f9 (shm_468 f12) (shm_573 f13) (shm_1223 f14) (shm_704 f15) (shm_1407 f17) kz_0_146 kz_0_147
  have rf25 : tv_ok ta (0, 0, 5999, []) (n_v vs 25) := tv_in t25 (by first | omega | grind) (by first | omega | grind)
  refine ⟨List.forall_mem_cons.mpr ⟨rf25, (fun _ h => (by cases h))⟩, [], trivial, ?_, (fun _ h => (by cases h))⟩
  rw [List.append_nil]
  exact (fun _ h => (by cases h))
set_option maxHeartbeats 4000000 in
theorem vc_Mo_backFrom_9_0 (x1 : Int) (x2 : Int) (x3 : Int) (x5 : Int) (x7 : Int) (x8 : Int) (x9 : Int) (x11 : Int) (x12 : Int) (x14 : Int) (x17 : Int) (x20 : Int) (x22 : Int) (x24 : Int) (x25 : Int) (x27 : Int) (barredPoint_0 : Int → Int) (wide_0 : Int) (tall_0 : Int) (costOf_0 : Int → Int) (bucket_0 : Int → Int) (bucketMany_0 : Int → Int) (k1 : 0 ≤ x1 ∧ x1 ≤ 23999) (k2 : 0 ≤ x2 ∧ x2 ≤ 1000000) (k3 : 0 ≤ x3 ∧ x3 ≤ 5999) (k5 : 0 ≤ x5 ∧ x5 ≤ 5999) (k7 : 1 ≤ x7 ∧ x7 ≤ 1) (k8 : 1 ≤ x8 ∧ x8 ≤ 6000) (k9 : 0 ≤ x9 ∧ x9 ≤ 5999) (k11 : 0 ≤ x11 ∧ x11 ≤ 5999) (k12 : 0 ≤ x12 ∧ x12 ≤ 5999) (k14 : 0 ≤ x14 ∧ x14 ≤ 5998) (k17 : 0 ≤ x17 ∧ x17 ≤ 5999) (k20 : 1 ≤ x20 ∧ x20 ≤ 6000) (k22 : 0 ≤ x22 ∧ x22 ≤ 5999) (k24 : 0 ≤ x24 ∧ x24 ≤ 35988000) (k25 : 0 ≤ x25 ∧ x25 ≤ 5999) (k27 : 0 ≤ x27 ∧ x27 ≤ 0) (d2 : x24 + 0 ≤ x25 ∧ x25 ≤ x24 + 5999) (d3 : x22 + (-4294967296) ≤ x14 ∧ x14 ≤ x22 + 0) (d4 : x20 + (-1) ≤ x22 ∧ x22 ≤ x20 + (-1)) (d5 : x17 + (-4294967296) ≤ x11 ∧ x11 ≤ x17 + 0) (d6 : x8 + (-1) ≤ x17 ∧ x17 ≤ x8 + (-1)) (d7 : x12 + (-1) ≤ x14 ∧ x14 ≤ x12 + (-1)) (d8 : x9 + 0 ≤ x11 ∧ x11 ≤ x9 + 0) (d9 : x8 + (-4294967295) ≤ x11 ∧ x11 ≤ x8 + (-1)) (f0 : x27 = 0) (h1 : x27 = barredPoint_0 (x25)) (f3 : x25 = x24 + x11) (f4 : x24 = x14 * x8) (g5 : x8 = wide_0) (g7 : x20 = tall_0) (f11 : x12 = Int.tdiv (x5) (x8)) (f14 : x9 = Int.tmod (x5) (x8)) (f15 : x7 = x1 % 4) (f16 : x5 = x1 / 4) (f17 : RTQ (wide_0) (tall_0) (barredPoint_0) (costOf_0) (bucket_0) (bucketMany_0) (x3) (x2)) (f18 : PIV (costOf_0) (x1) (x2)) (f19 : (0 ≤ x1) ∧ ((x1 + 1) ≤ (4 * (wide_0 * tall_0)))) (f20 : (0 ≤ x2) ∧ (x2 ≤ 999999)) (kz_0_146 : (-3999999) ≤ wide_0 ∧ wide_0 ≤ 600000023) (kz_0_147 : (-3999999) ≤ tall_0 ∧ tall_0 ≤ 600000007) : BFP (wide_0) (tall_0) (barredPoint_0) (x1) (x25) := by
  first
    | (have g0 : GRX wide_0 tall_0 := ‹RTQ _ _ _ _ _ _ _ _›.1
       have g := gok_bd g0
       have e8 : x8 = wide_0 := by assumption
       have e20 : x20 = tall_0 := by assumption
       have tm : x9 = x5 % wide_0 := by rw [← e8, ‹x9 = Int.tmod x5 x8›]; exact Int.tmod_eq_emod_of_nonneg (by omega)
       have td : x12 = x5 / wide_0 := by rw [← e8, ‹x12 = Int.tdiv x5 x8›]; exact Int.tdiv_eq_ediv_of_nonneg (by omega)
       have hx : x11 = x5 % wide_0 - dxf x7 := by rw [← tm]; unfold dxf; split; omega; split <;> omega
       have hy : x14 = x5 / wide_0 - dyf x7 := by rw [← td]; unfold dyf; split; omega; split <;> omega
       have n := nb_back (T := tall_0) (q := x5) (d := x7) (x := x11) (y := x14) (p := x25) (by omega) (by omega) (by omega) hx hy (by omega) (by omega) (by omega) (by omega) (by rw [← e8, ‹x25 = x24 + x11›, ‹x24 = x14 * x8›])
       have b := rtq_bar ‹RTQ _ _ _ _ _ _ _ _› ‹PIV _ _ _› (by omega) (by omega)
       exact ⟨⟨by omega, by omega⟩, by rw [show x1 % 4 = x7 by omega, show x1 / 4 = x5 by omega]; exact n.1, n.2, by rw [← ‹x27 = barredPoint_0 x25›]; omega, b⟩)
set_option maxHeartbeats 4000000 in
theorem vc_Mo_backFrom_9_1 (x1 : Int) (x7 : Int) (x8 : Int) (x11 : Int) (x14 : Int) (x20 : Int) (x24 : Int) (x25 : Int) (wide_0 : Int) (tall_0 : Int) (k1 : 0 ≤ x1 ∧ x1 ≤ 23999) (k7 : 1 ≤ x7 ∧ x7 ≤ 1) (f15 : x7 = x1 % 4) : x7 = (x1 % 4) := by
  first
    | omega
    | (have h := ‹BFP _ _ _ _ _›.2.2.1; omega)
set_option maxHeartbeats 4000000 in
theorem vc_Mo_backFrom_9_2 (x2 : Int) (x3 : Int) (x5 : Int) (x8 : Int) (x9 : Int) (x11 : Int) (x12 : Int) (x14 : Int) (x17 : Int) (x20 : Int) (x22 : Int) (x24 : Int) (x25 : Int) (barredPoint_0 : Int → Int) (wide_0 : Int) (tall_0 : Int) (costOf_0 : Int → Int) (bucket_0 : Int → Int) (bucketMany_0 : Int → Int) (k2 : 0 ≤ x2 ∧ x2 ≤ 1000000) (k3 : 0 ≤ x3 ∧ x3 ≤ 5999) (k5 : 0 ≤ x5 ∧ x5 ≤ 5999) (k8 : 1 ≤ x8 ∧ x8 ≤ 6000) (k9 : 0 ≤ x9 ∧ x9 ≤ 5999) (k11 : 0 ≤ x11 ∧ x11 ≤ 5999) (k12 : 0 ≤ x12 ∧ x12 ≤ 5999) (k14 : 0 ≤ x14 ∧ x14 ≤ 5998) (k17 : 0 ≤ x17 ∧ x17 ≤ 5999) (k20 : 1 ≤ x20 ∧ x20 ≤ 6000) (k22 : 0 ≤ x22 ∧ x22 ≤ 5999) (k24 : 0 ≤ x24 ∧ x24 ≤ 35988000) (k25 : 0 ≤ x25 ∧ x25 ≤ 5999) (d2 : x24 + 0 ≤ x25 ∧ x25 ≤ x24 + 5999) (d3 : x22 + (-4294967296) ≤ x14 ∧ x14 ≤ x22 + 0) (d4 : x20 + (-1) ≤ x22 ∧ x22 ≤ x20 + (-1)) (d5 : x17 + (-4294967296) ≤ x11 ∧ x11 ≤ x17 + 0) (d6 : x8 + (-1) ≤ x17 ∧ x17 ≤ x8 + (-1)) (d7 : x12 + (-1) ≤ x14 ∧ x14 ≤ x12 + (-1)) (d8 : x9 + 0 ≤ x11 ∧ x11 ≤ x9 + 0) (d9 : x8 + (-4294967295) ≤ x11 ∧ x11 ≤ x8 + (-1)) (f3 : x25 = x24 + x11) (f4 : x24 = x14 * x8) (g5 : x8 = wide_0) (g7 : x20 = tall_0) (f11 : x12 = Int.tdiv (x5) (x8)) (f14 : x9 = Int.tmod (x5) (x8)) (f17 : RTQ (wide_0) (tall_0) (barredPoint_0) (costOf_0) (bucket_0) (bucketMany_0) (x3) (x2)) (kz_0_146 : (-3999999) ≤ wide_0 ∧ wide_0 ≤ 600000023) (kz_0_147 : (-3999999) ≤ tall_0 ∧ tall_0 ≤ 600000007) : (0 ≤ x25) ∧ ((x25 + 1) ≤ (wide_0 * tall_0)) := by
  first
    | (have g := gok_bd (show GRX wide_0 tall_0 from ‹RTQ _ _ _ _ _ _ _ _›.1); omega)
    | (have g0 : GRX wide_0 tall_0 := ‹RTQ _ _ _ _ _ _ _ _›.1
       have g := gok_bd g0
       have e8 : x8 = wide_0 := by assumption
       have e20 : x20 = tall_0 := by assumption
       have c := cell_ix (W := x8) (T := x20) (x := x11) (y := x14) (p := x25) (by omega) (by omega) (by omega) (by omega) (by omega) (by rw [‹x25 = x24 + x11›, ‹x24 = x14 * x8›])
       have g3 := g0.2.2
       rw [e8, e20] at c
       omega)
def o_Mo_backFrom_9 : or_T := (94, 29, [(0, (2, 0, 0, [165])), (1, (0, 0, 23999, [])), (2, (0, 0, 1000000, [])), (3, (0, 0, 5999, [])), (5, (0, 0, 5999, [])), (7, (0, 1, 1, [])), (8, (0, 1, 6000, [])), (9, (0, 0, 5999, [])), (10, (0, 0, 0, [])), (11, (0, 0, 5999, [])), (12, (0, 0, 5999, [])), (13, (0, 1, 1, [])), (14, (0, 0, 5998, [])), (16, (0, 1, 1, [])), (17, (0, 0, 5999, [])), (20, (0, 1, 6000, [])), (21, (0, 1, 1, [])), (22, (0, 0, 5999, [])), (24, (0, 0, 35988000, [])), (25, (0, 0, 5999, [])), (26, (2, 0, 0, [269])), (27, (0, 0, 0, []))], [(8, [27], [0]), (10, [27, 26, 25], []), (9, [26, 0], [143]), (1, [25, 24, 11], []), (3, [24, 14, 8], []), (9, [8, 0], [146]), (2, [22, 20, 21], []), (9, [20, 0], [147]), (2, [17, 8, 16], []), (2, [14, 12, 13], []), (20, [7, 13], [50, 0, 0, 3, 14, 2, 6, 1, 2, 1, 0, 0, 1, 1, 2, 1, 1, 0, 1, 3, 14, 2, 6, 1, 2, 1, 0, 0, 3, 1, 2, 1, 1, 0, -1, 2, 6, 7, 2, 1, 0, 0, 1, 2, 6, 7, 2, 1, 0, 0, 3, 1, 2, 1, 1, 0, 0]), (4, [12, 5, 8], []), (2, [11, 9, 10], []), (20, [7, 10], [50, 0, 0, 3, 14, 2, 6, 1, 2, 1, 0, 0, 0, 1, 2, 1, 1, 0, 1, 3, 14, 2, 6, 1, 2, 1, 0, 0, 2, 1, 2, 1, 1, 0, -1, 2, 6, 7, 2, 1, 0, 0, 0, 2, 6, 7, 2, 1, 0, 0, 2, 1, 2, 1, 1, 0, 0]), (5, [9, 5, 8], []), (12, [7, 1], [4]), (11, [5, 1], [4]), (20, [0, 3, 2], [60, 2, 4, 495, 146, 147, 143, 140, 141, 142]), (20, [0, 1, 2], [60, 0, 1, 497, 140]), (20, [1, 0], [50, 2, 0, 1146, 1147, 2, 6, 0, 2, 0, 0, 1, 0, 0, 6, 4, 2, 1, 0, 0, 1, 6, 2, 0, 4, 6, 3, 2, 1, 146, 2, 1, 147]), (20, [2], [50, 0, 0, 2, 6, 0, 2, 0, 0, 1, 0, 0, 2, 1, 0, 0, 999999])], [], [], [(20, [0, 1, 25], [60, 2, 1, 500, 146, 147, 143]), (20, [7, 1], [50, 0, 0, 1, 2, 1, 0, 9, 2, 1, 1, 0, 4]), (20, [25, 0], [50, 2, 0, 1146, 1147, 2, 6, 0, 2, 0, 0, 1, 0, 0, 6, 4, 2, 1, 0, 0, 1, 6, 3, 2, 1, 146, 2, 1, 147]), (24, [0, 0], []), (24, [1, 1], []), (24, [2, 2], [])], [], [(25, 11, 0, 35988000), (25, 9, 0, 35988000), (25, 24, 0, 5999), (14, 22, -4294967296, 0), (22, 20, -1, -1), (11, 17, -4294967296, 0), (17, 8, -1, -1), (14, 12, -1, -1), (11, 9, 0, 0), (11, 8, -4294967295, -1), (9, 8, -4294967295, -1)])
theorem oo_Mo_backFrom_9 {kA : Nat → ClassId} : or_ok PRD kA GG o_Mo_backFrom_9 := by
  refine or_mk fun A ta ws vs hD hth hl => ?_
  intro t0 r0 t1 k1 t2 k2 t3 k3 t5 k5 t7 k7 t8 k8 t9 k9 t10 k10 t11 k11 t12 k12 t13 k13 t14 k14 t16 k16 t17 k17 t20 k20 t21 k21 t22 k22 t24 k24 t25 k25 t26 r26 t27 k27 d0 d1 d2 d3 d4 d5 d6 d7 d8 d9 d10 f0 f1 f2 f3 f4 f5 f6 f7 f8 f9 f10 f11 f12 f13 f14 f15 f16 f17 f18 f19 f20
  replace f1 := shm_107 f1
  replace f2 := shm_1294 f2
  replace f5 := shm_1288 f5
  replace f7 := shm_1293 f7
  replace f11 := shm_34 f11
  have ad_26 : v_ad (n_v vs 26) = w_ar ws (n_v vs 0) 143 := congrArg v_ad f2
  simp only [ad_26] at f1
  have h1 : v_iv (n_v vs 27) = w_ei ws (w_ar ws (n_v vs 0) 143) (v_iv (n_v vs 25)) := f1
  have g5 : v_iv (n_v vs 8) = w_fi ws (n_v vs 0) 146 := congrArg v_iv f5
  have g7 : v_iv (n_v vs 20) = w_fi ws (n_v vs 0) 147 := congrArg v_iv f7
  have kz_0_146 := fdq_179 hD hth r0
  have kz_0_147 := fdq_180 hD hth r0
  have nf0 : fc_1 PRD (20, [0, 1, 25], [60, 2, 1, 500, 146, 147, 143]) ws (vs) := ⟨nf_in hl rfl, sgq_1409 (vc_Mo_backFrom_9_0 (v_iv (n_v vs 1)) (v_iv (n_v vs 2)) (v_iv (n_v vs 3)) (v_iv (n_v vs 5)) (v_iv (n_v vs 7)) (v_iv (n_v vs 8)) (v_iv (n_v vs 9)) (v_iv (n_v vs 11)) (v_iv (n_v vs 12)) (v_iv (n_v vs 14)) (v_iv (n_v vs 17)) (v_iv (n_v vs 20)) (v_iv (n_v vs 22)) (v_iv (n_v vs 24)) (v_iv (n_v vs 25)) (v_iv (n_v vs 27)) (w_ei ws (w_ar ws (n_v vs 0) 143)) (w_fi ws (n_v vs 0) 146) (w_fi ws (n_v vs 0) 147) (w_ei ws (w_ar ws (n_v vs 0) 140)) (w_ei ws (w_ar ws (n_v vs 0) 141)) (w_ei ws (w_ar ws (n_v vs 0) 142)) k1 k2 k3 k5 k7 k8 k9 k11 k12 k14 k17 k20 k22 k24 k25 k27 d2 d3 d4 d5 d6 d7 d8 d9 (shm_192 f0) h1 (shm_12 f3) (shm_38 f4) g5 g7 f11 (shm_468 f14) (shm_573 f15) (shm_1223 f16) (shm_704 f17) (shm_706 f18) (shm_1407 f19) (shm_1408 f20) kz_0_146 kz_0_147)⟩
  have nf1 : fc_1 PRD (20, [7, 1], [50, 0, 0, 1, 2, 1, 0, 9, 2, 1, 1, 0, 4]) ws (vs) := ⟨nf_in hl rfl, sgq_1410 (vc_Mo_backFrom_9_1 (v_iv (n_v vs 1)) (v_iv (n_v vs 7)) (v_iv (n_v vs 8)) (v_iv (n_v vs 11)) (v_iv (n_v vs 14)) (v_iv (n_v vs 20)) (v_iv (n_v vs 24)) (v_iv (n_v vs 25)) (w_fi ws (n_v vs 0) 146) (w_fi ws (n_v vs 0) 147) k1 k7 (shm_573 f15))⟩
  have nf2 : fc_1 PRD (20, [25, 0], [50, 2, 0, 1146, 1147, 2, 6, 0, 2, 0, 0, 1, 0, 0, 6, 4, 2, 1, 0, 0, 1, 6, 3, 2, 1, 146, 2, 1, 147]) ws (vs) := ⟨nf_in hl rfl, sgq_1290 (vc_Mo_backFrom_9_2 (v_iv (n_v vs 2)) (v_iv (n_v vs 3)) (v_iv (n_v vs 5)) (v_iv (n_v vs 8)) (v_iv (n_v vs 9)) (v_iv (n_v vs 11)) (v_iv (n_v vs 12)) (v_iv (n_v vs 14)) (v_iv (n_v vs 17)) (v_iv (n_v vs 20)) (v_iv (n_v vs 22)) (v_iv (n_v vs 24)) (v_iv (n_v vs 25)) (w_ei ws (w_ar ws (n_v vs 0) 143)) (w_fi ws (n_v vs 0) 146) (w_fi ws (n_v vs 0) 147) (w_ei ws (w_ar ws (n_v vs 0) 140)) (w_ei ws (w_ar ws (n_v vs 0) 141)) (w_ei ws (w_ar ws (n_v vs 0) 142)) k2 k3 k5 k8 k9 k11 k12 k14 k17 k20 k22 k24 k25 d2 d3 d4 d5 d6 d7 d8 d9 (shm_12 f3) (shm_38 f4) g5 g7 f11 (shm_468 f14) (shm_704 f17) kz_0_146 kz_0_147)⟩
  have nf3 : fc_1 PRD (24, [0, 0], []) ws (vs) := by
    refine ⟨nf_in hl rfl, sgq_1 ?_⟩
    · show n_v vs 0 = n_v vs 0
      first | rfl | simp only [true_and]
  have nf4 : fc_1 PRD (24, [1, 1], []) ws (vs) := by
    refine ⟨nf_in hl rfl, sgq_1 ?_⟩
    · show n_v vs 1 = n_v vs 1
      first | rfl | simp only [true_and]
  have nf5 : fc_1 PRD (24, [2, 2], []) ws (vs) := by
    refine ⟨nf_in hl rfl, sgq_1 ?_⟩
    · show n_v vs 2 = n_v vs 2
      first | rfl | simp only [true_and]
  refine ⟨(fun _ h => (by cases h)), [], trivial, ?_, (fun _ h => (by cases h))⟩
  rw [List.append_nil]
  exact List.forall_mem_cons.mpr ⟨⟨show (20 : Nat) < 100 from by decide, nf0⟩, List.forall_mem_cons.mpr ⟨⟨show (20 : Nat) < 100 from by decide, nf1⟩, List.forall_mem_cons.mpr ⟨⟨show (20 : Nat) < 100 from by decide, nf2⟩, List.forall_mem_cons.mpr ⟨⟨show (24 : Nat) < 100 from by decide, nf3⟩, List.forall_mem_cons.mpr ⟨⟨show (24 : Nat) < 100 from by decide, nf4⟩, List.forall_mem_cons.mpr ⟨⟨show (24 : Nat) < 100 from by decide, nf5⟩, (fun _ h => (by cases h))⟩⟩⟩⟩⟩⟩
set_option maxHeartbeats 4000000 in
theorem vc_Mo_backFrom_10_r0 (x2 : Int) (x3 : Int) (x8 : Int) (x11 : Int) (x14 : Int) (x20 : Int) (tall_0 : Int) (wide_0 : Int) (barredPoint_0 : Int → Int) (costOf_0 : Int → Int) (bucket_0 : Int → Int) (bucketMany_0 : Int → Int) (k2 : 0 ≤ x2 ∧ x2 ≤ 1000000) (k3 : 0 ≤ x3 ∧ x3 ≤ 5999) (k20 : (-3999999) ≤ x20 ∧ x20 ≤ 600000007) (g0 : x20 = tall_0) (f11 : RTQ (wide_0) (tall_0) (barredPoint_0) (costOf_0) (bucket_0) (bucketMany_0) (x3) (x2)) (kz_0_146 : (-3999999) ≤ wide_0 ∧ wide_0 ≤ 600000023) (kz_0_147 : (-3999999) ≤ tall_0 ∧ tall_0 ≤ 600000007) : 1 ≤ x20 ∧ x20 ≤ 6000 := by
  first
    | (have g := gok_bd (show GRX wide_0 tall_0 from ‹RTQ _ _ _ _ _ _ _ _›.1); omega)
def o_Mo_backFrom_10 : or_T := (60, 22, [(0, (2, 0, 0, [165])), (1, (0, 0, 23999, [])), (2, (0, 0, 1000000, [])), (3, (0, 0, 5999, [])), (5, (0, 0, 5999, [])), (7, (0, 2, 2, [])), (8, (0, 1, 6000, [])), (9, (0, 0, 5999, [])), (10, (0, -1, -1, [])), (11, (0, 1, 5999, [])), (12, (0, 0, 5999, [])), (13, (0, 0, 0, [])), (14, (0, 0, 5999, [])), (16, (0, 1, 1, [])), (17, (0, 1, 5999, [])), (20, (0, -3999999, 600000007, []))], [(9, [20, 0], [147]), (2, [17, 8, 16], []), (9, [8, 0], [146]), (2, [14, 12, 13], []), (20, [7, 13], [50, 0, 0, 3, 14, 2, 6, 1, 2, 1, 0, 0, 1, 1, 2, 1, 1, 0, 1, 3, 14, 2, 6, 1, 2, 1, 0, 0, 3, 1, 2, 1, 1, 0, -1, 2, 6, 7, 2, 1, 0, 0, 1, 2, 6, 7, 2, 1, 0, 0, 3, 1, 2, 1, 1, 0, 0]), (4, [12, 5, 8], []), (2, [11, 9, 10], []), (20, [7, 10], [50, 0, 0, 3, 14, 2, 6, 1, 2, 1, 0, 0, 0, 1, 2, 1, 1, 0, 1, 3, 14, 2, 6, 1, 2, 1, 0, 0, 2, 1, 2, 1, 1, 0, -1, 2, 6, 7, 2, 1, 0, 0, 0, 2, 6, 7, 2, 1, 0, 0, 2, 1, 2, 1, 1, 0, 0]), (5, [9, 5, 8], []), (12, [7, 1], [4]), (11, [5, 1], [4]), (20, [0, 3, 2], [60, 2, 4, 495, 146, 147, 143, 140, 141, 142]), (20, [0, 1, 2], [60, 0, 1, 497, 140]), (20, [1, 0], [50, 2, 0, 1146, 1147, 2, 6, 0, 2, 0, 0, 1, 0, 0, 6, 4, 2, 1, 0, 0, 1, 6, 2, 0, 4, 6, 3, 2, 1, 146, 2, 1, 147]), (20, [2], [50, 0, 0, 2, 6, 0, 2, 0, 0, 1, 0, 0, 2, 1, 0, 0, 999999])], [(20, (0, 1, 6000, []))], [], [], [], [(11, 17, -4294967296, 0), (17, 8, -1, -1), (14, 12, 0, 0), (11, 9, 1, 1), (11, 8, -4294967294, 0), (9, 8, -4294967295, -1)])
theorem oo_Mo_backFrom_10 {kA : Nat → ClassId} : or_ok PRD kA GG o_Mo_backFrom_10 := by
  refine or_mk fun A ta ws vs hD hth hl => ?_
  intro t0 r0 t1 k1 t2 k2 t3 k3 t5 k5 t7 k7 t8 k8 t9 k9 t10 k10 t11 k11 t12 k12 t13 k13 t14 k14 t16 k16 t17 k17 t20 k20 d0 d1 d2 d3 d4 d5 f0 f1 f2 f3 f4 f5 f6 f7 f8 f9 f10 f11 f12 f13 f14
  replace f0 := shm_1293 f0
  have g0 : v_iv (n_v vs 20) = w_fi ws (n_v vs 0) 147 := congrArg v_iv f0
  have kz_0_146 := fdq_179 hD hth r0
  have kz_0_147 := fdq_180 hD hth r0
  have hrf0 : 1 ≤ v_iv (n_v vs 20) ∧ v_iv (n_v vs 20) ≤ 6000 := vc_Mo_backFrom_10_r0 (v_iv (n_v vs 2)) (v_iv (n_v vs 3)) (v_iv (n_v vs 8)) (v_iv (n_v vs 11)) (v_iv (n_v vs 14)) (v_iv (n_v vs 20)) (w_fi ws (n_v vs 0) 147) (w_fi ws (n_v vs 0) 146) (w_ei ws (w_ar ws (n_v vs 0) 143)) (w_ei ws (w_ar ws (n_v vs 0) 140)) (w_ei ws (w_ar ws (n_v vs 0) 141)) (w_ei ws (w_ar ws (n_v vs 0) 142)) k2 k3 k20 g0 (shm_704 f11) kz_0_146 kz_0_147
  have rf20 : tv_ok ta (0, 1, 6000, []) (n_v vs 20) := tv_in t20 (by first | omega | grind) (by first | omega | grind)
  refine ⟨List.forall_mem_cons.mpr ⟨rf20, (fun _ h => (by cases h))⟩, [], trivial, ?_, (fun _ h => (by cases h))⟩
  rw [List.append_nil]
  exact (fun _ h => (by cases h))
set_option maxHeartbeats 4000000 in
theorem vc_Mo_backFrom_11_r0 (x1 : Int) (x2 : Int) (x3 : Int) (x5 : Int) (x7 : Int) (x8 : Int) (x9 : Int) (x11 : Int) (x12 : Int) (x14 : Int) (x17 : Int) (x20 : Int) (x22 : Int) (x24 : Int) (x25 : Int) (wide_0 : Int) (tall_0 : Int) (barredPoint_0 : Int → Int) (costOf_0 : Int → Int) (bucket_0 : Int → Int) (bucketMany_0 : Int → Int) (k1 : 0 ≤ x1 ∧ x1 ≤ 23999) (k2 : 0 ≤ x2 ∧ x2 ≤ 1000000) (k3 : 0 ≤ x3 ∧ x3 ≤ 5999) (k5 : 0 ≤ x5 ∧ x5 ≤ 5999) (k7 : 2 ≤ x7 ∧ x7 ≤ 2) (k8 : 1 ≤ x8 ∧ x8 ≤ 6000) (k9 : 0 ≤ x9 ∧ x9 ≤ 5999) (k11 : 1 ≤ x11 ∧ x11 ≤ 5999) (k12 : 0 ≤ x12 ∧ x12 ≤ 5999) (k14 : 0 ≤ x14 ∧ x14 ≤ 5999) (k17 : 1 ≤ x17 ∧ x17 ≤ 5999) (k20 : 1 ≤ x20 ∧ x20 ≤ 6000) (k22 : 0 ≤ x22 ∧ x22 ≤ 5999) (k24 : 0 ≤ x24 ∧ x24 ≤ 35994000) (k25 : 1 ≤ x25 ∧ x25 ≤ 35999999) (d4 : x24 + 1 ≤ x25 ∧ x25 ≤ x24 + 5999) (d5 : x22 + (-4294967296) ≤ x14 ∧ x14 ≤ x22 + 0) (d6 : x20 + (-1) ≤ x22 ∧ x22 ≤ x20 + (-1)) (d7 : x17 + (-4294967296) ≤ x11 ∧ x11 ≤ x17 + 0) (d8 : x8 + (-1) ≤ x17 ∧ x17 ≤ x8 + (-1)) (d9 : x12 + 0 ≤ x14 ∧ x14 ≤ x12 + 0) (d10 : x9 + 1 ≤ x11 ∧ x11 ≤ x9 + 1) (d11 : x8 + (-4294967294) ≤ x11 ∧ x11 ≤ x8 + 0) (f1 : x25 = x24 + x11) (f2 : x24 = x14 * x8) (g3 : x8 = wide_0) (g5 : x20 = tall_0) (f9 : x12 = Int.tdiv (x5) (x8)) (f12 : x9 = Int.tmod (x5) (x8)) (f13 : x7 = x1 % 4) (f14 : x5 = x1 / 4) (f15 : RTQ (wide_0) (tall_0) (barredPoint_0) (costOf_0) (bucket_0) (bucketMany_0) (x3) (x2)) (f17 : (0 ≤ x1) ∧ ((x1 + 1) ≤ (4 * (wide_0 * tall_0)))) (kz_0_146 : (-3999999) ≤ wide_0 ∧ wide_0 ≤ 600000023) (kz_0_147 : (-3999999) ≤ tall_0 ∧ tall_0 ≤ 600000007) : 1 ≤ x25 ∧ x25 ≤ 5999 := by
  first
    | (have g := gok_bd (show GRX wide_0 tall_0 from ‹RTQ _ _ _ _ _ _ _ _›.1); omega)
    | (have g0 : GRX wide_0 tall_0 := ‹RTQ _ _ _ _ _ _ _ _›.1
       have g := gok_bd g0
       have e8 : x8 = wide_0 := by assumption
       have e20 : x20 = tall_0 := by assumption
       have c := cell_ix (W := x8) (T := x20) (x := x11) (y := x14) (p := x25) (by omega) (by omega) (by omega) (by omega) (by omega) (by rw [‹x25 = x24 + x11›, ‹x24 = x14 * x8›])
       have g3 := g0.2.2
       rw [e8, e20] at c
       omega)
def o_Mo_backFrom_11 : or_T := (86, 27, [(0, (2, 0, 0, [165])), (1, (0, 0, 23999, [])), (2, (0, 0, 1000000, [])), (3, (0, 0, 5999, [])), (5, (0, 0, 5999, [])), (7, (0, 2, 2, [])), (8, (0, 1, 6000, [])), (9, (0, 0, 5999, [])), (10, (0, -1, -1, [])), (11, (0, 1, 5999, [])), (12, (0, 0, 5999, [])), (13, (0, 0, 0, [])), (14, (0, 0, 5999, [])), (16, (0, 1, 1, [])), (17, (0, 1, 5999, [])), (20, (0, 1, 6000, [])), (21, (0, 1, 1, [])), (22, (0, 0, 5999, [])), (24, (0, 0, 35994000, [])), (25, (0, 1, 35999999, [])), (26, (2, 0, 0, [269]))], [(9, [26, 0], [143]), (1, [25, 24, 11], []), (3, [24, 14, 8], []), (9, [8, 0], [146]), (2, [22, 20, 21], []), (9, [20, 0], [147]), (2, [17, 8, 16], []), (2, [14, 12, 13], []), (20, [7, 13], [50, 0, 0, 3, 14, 2, 6, 1, 2, 1, 0, 0, 1, 1, 2, 1, 1, 0, 1, 3, 14, 2, 6, 1, 2, 1, 0, 0, 3, 1, 2, 1, 1, 0, -1, 2, 6, 7, 2, 1, 0, 0, 1, 2, 6, 7, 2, 1, 0, 0, 3, 1, 2, 1, 1, 0, 0]), (4, [12, 5, 8], []), (2, [11, 9, 10], []), (20, [7, 10], [50, 0, 0, 3, 14, 2, 6, 1, 2, 1, 0, 0, 0, 1, 2, 1, 1, 0, 1, 3, 14, 2, 6, 1, 2, 1, 0, 0, 2, 1, 2, 1, 1, 0, -1, 2, 6, 7, 2, 1, 0, 0, 0, 2, 6, 7, 2, 1, 0, 0, 2, 1, 2, 1, 1, 0, 0]), (5, [9, 5, 8], []), (12, [7, 1], [4]), (11, [5, 1], [4]), (20, [0, 3, 2], [60, 2, 4, 495, 146, 147, 143, 140, 141, 142]), (20, [0, 1, 2], [60, 0, 1, 497, 140]), (20, [1, 0], [50, 2, 0, 1146, 1147, 2, 6, 0, 2, 0, 0, 1, 0, 0, 6, 4, 2, 1, 0, 0, 1, 6, 2, 0, 4, 6, 3, 2, 1, 146, 2, 1, 147]), (20, [2], [50, 0, 0, 2, 6, 0, 2, 0, 0, 1, 0, 0, 2, 1, 0, 0, 999999])], [(25, (0, 1, 5999, []))], [], [], [], [(25, 11, 0, 35994000), (25, 17, -4294967296, 35994000), (25, 9, 1, 35994001), (25, 8, -4294967294, 35994000), (25, 24, 1, 5999), (14, 22, -4294967296, 0), (22, 20, -1, -1), (11, 17, -4294967296, 0), (17, 8, -1, -1), (14, 12, 0, 0), (11, 9, 1, 1), (11, 8, -4294967294, 0), (9, 8, -4294967295, -1)])
theorem oo_Mo_backFrom_11 {kA : Nat → ClassId} : or_ok PRD kA GG o_Mo_backFrom_11 := by
  refine or_mk fun A ta ws vs hD hth hl => ?_
  intro t0 r0 t1 k1 t2 k2 t3 k3 t5 k5 t7 k7 t8 k8 t9 k9 t10 k10 t11 k11 t12 k12 t13 k13 t14 k14 t16 k16 t17 k17 t20 k20 t21 k21 t22 k22 t24 k24 t25 k25 t26 r26 d0 d1 d2 d3 d4 d5 d6 d7 d8 d9 d10 d11 d12 f0 f1 f2 f3 f4 f5 f6 f7 f8 f9 f10 f11 f12 f13 f14 f15 f16 f17 f18
  replace f3 := shm_1288 f3
  replace f5 := shm_1293 f5
  replace f9 := shm_34 f9
  have g3 : v_iv (n_v vs 8) = w_fi ws (n_v vs 0) 146 := congrArg v_iv f3
  have g5 : v_iv (n_v vs 20) = w_fi ws (n_v vs 0) 147 := congrArg v_iv f5
  have kz_0_146 := fdq_179 hD hth r0
  have kz_0_147 := fdq_180 hD hth r0
  have hrf0 : 1 ≤ v_iv (n_v vs 25) ∧ v_iv (n_v vs 25) ≤ 5999 := vc_Mo_backFrom_11_r0 (v_iv (n_v vs 1)) (v_iv (n_v vs 2)) (v_iv (n_v vs 3)) (v_iv (n_v vs 5)) (v_iv (n_v vs 7)) (v_iv (n_v vs 8)) (v_iv (n_v vs 9)) (v_iv (n_v vs 11)) (v_iv (n_v vs 12)) (v_iv (n_v vs 14)) (v_iv (n_v vs 17)) (v_iv (n_v vs 20)) (v_iv (n_v vs 22)) (v_iv (n_v vs 24)) (v_iv (n_v vs 25)) (w_fi ws (n_v vs 0) 146) (w_fi ws (n_v vs 0) 147) (w_ei ws (w_ar ws (n_v vs 0) 143)) (w_ei ws (w_ar ws (n_v vs 0) 140)) (w_ei ws (w_ar ws (n_v vs 0) 141)) (w_ei ws (w_ar ws (n_v vs 0) 142)) k1 k2 k3 k5 k7 k8 k9 k11 k12 k14 k17 k20 k22 k24 k25 d4 d5 d6 d7 d8 d9 d10 d11 (shm_12 f1) (shm_38 f2) g3 g5 f9 (shm_468 f12) (shm_573 f13) (shm_1223 f14) (shm_704 f15) (shm_1407 f17) kz_0_146 kz_0_147
  have rf25 : tv_ok ta (0, 1, 5999, []) (n_v vs 25) := tv_in t25 (by first | omega | grind) (by first | omega | grind)
  refine ⟨List.forall_mem_cons.mpr ⟨rf25, (fun _ h => (by cases h))⟩, [], trivial, ?_, (fun _ h => (by cases h))⟩
  rw [List.append_nil]
  exact (fun _ h => (by cases h))
set_option maxHeartbeats 4000000 in
theorem vc_Mo_backFrom_12_0 (x1 : Int) (x2 : Int) (x3 : Int) (x5 : Int) (x7 : Int) (x8 : Int) (x9 : Int) (x11 : Int) (x12 : Int) (x14 : Int) (x17 : Int) (x20 : Int) (x22 : Int) (x24 : Int) (x25 : Int) (x27 : Int) (barredPoint_0 : Int → Int) (wide_0 : Int) (tall_0 : Int) (costOf_0 : Int → Int) (bucket_0 : Int → Int) (bucketMany_0 : Int → Int) (k1 : 0 ≤ x1 ∧ x1 ≤ 23999) (k2 : 0 ≤ x2 ∧ x2 ≤ 1000000) (k3 : 0 ≤ x3 ∧ x3 ≤ 5999) (k5 : 0 ≤ x5 ∧ x5 ≤ 5999) (k7 : 2 ≤ x7 ∧ x7 ≤ 2) (k8 : 1 ≤ x8 ∧ x8 ≤ 6000) (k9 : 0 ≤ x9 ∧ x9 ≤ 5999) (k11 : 1 ≤ x11 ∧ x11 ≤ 5999) (k12 : 0 ≤ x12 ∧ x12 ≤ 5999) (k14 : 0 ≤ x14 ∧ x14 ≤ 5999) (k17 : 1 ≤ x17 ∧ x17 ≤ 5999) (k20 : 1 ≤ x20 ∧ x20 ≤ 6000) (k22 : 0 ≤ x22 ∧ x22 ≤ 5999) (k24 : 0 ≤ x24 ∧ x24 ≤ 35994000) (k25 : 1 ≤ x25 ∧ x25 ≤ 5999) (k27 : 0 ≤ x27 ∧ x27 ≤ 0) (d2 : x24 + 1 ≤ x25 ∧ x25 ≤ x24 + 5999) (d3 : x22 + (-4294967296) ≤ x14 ∧ x14 ≤ x22 + 0) (d4 : x20 + (-1) ≤ x22 ∧ x22 ≤ x20 + (-1)) (d5 : x17 + (-4294967296) ≤ x11 ∧ x11 ≤ x17 + 0) (d6 : x8 + (-1) ≤ x17 ∧ x17 ≤ x8 + (-1)) (d7 : x12 + 0 ≤ x14 ∧ x14 ≤ x12 + 0) (d8 : x9 + 1 ≤ x11 ∧ x11 ≤ x9 + 1) (d9 : x8 + (-4294967294) ≤ x11 ∧ x11 ≤ x8 + 0) (f0 : x27 = 0) (h1 : x27 = barredPoint_0 (x25)) (f3 : x25 = x24 + x11) (f4 : x24 = x14 * x8) (g5 : x8 = wide_0) (g7 : x20 = tall_0) (f11 : x12 = Int.tdiv (x5) (x8)) (f14 : x9 = Int.tmod (x5) (x8)) (f15 : x7 = x1 % 4) (f16 : x5 = x1 / 4) (f17 : RTQ (wide_0) (tall_0) (barredPoint_0) (costOf_0) (bucket_0) (bucketMany_0) (x3) (x2)) (f18 : PIV (costOf_0) (x1) (x2)) (f19 : (0 ≤ x1) ∧ ((x1 + 1) ≤ (4 * (wide_0 * tall_0)))) (f20 : (0 ≤ x2) ∧ (x2 ≤ 999999)) (kz_0_146 : (-3999999) ≤ wide_0 ∧ wide_0 ≤ 600000023) (kz_0_147 : (-3999999) ≤ tall_0 ∧ tall_0 ≤ 600000007) : BFP (wide_0) (tall_0) (barredPoint_0) (x1) (x25) := by
  first
    | (have g0 : GRX wide_0 tall_0 := ‹RTQ _ _ _ _ _ _ _ _›.1
       have g := gok_bd g0
       have e8 : x8 = wide_0 := by assumption
       have e20 : x20 = tall_0 := by assumption
       have tm : x9 = x5 % wide_0 := by rw [← e8, ‹x9 = Int.tmod x5 x8›]; exact Int.tmod_eq_emod_of_nonneg (by omega)
       have td : x12 = x5 / wide_0 := by rw [← e8, ‹x12 = Int.tdiv x5 x8›]; exact Int.tdiv_eq_ediv_of_nonneg (by omega)
       have hx : x11 = x5 % wide_0 - dxf x7 := by rw [← tm]; unfold dxf; split; omega; split <;> omega
       have hy : x14 = x5 / wide_0 - dyf x7 := by rw [← td]; unfold dyf; split; omega; split <;> omega
       have n := nb_back (T := tall_0) (q := x5) (d := x7) (x := x11) (y := x14) (p := x25) (by omega) (by omega) (by omega) hx hy (by omega) (by omega) (by omega) (by omega) (by rw [← e8, ‹x25 = x24 + x11›, ‹x24 = x14 * x8›])
       have b := rtq_bar ‹RTQ _ _ _ _ _ _ _ _› ‹PIV _ _ _› (by omega) (by omega)
       exact ⟨⟨by omega, by omega⟩, by rw [show x1 % 4 = x7 by omega, show x1 / 4 = x5 by omega]; exact n.1, n.2, by rw [← ‹x27 = barredPoint_0 x25›]; omega, b⟩)
set_option maxHeartbeats 4000000 in
theorem vc_Mo_backFrom_12_1 (x1 : Int) (x7 : Int) (x8 : Int) (x11 : Int) (x14 : Int) (x20 : Int) (x24 : Int) (x25 : Int) (wide_0 : Int) (tall_0 : Int) (k1 : 0 ≤ x1 ∧ x1 ≤ 23999) (k7 : 2 ≤ x7 ∧ x7 ≤ 2) (f15 : x7 = x1 % 4) : x7 = (x1 % 4) := by
  first
    | omega
    | (have h := ‹BFP _ _ _ _ _›.2.2.1; omega)
set_option maxHeartbeats 4000000 in
theorem vc_Mo_backFrom_12_2 (x2 : Int) (x3 : Int) (x5 : Int) (x8 : Int) (x9 : Int) (x11 : Int) (x12 : Int) (x14 : Int) (x17 : Int) (x20 : Int) (x22 : Int) (x24 : Int) (x25 : Int) (barredPoint_0 : Int → Int) (wide_0 : Int) (tall_0 : Int) (costOf_0 : Int → Int) (bucket_0 : Int → Int) (bucketMany_0 : Int → Int) (k2 : 0 ≤ x2 ∧ x2 ≤ 1000000) (k3 : 0 ≤ x3 ∧ x3 ≤ 5999) (k5 : 0 ≤ x5 ∧ x5 ≤ 5999) (k8 : 1 ≤ x8 ∧ x8 ≤ 6000) (k9 : 0 ≤ x9 ∧ x9 ≤ 5999) (k11 : 1 ≤ x11 ∧ x11 ≤ 5999) (k12 : 0 ≤ x12 ∧ x12 ≤ 5999) (k14 : 0 ≤ x14 ∧ x14 ≤ 5999) (k17 : 1 ≤ x17 ∧ x17 ≤ 5999) (k20 : 1 ≤ x20 ∧ x20 ≤ 6000) (k22 : 0 ≤ x22 ∧ x22 ≤ 5999) (k24 : 0 ≤ x24 ∧ x24 ≤ 35994000) (k25 : 1 ≤ x25 ∧ x25 ≤ 5999) (d2 : x24 + 1 ≤ x25 ∧ x25 ≤ x24 + 5999) (d3 : x22 + (-4294967296) ≤ x14 ∧ x14 ≤ x22 + 0) (d4 : x20 + (-1) ≤ x22 ∧ x22 ≤ x20 + (-1)) (d5 : x17 + (-4294967296) ≤ x11 ∧ x11 ≤ x17 + 0) (d6 : x8 + (-1) ≤ x17 ∧ x17 ≤ x8 + (-1)) (d7 : x12 + 0 ≤ x14 ∧ x14 ≤ x12 + 0) (d8 : x9 + 1 ≤ x11 ∧ x11 ≤ x9 + 1) (d9 : x8 + (-4294967294) ≤ x11 ∧ x11 ≤ x8 + 0) (f3 : x25 = x24 + x11) (f4 : x24 = x14 * x8) (g5 : x8 = wide_0) (g7 : x20 = tall_0) (f11 : x12 = Int.tdiv (x5) (x8)) (f14 : x9 = Int.tmod (x5) (x8)) (f17 : RTQ (wide_0) (tall_0) (barredPoint_0) (costOf_0) (bucket_0) (bucketMany_0) (x3) (x2)) (kz_0_146 : (-3999999) ≤ wide_0 ∧ wide_0 ≤ 600000023) (kz_0_147 : (-3999999) ≤ tall_0 ∧ tall_0 ≤ 600000007) : (0 ≤ x25) ∧ ((x25 + 1) ≤ (wide_0 * tall_0)) := by
  first
    | (have g := gok_bd (show GRX wide_0 tall_0 from ‹RTQ _ _ _ _ _ _ _ _›.1); omega)
    | (have g0 : GRX wide_0 tall_0 := ‹RTQ _ _ _ _ _ _ _ _›.1
       have g := gok_bd g0
       have e8 : x8 = wide_0 := by assumption
       have e20 : x20 = tall_0 := by assumption
       have c := cell_ix (W := x8) (T := x20) (x := x11) (y := x14) (p := x25) (by omega) (by omega) (by omega) (by omega) (by omega) (by rw [‹x25 = x24 + x11›, ‹x24 = x14 * x8›])
       have g3 := g0.2.2
       rw [e8, e20] at c
       omega)
def o_Mo_backFrom_12 : or_T := (94, 29, [(0, (2, 0, 0, [165])), (1, (0, 0, 23999, [])), (2, (0, 0, 1000000, [])), (3, (0, 0, 5999, [])), (5, (0, 0, 5999, [])), (7, (0, 2, 2, [])), (8, (0, 1, 6000, [])), (9, (0, 0, 5999, [])), (10, (0, -1, -1, [])), (11, (0, 1, 5999, [])), (12, (0, 0, 5999, [])), (13, (0, 0, 0, [])), (14, (0, 0, 5999, [])), (16, (0, 1, 1, [])), (17, (0, 1, 5999, [])), (20, (0, 1, 6000, [])), (21, (0, 1, 1, [])), (22, (0, 0, 5999, [])), (24, (0, 0, 35994000, [])), (25, (0, 1, 5999, [])), (26, (2, 0, 0, [269])), (27, (0, 0, 0, []))], [(8, [27], [0]), (10, [27, 26, 25], []), (9, [26, 0], [143]), (1, [25, 24, 11], []), (3, [24, 14, 8], []), (9, [8, 0], [146]), (2, [22, 20, 21], []), (9, [20, 0], [147]), (2, [17, 8, 16], []), (2, [14, 12, 13], []), (20, [7, 13], [50, 0, 0, 3, 14, 2, 6, 1, 2, 1, 0, 0, 1, 1, 2, 1, 1, 0, 1, 3, 14, 2, 6, 1, 2, 1, 0, 0, 3, 1, 2, 1, 1, 0, -1, 2, 6, 7, 2, 1, 0, 0, 1, 2, 6, 7, 2, 1, 0, 0, 3, 1, 2, 1, 1, 0, 0]), (4, [12, 5, 8], []), (2, [11, 9, 10], []), (20, [7, 10], [50, 0, 0, 3, 14, 2, 6, 1, 2, 1, 0, 0, 0, 1, 2, 1, 1, 0, 1, 3, 14, 2, 6, 1, 2, 1, 0, 0, 2, 1, 2, 1, 1, 0, -1, 2, 6, 7, 2, 1, 0, 0, 0, 2, 6, 7, 2, 1, 0, 0, 2, 1, 2, 1, 1, 0, 0]), (5, [9, 5, 8], []), (12, [7, 1], [4]), (11, [5, 1], [4]), (20, [0, 3, 2], [60, 2, 4, 495, 146, 147, 143, 140, 141, 142]), (20, [0, 1, 2], [60, 0, 1, 497, 140]), (20, [1, 0], [50, 2, 0, 1146, 1147, 2, 6, 0, 2, 0, 0, 1, 0, 0, 6, 4, 2, 1, 0, 0, 1, 6, 2, 0, 4, 6, 3, 2, 1, 146, 2, 1, 147]), (20, [2], [50, 0, 0, 2, 6, 0, 2, 0, 0, 1, 0, 0, 2, 1, 0, 0, 999999])], [], [], [(20, [0, 1, 25], [60, 2, 1, 500, 146, 147, 143]), (20, [7, 1], [50, 0, 0, 1, 2, 1, 0, 9, 2, 1, 1, 0, 4]), (20, [25, 0], [50, 2, 0, 1146, 1147, 2, 6, 0, 2, 0, 0, 1, 0, 0, 6, 4, 2, 1, 0, 0, 1, 6, 3, 2, 1, 146, 2, 1, 147]), (24, [0, 0], []), (24, [1, 1], []), (24, [2, 2], [])], [], [(25, 11, 0, 35994000), (25, 9, 1, 35994001), (25, 24, 1, 5999), (14, 22, -4294967296, 0), (22, 20, -1, -1), (11, 17, -4294967296, 0), (17, 8, -1, -1), (14, 12, 0, 0), (11, 9, 1, 1), (11, 8, -4294967294, 0), (9, 8, -4294967295, -1)])
theorem oo_Mo_backFrom_12 {kA : Nat → ClassId} : or_ok PRD kA GG o_Mo_backFrom_12 := by
  refine or_mk fun A ta ws vs hD hth hl => ?_
  intro t0 r0 t1 k1 t2 k2 t3 k3 t5 k5 t7 k7 t8 k8 t9 k9 t10 k10 t11 k11 t12 k12 t13 k13 t14 k14 t16 k16 t17 k17 t20 k20 t21 k21 t22 k22 t24 k24 t25 k25 t26 r26 t27 k27 d0 d1 d2 d3 d4 d5 d6 d7 d8 d9 d10 f0 f1 f2 f3 f4 f5 f6 f7 f8 f9 f10 f11 f12 f13 f14 f15 f16 f17 f18 f19 f20
  replace f1 := shm_107 f1
  replace f2 := shm_1294 f2
  replace f5 := shm_1288 f5
  replace f7 := shm_1293 f7
  replace f11 := shm_34 f11
  have ad_26 : v_ad (n_v vs 26) = w_ar ws (n_v vs 0) 143 := congrArg v_ad f2
  simp only [ad_26] at f1
  have h1 : v_iv (n_v vs 27) = w_ei ws (w_ar ws (n_v vs 0) 143) (v_iv (n_v vs 25)) := f1
  have g5 : v_iv (n_v vs 8) = w_fi ws (n_v vs 0) 146 := congrArg v_iv f5
  have g7 : v_iv (n_v vs 20) = w_fi ws (n_v vs 0) 147 := congrArg v_iv f7
  have kz_0_146 := fdq_179 hD hth r0
  have kz_0_147 := fdq_180 hD hth r0
  have nf0 : fc_1 PRD (20, [0, 1, 25], [60, 2, 1, 500, 146, 147, 143]) ws (vs) := ⟨nf_in hl rfl, sgq_1409 (vc_Mo_backFrom_12_0 (v_iv (n_v vs 1)) (v_iv (n_v vs 2)) (v_iv (n_v vs 3)) (v_iv (n_v vs 5)) (v_iv (n_v vs 7)) (v_iv (n_v vs 8)) (v_iv (n_v vs 9)) (v_iv (n_v vs 11)) (v_iv (n_v vs 12)) (v_iv (n_v vs 14)) (v_iv (n_v vs 17)) (v_iv (n_v vs 20)) (v_iv (n_v vs 22)) (v_iv (n_v vs 24)) (v_iv (n_v vs 25)) (v_iv (n_v vs 27)) (w_ei ws (w_ar ws (n_v vs 0) 143)) (w_fi ws (n_v vs 0) 146) (w_fi ws (n_v vs 0) 147) (w_ei ws (w_ar ws (n_v vs 0) 140)) (w_ei ws (w_ar ws (n_v vs 0) 141)) (w_ei ws (w_ar ws (n_v vs 0) 142)) k1 k2 k3 k5 k7 k8 k9 k11 k12 k14 k17 k20 k22 k24 k25 k27 d2 d3 d4 d5 d6 d7 d8 d9 (shm_192 f0) h1 (shm_12 f3) (shm_38 f4) g5 g7 f11 (shm_468 f14) (shm_573 f15) (shm_1223 f16) (shm_704 f17) (shm_706 f18) (shm_1407 f19) (shm_1408 f20) kz_0_146 kz_0_147)⟩
  have nf1 : fc_1 PRD (20, [7, 1], [50, 0, 0, 1, 2, 1, 0, 9, 2, 1, 1, 0, 4]) ws (vs) := ⟨nf_in hl rfl, sgq_1410 (vc_Mo_backFrom_12_1 (v_iv (n_v vs 1)) (v_iv (n_v vs 7)) (v_iv (n_v vs 8)) (v_iv (n_v vs 11)) (v_iv (n_v vs 14)) (v_iv (n_v vs 20)) (v_iv (n_v vs 24)) (v_iv (n_v vs 25)) (w_fi ws (n_v vs 0) 146) (w_fi ws (n_v vs 0) 147) k1 k7 (shm_573 f15))⟩
  have nf2 : fc_1 PRD (20, [25, 0], [50, 2, 0, 1146, 1147, 2, 6, 0, 2, 0, 0, 1, 0, 0, 6, 4, 2, 1, 0, 0, 1, 6, 3, 2, 1, 146, 2, 1, 147]) ws (vs) := ⟨nf_in hl rfl, sgq_1290 (vc_Mo_backFrom_12_2 (v_iv (n_v vs 2)) (v_iv (n_v vs 3)) (v_iv (n_v vs 5)) (v_iv (n_v vs 8)) (v_iv (n_v vs 9)) (v_iv (n_v vs 11)) (v_iv (n_v vs 12)) (v_iv (n_v vs 14)) (v_iv (n_v vs 17)) (v_iv (n_v vs 20)) (v_iv (n_v vs 22)) (v_iv (n_v vs 24)) (v_iv (n_v vs 25)) (w_ei ws (w_ar ws (n_v vs 0) 143)) (w_fi ws (n_v vs 0) 146) (w_fi ws (n_v vs 0) 147) (w_ei ws (w_ar ws (n_v vs 0) 140)) (w_ei ws (w_ar ws (n_v vs 0) 141)) (w_ei ws (w_ar ws (n_v vs 0) 142)) k2 k3 k5 k8 k9 k11 k12 k14 k17 k20 k22 k24 k25 d2 d3 d4 d5 d6 d7 d8 d9 (shm_12 f3) (shm_38 f4) g5 g7 f11 (shm_468 f14) (shm_704 f17) kz_0_146 kz_0_147)⟩
  have nf3 : fc_1 PRD (24, [0, 0], []) ws (vs) := by
    refine ⟨nf_in hl rfl, sgq_1 ?_⟩
    · show n_v vs 0 = n_v vs 0
      first | rfl | simp only [true_and]
  have nf4 : fc_1 PRD (24, [1, 1], []) ws (vs) := by
    refine ⟨nf_in hl rfl, sgq_1 ?_⟩
    · show n_v vs 1 = n_v vs 1
      first | rfl | simp only [true_and]
  have nf5 : fc_1 PRD (24, [2, 2], []) ws (vs) := by
    refine ⟨nf_in hl rfl, sgq_1 ?_⟩
    · show n_v vs 2 = n_v vs 2
      first | rfl | simp only [true_and]
  refine ⟨(fun _ h => (by cases h)), [], trivial, ?_, (fun _ h => (by cases h))⟩
  rw [List.append_nil]
  exact List.forall_mem_cons.mpr ⟨⟨show (20 : Nat) < 100 from by decide, nf0⟩, List.forall_mem_cons.mpr ⟨⟨show (20 : Nat) < 100 from by decide, nf1⟩, List.forall_mem_cons.mpr ⟨⟨show (20 : Nat) < 100 from by decide, nf2⟩, List.forall_mem_cons.mpr ⟨⟨show (24 : Nat) < 100 from by decide, nf3⟩, List.forall_mem_cons.mpr ⟨⟨show (24 : Nat) < 100 from by decide, nf4⟩, List.forall_mem_cons.mpr ⟨⟨show (24 : Nat) < 100 from by decide, nf5⟩, (fun _ h => (by cases h))⟩⟩⟩⟩⟩⟩
set_option maxHeartbeats 4000000 in
theorem vc_Mo_backFrom_13_r0 (x2 : Int) (x3 : Int) (x8 : Int) (x11 : Int) (x14 : Int) (x20 : Int) (tall_0 : Int) (wide_0 : Int) (barredPoint_0 : Int → Int) (costOf_0 : Int → Int) (bucket_0 : Int → Int) (bucketMany_0 : Int → Int) (k2 : 0 ≤ x2 ∧ x2 ≤ 1000000) (k3 : 0 ≤ x3 ∧ x3 ≤ 5999) (k20 : (-3999999) ≤ x20 ∧ x20 ≤ 600000007) (g0 : x20 = tall_0) (f11 : RTQ (wide_0) (tall_0) (barredPoint_0) (costOf_0) (bucket_0) (bucketMany_0) (x3) (x2)) (kz_0_146 : (-3999999) ≤ wide_0 ∧ wide_0 ≤ 600000023) (kz_0_147 : (-3999999) ≤ tall_0 ∧ tall_0 ≤ 600000007) : 1 ≤ x20 ∧ x20 ≤ 6000 := by
  first
    | (have g := gok_bd (show GRX wide_0 tall_0 from ‹RTQ _ _ _ _ _ _ _ _›.1); omega)
def o_Mo_backFrom_13 : or_T := (60, 22, [(0, (2, 0, 0, [165])), (1, (0, 0, 23999, [])), (2, (0, 0, 1000000, [])), (3, (0, 0, 5999, [])), (5, (0, 0, 5999, [])), (7, (0, 0, 0, [])), (8, (0, 1, 6000, [])), (9, (0, 0, 5999, [])), (10, (0, 1, 1, [])), (11, (0, 0, 5998, [])), (12, (0, 0, 5999, [])), (13, (0, 0, 0, [])), (14, (0, 0, 5999, [])), (16, (0, 1, 1, [])), (17, (0, 0, 5999, [])), (20, (0, -3999999, 600000007, []))], [(9, [20, 0], [147]), (2, [17, 8, 16], []), (9, [8, 0], [146]), (2, [14, 12, 13], []), (20, [7, 13], [50, 0, 0, 3, 14, 2, 6, 1, 2, 1, 0, 0, 1, 1, 2, 1, 1, 0, 1, 3, 14, 2, 6, 1, 2, 1, 0, 0, 3, 1, 2, 1, 1, 0, -1, 2, 6, 7, 2, 1, 0, 0, 1, 2, 6, 7, 2, 1, 0, 0, 3, 1, 2, 1, 1, 0, 0]), (4, [12, 5, 8], []), (2, [11, 9, 10], []), (20, [7, 10], [50, 0, 0, 3, 14, 2, 6, 1, 2, 1, 0, 0, 0, 1, 2, 1, 1, 0, 1, 3, 14, 2, 6, 1, 2, 1, 0, 0, 2, 1, 2, 1, 1, 0, -1, 2, 6, 7, 2, 1, 0, 0, 0, 2, 6, 7, 2, 1, 0, 0, 2, 1, 2, 1, 1, 0, 0]), (5, [9, 5, 8], []), (12, [7, 1], [4]), (11, [5, 1], [4]), (20, [0, 3, 2], [60, 2, 4, 495, 146, 147, 143, 140, 141, 142]), (20, [0, 1, 2], [60, 0, 1, 497, 140]), (20, [1, 0], [50, 2, 0, 1146, 1147, 2, 6, 0, 2, 0, 0, 1, 0, 0, 6, 4, 2, 1, 0, 0, 1, 6, 2, 0, 4, 6, 3, 2, 1, 146, 2, 1, 147]), (20, [2], [50, 0, 0, 2, 6, 0, 2, 0, 0, 1, 0, 0, 2, 1, 0, 0, 999999])], [(20, (0, 1, 6000, []))], [], [], [], [(11, 17, -4294967296, 0), (17, 8, -1, -1), (14, 12, 0, 0), (11, 9, -1, -1), (11, 8, -4294967296, -2), (9, 8, -4294967295, -1)])
theorem oo_Mo_backFrom_13 {kA : Nat → ClassId} : or_ok PRD kA GG o_Mo_backFrom_13 := by
  refine or_mk fun A ta ws vs hD hth hl => ?_
  intro t0 r0 t1 k1 t2 k2 t3 k3 t5 k5 t7 k7 t8 k8 t9 k9 t10 k10 t11 k11 t12 k12 t13 k13 t14 k14 t16 k16 t17 k17 t20 k20 d0 d1 d2 d3 d4 d5 f0 f1 f2 f3 f4 f5 f6 f7 f8 f9 f10 f11 f12 f13 f14
  replace f0 := shm_1293 f0
  have g0 : v_iv (n_v vs 20) = w_fi ws (n_v vs 0) 147 := congrArg v_iv f0
  have kz_0_146 := fdq_179 hD hth r0
  have kz_0_147 := fdq_180 hD hth r0
  have hrf0 : 1 ≤ v_iv (n_v vs 20) ∧ v_iv (n_v vs 20) ≤ 6000 := vc_Mo_backFrom_13_r0 (v_iv (n_v vs 2)) (v_iv (n_v vs 3)) (v_iv (n_v vs 8)) (v_iv (n_v vs 11)) (v_iv (n_v vs 14)) (v_iv (n_v vs 20)) (w_fi ws (n_v vs 0) 147) (w_fi ws (n_v vs 0) 146) (w_ei ws (w_ar ws (n_v vs 0) 143)) (w_ei ws (w_ar ws (n_v vs 0) 140)) (w_ei ws (w_ar ws (n_v vs 0) 141)) (w_ei ws (w_ar ws (n_v vs 0) 142)) k2 k3 k20 g0 (shm_704 f11) kz_0_146 kz_0_147
  have rf20 : tv_ok ta (0, 1, 6000, []) (n_v vs 20) := tv_in t20 (by first | omega | grind) (by first | omega | grind)
  refine ⟨List.forall_mem_cons.mpr ⟨rf20, (fun _ h => (by cases h))⟩, [], trivial, ?_, (fun _ h => (by cases h))⟩
  rw [List.append_nil]
  exact (fun _ h => (by cases h))
set_option maxHeartbeats 4000000 in
theorem vc_Mo_backFrom_14_r0 (x1 : Int) (x2 : Int) (x3 : Int) (x5 : Int) (x7 : Int) (x8 : Int) (x9 : Int) (x11 : Int) (x12 : Int) (x14 : Int) (x17 : Int) (x20 : Int) (x22 : Int) (x24 : Int) (x25 : Int) (wide_0 : Int) (tall_0 : Int) (barredPoint_0 : Int → Int) (costOf_0 : Int → Int) (bucket_0 : Int → Int) (bucketMany_0 : Int → Int) (k1 : 0 ≤ x1 ∧ x1 ≤ 23999) (k2 : 0 ≤ x2 ∧ x2 ≤ 1000000) (k3 : 0 ≤ x3 ∧ x3 ≤ 5999) (k5 : 0 ≤ x5 ∧ x5 ≤ 5999) (k7 : 0 ≤ x7 ∧ x7 ≤ 0) (k8 : 1 ≤ x8 ∧ x8 ≤ 6000) (k9 : 0 ≤ x9 ∧ x9 ≤ 5999) (k11 : 0 ≤ x11 ∧ x11 ≤ 5998) (k12 : 0 ≤ x12 ∧ x12 ≤ 5999) (k14 : 0 ≤ x14 ∧ x14 ≤ 5999) (k17 : 0 ≤ x17 ∧ x17 ≤ 5999) (k20 : 1 ≤ x20 ∧ x20 ≤ 6000) (k22 : 0 ≤ x22 ∧ x22 ≤ 5999) (k24 : 0 ≤ x24 ∧ x24 ≤ 35994000) (k25 : 0 ≤ x25 ∧ x25 ≤ 35999998) (d4 : x24 + 0 ≤ x25 ∧ x25 ≤ x24 + 5998) (d5 : x22 + (-4294967296) ≤ x14 ∧ x14 ≤ x22 + 0) (d6 : x20 + (-1) ≤ x22 ∧ x22 ≤ x20 + (-1)) (d7 : x17 + (-4294967296) ≤ x11 ∧ x11 ≤ x17 + 0) (d8 : x8 + (-1) ≤ x17 ∧ x17 ≤ x8 + (-1)) (d9 : x12 + 0 ≤ x14 ∧ x14 ≤ x12 + 0) (d10 : x9 + (-1) ≤ x11 ∧ x11 ≤ x9 + (-1)) (d11 : x8 + (-4294967296) ≤ x11 ∧ x11 ≤ x8 + (-2)) (f1 : x25 = x24 + x11) (f2 : x24 = x14 * x8) (g3 : x8 = wide_0) (g5 : x20 = tall_0) (f9 : x12 = Int.tdiv (x5) (x8)) (f12 : x9 = Int.tmod (x5) (x8)) (f13 : x7 = x1 % 4) (f14 : x5 = x1 / 4) (f15 : RTQ (wide_0) (tall_0) (barredPoint_0) (costOf_0) (bucket_0) (bucketMany_0) (x3) (x2)) (f17 : (0 ≤ x1) ∧ ((x1 + 1) ≤ (4 * (wide_0 * tall_0)))) (kz_0_146 : (-3999999) ≤ wide_0 ∧ wide_0 ≤ 600000023) (kz_0_147 : (-3999999) ≤ tall_0 ∧ tall_0 ≤ 600000007) : 0 ≤ x25 ∧ x25 ≤ 5999 := by
  first
    | (have g := gok_bd (show GRX wide_0 tall_0 from ‹RTQ _ _ _ _ _ _ _ _›.1); omega)
    | (have g0 : GRX wide_0 tall_0 := ‹RTQ _ _ _ _ _ _ _ _›.1
       have g := gok_bd g0
       have e8 : x8 = wide_0 := by assumption
       have e20 : x20 = tall_0 := by assumption
       have c := cell_ix (W := x8) (T := x20) (x := x11) (y := x14) (p := x25) (by omega) (by omega) (by omega) (by omega) (by omega) (by rw [‹x25 = x24 + x11›, ‹x24 = x14 * x8›])
       have g3 := g0.2.2
       rw [e8, e20] at c
       omega)
def o_Mo_backFrom_14 : or_T := (86, 27, [(0, (2, 0, 0, [165])), (1, (0, 0, 23999, [])), (2, (0, 0, 1000000, [])), (3, (0, 0, 5999, [])), (5, (0, 0, 5999, [])), (7, (0, 0, 0, [])), (8, (0, 1, 6000, [])), (9, (0, 0, 5999, [])), (10, (0, 1, 1, [])), (11, (0, 0, 5998, [])), (12, (0, 0, 5999, [])), (13, (0, 0, 0, [])), (14, (0, 0, 5999, [])), (16, (0, 1, 1, [])), (17, (0, 0, 5999, [])), (20, (0, 1, 6000, [])), (21, (0, 1, 1, [])), (22, (0, 0, 5999, [])), (24, (0, 0, 35994000, [])), (25, (0, 0, 35999998, [])), (26, (2, 0, 0, [269]))], [(9, [26, 0], [143]), (1, [25, 24, 11], []), (3, [24, 14, 8], []), (9, [8, 0], [146]), (2, [22, 20, 21], []), (9, [20, 0], [147]), (2, [17, 8, 16], []), (2, [14, 12, 13], []), (20, [7, 13], [50, 0, 0, 3, 14, 2, 6, 1, 2, 1, 0, 0, 1, 1, 2, 1, 1, 0, 1, 3, 14, 2, 6, 1, 2, 1, 0, 0, 3, 1, 2, 1, 1, 0, -1, 2, 6, 7, 2, 1, 0, 0, 1, 2, 6, 7, 2, 1, 0, 0, 3, 1, 2, 1, 1, 0, 0]), (4, [12, 5, 8], []), (2, [11, 9, 10], []), (20, [7, 10], [50, 0, 0, 3, 14, 2, 6, 1, 2, 1, 0, 0, 0, 1, 2, 1, 1, 0, 1, 3, 14, 2, 6, 1, 2, 1, 0, 0, 2, 1, 2, 1, 1, 0, -1, 2, 6, 7, 2, 1, 0, 0, 0, 2, 6, 7, 2, 1, 0, 0, 2, 1, 2, 1, 1, 0, 0]), (5, [9, 5, 8], []), (12, [7, 1], [4]), (11, [5, 1], [4]), (20, [0, 3, 2], [60, 2, 4, 495, 146, 147, 143, 140, 141, 142]), (20, [0, 1, 2], [60, 0, 1, 497, 140]), (20, [1, 0], [50, 2, 0, 1146, 1147, 2, 6, 0, 2, 0, 0, 1, 0, 0, 6, 4, 2, 1, 0, 0, 1, 6, 2, 0, 4, 6, 3, 2, 1, 146, 2, 1, 147]), (20, [2], [50, 0, 0, 2, 6, 0, 2, 0, 0, 1, 0, 0, 2, 1, 0, 0, 999999])], [(25, (0, 0, 5999, []))], [], [], [], [(25, 11, 0, 35994000), (25, 17, -4294967296, 35994000), (25, 9, -1, 35993999), (25, 8, -4294967296, 35993998), (25, 24, 0, 5998), (14, 22, -4294967296, 0), (22, 20, -1, -1), (11, 17, -4294967296, 0), (17, 8, -1, -1), (14, 12, 0, 0), (11, 9, -1, -1), (11, 8, -4294967296, -2), (9, 8, -4294967295, -1)])
theorem oo_Mo_backFrom_14 {kA : Nat → ClassId} : or_ok PRD kA GG o_Mo_backFrom_14 := by
  refine or_mk fun A ta ws vs hD hth hl => ?_
  intro t0 r0 t1 k1 t2 k2 t3 k3 t5 k5 t7 k7 t8 k8 t9 k9 t10 k10 t11 k11 t12 k12 t13 k13 t14 k14 t16 k16 t17 k17 t20 k20 t21 k21 t22 k22 t24 k24 t25 k25 t26 r26 d0 d1 d2 d3 d4 d5 d6 d7 d8 d9 d10 d11 d12 f0 f1 f2 f3 f4 f5 f6 f7 f8 f9 f10 f11 f12 f13 f14 f15 f16 f17 f18
  replace f3 := shm_1288 f3
  replace f5 := shm_1293 f5
  replace f9 := shm_34 f9
  have g3 : v_iv (n_v vs 8) = w_fi ws (n_v vs 0) 146 := congrArg v_iv f3
  have g5 : v_iv (n_v vs 20) = w_fi ws (n_v vs 0) 147 := congrArg v_iv f5
  have kz_0_146 := fdq_179 hD hth r0
  have kz_0_147 := fdq_180 hD hth r0
  have hrf0 : 0 ≤ v_iv (n_v vs 25) ∧ v_iv (n_v vs 25) ≤ 5999 := vc_Mo_backFrom_14_r0 (v_iv (n_v vs 1)) (v_iv (n_v vs 2)) (v_iv (n_v vs 3)) (v_iv (n_v vs 5)) (v_iv (n_v vs 7)) (v_iv (n_v vs 8)) (v_iv (n_v vs 9)) (v_iv (n_v vs 11)) (v_iv (n_v vs 12)) (v_iv (n_v vs 14)) (v_iv (n_v vs 17)) (v_iv (n_v vs 20)) (v_iv (n_v vs 22)) (v_iv (n_v vs 24)) (v_iv (n_v vs 25)) (w_fi ws (n_v vs 0) 146) (w_fi ws (n_v vs 0) 147) (w_ei ws (w_ar ws (n_v vs 0) 143)) (w_ei ws (w_ar ws (n_v vs 0) 140)) (w_ei ws (w_ar ws (n_v vs 0) 141)) (w_ei ws (w_ar ws (n_v vs 0) 142)) k1 k2 k3 k5 k7 k8 k9 k11 k12 k14 k17 k20 k22 k24 k25 d4 d5 d6 d7 d8 d9 d10 d11 (shm_12 f1) (shm_38 f2) g3 g5 f9 (shm_468 f12) (shm_573 f13) (shm_1223 f14) (shm_704 f15) (shm_1407 f17) kz_0_146 kz_0_147
  have rf25 : tv_ok ta (0, 0, 5999, []) (n_v vs 25) := tv_in t25 (by first | omega | grind) (by first | omega | grind)
  refine ⟨List.forall_mem_cons.mpr ⟨rf25, (fun _ h => (by cases h))⟩, [], trivial, ?_, (fun _ h => (by cases h))⟩
  rw [List.append_nil]
  exact (fun _ h => (by cases h))
set_option maxHeartbeats 4000000 in
theorem vc_Mo_backFrom_15_0 (x1 : Int) (x2 : Int) (x3 : Int) (x5 : Int) (x7 : Int) (x8 : Int) (x9 : Int) (x11 : Int) (x12 : Int) (x14 : Int) (x17 : Int) (x20 : Int) (x22 : Int) (x24 : Int) (x25 : Int) (x27 : Int) (barredPoint_0 : Int → Int) (wide_0 : Int) (tall_0 : Int) (costOf_0 : Int → Int) (bucket_0 : Int → Int) (bucketMany_0 : Int → Int) (k1 : 0 ≤ x1 ∧ x1 ≤ 23999) (k2 : 0 ≤ x2 ∧ x2 ≤ 1000000) (k3 : 0 ≤ x3 ∧ x3 ≤ 5999) (k5 : 0 ≤ x5 ∧ x5 ≤ 5999) (k7 : 0 ≤ x7 ∧ x7 ≤ 0) (k8 : 1 ≤ x8 ∧ x8 ≤ 6000) (k9 : 0 ≤ x9 ∧ x9 ≤ 5999) (k11 : 0 ≤ x11 ∧ x11 ≤ 5998) (k12 : 0 ≤ x12 ∧ x12 ≤ 5999) (k14 : 0 ≤ x14 ∧ x14 ≤ 5999) (k17 : 0 ≤ x17 ∧ x17 ≤ 5999) (k20 : 1 ≤ x20 ∧ x20 ≤ 6000) (k22 : 0 ≤ x22 ∧ x22 ≤ 5999) (k24 : 0 ≤ x24 ∧ x24 ≤ 35994000) (k25 : 0 ≤ x25 ∧ x25 ≤ 5999) (k27 : 0 ≤ x27 ∧ x27 ≤ 0) (d2 : x24 + 0 ≤ x25 ∧ x25 ≤ x24 + 5998) (d3 : x22 + (-4294967296) ≤ x14 ∧ x14 ≤ x22 + 0) (d4 : x20 + (-1) ≤ x22 ∧ x22 ≤ x20 + (-1)) (d5 : x17 + (-4294967296) ≤ x11 ∧ x11 ≤ x17 + 0) (d6 : x8 + (-1) ≤ x17 ∧ x17 ≤ x8 + (-1)) (d7 : x12 + 0 ≤ x14 ∧ x14 ≤ x12 + 0) (d8 : x9 + (-1) ≤ x11 ∧ x11 ≤ x9 + (-1)) (d9 : x8 + (-4294967296) ≤ x11 ∧ x11 ≤ x8 + (-2)) (f0 : x27 = 0) (h1 : x27 = barredPoint_0 (x25)) (f3 : x25 = x24 + x11) (f4 : x24 = x14 * x8) (g5 : x8 = wide_0) (g7 : x20 = tall_0) (f11 : x12 = Int.tdiv (x5) (x8)) (f14 : x9 = Int.tmod (x5) (x8)) (f15 : x7 = x1 % 4) (f16 : x5 = x1 / 4) (f17 : RTQ (wide_0) (tall_0) (barredPoint_0) (costOf_0) (bucket_0) (bucketMany_0) (x3) (x2)) (f18 : PIV (costOf_0) (x1) (x2)) (f19 : (0 ≤ x1) ∧ ((x1 + 1) ≤ (4 * (wide_0 * tall_0)))) (f20 : (0 ≤ x2) ∧ (x2 ≤ 999999)) (kz_0_146 : (-3999999) ≤ wide_0 ∧ wide_0 ≤ 600000023) (kz_0_147 : (-3999999) ≤ tall_0 ∧ tall_0 ≤ 600000007) : BFP (wide_0) (tall_0) (barredPoint_0) (x1) (x25) := by
  first
    | (have g0 : GRX wide_0 tall_0 := ‹RTQ _ _ _ _ _ _ _ _›.1
       have g := gok_bd g0
       have e8 : x8 = wide_0 := by assumption
       have e20 : x20 = tall_0 := by assumption
       have tm : x9 = x5 % wide_0 := by rw [← e8, ‹x9 = Int.tmod x5 x8›]; exact Int.tmod_eq_emod_of_nonneg (by omega)
       have td : x12 = x5 / wide_0 := by rw [← e8, ‹x12 = Int.tdiv x5 x8›]; exact Int.tdiv_eq_ediv_of_nonneg (by omega)
       have hx : x11 = x5 % wide_0 - dxf x7 := by rw [← tm]; unfold dxf; split; omega; split <;> omega
       have hy : x14 = x5 / wide_0 - dyf x7 := by rw [← td]; unfold dyf; split; omega; split <;> omega
       have n := nb_back (T := tall_0) (q := x5) (d := x7) (x := x11) (y := x14) (p := x25) (by omega) (by omega) (by omega) hx hy (by omega) (by omega) (by omega) (by omega) (by rw [← e8, ‹x25 = x24 + x11›, ‹x24 = x14 * x8›])
       have b := rtq_bar ‹RTQ _ _ _ _ _ _ _ _› ‹PIV _ _ _› (by omega) (by omega)
       exact ⟨⟨by omega, by omega⟩, by rw [show x1 % 4 = x7 by omega, show x1 / 4 = x5 by omega]; exact n.1, n.2, by rw [← ‹x27 = barredPoint_0 x25›]; omega, b⟩)
set_option maxHeartbeats 4000000 in
theorem vc_Mo_backFrom_15_1 (x1 : Int) (x7 : Int) (x8 : Int) (x11 : Int) (x14 : Int) (x20 : Int) (x24 : Int) (x25 : Int) (wide_0 : Int) (tall_0 : Int) (k1 : 0 ≤ x1 ∧ x1 ≤ 23999) (k7 : 0 ≤ x7 ∧ x7 ≤ 0) (f15 : x7 = x1 % 4) : x7 = (x1 % 4) := by
  first
    | omega
    | (have h := ‹BFP _ _ _ _ _›.2.2.1; omega)
set_option maxHeartbeats 4000000 in
theorem vc_Mo_backFrom_15_2 (x2 : Int) (x3 : Int) (x5 : Int) (x8 : Int) (x9 : Int) (x11 : Int) (x12 : Int) (x14 : Int) (x17 : Int) (x20 : Int) (x22 : Int) (x24 : Int) (x25 : Int) (barredPoint_0 : Int → Int) (wide_0 : Int) (tall_0 : Int) (costOf_0 : Int → Int) (bucket_0 : Int → Int) (bucketMany_0 : Int → Int) (k2 : 0 ≤ x2 ∧ x2 ≤ 1000000) (k3 : 0 ≤ x3 ∧ x3 ≤ 5999) (k5 : 0 ≤ x5 ∧ x5 ≤ 5999) (k8 : 1 ≤ x8 ∧ x8 ≤ 6000) (k9 : 0 ≤ x9 ∧ x9 ≤ 5999) (k11 : 0 ≤ x11 ∧ x11 ≤ 5998) (k12 : 0 ≤ x12 ∧ x12 ≤ 5999) (k14 : 0 ≤ x14 ∧ x14 ≤ 5999) (k17 : 0 ≤ x17 ∧ x17 ≤ 5999) (k20 : 1 ≤ x20 ∧ x20 ≤ 6000) (k22 : 0 ≤ x22 ∧ x22 ≤ 5999) (k24 : 0 ≤ x24 ∧ x24 ≤ 35994000) (k25 : 0 ≤ x25 ∧ x25 ≤ 5999) (d2 : x24 + 0 ≤ x25 ∧ x25 ≤ x24 + 5998) (d3 : x22 + (-4294967296) ≤ x14 ∧ x14 ≤ x22 + 0) (d4 : x20 + (-1) ≤ x22 ∧ x22 ≤ x20 + (-1)) (d5 : x17 + (-4294967296) ≤ x11 ∧ x11 ≤ x17 + 0) (d6 : x8 + (-1) ≤ x17 ∧ x17 ≤ x8 + (-1)) (d7 : x12 + 0 ≤ x14 ∧ x14 ≤ x12 + 0) (d8 : x9 + (-1) ≤ x11 ∧ x11 ≤ x9 + (-1)) (d9 : x8 + (-4294967296) ≤ x11 ∧ x11 ≤ x8 + (-2)) (f3 : x25 = x24 + x11) (f4 : x24 = x14 * x8) (g5 : x8 = wide_0) (g7 : x20 = tall_0) (f11 : x12 = Int.tdiv (x5) (x8)) (f14 : x9 = Int.tmod (x5) (x8)) (f17 : RTQ (wide_0) (tall_0) (barredPoint_0) (costOf_0) (bucket_0) (bucketMany_0) (x3) (x2)) (kz_0_146 : (-3999999) ≤ wide_0 ∧ wide_0 ≤ 600000023) (kz_0_147 : (-3999999) ≤ tall_0 ∧ tall_0 ≤ 600000007) : (0 ≤ x25) ∧ ((x25 + 1) ≤ (wide_0 * tall_0)) := by
  first
    | (have g := gok_bd (show GRX wide_0 tall_0 from ‹RTQ _ _ _ _ _ _ _ _›.1); omega)
    | (have g0 : GRX wide_0 tall_0 := ‹RTQ _ _ _ _ _ _ _ _›.1
       have g := gok_bd g0
       have e8 : x8 = wide_0 := by assumption
       have e20 : x20 = tall_0 := by assumption
       have c := cell_ix (W := x8) (T := x20) (x := x11) (y := x14) (p := x25) (by omega) (by omega) (by omega) (by omega) (by omega) (by rw [‹x25 = x24 + x11›, ‹x24 = x14 * x8›])
       have g3 := g0.2.2
       rw [e8, e20] at c
       omega)
def o_Mo_backFrom_15 : or_T := (94, 29, [(0, (2, 0, 0, [165])), (1, (0, 0, 23999, [])), (2, (0, 0, 1000000, [])), (3, (0, 0, 5999, [])), (5, (0, 0, 5999, [])), (7, (0, 0, 0, [])), (8, (0, 1, 6000, [])), (9, (0, 0, 5999, [])), (10, (0, 1, 1, [])), (11, (0, 0, 5998, [])), (12, (0, 0, 5999, [])), (13, (0, 0, 0, [])), (14, (0, 0, 5999, [])), (16, (0, 1, 1, [])), (17, (0, 0, 5999, [])), (20, (0, 1, 6000, [])), (21, (0, 1, 1, [])), (22, (0, 0, 5999, [])), (24, (0, 0, 35994000, [])), (25, (0, 0, 5999, [])), (26, (2, 0, 0, [269])), (27, (0, 0, 0, []))], [(8, [27], [0]), (10, [27, 26, 25], []), (9, [26, 0], [143]), (1, [25, 24, 11], []), (3, [24, 14, 8], []), (9, [8, 0], [146]), (2, [22, 20, 21], []), (9, [20, 0], [147]), (2, [17, 8, 16], []), (2, [14, 12, 13], []), (20, [7, 13], [50, 0, 0, 3, 14, 2, 6, 1, 2, 1, 0, 0, 1, 1, 2, 1, 1, 0, 1, 3, 14, 2, 6, 1, 2, 1, 0, 0, 3, 1, 2, 1, 1, 0, -1, 2, 6, 7, 2, 1, 0, 0, 1, 2, 6, 7, 2, 1, 0, 0, 3, 1, 2, 1, 1, 0, 0]), (4, [12, 5, 8], []), (2, [11, 9, 10], []), (20, [7, 10], [50, 0, 0, 3, 14, 2, 6, 1, 2, 1, 0, 0, 0, 1, 2, 1, 1, 0, 1, 3, 14, 2, 6, 1, 2, 1, 0, 0, 2, 1, 2, 1, 1, 0, -1, 2, 6, 7, 2, 1, 0, 0, 0, 2, 6, 7, 2, 1, 0, 0, 2, 1, 2, 1, 1, 0, 0]), (5, [9, 5, 8], []), (12, [7, 1], [4]), (11, [5, 1], [4]), (20, [0, 3, 2], [60, 2, 4, 495, 146, 147, 143, 140, 141, 142]), (20, [0, 1, 2], [60, 0, 1, 497, 140]), (20, [1, 0], [50, 2, 0, 1146, 1147, 2, 6, 0, 2, 0, 0, 1, 0, 0, 6, 4, 2, 1, 0, 0, 1, 6, 2, 0, 4, 6, 3, 2, 1, 146, 2, 1, 147]), (20, [2], [50, 0, 0, 2, 6, 0, 2, 0, 0, 1, 0, 0, 2, 1, 0, 0, 999999])], [], [], [(20, [0, 1, 25], [60, 2, 1, 500, 146, 147, 143]), (20, [7, 1], [50, 0, 0, 1, 2, 1, 0, 9, 2, 1, 1, 0, 4]), (20, [25, 0], [50, 2, 0, 1146, 1147, 2, 6, 0, 2, 0, 0, 1, 0, 0, 6, 4, 2, 1, 0, 0, 1, 6, 3, 2, 1, 146, 2, 1, 147]), (24, [0, 0], []), (24, [1, 1], []), (24, [2, 2], [])], [], [(25, 11, 0, 35994000), (25, 9, -1, 35993999), (25, 24, 0, 5998), (14, 22, -4294967296, 0), (22, 20, -1, -1), (11, 17, -4294967296, 0), (17, 8, -1, -1), (14, 12, 0, 0), (11, 9, -1, -1), (11, 8, -4294967296, -2), (9, 8, -4294967295, -1)])
theorem oo_Mo_backFrom_15 {kA : Nat → ClassId} : or_ok PRD kA GG o_Mo_backFrom_15 := by
  refine or_mk fun A ta ws vs hD hth hl => ?_
  intro t0 r0 t1 k1 t2 k2 t3 k3 t5 k5 t7 k7 t8 k8 t9 k9 t10 k10 t11 k11 t12 k12 t13 k13 t14 k14 t16 k16 t17 k17 t20 k20 t21 k21 t22 k22 t24 k24 t25 k25 t26 r26 t27 k27 d0 d1 d2 d3 d4 d5 d6 d7 d8 d9 d10 f0 f1 f2 f3 f4 f5 f6 f7 f8 f9 f10 f11 f12 f13 f14 f15 f16 f17 f18 f19 f20
  replace f1 := shm_107 f1
  replace f2 := shm_1294 f2
  replace f5 := shm_1288 f5
  replace f7 := shm_1293 f7
  replace f11 := shm_34 f11
  have ad_26 : v_ad (n_v vs 26) = w_ar ws (n_v vs 0) 143 := congrArg v_ad f2
  simp only [ad_26] at f1
  have h1 : v_iv (n_v vs 27) = w_ei ws (w_ar ws (n_v vs 0) 143) (v_iv (n_v vs 25)) := f1
  have g5 : v_iv (n_v vs 8) = w_fi ws (n_v vs 0) 146 := congrArg v_iv f5
  have g7 : v_iv (n_v vs 20) = w_fi ws (n_v vs 0) 147 := congrArg v_iv f7
  have kz_0_146 := fdq_179 hD hth r0
  have kz_0_147 := fdq_180 hD hth r0
  have nf0 : fc_1 PRD (20, [0, 1, 25], [60, 2, 1, 500, 146, 147, 143]) ws (vs) := ⟨nf_in hl rfl, sgq_1409 (vc_Mo_backFrom_15_0 (v_iv (n_v vs 1)) (v_iv (n_v vs 2)) (v_iv (n_v vs 3)) (v_iv (n_v vs 5)) (v_iv (n_v vs 7)) (v_iv (n_v vs 8)) (v_iv (n_v vs 9)) (v_iv (n_v vs 11)) (v_iv (n_v vs 12)) (v_iv (n_v vs 14)) (v_iv (n_v vs 17)) (v_iv (n_v vs 20)) (v_iv (n_v vs 22)) (v_iv (n_v vs 24)) (v_iv (n_v vs 25)) (v_iv (n_v vs 27)) (w_ei ws (w_ar ws (n_v vs 0) 143)) (w_fi ws (n_v vs 0) 146) (w_fi ws (n_v vs 0) 147) (w_ei ws (w_ar ws (n_v vs 0) 140)) (w_ei ws (w_ar ws (n_v vs 0) 141)) (w_ei ws (w_ar ws (n_v vs 0) 142)) k1 k2 k3 k5 k7 k8 k9 k11 k12 k14 k17 k20 k22 k24 k25 k27 d2 d3 d4 d5 d6 d7 d8 d9 (shm_192 f0) h1 (shm_12 f3) (shm_38 f4) g5 g7 f11 (shm_468 f14) (shm_573 f15) (shm_1223 f16) (shm_704 f17) (shm_706 f18) (shm_1407 f19) (shm_1408 f20) kz_0_146 kz_0_147)⟩
  have nf1 : fc_1 PRD (20, [7, 1], [50, 0, 0, 1, 2, 1, 0, 9, 2, 1, 1, 0, 4]) ws (vs) := ⟨nf_in hl rfl, sgq_1410 (vc_Mo_backFrom_15_1 (v_iv (n_v vs 1)) (v_iv (n_v vs 7)) (v_iv (n_v vs 8)) (v_iv (n_v vs 11)) (v_iv (n_v vs 14)) (v_iv (n_v vs 20)) (v_iv (n_v vs 24)) (v_iv (n_v vs 25)) (w_fi ws (n_v vs 0) 146) (w_fi ws (n_v vs 0) 147) k1 k7 (shm_573 f15))⟩
  have nf2 : fc_1 PRD (20, [25, 0], [50, 2, 0, 1146, 1147, 2, 6, 0, 2, 0, 0, 1, 0, 0, 6, 4, 2, 1, 0, 0, 1, 6, 3, 2, 1, 146, 2, 1, 147]) ws (vs) := ⟨nf_in hl rfl, sgq_1290 (vc_Mo_backFrom_15_2 (v_iv (n_v vs 2)) (v_iv (n_v vs 3)) (v_iv (n_v vs 5)) (v_iv (n_v vs 8)) (v_iv (n_v vs 9)) (v_iv (n_v vs 11)) (v_iv (n_v vs 12)) (v_iv (n_v vs 14)) (v_iv (n_v vs 17)) (v_iv (n_v vs 20)) (v_iv (n_v vs 22)) (v_iv (n_v vs 24)) (v_iv (n_v vs 25)) (w_ei ws (w_ar ws (n_v vs 0) 143)) (w_fi ws (n_v vs 0) 146) (w_fi ws (n_v vs 0) 147) (w_ei ws (w_ar ws (n_v vs 0) 140)) (w_ei ws (w_ar ws (n_v vs 0) 141)) (w_ei ws (w_ar ws (n_v vs 0) 142)) k2 k3 k5 k8 k9 k11 k12 k14 k17 k20 k22 k24 k25 d2 d3 d4 d5 d6 d7 d8 d9 (shm_12 f3) (shm_38 f4) g5 g7 f11 (shm_468 f14) (shm_704 f17) kz_0_146 kz_0_147)⟩
  have nf3 : fc_1 PRD (24, [0, 0], []) ws (vs) := by
    refine ⟨nf_in hl rfl, sgq_1 ?_⟩
    · show n_v vs 0 = n_v vs 0
      first | rfl | simp only [true_and]
  have nf4 : fc_1 PRD (24, [1, 1], []) ws (vs) := by
    refine ⟨nf_in hl rfl, sgq_1 ?_⟩
    · show n_v vs 1 = n_v vs 1
      first | rfl | simp only [true_and]
  have nf5 : fc_1 PRD (24, [2, 2], []) ws (vs) := by
    refine ⟨nf_in hl rfl, sgq_1 ?_⟩
    · show n_v vs 2 = n_v vs 2
      first | rfl | simp only [true_and]
  refine ⟨(fun _ h => (by cases h)), [], trivial, ?_, (fun _ h => (by cases h))⟩
  rw [List.append_nil]
  exact List.forall_mem_cons.mpr ⟨⟨show (20 : Nat) < 100 from by decide, nf0⟩, List.forall_mem_cons.mpr ⟨⟨show (20 : Nat) < 100 from by decide, nf1⟩, List.forall_mem_cons.mpr ⟨⟨show (20 : Nat) < 100 from by decide, nf2⟩, List.forall_mem_cons.mpr ⟨⟨show (24 : Nat) < 100 from by decide, nf3⟩, List.forall_mem_cons.mpr ⟨⟨show (24 : Nat) < 100 from by decide, nf4⟩, List.forall_mem_cons.mpr ⟨⟨show (24 : Nat) < 100 from by decide, nf5⟩, (fun _ h => (by cases h))⟩⟩⟩⟩⟩⟩
set_option maxHeartbeats 4000000 in
theorem vc_Mo_backFrom_16_0 (x2 : Int) (x3 : Int) (barredPoint_0 : Int → Int) (costOf_0 : Int → Int) (bucket_0 : Int → Int) (bucketMany_0 : Int → Int) (wide_0 : Int) (tall_0 : Int) (k2 : 0 ≤ x2 ∧ x2 ≤ 1000000) (k3 : 0 ≤ x3 ∧ x3 ≤ 5999) (f0 : RTQ (wide_0) (tall_0) (barredPoint_0) (costOf_0) (bucket_0) (bucketMany_0) (x3) (x2)) (kz_0_146 : (-3999999) ≤ wide_0 ∧ wide_0 ≤ 600000023) (kz_0_147 : (-3999999) ≤ tall_0 ∧ tall_0 ≤ 600000007) : RTQ (wide_0) (tall_0) (barredPoint_0) (costOf_0) (bucket_0) (bucketMany_0) (x3) (x2) := by
  first
    | assumption
    | (rw [ex2, ey2]; assumption)
def o_Mo_backFrom_16 : or_T := (131, 14, [(0, (2, 0, 0, [165])), (2, (0, 0, 1000000, [])), (3, (0, 0, 5999, []))], [(20, [4, 3, 6], [60, 2, 4, 495, 146, 147, 143, 140, 141, 142]), (24, [0, 4], []), (24, [2, 6], [])], [], [], [(20, [0, 3, 2], [60, 2, 4, 495, 146, 147, 143, 140, 141, 142])], [], [])
theorem oo_Mo_backFrom_16 {kA : Nat → ClassId} : or_ok PRD kA GG o_Mo_backFrom_16 := by
  refine or_mk fun A ta ws vs hD hth hl => ?_
  intro t0 r0 t2 k2 t3 k3 f0 f6 f8
  replace f0 := shm_704 f0
  replace f6 := shm_5 f6
  replace f8 := shm_5 f8
  have q4 : n_v vs 4 = n_v vs 0 := f6.symm
  have q6 : n_v vs 6 = n_v vs 2 := f8.symm
  simp only [q4, q6] at f0
  have kz_0_146 := fdq_179 hD hth r0
  have kz_0_147 := fdq_180 hD hth r0
  have nf0 : fc_1 PRD (20, [0, 3, 2], [60, 2, 4, 495, 146, 147, 143, 140, 141, 142]) ws (vs) := ⟨nf_in hl rfl, sgq_704 (vc_Mo_backFrom_16_0 (v_iv (n_v vs 2)) (v_iv (n_v vs 3)) (w_ei ws (w_ar ws (n_v vs 0) 143)) (w_ei ws (w_ar ws (n_v vs 0) 140)) (w_ei ws (w_ar ws (n_v vs 0) 141)) (w_ei ws (w_ar ws (n_v vs 0) 142)) (w_fi ws (n_v vs 0) 146) (w_fi ws (n_v vs 0) 147) k2 k3 f0 kz_0_146 kz_0_147)⟩
  refine ⟨(fun _ h => (by cases h)), [], trivial, ?_, (fun _ h => (by cases h))⟩
  rw [List.append_nil]
  exact List.forall_mem_cons.mpr ⟨⟨show (20 : Nat) < 100 from by decide, nf0⟩, (fun _ h => (by cases h))⟩
set_option maxHeartbeats 4000000 in
theorem vc_Mo_backFrom_17_0 (x3 : Int) (x8 : Int) (x11 : Int) (x14 : Int) (wide_0 : Int) (tall_0 : Int) (gx : Int) (k3 : 0 ≤ x3 ∧ x3 ≤ 5999) (ex2 : gx = x3) : 1 * gx + ((-1) * x3 + 0) ≤ 0 := by
  first
    | omega
    | (have h := ‹BFP _ _ _ _ _›.2.2.1; omega)
set_option maxHeartbeats 4000000 in
theorem vc_Mo_backFrom_17_1 (x3 : Int) (x8 : Int) (x11 : Int) (x14 : Int) (wide_0 : Int) (tall_0 : Int) (gx : Int) (k3 : 0 ≤ x3 ∧ x3 ≤ 5999) (ex2 : gx = x3) : (-1) * gx + (1 * x3 + 0) ≤ 0 := by
  first
    | omega
    | (have h := ‹BFP _ _ _ _ _›.2.2.1; omega)
set_option maxHeartbeats 4000000 in
theorem vc_Mo_backFrom_17_2 (x2 : Int) (x6 : Int) (x8 : Int) (x11 : Int) (x14 : Int) (x18 : Int) (wide_0 : Int) (tall_0 : Int) (gy : Int) (k2 : 0 ≤ x2 ∧ x2 ≤ 1000000) (k6 : 0 ≤ x6 ∧ x6 ≤ 1000000) (k18 : 3 ≤ x18 ∧ x18 ≤ 1000003) (d0 : x6 + 3 ≤ x18 ∧ x18 ≤ x6 + 3) (d1 : x2 + (-4294967296) ≤ x18 ∧ x18 ≤ x2 + 3) (d5 : x6 + (-4294967296) ≤ x2 ∧ x2 ≤ x6 + 0) (ey2 : gy = x2) : 1 * gy + ((-1) * x2 + 0) ≤ 0 := by
  first
    | omega
    | (have h := ‹BFP _ _ _ _ _›.2.2.1; omega)
set_option maxHeartbeats 4000000 in
theorem vc_Mo_backFrom_17_3 (x2 : Int) (x6 : Int) (x8 : Int) (x11 : Int) (x14 : Int) (x18 : Int) (wide_0 : Int) (tall_0 : Int) (gy : Int) (k2 : 0 ≤ x2 ∧ x2 ≤ 1000000) (k6 : 0 ≤ x6 ∧ x6 ≤ 1000000) (k18 : 3 ≤ x18 ∧ x18 ≤ 1000003) (d0 : x6 + 3 ≤ x18 ∧ x18 ≤ x6 + 3) (d1 : x2 + (-4294967296) ≤ x18 ∧ x18 ≤ x2 + 3) (d5 : x6 + (-4294967296) ≤ x2 ∧ x2 ≤ x6 + 0) (ey2 : gy = x2) : (-1) * gy + (1 * x2 + 0) ≤ 0 := by
  first
    | omega
    | (have h := ‹BFP _ _ _ _ _›.2.2.1; omega)
set_option maxHeartbeats 4000000 in
theorem vc_Mo_backFrom_17_4 (x1 : Int) (x5 : Int) (x8 : Int) (x11 : Int) (x14 : Int) (wide_0 : Int) (tall_0 : Int) (gu : Int) (k1 : 0 ≤ x1 ∧ x1 ≤ 23999) (k5 : 0 ≤ x5 ∧ x5 ≤ 23999) (k8 : 0 ≤ x8 ∧ x8 ≤ 3) (d4 : x5 + (-4294967296) ≤ x1 ∧ x1 ≤ x5 + 0) (d6 : x1 + (-4294967296) ≤ x5 ∧ x5 ≤ x1 + 0) (f8 : x8 = (x1 % 4)) (eu2 : gu = x1) : 1 * gu + ((-1) * x1 + 0) ≤ 0 := by
  first
    | omega
    | (have h := ‹BFP _ _ _ _ _›.2.2.1; omega)
set_option maxHeartbeats 4000000 in
theorem vc_Mo_backFrom_17_5 (x1 : Int) (x5 : Int) (x8 : Int) (x11 : Int) (x14 : Int) (wide_0 : Int) (tall_0 : Int) (gu : Int) (k1 : 0 ≤ x1 ∧ x1 ≤ 23999) (k5 : 0 ≤ x5 ∧ x5 ≤ 23999) (k8 : 0 ≤ x8 ∧ x8 ≤ 3) (d4 : x5 + (-4294967296) ≤ x1 ∧ x1 ≤ x5 + 0) (d6 : x1 + (-4294967296) ≤ x5 ∧ x5 ≤ x1 + 0) (f8 : x8 = (x1 % 4)) (eu2 : gu = x1) : (-1) * gu + (1 * x1 + 0) ≤ 0 := by
  first
    | omega
    | (have h := ‹BFP _ _ _ _ _›.2.2.1; omega)
set_option maxHeartbeats 4000000 in
theorem vc_Mo_backFrom_17_6 (x2 : Int) (x3 : Int) (barredPoint_0 : Int → Int) (costOf_0 : Int → Int) (bucket_0 : Int → Int) (bucketMany_0 : Int → Int) (wide_0 : Int) (tall_0 : Int) (gx : Int) (gy : Int) (k2 : 0 ≤ x2 ∧ x2 ≤ 1000000) (k3 : 0 ≤ x3 ∧ x3 ≤ 5999) (f5 : RTQ (wide_0) (tall_0) (barredPoint_0) (costOf_0) (bucket_0) (bucketMany_0) (x3) (x2)) (kz_0_146 : (-3999999) ≤ wide_0 ∧ wide_0 ≤ 600000023) (kz_0_147 : (-3999999) ≤ tall_0 ∧ tall_0 ≤ 600000007) (ex2 : gx = x3) (ey2 : gy = x2) : RTQ (wide_0) (tall_0) (barredPoint_0) (costOf_0) (bucket_0) (bucketMany_0) (gx) (gy) := by
  first
    | assumption
    | (rw [ex2, ey2]; assumption)
set_option maxHeartbeats 4000000 in
theorem vc_Mo_backFrom_17_7 (x1 : Int) (x2 : Int) (x3 : Int) (x5 : Int) (x6 : Int) (x8 : Int) (x11 : Int) (x12 : Int) (x15 : Int) (x16 : Int) (x18 : Int) (barredPoint_0 : Int → Int) (costOf_0 : Int → Int) (wide_0 : Int) (tall_0 : Int) (gx : Int) (gy : Int) (gu : Int) (k1 : 0 ≤ x1 ∧ x1 ≤ 23999) (k2 : 0 ≤ x2 ∧ x2 ≤ 1000000) (k3 : 0 ≤ x3 ∧ x3 ≤ 5999) (k5 : 0 ≤ x5 ∧ x5 ≤ 23999) (k6 : 0 ≤ x6 ∧ x6 ≤ 1000000) (k8 : 0 ≤ x8 ∧ x8 ≤ 3) (k11 : 0 ≤ x11 ∧ x11 ≤ 5999) (k12 : 0 ≤ x12 ∧ x12 ≤ 3) (k15 : 0 ≤ x15 ∧ x15 ≤ 23996) (k16 : 0 ≤ x16 ∧ x16 ≤ 23999) (k18 : 3 ≤ x18 ∧ x18 ≤ 1000003) (d0 : x6 + 3 ≤ x18 ∧ x18 ≤ x6 + 3) (d1 : x2 + (-4294967296) ≤ x18 ∧ x18 ≤ x2 + 3) (d4 : x5 + (-4294967296) ≤ x1 ∧ x1 ≤ x5 + 0) (d5 : x6 + (-4294967296) ≤ x2 ∧ x2 ≤ x6 + 0) (d6 : x1 + (-4294967296) ≤ x5 ∧ x5 ≤ x1 + 0) (f1 : x12 ≠ x8) (f2 : x16 = x15 + x12) (f3 : x15 = 4 * x11) (f6 : PIV (costOf_0) (x1) (x2)) (f7 : BFP (wide_0) (tall_0) (barredPoint_0) (x1) (x11)) (f8 : x8 = (x1 % 4)) (f9 : (0 ≤ x2) ∧ (x2 ≤ 999999)) (kz_0_146 : (-3999999) ≤ wide_0 ∧ wide_0 ≤ 600000023) (kz_0_147 : (-3999999) ≤ tall_0 ∧ tall_0 ≤ 600000007) (ex2 : gx = x3) (ey2 : gy = x2) (eu2 : gu = x1) : RJB (wide_0) (tall_0) (barredPoint_0) (costOf_0) (gx) (gy) (x16) (x18) := by
  rw [ex2, ey2]
  exact rjb_b (p := x11) (f := x12) (d := x8) ‹BFP _ _ _ _ _› ‹PIV _ _ _› (by omega) (by omega) (by omega) (by omega) (by omega) (by omega)
set_option maxHeartbeats 4000000 in
theorem vc_Mo_backFrom_17_8 (x1 : Int) (x2 : Int) (costOf_0 : Int → Int) (gy : Int) (gu : Int) (k1 : 0 ≤ x1 ∧ x1 ≤ 23999) (k2 : 0 ≤ x2 ∧ x2 ≤ 1000000) (f6 : PIV (costOf_0) (x1) (x2)) (ey2 : gy = x2) (eu2 : gu = x1) : PIV (costOf_0) (gu) (gy) := by
  first
    | assumption
    | (rw [eu2, ey2]; assumption)
    | (rw [ey2, eu2]; assumption)
set_option maxHeartbeats 4000000 in
theorem vc_Mo_backFrom_17_9 (x3 : Int) (x8 : Int) (x11 : Int) (x14 : Int) (wide_0 : Int) (tall_0 : Int) (gx : Int) (k3 : 0 ≤ x3 ∧ x3 ≤ 5999) (ex2 : gx = x3) : gx = x3 := by
  first
    | omega
    | (have h := ‹BFP _ _ _ _ _›.2.2.1; omega)
set_option maxHeartbeats 4000000 in
theorem vc_Mo_backFrom_17_10 (x2 : Int) (x8 : Int) (x11 : Int) (x14 : Int) (wide_0 : Int) (tall_0 : Int) (gy : Int) (k2 : 0 ≤ x2 ∧ x2 ≤ 1000000) (ey2 : gy = x2) : gy = x2 := by
  first
    | omega
    | (have h := ‹BFP _ _ _ _ _›.2.2.1; omega)
set_option maxHeartbeats 4000000 in
theorem vc_Mo_backFrom_17_11 (x1 : Int) (x8 : Int) (x11 : Int) (x14 : Int) (wide_0 : Int) (tall_0 : Int) (gu : Int) (k1 : 0 ≤ x1 ∧ x1 ≤ 23999) (eu2 : gu = x1) : gu = x1 := by
  first
    | omega
    | (have h := ‹BFP _ _ _ _ _›.2.2.1; omega)
def o_Mo_backFrom_17 : or_T := (122, 19, [(0, (2, 0, 0, [165])), (1, (0, 0, 23999, [])), (2, (0, 0, 1000000, [])), (3, (0, 0, 5999, [])), (4, (2, 0, 0, [165])), (5, (0, 0, 23999, [])), (6, (0, 0, 1000000, [])), (8, (0, 0, 3, [])), (11, (0, 0, 5999, [])), (12, (0, 0, 3, [])), (13, (0, 4, 4, [])), (14, (0, 4, 4, [])), (15, (0, 0, 23996, [])), (16, (0, 0, 23999, [])), (17, (0, 3, 3, [])), (18, (0, 3, 1000003, []))], [(1, [18, 6, 17], []), (7, [12, 8], [1]), (1, [16, 15, 12], []), (3, [15, 14, 11], []), (7, [12, 13], [2]), (20, [4, 3, 6], [60, 2, 4, 495, 146, 147, 143, 140, 141, 142]), (20, [4, 5, 6], [60, 0, 1, 497, 140]), (20, [4, 5, 11], [60, 2, 1, 500, 146, 147, 143]), (20, [8, 5], [50, 0, 0, 1, 2, 1, 0, 9, 2, 1, 1, 0, 4]), (20, [6], [50, 0, 0, 2, 6, 0, 2, 0, 0, 1, 0, 0, 2, 1, 0, 0, 999999]), (20, [11, 4], [50, 2, 0, 1146, 1147, 2, 6, 0, 2, 0, 0, 1, 0, 0, 6, 4, 2, 1, 0, 0, 1, 6, 3, 2, 1, 146, 2, 1, 147]), (24, [0, 4], []), (24, [1, 5], []), (24, [2, 6], [])], [], [(0, 0, 5999, []), (0, 0, 1000008, []), (0, 0, 23999, [])], [(23, [19, 3], [0, 1, -1]), (23, [19, 3], [0, -1, 1]), (23, [20, 6], [0, 1, -1]), (23, [20, 6], [0, -1, 1]), (23, [21, 5], [0, 1, -1]), (23, [21, 5], [0, -1, 1]), (20, [4, 19, 20], [60, 2, 4, 495, 146, 147, 143, 140, 141, 142]), (20, [4, 19, 20, 16, 18], [60, 2, 2, 498, 146, 147, 143, 140]), (20, [4, 21, 20], [60, 0, 1, 497, 140]), (20, [19, 3], [50, 0, 0, 1, 2, 1, 0, 1, 1]), (20, [20, 6], [50, 0, 0, 1, 2, 1, 0, 1, 1]), (20, [21, 5], [50, 0, 0, 1, 2, 1, 0, 1, 1])], [], [(18, 6, 3, 3), (18, 2, -4294967296, 3), (16, 12, 0, 23996), (16, 15, 0, 3), (1, 5, -4294967296, 0), (2, 6, -4294967296, 0), (5, 1, -4294967296, 0), (6, 2, -4294967296, 0), (8, 11, -4294967296, 2)])
theorem oo_Mo_backFrom_17 {kA : Nat → ClassId} : or_ok PRD kA GG o_Mo_backFrom_17 := by
  refine or_mk fun A ta ws vs hD hth hl => ?_
  intro t0 r0 t1 k1 t2 k2 t3 k3 t4 r4 t5 k5 t6 k6 t8 k8 t11 k11 t12 k12 t13 k13 t14 k14 t15 k15 t16 k16 t17 k17 t18 k18 d0 d1 d2 d3 d4 d5 d6 d7 d8 f0 f1 f2 f3 f4 f5 f6 f7 f8 f9 f10 f11 f12 f13
  replace f1 := shm_40 f1
  replace f2 := shm_12 f2
  replace f3 := shm_38 f3
  rw [show v_iv (n_v vs 14) = 4 from by omega] at f3
  replace f5 := shm_704 f5
  replace f6 := shm_706 f6
  replace f7 := shm_1409 f7
  replace f8 := shm_1410 f8
  replace f9 := shm_1408 f9
  replace f11 := shm_5 f11
  replace f12 := shm_5 f12
  replace f13 := shm_5 f13
  have q4 : n_v vs 4 = n_v vs 0 := f11.symm
  have q5 : n_v vs 5 = n_v vs 1 := f12.symm
  have q6 : n_v vs 6 = n_v vs 2 := f13.symm
  simp only [q6, q4, q5] at f5 f6 f7 f8 f9
  have kz_0_146 := fdq_179 hD hth r0
  have kz_0_147 := fdq_180 hD hth r0
  obtain ⟨x, ex, hx⟩ := iv_ex (ta := ta) (lo := 0) (hi := 5999) (z := v_iv (n_v vs 3)) (by omega) (by omega) (by omega) (by omega)
  have ex2 : v_iv (Value.int x) = v_iv (n_v vs 3) := ex
  have ex3 : 0 ≤ v_iv (Value.int x) ∧ v_iv (Value.int x) ≤ 5999 := tv_rng hx
  obtain ⟨y, ey, hy⟩ := iv_ex (ta := ta) (lo := 0) (hi := 1000008) (z := v_iv (n_v vs 2)) (by omega) (by omega) (by omega) (by omega)
  have ey2 : v_iv (Value.int y) = v_iv (n_v vs 2) := ey
  have ey3 : 0 ≤ v_iv (Value.int y) ∧ v_iv (Value.int y) ≤ 1000008 := tv_rng hy
  obtain ⟨u, eu, hu⟩ := iv_ex (ta := ta) (lo := 0) (hi := 23999) (z := v_iv (n_v vs 1)) (by omega) (by omega) (by omega) (by omega)
  have eu2 : v_iv (Value.int u) = v_iv (n_v vs 1) := eu
  have eu3 : 0 ≤ v_iv (Value.int u) ∧ v_iv (Value.int u) ≤ 23999 := tv_rng hu
  have e_3 : n_v (vs ++ [Value.int x, Value.int y, Value.int u]) 3 = n_v vs 3 := n_v_old (by rw [hl]; decide)
  have e_4 : n_v (vs ++ [Value.int x, Value.int y, Value.int u]) 4 = n_v vs 4 := n_v_old (by rw [hl]; decide)
  have e_5 : n_v (vs ++ [Value.int x, Value.int y, Value.int u]) 5 = n_v vs 5 := n_v_old (by rw [hl]; decide)
  have e_6 : n_v (vs ++ [Value.int x, Value.int y, Value.int u]) 6 = n_v vs 6 := n_v_old (by rw [hl]; decide)
  have e_16 : n_v (vs ++ [Value.int x, Value.int y, Value.int u]) 16 = n_v vs 16 := n_v_old (by rw [hl]; decide)
  have e_18 : n_v (vs ++ [Value.int x, Value.int y, Value.int u]) 18 = n_v vs 18 := n_v_old (by rw [hl]; decide)
  have e_19 : n_v (vs ++ [Value.int x, Value.int y, Value.int u]) 19 = Value.int x := n_v_newk (k := 0) hl rfl
  have e_20 : n_v (vs ++ [Value.int x, Value.int y, Value.int u]) 20 = Value.int y := n_v_newk (k := 1) hl rfl
  have e_21 : n_v (vs ++ [Value.int x, Value.int y, Value.int u]) 21 = Value.int u := n_v_newk (k := 2) hl rfl
  have nf0 : fc_1 PRD (23, [19, 3], [0, 1, -1]) ws (vs ++ [Value.int x, Value.int y, Value.int u]) := by
    refine ⟨nf_inA hl rfl, sgq_7 ?_⟩
    · show 1 * v_iv (n_v (vs ++ [Value.int x, Value.int y, Value.int u]) 19) + ((-1) * v_iv (n_v (vs ++ [Value.int x, Value.int y, Value.int u]) 3) + 0) ≤ 0
      simp only [e_3, e_19]
      exact vc_Mo_backFrom_17_0 (v_iv (n_v vs 3)) (v_iv (n_v vs 8)) (v_iv (n_v vs 11)) (v_iv (n_v vs 14)) (w_fi ws (n_v vs 0) 146) (w_fi ws (n_v vs 0) 147) (v_iv (Value.int x)) k3 ex2
  have nf1 : fc_1 PRD (23, [19, 3], [0, -1, 1]) ws (vs ++ [Value.int x, Value.int y, Value.int u]) := by
    refine ⟨nf_inA hl rfl, sgq_22 ?_⟩
    · show (-1) * v_iv (n_v (vs ++ [Value.int x, Value.int y, Value.int u]) 19) + (1 * v_iv (n_v (vs ++ [Value.int x, Value.int y, Value.int u]) 3) + 0) ≤ 0
      simp only [e_3, e_19]
      exact vc_Mo_backFrom_17_1 (v_iv (n_v vs 3)) (v_iv (n_v vs 8)) (v_iv (n_v vs 11)) (v_iv (n_v vs 14)) (w_fi ws (n_v vs 0) 146) (w_fi ws (n_v vs 0) 147) (v_iv (Value.int x)) k3 ex2
  have nf2 : fc_1 PRD (23, [20, 6], [0, 1, -1]) ws (vs ++ [Value.int x, Value.int y, Value.int u]) := by
    refine ⟨nf_inA hl rfl, sgq_7 ?_⟩
    · show 1 * v_iv (n_v (vs ++ [Value.int x, Value.int y, Value.int u]) 20) + ((-1) * v_iv (n_v (vs ++ [Value.int x, Value.int y, Value.int u]) 6) + 0) ≤ 0
      simp only [e_6, e_20, q6]
      exact vc_Mo_backFrom_17_2 (v_iv (n_v vs 2)) (v_iv (n_v vs 6)) (v_iv (n_v vs 8)) (v_iv (n_v vs 11)) (v_iv (n_v vs 14)) (v_iv (n_v vs 18)) (w_fi ws (n_v vs 0) 146) (w_fi ws (n_v vs 0) 147) (v_iv (Value.int y)) k2 k6 k18 d0 d1 d5 ey2
  have nf3 : fc_1 PRD (23, [20, 6], [0, -1, 1]) ws (vs ++ [Value.int x, Value.int y, Value.int u]) := by
    refine ⟨nf_inA hl rfl, sgq_22 ?_⟩
    · show (-1) * v_iv (n_v (vs ++ [Value.int x, Value.int y, Value.int u]) 20) + (1 * v_iv (n_v (vs ++ [Value.int x, Value.int y, Value.int u]) 6) + 0) ≤ 0
      simp only [e_6, e_20, q6]
      exact vc_Mo_backFrom_17_3 (v_iv (n_v vs 2)) (v_iv (n_v vs 6)) (v_iv (n_v vs 8)) (v_iv (n_v vs 11)) (v_iv (n_v vs 14)) (v_iv (n_v vs 18)) (w_fi ws (n_v vs 0) 146) (w_fi ws (n_v vs 0) 147) (v_iv (Value.int y)) k2 k6 k18 d0 d1 d5 ey2
  have nf4 : fc_1 PRD (23, [21, 5], [0, 1, -1]) ws (vs ++ [Value.int x, Value.int y, Value.int u]) := by
    refine ⟨nf_inA hl rfl, sgq_7 ?_⟩
    · show 1 * v_iv (n_v (vs ++ [Value.int x, Value.int y, Value.int u]) 21) + ((-1) * v_iv (n_v (vs ++ [Value.int x, Value.int y, Value.int u]) 5) + 0) ≤ 0
      simp only [e_5, e_21, q5]
      exact vc_Mo_backFrom_17_4 (v_iv (n_v vs 1)) (v_iv (n_v vs 5)) (v_iv (n_v vs 8)) (v_iv (n_v vs 11)) (v_iv (n_v vs 14)) (w_fi ws (n_v vs 0) 146) (w_fi ws (n_v vs 0) 147) (v_iv (Value.int u)) k1 k5 k8 d4 d6 f8 eu2
  have nf5 : fc_1 PRD (23, [21, 5], [0, -1, 1]) ws (vs ++ [Value.int x, Value.int y, Value.int u]) := by
    refine ⟨nf_inA hl rfl, sgq_22 ?_⟩
    · show (-1) * v_iv (n_v (vs ++ [Value.int x, Value.int y, Value.int u]) 21) + (1 * v_iv (n_v (vs ++ [Value.int x, Value.int y, Value.int u]) 5) + 0) ≤ 0
      simp only [e_5, e_21, q5]
      exact vc_Mo_backFrom_17_5 (v_iv (n_v vs 1)) (v_iv (n_v vs 5)) (v_iv (n_v vs 8)) (v_iv (n_v vs 11)) (v_iv (n_v vs 14)) (w_fi ws (n_v vs 0) 146) (w_fi ws (n_v vs 0) 147) (v_iv (Value.int u)) k1 k5 k8 d4 d6 f8 eu2
  have nf6 : fc_1 PRD (20, [4, 19, 20], [60, 2, 4, 495, 146, 147, 143, 140, 141, 142]) ws (vs ++ [Value.int x, Value.int y, Value.int u]) := by
    refine ⟨nf_inA hl rfl, sgq_704 ?_⟩
    · show RTQ (w_fi ws (n_v (vs ++ [Value.int x, Value.int y, Value.int u]) 4) 146) (w_fi ws (n_v (vs ++ [Value.int x, Value.int y, Value.int u]) 4) 147) (w_ei ws (w_ar ws (n_v (vs ++ [Value.int x, Value.int y, Value.int u]) 4) 143)) (w_ei ws (w_ar ws (n_v (vs ++ [Value.int x, Value.int y, Value.int u]) 4) 140)) (w_ei ws (w_ar ws (n_v (vs ++ [Value.int x, Value.int y, Value.int u]) 4) 141)) (w_ei ws (w_ar ws (n_v (vs ++ [Value.int x, Value.int y, Value.int u]) 4) 142)) (v_iv (n_v (vs ++ [Value.int x, Value.int y, Value.int u]) 19)) (v_iv (n_v (vs ++ [Value.int x, Value.int y, Value.int u]) 20))
      simp only [e_4, e_19, e_20, q4]
      exact vc_Mo_backFrom_17_6 (v_iv (n_v vs 2)) (v_iv (n_v vs 3)) (w_ei ws (w_ar ws (n_v vs 0) 143)) (w_ei ws (w_ar ws (n_v vs 0) 140)) (w_ei ws (w_ar ws (n_v vs 0) 141)) (w_ei ws (w_ar ws (n_v vs 0) 142)) (w_fi ws (n_v vs 0) 146) (w_fi ws (n_v vs 0) 147) (v_iv (Value.int x)) (v_iv (Value.int y)) k2 k3 f5 kz_0_146 kz_0_147 ex2 ey2
  have nf7 : fc_1 PRD (20, [4, 19, 20, 16, 18], [60, 2, 2, 498, 146, 147, 143, 140]) ws (vs ++ [Value.int x, Value.int y, Value.int u]) := by
    refine ⟨nf_inA hl rfl, sgq_705 ?_⟩
    · show RJB (w_fi ws (n_v (vs ++ [Value.int x, Value.int y, Value.int u]) 4) 146) (w_fi ws (n_v (vs ++ [Value.int x, Value.int y, Value.int u]) 4) 147) (w_ei ws (w_ar ws (n_v (vs ++ [Value.int x, Value.int y, Value.int u]) 4) 143)) (w_ei ws (w_ar ws (n_v (vs ++ [Value.int x, Value.int y, Value.int u]) 4) 140)) (v_iv (n_v (vs ++ [Value.int x, Value.int y, Value.int u]) 19)) (v_iv (n_v (vs ++ [Value.int x, Value.int y, Value.int u]) 20)) (v_iv (n_v (vs ++ [Value.int x, Value.int y, Value.int u]) 16)) (v_iv (n_v (vs ++ [Value.int x, Value.int y, Value.int u]) 18))
      simp only [e_4, e_16, e_18, e_19, e_20, q4]
      exact vc_Mo_backFrom_17_7 (v_iv (n_v vs 1)) (v_iv (n_v vs 2)) (v_iv (n_v vs 3)) (v_iv (n_v vs 5)) (v_iv (n_v vs 6)) (v_iv (n_v vs 8)) (v_iv (n_v vs 11)) (v_iv (n_v vs 12)) (v_iv (n_v vs 15)) (v_iv (n_v vs 16)) (v_iv (n_v vs 18)) (w_ei ws (w_ar ws (n_v vs 0) 143)) (w_ei ws (w_ar ws (n_v vs 0) 140)) (w_fi ws (n_v vs 0) 146) (w_fi ws (n_v vs 0) 147) (v_iv (Value.int x)) (v_iv (Value.int y)) (v_iv (Value.int u)) k1 k2 k3 k5 k6 k8 k11 k12 k15 k16 k18 d0 d1 d4 d5 d6 f1 f2 f3 f6 f7 f8 f9 kz_0_146 kz_0_147 ex2 ey2 eu2
  have nf8 : fc_1 PRD (20, [4, 21, 20], [60, 0, 1, 497, 140]) ws (vs ++ [Value.int x, Value.int y, Value.int u]) := by
    refine ⟨nf_inA hl rfl, sgq_706 ?_⟩
    · show PIV (w_ei ws (w_ar ws (n_v (vs ++ [Value.int x, Value.int y, Value.int u]) 4) 140)) (v_iv (n_v (vs ++ [Value.int x, Value.int y, Value.int u]) 21)) (v_iv (n_v (vs ++ [Value.int x, Value.int y, Value.int u]) 20))
      simp only [e_4, e_20, e_21, q4]
      exact vc_Mo_backFrom_17_8 (v_iv (n_v vs 1)) (v_iv (n_v vs 2)) (w_ei ws (w_ar ws (n_v vs 0) 140)) (v_iv (Value.int y)) (v_iv (Value.int u)) k1 k2 f6 ey2 eu2
  have nf9 : fc_1 PRD (20, [19, 3], [50, 0, 0, 1, 2, 1, 0, 1, 1]) ws (vs ++ [Value.int x, Value.int y, Value.int u]) := by
    refine ⟨nf_inA hl rfl, sgq_48 ?_⟩
    · show v_iv (n_v (vs ++ [Value.int x, Value.int y, Value.int u]) 19) = v_iv (n_v (vs ++ [Value.int x, Value.int y, Value.int u]) 3)
      simp only [e_3, e_19]
      exact vc_Mo_backFrom_17_9 (v_iv (n_v vs 3)) (v_iv (n_v vs 8)) (v_iv (n_v vs 11)) (v_iv (n_v vs 14)) (w_fi ws (n_v vs 0) 146) (w_fi ws (n_v vs 0) 147) (v_iv (Value.int x)) k3 ex2
  have nf10 : fc_1 PRD (20, [20, 6], [50, 0, 0, 1, 2, 1, 0, 1, 1]) ws (vs ++ [Value.int x, Value.int y, Value.int u]) := by
    refine ⟨nf_inA hl rfl, sgq_48 ?_⟩
    · show v_iv (n_v (vs ++ [Value.int x, Value.int y, Value.int u]) 20) = v_iv (n_v (vs ++ [Value.int x, Value.int y, Value.int u]) 6)
      simp only [e_6, e_20, q6]
      exact vc_Mo_backFrom_17_10 (v_iv (n_v vs 2)) (v_iv (n_v vs 8)) (v_iv (n_v vs 11)) (v_iv (n_v vs 14)) (w_fi ws (n_v vs 0) 146) (w_fi ws (n_v vs 0) 147) (v_iv (Value.int y)) k2 ey2
  have nf11 : fc_1 PRD (20, [21, 5], [50, 0, 0, 1, 2, 1, 0, 1, 1]) ws (vs ++ [Value.int x, Value.int y, Value.int u]) := by
    refine ⟨nf_inA hl rfl, sgq_48 ?_⟩
    · show v_iv (n_v (vs ++ [Value.int x, Value.int y, Value.int u]) 21) = v_iv (n_v (vs ++ [Value.int x, Value.int y, Value.int u]) 5)
      simp only [e_5, e_21, q5]
      exact vc_Mo_backFrom_17_11 (v_iv (n_v vs 1)) (v_iv (n_v vs 8)) (v_iv (n_v vs 11)) (v_iv (n_v vs 14)) (w_fi ws (n_v vs 0) 146) (w_fi ws (n_v vs 0) 147) (v_iv (Value.int u)) k1 eu2
  exact ⟨(fun _ h => (by cases h)), [Value.int x, Value.int y, Value.int u], ag_three hx hy hu, List.forall_mem_cons.mpr ⟨⟨show (23 : Nat) < 100 from by decide, nf0⟩, List.forall_mem_cons.mpr ⟨⟨show (23 : Nat) < 100 from by decide, nf1⟩, List.forall_mem_cons.mpr ⟨⟨show (23 : Nat) < 100 from by decide, nf2⟩, List.forall_mem_cons.mpr ⟨⟨show (23 : Nat) < 100 from by decide, nf3⟩, List.forall_mem_cons.mpr ⟨⟨show (23 : Nat) < 100 from by decide, nf4⟩, List.forall_mem_cons.mpr ⟨⟨show (23 : Nat) < 100 from by decide, nf5⟩, List.forall_mem_cons.mpr ⟨⟨show (20 : Nat) < 100 from by decide, nf6⟩, List.forall_mem_cons.mpr ⟨⟨show (20 : Nat) < 100 from by decide, nf7⟩, List.forall_mem_cons.mpr ⟨⟨show (20 : Nat) < 100 from by decide, nf8⟩, List.forall_mem_cons.mpr ⟨⟨show (20 : Nat) < 100 from by decide, nf9⟩, List.forall_mem_cons.mpr ⟨⟨show (20 : Nat) < 100 from by decide, nf10⟩, List.forall_mem_cons.mpr ⟨⟨show (20 : Nat) < 100 from by decide, nf11⟩, (fun _ h => (by cases h))⟩⟩⟩⟩⟩⟩⟩⟩⟩⟩⟩⟩, (fun _ h => (by cases h))⟩
set_option maxHeartbeats 4000000 in
theorem vc_Mo_backFrom_18_0 (x2 : Int) (x3 : Int) (x6 : Int) (x18 : Int) (x19 : Int) (x20 : Int) (barredPoint_0 : Int → Int) (wide_0 : Int) (tall_0 : Int) (costOf_0 : Int → Int) (bucket_0 : Int → Int) (bucketMany_0 : Int → Int) (k2 : 0 ≤ x2 ∧ x2 ≤ 1000000) (k3 : 0 ≤ x3 ∧ x3 ≤ 5999) (k6 : 0 ≤ x6 ∧ x6 ≤ 1000000) (k18 : 3 ≤ x18 ∧ x18 ≤ 1000003) (k19 : 0 ≤ x19 ∧ x19 ≤ 5999) (k20 : 0 ≤ x20 ∧ x20 ≤ 1000008) (d1 : x6 + 3 ≤ x18 ∧ x18 ≤ x6 + 3) (d2 : x2 + (-4294967296) ≤ x18 ∧ x18 ≤ x2 + 3) (d6 : x6 + (-4294967296) ≤ x2 ∧ x2 ≤ x6 + 0) (f1 : 1 * x19 + ((-1) * x3 + 0) ≤ 0) (f2 : (-1) * x19 + (1 * x3 + 0) ≤ 0) (f3 : 1 * x20 + ((-1) * x2 + 0) ≤ 0) (f4 : (-1) * x20 + (1 * x2 + 0) ≤ 0) (f17 : RTQ (wide_0) (tall_0) (barredPoint_0) (costOf_0) (bucket_0) (bucketMany_0) (x19) (x20)) (kz_0_146 : (-3999999) ≤ wide_0 ∧ wide_0 ≤ 600000023) (kz_0_147 : (-3999999) ≤ tall_0 ∧ tall_0 ≤ 600000007) : RTQ (wide_0) (tall_0) (barredPoint_0) (costOf_0) (bucket_0) (bucketMany_0) (x3) (x2) := by
  first
    | assumption
    | (rw [show x3 = x19 by omega, show x2 = x20 by omega]; assumption)
set_option maxHeartbeats 4000000 in
theorem vc_Mo_backFrom_18_1 (x1 : Int) (x2 : Int) (x5 : Int) (x6 : Int) (x18 : Int) (x20 : Int) (x21 : Int) (costOf_0 : Int → Int) (k1 : 0 ≤ x1 ∧ x1 ≤ 23999) (k2 : 0 ≤ x2 ∧ x2 ≤ 1000000) (k5 : 0 ≤ x5 ∧ x5 ≤ 23999) (k6 : 0 ≤ x6 ∧ x6 ≤ 1000000) (k18 : 3 ≤ x18 ∧ x18 ≤ 1000003) (k20 : 0 ≤ x20 ∧ x20 ≤ 1000008) (k21 : 0 ≤ x21 ∧ x21 ≤ 23999) (d1 : x6 + 3 ≤ x18 ∧ x18 ≤ x6 + 3) (d2 : x2 + (-4294967296) ≤ x18 ∧ x18 ≤ x2 + 3) (d5 : x5 + (-4294967296) ≤ x1 ∧ x1 ≤ x5 + 0) (d6 : x6 + (-4294967296) ≤ x2 ∧ x2 ≤ x6 + 0) (d7 : x1 + (-4294967296) ≤ x5 ∧ x5 ≤ x1 + 0) (f3 : 1 * x20 + ((-1) * x2 + 0) ≤ 0) (f4 : (-1) * x20 + (1 * x2 + 0) ≤ 0) (f5 : 1 * x21 + ((-1) * x1 + 0) ≤ 0) (f6 : (-1) * x21 + (1 * x1 + 0) ≤ 0) (f18 : PIV (costOf_0) (x21) (x20)) : PIV (costOf_0) (x1) (x2) := by
  first
    | assumption
    | (rw [show x1 = x21 by omega, show x2 = x20 by omega]; assumption)
def o_Mo_backFrom_18 : or_T := (94, 23, [(0, (2, 0, 0, [165])), (1, (0, 0, 23999, [])), (2, (0, 0, 1000000, [])), (3, (0, 0, 5999, [])), (4, (2, 0, 0, [165])), (5, (0, 0, 23999, [])), (6, (0, 0, 1000000, [])), (8, (0, 0, 3, [])), (11, (0, 0, 5999, [])), (12, (0, 0, 3, [])), (13, (0, 4, 4, [])), (14, (0, 4, 4, [])), (15, (0, 0, 23996, [])), (16, (0, 0, 23999, [])), (17, (0, 3, 3, [])), (18, (0, 3, 1000003, [])), (19, (0, 0, 5999, [])), (20, (0, 0, 1000008, [])), (21, (0, 0, 23999, [])), (22, (0, 1, 4, []))], [(6, [22, 12], [1]), (23, [19, 3], [0, 1, -1]), (23, [19, 3], [0, -1, 1]), (23, [20, 6], [0, 1, -1]), (23, [20, 6], [0, -1, 1]), (23, [21, 5], [0, 1, -1]), (23, [21, 5], [0, -1, 1]), (20, [19, 3], [50, 0, 0, 1, 2, 1, 0, 1, 1]), (20, [20, 6], [50, 0, 0, 1, 2, 1, 0, 1, 1]), (20, [21, 5], [50, 0, 0, 1, 2, 1, 0, 1, 1]), (20, [4, 5, 11], [60, 2, 1, 500, 146, 147, 143]), (20, [8, 5], [50, 0, 0, 1, 2, 1, 0, 9, 2, 1, 1, 0, 4]), (20, [6], [50, 0, 0, 2, 6, 0, 2, 0, 0, 1, 0, 0, 2, 1, 0, 0, 999999]), (20, [11, 4], [50, 2, 0, 1146, 1147, 2, 6, 0, 2, 0, 0, 1, 0, 0, 6, 4, 2, 1, 0, 0, 1, 6, 3, 2, 1, 146, 2, 1, 147]), (24, [0, 4], []), (24, [1, 5], []), (24, [2, 6], []), (20, [4, 19, 20], [60, 2, 4, 495, 146, 147, 143, 140, 141, 142]), (20, [4, 21, 20], [60, 0, 1, 497, 140]), (102, [21], [829997695653082488796156820542274923492239250083311563034831962168721313259061248]), (23, [19, 3], [0, 1, -1]), (23, [19, 3], [0, -1, 1]), (23, [20, 6], [0, 1, -1]), (23, [20, 6], [0, -1, 1]), (23, [21, 5], [0, 1, -1]), (23, [21, 5], [0, -1, 1]), (1, [18, 6, 17], []), (7, [12, 8], [1]), (1, [16, 15, 12], []), (3, [15, 14, 11], []), (7, [12, 13], [2])], [], [], [(20, [4, 3, 6], [60, 2, 4, 495, 146, 147, 143, 140, 141, 142]), (20, [4, 5, 6], [60, 0, 1, 497, 140])], [], [(22, 12, 1, 1), (18, 6, 3, 3), (18, 2, -4294967296, 3), (16, 12, 0, 23996), (16, 15, 0, 3), (1, 5, -4294967296, 0), (2, 6, -4294967296, 0), (5, 1, -4294967296, 0), (6, 2, -4294967296, 0), (8, 11, -4294967296, 2)])
theorem oo_Mo_backFrom_18 {kA : Nat → ClassId} : or_ok PRD kA GG o_Mo_backFrom_18 := by
  refine or_mk fun A ta ws vs hD hth hl => ?_
  intro t0 r0 t1 k1 t2 k2 t3 k3 t4 r4 t5 k5 t6 k6 t8 k8 t11 k11 t12 k12 t13 k13 t14 k14 t15 k15 t16 k16 t17 k17 t18 k18 t19 k19 t20 k20 t21 k21 t22 k22 d0 d1 d2 d3 d4 d5 d6 d7 d8 d9 f0 f1 f2 f3 f4 f5 f6 f7 f8 f9 f10 f11 f12 f13 f14 f15 f16 f17 f18 ta1 w1 le1 s1 f20 f21 f22 f23 f24 f25 f26 f27 f28 f29 f30
  replace f1 := shm_7 f1
  replace f2 := shm_22 f2
  replace f3 := shm_7 f3
  replace f4 := shm_22 f4
  replace f5 := shm_7 f5
  replace f6 := shm_22 f6
  replace f14 := shm_5 f14
  replace f15 := shm_5 f15
  replace f16 := shm_5 f16
  replace f17 := shm_704 f17
  replace f18 := shm_706 f18
  have q4 : n_v vs 4 = n_v vs 0 := f14.symm
  have q5 : n_v vs 5 = n_v vs 1 := f15.symm
  have q6 : n_v vs 6 = n_v vs 2 := f16.symm
  simp only [q6, q5, q4] at f3 f4 f5 f6 f17 f18
  have kz_0_146 := fdq_179 hD hth r0
  have kz_0_147 := fdq_180 hD hth r0
  have nf0 : fc_1 PRD (20, [4, 3, 6], [60, 2, 4, 495, 146, 147, 143, 140, 141, 142]) ws (vs) := by
    refine ⟨nf_in hl rfl, sgq_704 ?_⟩
    · show RTQ (w_fi ws (n_v vs 4) 146) (w_fi ws (n_v vs 4) 147) (w_ei ws (w_ar ws (n_v vs 4) 143)) (w_ei ws (w_ar ws (n_v vs 4) 140)) (w_ei ws (w_ar ws (n_v vs 4) 141)) (w_ei ws (w_ar ws (n_v vs 4) 142)) (v_iv (n_v vs 3)) (v_iv (n_v vs 6))
      simp only [q4, q6]
      exact vc_Mo_backFrom_18_0 (v_iv (n_v vs 2)) (v_iv (n_v vs 3)) (v_iv (n_v vs 6)) (v_iv (n_v vs 18)) (v_iv (n_v vs 19)) (v_iv (n_v vs 20)) (w_ei ws (w_ar ws (n_v vs 0) 143)) (w_fi ws (n_v vs 0) 146) (w_fi ws (n_v vs 0) 147) (w_ei ws (w_ar ws (n_v vs 0) 140)) (w_ei ws (w_ar ws (n_v vs 0) 141)) (w_ei ws (w_ar ws (n_v vs 0) 142)) k2 k3 k6 k18 k19 k20 d1 d2 d6 f1 f2 f3 f4 f17 kz_0_146 kz_0_147
  have nf1 : fc_1 PRD (20, [4, 5, 6], [60, 0, 1, 497, 140]) ws (vs) := by
    refine ⟨nf_in hl rfl, sgq_706 ?_⟩
    · show PIV (w_ei ws (w_ar ws (n_v vs 4) 140)) (v_iv (n_v vs 5)) (v_iv (n_v vs 6))
      simp only [q4, q5, q6]
      exact vc_Mo_backFrom_18_1 (v_iv (n_v vs 1)) (v_iv (n_v vs 2)) (v_iv (n_v vs 5)) (v_iv (n_v vs 6)) (v_iv (n_v vs 18)) (v_iv (n_v vs 20)) (v_iv (n_v vs 21)) (w_ei ws (w_ar ws (n_v vs 0) 140)) k1 k2 k5 k6 k18 k20 k21 d1 d2 d5 d6 d7 f3 f4 f5 f6 f18
  refine ⟨(fun _ h => (by cases h)), [], trivial, ?_, (fun _ h => (by cases h))⟩
  rw [List.append_nil]
  exact List.forall_mem_cons.mpr ⟨⟨show (20 : Nat) < 100 from by decide, nf0⟩, List.forall_mem_cons.mpr ⟨⟨show (20 : Nat) < 100 from by decide, nf1⟩, (fun _ h => (by cases h))⟩⟩
set_option maxHeartbeats 4000000 in
theorem vc_Mo_backFrom_19_0 (x3 : Int) (x8 : Int) (x11 : Int) (x14 : Int) (wide_0 : Int) (tall_0 : Int) (gx : Int) (k3 : 0 ≤ x3 ∧ x3 ≤ 5999) (ex2 : gx = x3) : 1 * gx + ((-1) * x3 + 0) ≤ 0 := by
  first
    | omega
    | (have h := ‹BFP _ _ _ _ _›.2.2.1; omega)
set_option maxHeartbeats 4000000 in
theorem vc_Mo_backFrom_19_1 (x3 : Int) (x8 : Int) (x11 : Int) (x14 : Int) (wide_0 : Int) (tall_0 : Int) (gx : Int) (k3 : 0 ≤ x3 ∧ x3 ≤ 5999) (ex2 : gx = x3) : (-1) * gx + (1 * x3 + 0) ≤ 0 := by
  first
    | omega
    | (have h := ‹BFP _ _ _ _ _›.2.2.1; omega)
set_option maxHeartbeats 4000000 in
theorem vc_Mo_backFrom_19_2 (x2 : Int) (x6 : Int) (x8 : Int) (x11 : Int) (x14 : Int) (x18 : Int) (wide_0 : Int) (tall_0 : Int) (gy : Int) (k2 : 0 ≤ x2 ∧ x2 ≤ 1000000) (k6 : 0 ≤ x6 ∧ x6 ≤ 1000000) (k18 : 1 ≤ x18 ∧ x18 ≤ 1000001) (d0 : x6 + 1 ≤ x18 ∧ x18 ≤ x6 + 1) (d1 : x2 + (-4294967296) ≤ x18 ∧ x18 ≤ x2 + 1) (d6 : x6 + (-4294967296) ≤ x2 ∧ x2 ≤ x6 + 0) (ey2 : gy = x2) : 1 * gy + ((-1) * x2 + 0) ≤ 0 := by
  first
    | omega
    | (have h := ‹BFP _ _ _ _ _›.2.2.1; omega)
set_option maxHeartbeats 4000000 in
theorem vc_Mo_backFrom_19_3 (x2 : Int) (x6 : Int) (x8 : Int) (x11 : Int) (x14 : Int) (x18 : Int) (wide_0 : Int) (tall_0 : Int) (gy : Int) (k2 : 0 ≤ x2 ∧ x2 ≤ 1000000) (k6 : 0 ≤ x6 ∧ x6 ≤ 1000000) (k18 : 1 ≤ x18 ∧ x18 ≤ 1000001) (d0 : x6 + 1 ≤ x18 ∧ x18 ≤ x6 + 1) (d1 : x2 + (-4294967296) ≤ x18 ∧ x18 ≤ x2 + 1) (d6 : x6 + (-4294967296) ≤ x2 ∧ x2 ≤ x6 + 0) (ey2 : gy = x2) : (-1) * gy + (1 * x2 + 0) ≤ 0 := by
  first
    | omega
    | (have h := ‹BFP _ _ _ _ _›.2.2.1; omega)
set_option maxHeartbeats 4000000 in
theorem vc_Mo_backFrom_19_4 (x1 : Int) (x5 : Int) (x8 : Int) (x11 : Int) (x12 : Int) (x14 : Int) (x15 : Int) (x16 : Int) (wide_0 : Int) (tall_0 : Int) (gu : Int) (k1 : 0 ≤ x1 ∧ x1 ≤ 23999) (k5 : 0 ≤ x5 ∧ x5 ≤ 23999) (k8 : 0 ≤ x8 ∧ x8 ≤ 3) (k11 : 0 ≤ x11 ∧ x11 ≤ 5999) (k12 : 0 ≤ x12 ∧ x12 ≤ 3) (k15 : 0 ≤ x15 ∧ x15 ≤ 23996) (k16 : 0 ≤ x16 ∧ x16 ≤ 23999) (d2 : x8 + 0 ≤ x12 ∧ x12 ≤ x8 + 0) (d5 : x5 + (-4294967296) ≤ x1 ∧ x1 ≤ x5 + 0) (d7 : x1 + (-4294967296) ≤ x5 ∧ x5 ≤ x1 + 0) (f2 : x16 = x15 + x12) (f3 : x15 = 4 * x11) (f8 : x8 = (x1 % 4)) (eu2 : gu = x1) : 1 * gu + ((-1) * x1 + 0) ≤ 0 := by
  first
    | omega
    | (have h := ‹BFP _ _ _ _ _›.2.2.1; omega)
set_option maxHeartbeats 4000000 in
theorem vc_Mo_backFrom_19_5 (x1 : Int) (x5 : Int) (x8 : Int) (x11 : Int) (x12 : Int) (x14 : Int) (x15 : Int) (x16 : Int) (wide_0 : Int) (tall_0 : Int) (gu : Int) (k1 : 0 ≤ x1 ∧ x1 ≤ 23999) (k5 : 0 ≤ x5 ∧ x5 ≤ 23999) (k8 : 0 ≤ x8 ∧ x8 ≤ 3) (k11 : 0 ≤ x11 ∧ x11 ≤ 5999) (k12 : 0 ≤ x12 ∧ x12 ≤ 3) (k15 : 0 ≤ x15 ∧ x15 ≤ 23996) (k16 : 0 ≤ x16 ∧ x16 ≤ 23999) (d2 : x8 + 0 ≤ x12 ∧ x12 ≤ x8 + 0) (d5 : x5 + (-4294967296) ≤ x1 ∧ x1 ≤ x5 + 0) (d7 : x1 + (-4294967296) ≤ x5 ∧ x5 ≤ x1 + 0) (f2 : x16 = x15 + x12) (f3 : x15 = 4 * x11) (f8 : x8 = (x1 % 4)) (eu2 : gu = x1) : (-1) * gu + (1 * x1 + 0) ≤ 0 := by
  first
    | omega
    | (have h := ‹BFP _ _ _ _ _›.2.2.1; omega)
set_option maxHeartbeats 4000000 in
theorem vc_Mo_backFrom_19_6 (x2 : Int) (x3 : Int) (barredPoint_0 : Int → Int) (costOf_0 : Int → Int) (bucket_0 : Int → Int) (bucketMany_0 : Int → Int) (wide_0 : Int) (tall_0 : Int) (gx : Int) (gy : Int) (k2 : 0 ≤ x2 ∧ x2 ≤ 1000000) (k3 : 0 ≤ x3 ∧ x3 ≤ 5999) (f5 : RTQ (wide_0) (tall_0) (barredPoint_0) (costOf_0) (bucket_0) (bucketMany_0) (x3) (x2)) (kz_0_146 : (-3999999) ≤ wide_0 ∧ wide_0 ≤ 600000023) (kz_0_147 : (-3999999) ≤ tall_0 ∧ tall_0 ≤ 600000007) (ex2 : gx = x3) (ey2 : gy = x2) : RTQ (wide_0) (tall_0) (barredPoint_0) (costOf_0) (bucket_0) (bucketMany_0) (gx) (gy) := by
  first
    | assumption
    | (rw [ex2, ey2]; assumption)
set_option maxHeartbeats 4000000 in
theorem vc_Mo_backFrom_19_7 (x1 : Int) (x2 : Int) (x3 : Int) (x5 : Int) (x6 : Int) (x8 : Int) (x11 : Int) (x12 : Int) (x15 : Int) (x16 : Int) (x18 : Int) (barredPoint_0 : Int → Int) (costOf_0 : Int → Int) (wide_0 : Int) (tall_0 : Int) (gx : Int) (gy : Int) (gu : Int) (k1 : 0 ≤ x1 ∧ x1 ≤ 23999) (k2 : 0 ≤ x2 ∧ x2 ≤ 1000000) (k3 : 0 ≤ x3 ∧ x3 ≤ 5999) (k5 : 0 ≤ x5 ∧ x5 ≤ 23999) (k6 : 0 ≤ x6 ∧ x6 ≤ 1000000) (k8 : 0 ≤ x8 ∧ x8 ≤ 3) (k11 : 0 ≤ x11 ∧ x11 ≤ 5999) (k12 : 0 ≤ x12 ∧ x12 ≤ 3) (k15 : 0 ≤ x15 ∧ x15 ≤ 23996) (k16 : 0 ≤ x16 ∧ x16 ≤ 23999) (k18 : 1 ≤ x18 ∧ x18 ≤ 1000001) (d0 : x6 + 1 ≤ x18 ∧ x18 ≤ x6 + 1) (d1 : x2 + (-4294967296) ≤ x18 ∧ x18 ≤ x2 + 1) (d2 : x8 + 0 ≤ x12 ∧ x12 ≤ x8 + 0) (d5 : x5 + (-4294967296) ≤ x1 ∧ x1 ≤ x5 + 0) (d6 : x6 + (-4294967296) ≤ x2 ∧ x2 ≤ x6 + 0) (d7 : x1 + (-4294967296) ≤ x5 ∧ x5 ≤ x1 + 0) (f2 : x16 = x15 + x12) (f3 : x15 = 4 * x11) (f6 : PIV (costOf_0) (x1) (x2)) (f7 : BFP (wide_0) (tall_0) (barredPoint_0) (x1) (x11)) (f8 : x8 = (x1 % 4)) (f9 : (0 ≤ x2) ∧ (x2 ≤ 999999)) (kz_0_146 : (-3999999) ≤ wide_0 ∧ wide_0 ≤ 600000023) (kz_0_147 : (-3999999) ≤ tall_0 ∧ tall_0 ≤ 600000007) (ex2 : gx = x3) (ey2 : gy = x2) (eu2 : gu = x1) : RJB (wide_0) (tall_0) (barredPoint_0) (costOf_0) (gx) (gy) (x16) (x18) := by
  rw [ex2, ey2]
  exact rjb_b (p := x11) (f := x12) (d := x8) ‹BFP _ _ _ _ _› ‹PIV _ _ _› (by omega) (by omega) (by omega) (by omega) (by omega) (by omega)
set_option maxHeartbeats 4000000 in
theorem vc_Mo_backFrom_19_8 (x1 : Int) (x2 : Int) (costOf_0 : Int → Int) (gy : Int) (gu : Int) (k1 : 0 ≤ x1 ∧ x1 ≤ 23999) (k2 : 0 ≤ x2 ∧ x2 ≤ 1000000) (f6 : PIV (costOf_0) (x1) (x2)) (ey2 : gy = x2) (eu2 : gu = x1) : PIV (costOf_0) (gu) (gy) := by
  first
    | assumption
    | (rw [eu2, ey2]; assumption)
    | (rw [ey2, eu2]; assumption)
set_option maxHeartbeats 4000000 in
theorem vc_Mo_backFrom_19_9 (x3 : Int) (x8 : Int) (x11 : Int) (x14 : Int) (wide_0 : Int) (tall_0 : Int) (gx : Int) (k3 : 0 ≤ x3 ∧ x3 ≤ 5999) (ex2 : gx = x3) : gx = x3 := by
  first
    | omega
    | (have h := ‹BFP _ _ _ _ _›.2.2.1; omega)
set_option maxHeartbeats 4000000 in
theorem vc_Mo_backFrom_19_10 (x2 : Int) (x8 : Int) (x11 : Int) (x14 : Int) (wide_0 : Int) (tall_0 : Int) (gy : Int) (k2 : 0 ≤ x2 ∧ x2 ≤ 1000000) (ey2 : gy = x2) : gy = x2 := by
  first
    | omega
    | (have h := ‹BFP _ _ _ _ _›.2.2.1; omega)
set_option maxHeartbeats 4000000 in
theorem vc_Mo_backFrom_19_11 (x1 : Int) (x8 : Int) (x11 : Int) (x14 : Int) (wide_0 : Int) (tall_0 : Int) (gu : Int) (k1 : 0 ≤ x1 ∧ x1 ≤ 23999) (eu2 : gu = x1) : gu = x1 := by
  first
    | omega
    | (have h := ‹BFP _ _ _ _ _›.2.2.1; omega)
def o_Mo_backFrom_19 : or_T := (122, 19, [(0, (2, 0, 0, [165])), (1, (0, 0, 23999, [])), (2, (0, 0, 1000000, [])), (3, (0, 0, 5999, [])), (4, (2, 0, 0, [165])), (5, (0, 0, 23999, [])), (6, (0, 0, 1000000, [])), (8, (0, 0, 3, [])), (11, (0, 0, 5999, [])), (12, (0, 0, 3, [])), (13, (0, 4, 4, [])), (14, (0, 4, 4, [])), (15, (0, 0, 23996, [])), (16, (0, 0, 23999, [])), (17, (0, 1, 1, [])), (18, (0, 1, 1000001, []))], [(1, [18, 6, 17], []), (7, [12, 8], [0]), (1, [16, 15, 12], []), (3, [15, 14, 11], []), (7, [12, 13], [2]), (20, [4, 3, 6], [60, 2, 4, 495, 146, 147, 143, 140, 141, 142]), (20, [4, 5, 6], [60, 0, 1, 497, 140]), (20, [4, 5, 11], [60, 2, 1, 500, 146, 147, 143]), (20, [8, 5], [50, 0, 0, 1, 2, 1, 0, 9, 2, 1, 1, 0, 4]), (20, [6], [50, 0, 0, 2, 6, 0, 2, 0, 0, 1, 0, 0, 2, 1, 0, 0, 999999]), (20, [11, 4], [50, 2, 0, 1146, 1147, 2, 6, 0, 2, 0, 0, 1, 0, 0, 6, 4, 2, 1, 0, 0, 1, 6, 3, 2, 1, 146, 2, 1, 147]), (24, [0, 4], []), (24, [1, 5], []), (24, [2, 6], [])], [], [(0, 0, 5999, []), (0, 0, 1000008, []), (0, 0, 23999, [])], [(23, [19, 3], [0, 1, -1]), (23, [19, 3], [0, -1, 1]), (23, [20, 6], [0, 1, -1]), (23, [20, 6], [0, -1, 1]), (23, [21, 5], [0, 1, -1]), (23, [21, 5], [0, -1, 1]), (20, [4, 19, 20], [60, 2, 4, 495, 146, 147, 143, 140, 141, 142]), (20, [4, 19, 20, 16, 18], [60, 2, 2, 498, 146, 147, 143, 140]), (20, [4, 21, 20], [60, 0, 1, 497, 140]), (20, [19, 3], [50, 0, 0, 1, 2, 1, 0, 1, 1]), (20, [20, 6], [50, 0, 0, 1, 2, 1, 0, 1, 1]), (20, [21, 5], [50, 0, 0, 1, 2, 1, 0, 1, 1])], [], [(18, 6, 1, 1), (18, 2, -4294967296, 1), (12, 8, 0, 0), (16, 12, 0, 23996), (16, 15, 0, 3), (1, 5, -4294967296, 0), (2, 6, -4294967296, 0), (5, 1, -4294967296, 0), (6, 2, -4294967296, 0), (8, 11, -4294967296, 2)])
theorem oo_Mo_backFrom_19 {kA : Nat → ClassId} : or_ok PRD kA GG o_Mo_backFrom_19 := by
  refine or_mk fun A ta ws vs hD hth hl => ?_
  intro t0 r0 t1 k1 t2 k2 t3 k3 t4 r4 t5 k5 t6 k6 t8 k8 t11 k11 t12 k12 t13 k13 t14 k14 t15 k15 t16 k16 t17 k17 t18 k18 d0 d1 d2 d3 d4 d5 d6 d7 d8 d9 f0 f1 f2 f3 f4 f5 f6 f7 f8 f9 f10 f11 f12 f13
  replace f2 := shm_12 f2
  replace f3 := shm_38 f3
  rw [show v_iv (n_v vs 14) = 4 from by omega] at f3
  replace f5 := shm_704 f5
  replace f6 := shm_706 f6
  replace f7 := shm_1409 f7
  replace f8 := shm_1410 f8
  replace f9 := shm_1408 f9
  replace f11 := shm_5 f11
  replace f12 := shm_5 f12
  replace f13 := shm_5 f13
  have q4 : n_v vs 4 = n_v vs 0 := f11.symm
  have q5 : n_v vs 5 = n_v vs 1 := f12.symm
  have q6 : n_v vs 6 = n_v vs 2 := f13.symm
  simp only [q6, q4, q5] at f5 f6 f7 f8 f9
  have kz_0_146 := fdq_179 hD hth r0
  have kz_0_147 := fdq_180 hD hth r0
  obtain ⟨x, ex, hx⟩ := iv_ex (ta := ta) (lo := 0) (hi := 5999) (z := v_iv (n_v vs 3)) (by omega) (by omega) (by omega) (by omega)
  have ex2 : v_iv (Value.int x) = v_iv (n_v vs 3) := ex
  have ex3 : 0 ≤ v_iv (Value.int x) ∧ v_iv (Value.int x) ≤ 5999 := tv_rng hx
  obtain ⟨y, ey, hy⟩ := iv_ex (ta := ta) (lo := 0) (hi := 1000008) (z := v_iv (n_v vs 2)) (by omega) (by omega) (by omega) (by omega)
  have ey2 : v_iv (Value.int y) = v_iv (n_v vs 2) := ey
  have ey3 : 0 ≤ v_iv (Value.int y) ∧ v_iv (Value.int y) ≤ 1000008 := tv_rng hy
  obtain ⟨u, eu, hu⟩ := iv_ex (ta := ta) (lo := 0) (hi := 23999) (z := v_iv (n_v vs 1)) (by omega) (by omega) (by omega) (by omega)
  have eu2 : v_iv (Value.int u) = v_iv (n_v vs 1) := eu
  have eu3 : 0 ≤ v_iv (Value.int u) ∧ v_iv (Value.int u) ≤ 23999 := tv_rng hu
  have e_3 : n_v (vs ++ [Value.int x, Value.int y, Value.int u]) 3 = n_v vs 3 := n_v_old (by rw [hl]; decide)
  have e_4 : n_v (vs ++ [Value.int x, Value.int y, Value.int u]) 4 = n_v vs 4 := n_v_old (by rw [hl]; decide)
  have e_5 : n_v (vs ++ [Value.int x, Value.int y, Value.int u]) 5 = n_v vs 5 := n_v_old (by rw [hl]; decide)
  have e_6 : n_v (vs ++ [Value.int x, Value.int y, Value.int u]) 6 = n_v vs 6 := n_v_old (by rw [hl]; decide)
  have e_16 : n_v (vs ++ [Value.int x, Value.int y, Value.int u]) 16 = n_v vs 16 := n_v_old (by rw [hl]; decide)
  have e_18 : n_v (vs ++ [Value.int x, Value.int y, Value.int u]) 18 = n_v vs 18 := n_v_old (by rw [hl]; decide)
  have e_19 : n_v (vs ++ [Value.int x, Value.int y, Value.int u]) 19 = Value.int x := n_v_newk (k := 0) hl rfl
  have e_20 : n_v (vs ++ [Value.int x, Value.int y, Value.int u]) 20 = Value.int y := n_v_newk (k := 1) hl rfl
  have e_21 : n_v (vs ++ [Value.int x, Value.int y, Value.int u]) 21 = Value.int u := n_v_newk (k := 2) hl rfl
  have nf0 : fc_1 PRD (23, [19, 3], [0, 1, -1]) ws (vs ++ [Value.int x, Value.int y, Value.int u]) := by
    refine ⟨nf_inA hl rfl, sgq_7 ?_⟩
    · show 1 * v_iv (n_v (vs ++ [Value.int x, Value.int y, Value.int u]) 19) + ((-1) * v_iv (n_v (vs ++ [Value.int x, Value.int y, Value.int u]) 3) + 0) ≤ 0
      simp only [e_3, e_19]
      exact vc_Mo_backFrom_19_0 (v_iv (n_v vs 3)) (v_iv (n_v vs 8)) (v_iv (n_v vs 11)) (v_iv (n_v vs 14)) (w_fi ws (n_v vs 0) 146) (w_fi ws (n_v vs 0) 147) (v_iv (Value.int x)) k3 ex2
  have nf1 : fc_1 PRD (23, [19, 3], [0, -1, 1]) ws (vs ++ [Value.int x, Value.int y, Value.int u]) := by
    refine ⟨nf_inA hl rfl, sgq_22 ?_⟩
    · show (-1) * v_iv (n_v (vs ++ [Value.int x, Value.int y, Value.int u]) 19) + (1 * v_iv (n_v (vs ++ [Value.int x, Value.int y, Value.int u]) 3) + 0) ≤ 0
      simp only [e_3, e_19]
      exact vc_Mo_backFrom_19_1 (v_iv (n_v vs 3)) (v_iv (n_v vs 8)) (v_iv (n_v vs 11)) (v_iv (n_v vs 14)) (w_fi ws (n_v vs 0) 146) (w_fi ws (n_v vs 0) 147) (v_iv (Value.int x)) k3 ex2
  have nf2 : fc_1 PRD (23, [20, 6], [0, 1, -1]) ws (vs ++ [Value.int x, Value.int y, Value.int u]) := by
    refine ⟨nf_inA hl rfl, sgq_7 ?_⟩
    · show 1 * v_iv (n_v (vs ++ [Value.int x, Value.int y, Value.int u]) 20) + ((-1) * v_iv (n_v (vs ++ [Value.int x, Value.int y, Value.int u]) 6) + 0) ≤ 0
      simp only [e_6, e_20, q6]
      exact vc_Mo_backFrom_19_2 (v_iv (n_v vs 2)) (v_iv (n_v vs 6)) (v_iv (n_v vs 8)) (v_iv (n_v vs 11)) (v_iv (n_v vs 14)) (v_iv (n_v vs 18)) (w_fi ws (n_v vs 0) 146) (w_fi ws (n_v vs 0) 147) (v_iv (Value.int y)) k2 k6 k18 d0 d1 d6 ey2
  have nf3 : fc_1 PRD (23, [20, 6], [0, -1, 1]) ws (vs ++ [Value.int x, Value.int y, Value.int u]) := by
    refine ⟨nf_inA hl rfl, sgq_22 ?_⟩
    · show (-1) * v_iv (n_v (vs ++ [Value.int x, Value.int y, Value.int u]) 20) + (1 * v_iv (n_v (vs ++ [Value.int x, Value.int y, Value.int u]) 6) + 0) ≤ 0
      simp only [e_6, e_20, q6]
      exact vc_Mo_backFrom_19_3 (v_iv (n_v vs 2)) (v_iv (n_v vs 6)) (v_iv (n_v vs 8)) (v_iv (n_v vs 11)) (v_iv (n_v vs 14)) (v_iv (n_v vs 18)) (w_fi ws (n_v vs 0) 146) (w_fi ws (n_v vs 0) 147) (v_iv (Value.int y)) k2 k6 k18 d0 d1 d6 ey2
  have nf4 : fc_1 PRD (23, [21, 5], [0, 1, -1]) ws (vs ++ [Value.int x, Value.int y, Value.int u]) := by
    refine ⟨nf_inA hl rfl, sgq_7 ?_⟩
    · show 1 * v_iv (n_v (vs ++ [Value.int x, Value.int y, Value.int u]) 21) + ((-1) * v_iv (n_v (vs ++ [Value.int x, Value.int y, Value.int u]) 5) + 0) ≤ 0
      simp only [e_5, e_21, q5]
      exact vc_Mo_backFrom_19_4 (v_iv (n_v vs 1)) (v_iv (n_v vs 5)) (v_iv (n_v vs 8)) (v_iv (n_v vs 11)) (v_iv (n_v vs 12)) (v_iv (n_v vs 14)) (v_iv (n_v vs 15)) (v_iv (n_v vs 16)) (w_fi ws (n_v vs 0) 146) (w_fi ws (n_v vs 0) 147) (v_iv (Value.int u)) k1 k5 k8 k11 k12 k15 k16 d2 d5 d7 f2 f3 f8 eu2
  have nf5 : fc_1 PRD (23, [21, 5], [0, -1, 1]) ws (vs ++ [Value.int x, Value.int y, Value.int u]) := by
    refine ⟨nf_inA hl rfl, sgq_22 ?_⟩
    · show (-1) * v_iv (n_v (vs ++ [Value.int x, Value.int y, Value.int u]) 21) + (1 * v_iv (n_v (vs ++ [Value.int x, Value.int y, Value.int u]) 5) + 0) ≤ 0
      simp only [e_5, e_21, q5]
      exact vc_Mo_backFrom_19_5 (v_iv (n_v vs 1)) (v_iv (n_v vs 5)) (v_iv (n_v vs 8)) (v_iv (n_v vs 11)) (v_iv (n_v vs 12)) (v_iv (n_v vs 14)) (v_iv (n_v vs 15)) (v_iv (n_v vs 16)) (w_fi ws (n_v vs 0) 146) (w_fi ws (n_v vs 0) 147) (v_iv (Value.int u)) k1 k5 k8 k11 k12 k15 k16 d2 d5 d7 f2 f3 f8 eu2
  have nf6 : fc_1 PRD (20, [4, 19, 20], [60, 2, 4, 495, 146, 147, 143, 140, 141, 142]) ws (vs ++ [Value.int x, Value.int y, Value.int u]) := by
    refine ⟨nf_inA hl rfl, sgq_704 ?_⟩
    · show RTQ (w_fi ws (n_v (vs ++ [Value.int x, Value.int y, Value.int u]) 4) 146) (w_fi ws (n_v (vs ++ [Value.int x, Value.int y, Value.int u]) 4) 147) (w_ei ws (w_ar ws (n_v (vs ++ [Value.int x, Value.int y, Value.int u]) 4) 143)) (w_ei ws (w_ar ws (n_v (vs ++ [Value.int x, Value.int y, Value.int u]) 4) 140)) (w_ei ws (w_ar ws (n_v (vs ++ [Value.int x, Value.int y, Value.int u]) 4) 141)) (w_ei ws (w_ar ws (n_v (vs ++ [Value.int x, Value.int y, Value.int u]) 4) 142)) (v_iv (n_v (vs ++ [Value.int x, Value.int y, Value.int u]) 19)) (v_iv (n_v (vs ++ [Value.int x, Value.int y, Value.int u]) 20))
      simp only [e_4, e_19, e_20, q4]
      exact vc_Mo_backFrom_19_6 (v_iv (n_v vs 2)) (v_iv (n_v vs 3)) (w_ei ws (w_ar ws (n_v vs 0) 143)) (w_ei ws (w_ar ws (n_v vs 0) 140)) (w_ei ws (w_ar ws (n_v vs 0) 141)) (w_ei ws (w_ar ws (n_v vs 0) 142)) (w_fi ws (n_v vs 0) 146) (w_fi ws (n_v vs 0) 147) (v_iv (Value.int x)) (v_iv (Value.int y)) k2 k3 f5 kz_0_146 kz_0_147 ex2 ey2
  have nf7 : fc_1 PRD (20, [4, 19, 20, 16, 18], [60, 2, 2, 498, 146, 147, 143, 140]) ws (vs ++ [Value.int x, Value.int y, Value.int u]) := by
    refine ⟨nf_inA hl rfl, sgq_705 ?_⟩
    · show RJB (w_fi ws (n_v (vs ++ [Value.int x, Value.int y, Value.int u]) 4) 146) (w_fi ws (n_v (vs ++ [Value.int x, Value.int y, Value.int u]) 4) 147) (w_ei ws (w_ar ws (n_v (vs ++ [Value.int x, Value.int y, Value.int u]) 4) 143)) (w_ei ws (w_ar ws (n_v (vs ++ [Value.int x, Value.int y, Value.int u]) 4) 140)) (v_iv (n_v (vs ++ [Value.int x, Value.int y, Value.int u]) 19)) (v_iv (n_v (vs ++ [Value.int x, Value.int y, Value.int u]) 20)) (v_iv (n_v (vs ++ [Value.int x, Value.int y, Value.int u]) 16)) (v_iv (n_v (vs ++ [Value.int x, Value.int y, Value.int u]) 18))
      simp only [e_4, e_16, e_18, e_19, e_20, q4]
      exact vc_Mo_backFrom_19_7 (v_iv (n_v vs 1)) (v_iv (n_v vs 2)) (v_iv (n_v vs 3)) (v_iv (n_v vs 5)) (v_iv (n_v vs 6)) (v_iv (n_v vs 8)) (v_iv (n_v vs 11)) (v_iv (n_v vs 12)) (v_iv (n_v vs 15)) (v_iv (n_v vs 16)) (v_iv (n_v vs 18)) (w_ei ws (w_ar ws (n_v vs 0) 143)) (w_ei ws (w_ar ws (n_v vs 0) 140)) (w_fi ws (n_v vs 0) 146) (w_fi ws (n_v vs 0) 147) (v_iv (Value.int x)) (v_iv (Value.int y)) (v_iv (Value.int u)) k1 k2 k3 k5 k6 k8 k11 k12 k15 k16 k18 d0 d1 d2 d5 d6 d7 f2 f3 f6 f7 f8 f9 kz_0_146 kz_0_147 ex2 ey2 eu2
  have nf8 : fc_1 PRD (20, [4, 21, 20], [60, 0, 1, 497, 140]) ws (vs ++ [Value.int x, Value.int y, Value.int u]) := by
    refine ⟨nf_inA hl rfl, sgq_706 ?_⟩
    · show PIV (w_ei ws (w_ar ws (n_v (vs ++ [Value.int x, Value.int y, Value.int u]) 4) 140)) (v_iv (n_v (vs ++ [Value.int x, Value.int y, Value.int u]) 21)) (v_iv (n_v (vs ++ [Value.int x, Value.int y, Value.int u]) 20))
      simp only [e_4, e_20, e_21, q4]
      exact vc_Mo_backFrom_19_8 (v_iv (n_v vs 1)) (v_iv (n_v vs 2)) (w_ei ws (w_ar ws (n_v vs 0) 140)) (v_iv (Value.int y)) (v_iv (Value.int u)) k1 k2 f6 ey2 eu2
  have nf9 : fc_1 PRD (20, [19, 3], [50, 0, 0, 1, 2, 1, 0, 1, 1]) ws (vs ++ [Value.int x, Value.int y, Value.int u]) := by
    refine ⟨nf_inA hl rfl, sgq_48 ?_⟩
    · show v_iv (n_v (vs ++ [Value.int x, Value.int y, Value.int u]) 19) = v_iv (n_v (vs ++ [Value.int x, Value.int y, Value.int u]) 3)
      simp only [e_3, e_19]
      exact vc_Mo_backFrom_19_9 (v_iv (n_v vs 3)) (v_iv (n_v vs 8)) (v_iv (n_v vs 11)) (v_iv (n_v vs 14)) (w_fi ws (n_v vs 0) 146) (w_fi ws (n_v vs 0) 147) (v_iv (Value.int x)) k3 ex2
  have nf10 : fc_1 PRD (20, [20, 6], [50, 0, 0, 1, 2, 1, 0, 1, 1]) ws (vs ++ [Value.int x, Value.int y, Value.int u]) := by
    refine ⟨nf_inA hl rfl, sgq_48 ?_⟩
    · show v_iv (n_v (vs ++ [Value.int x, Value.int y, Value.int u]) 20) = v_iv (n_v (vs ++ [Value.int x, Value.int y, Value.int u]) 6)
      simp only [e_6, e_20, q6]
      exact vc_Mo_backFrom_19_10 (v_iv (n_v vs 2)) (v_iv (n_v vs 8)) (v_iv (n_v vs 11)) (v_iv (n_v vs 14)) (w_fi ws (n_v vs 0) 146) (w_fi ws (n_v vs 0) 147) (v_iv (Value.int y)) k2 ey2
  have nf11 : fc_1 PRD (20, [21, 5], [50, 0, 0, 1, 2, 1, 0, 1, 1]) ws (vs ++ [Value.int x, Value.int y, Value.int u]) := by
    refine ⟨nf_inA hl rfl, sgq_48 ?_⟩
    · show v_iv (n_v (vs ++ [Value.int x, Value.int y, Value.int u]) 21) = v_iv (n_v (vs ++ [Value.int x, Value.int y, Value.int u]) 5)
      simp only [e_5, e_21, q5]
      exact vc_Mo_backFrom_19_11 (v_iv (n_v vs 1)) (v_iv (n_v vs 8)) (v_iv (n_v vs 11)) (v_iv (n_v vs 14)) (w_fi ws (n_v vs 0) 146) (w_fi ws (n_v vs 0) 147) (v_iv (Value.int u)) k1 eu2
  exact ⟨(fun _ h => (by cases h)), [Value.int x, Value.int y, Value.int u], ag_three hx hy hu, List.forall_mem_cons.mpr ⟨⟨show (23 : Nat) < 100 from by decide, nf0⟩, List.forall_mem_cons.mpr ⟨⟨show (23 : Nat) < 100 from by decide, nf1⟩, List.forall_mem_cons.mpr ⟨⟨show (23 : Nat) < 100 from by decide, nf2⟩, List.forall_mem_cons.mpr ⟨⟨show (23 : Nat) < 100 from by decide, nf3⟩, List.forall_mem_cons.mpr ⟨⟨show (23 : Nat) < 100 from by decide, nf4⟩, List.forall_mem_cons.mpr ⟨⟨show (23 : Nat) < 100 from by decide, nf5⟩, List.forall_mem_cons.mpr ⟨⟨show (20 : Nat) < 100 from by decide, nf6⟩, List.forall_mem_cons.mpr ⟨⟨show (20 : Nat) < 100 from by decide, nf7⟩, List.forall_mem_cons.mpr ⟨⟨show (20 : Nat) < 100 from by decide, nf8⟩, List.forall_mem_cons.mpr ⟨⟨show (20 : Nat) < 100 from by decide, nf9⟩, List.forall_mem_cons.mpr ⟨⟨show (20 : Nat) < 100 from by decide, nf10⟩, List.forall_mem_cons.mpr ⟨⟨show (20 : Nat) < 100 from by decide, nf11⟩, (fun _ h => (by cases h))⟩⟩⟩⟩⟩⟩⟩⟩⟩⟩⟩⟩, (fun _ h => (by cases h))⟩
set_option maxHeartbeats 4000000 in
theorem vc_Mo_backFrom_20_0 (x2 : Int) (x3 : Int) (x6 : Int) (x18 : Int) (x19 : Int) (x20 : Int) (barredPoint_0 : Int → Int) (wide_0 : Int) (tall_0 : Int) (costOf_0 : Int → Int) (bucket_0 : Int → Int) (bucketMany_0 : Int → Int) (k2 : 0 ≤ x2 ∧ x2 ≤ 1000000) (k3 : 0 ≤ x3 ∧ x3 ≤ 5999) (k6 : 0 ≤ x6 ∧ x6 ≤ 1000000) (k18 : 1 ≤ x18 ∧ x18 ≤ 1000001) (k19 : 0 ≤ x19 ∧ x19 ≤ 5999) (k20 : 0 ≤ x20 ∧ x20 ≤ 1000008) (d2 : x6 + 1 ≤ x18 ∧ x18 ≤ x6 + 1) (d3 : x2 + (-4294967296) ≤ x18 ∧ x18 ≤ x2 + 1) (d8 : x6 + (-4294967296) ≤ x2 ∧ x2 ≤ x6 + 0) (f1 : 1 * x19 + ((-1) * x3 + 0) ≤ 0) (f2 : (-1) * x19 + (1 * x3 + 0) ≤ 0) (f3 : 1 * x20 + ((-1) * x2 + 0) ≤ 0) (f4 : (-1) * x20 + (1 * x2 + 0) ≤ 0) (f17 : RTQ (wide_0) (tall_0) (barredPoint_0) (costOf_0) (bucket_0) (bucketMany_0) (x19) (x20)) (kz_0_146 : (-3999999) ≤ wide_0 ∧ wide_0 ≤ 600000023) (kz_0_147 : (-3999999) ≤ tall_0 ∧ tall_0 ≤ 600000007) : RTQ (wide_0) (tall_0) (barredPoint_0) (costOf_0) (bucket_0) (bucketMany_0) (x3) (x2) := by
  first
    | assumption
    | (rw [show x3 = x19 by omega, show x2 = x20 by omega]; assumption)
set_option maxHeartbeats 4000000 in
theorem vc_Mo_backFrom_20_1 (x1 : Int) (x2 : Int) (x5 : Int) (x6 : Int) (x18 : Int) (x20 : Int) (x21 : Int) (costOf_0 : Int → Int) (k1 : 0 ≤ x1 ∧ x1 ≤ 23999) (k2 : 0 ≤ x2 ∧ x2 ≤ 1000000) (k5 : 0 ≤ x5 ∧ x5 ≤ 23999) (k6 : 0 ≤ x6 ∧ x6 ≤ 1000000) (k18 : 1 ≤ x18 ∧ x18 ≤ 1000001) (k20 : 0 ≤ x20 ∧ x20 ≤ 1000008) (k21 : 0 ≤ x21 ∧ x21 ≤ 23999) (d2 : x6 + 1 ≤ x18 ∧ x18 ≤ x6 + 1) (d3 : x2 + (-4294967296) ≤ x18 ∧ x18 ≤ x2 + 1) (d7 : x5 + (-4294967296) ≤ x1 ∧ x1 ≤ x5 + 0) (d8 : x6 + (-4294967296) ≤ x2 ∧ x2 ≤ x6 + 0) (d9 : x1 + (-4294967296) ≤ x5 ∧ x5 ≤ x1 + 0) (f3 : 1 * x20 + ((-1) * x2 + 0) ≤ 0) (f4 : (-1) * x20 + (1 * x2 + 0) ≤ 0) (f5 : 1 * x21 + ((-1) * x1 + 0) ≤ 0) (f6 : (-1) * x21 + (1 * x1 + 0) ≤ 0) (f18 : PIV (costOf_0) (x21) (x20)) : PIV (costOf_0) (x1) (x2) := by
  first
    | assumption
    | (rw [show x1 = x21 by omega, show x2 = x20 by omega]; assumption)
def o_Mo_backFrom_20 : or_T := (94, 23, [(0, (2, 0, 0, [165])), (1, (0, 0, 23999, [])), (2, (0, 0, 1000000, [])), (3, (0, 0, 5999, [])), (4, (2, 0, 0, [165])), (5, (0, 0, 23999, [])), (6, (0, 0, 1000000, [])), (8, (0, 0, 3, [])), (11, (0, 0, 5999, [])), (12, (0, 0, 3, [])), (13, (0, 4, 4, [])), (14, (0, 4, 4, [])), (15, (0, 0, 23996, [])), (16, (0, 0, 23999, [])), (17, (0, 1, 1, [])), (18, (0, 1, 1000001, [])), (19, (0, 0, 5999, [])), (20, (0, 0, 1000008, [])), (21, (0, 0, 23999, [])), (22, (0, 1, 4, []))], [(6, [22, 12], [1]), (23, [19, 3], [0, 1, -1]), (23, [19, 3], [0, -1, 1]), (23, [20, 6], [0, 1, -1]), (23, [20, 6], [0, -1, 1]), (23, [21, 5], [0, 1, -1]), (23, [21, 5], [0, -1, 1]), (20, [19, 3], [50, 0, 0, 1, 2, 1, 0, 1, 1]), (20, [20, 6], [50, 0, 0, 1, 2, 1, 0, 1, 1]), (20, [21, 5], [50, 0, 0, 1, 2, 1, 0, 1, 1]), (20, [4, 5, 11], [60, 2, 1, 500, 146, 147, 143]), (20, [8, 5], [50, 0, 0, 1, 2, 1, 0, 9, 2, 1, 1, 0, 4]), (20, [6], [50, 0, 0, 2, 6, 0, 2, 0, 0, 1, 0, 0, 2, 1, 0, 0, 999999]), (20, [11, 4], [50, 2, 0, 1146, 1147, 2, 6, 0, 2, 0, 0, 1, 0, 0, 6, 4, 2, 1, 0, 0, 1, 6, 3, 2, 1, 146, 2, 1, 147]), (24, [0, 4], []), (24, [1, 5], []), (24, [2, 6], []), (20, [4, 19, 20], [60, 2, 4, 495, 146, 147, 143, 140, 141, 142]), (20, [4, 21, 20], [60, 0, 1, 497, 140]), (102, [21], [829997695653082488796156820542274923492239250083311563034831962168721313259061248]), (23, [19, 3], [0, 1, -1]), (23, [19, 3], [0, -1, 1]), (23, [20, 6], [0, 1, -1]), (23, [20, 6], [0, -1, 1]), (23, [21, 5], [0, 1, -1]), (23, [21, 5], [0, -1, 1]), (1, [18, 6, 17], []), (7, [12, 8], [0]), (1, [16, 15, 12], []), (3, [15, 14, 11], []), (7, [12, 13], [2])], [], [], [(20, [4, 3, 6], [60, 2, 4, 495, 146, 147, 143, 140, 141, 142]), (20, [4, 5, 6], [60, 0, 1, 497, 140])], [], [(22, 12, 1, 1), (22, 8, 1, 1), (18, 6, 1, 1), (18, 2, -4294967296, 1), (12, 8, 0, 0), (16, 12, 0, 23996), (16, 15, 0, 3), (1, 5, -4294967296, 0), (2, 6, -4294967296, 0), (5, 1, -4294967296, 0), (6, 2, -4294967296, 0), (8, 11, -4294967296, 2)])
theorem oo_Mo_backFrom_20 {kA : Nat → ClassId} : or_ok PRD kA GG o_Mo_backFrom_20 := by
  refine or_mk fun A ta ws vs hD hth hl => ?_
  intro t0 r0 t1 k1 t2 k2 t3 k3 t4 r4 t5 k5 t6 k6 t8 k8 t11 k11 t12 k12 t13 k13 t14 k14 t15 k15 t16 k16 t17 k17 t18 k18 t19 k19 t20 k20 t21 k21 t22 k22 d0 d1 d2 d3 d4 d5 d6 d7 d8 d9 d10 d11 f0 f1 f2 f3 f4 f5 f6 f7 f8 f9 f10 f11 f12 f13 f14 f15 f16 f17 f18 ta1 w1 le1 s1 f20 f21 f22 f23 f24 f25 f26 f27 f28 f29 f30
  replace f1 := shm_7 f1
  replace f2 := shm_22 f2
  replace f3 := shm_7 f3
  replace f4 := shm_22 f4
  replace f5 := shm_7 f5
  replace f6 := shm_22 f6
  replace f14 := shm_5 f14
  replace f15 := shm_5 f15
  replace f16 := shm_5 f16
  replace f17 := shm_704 f17
  replace f18 := shm_706 f18
  have q4 : n_v vs 4 = n_v vs 0 := f14.symm
  have q5 : n_v vs 5 = n_v vs 1 := f15.symm
  have q6 : n_v vs 6 = n_v vs 2 := f16.symm
  simp only [q6, q5, q4] at f3 f4 f5 f6 f17 f18
  have kz_0_146 := fdq_179 hD hth r0
  have kz_0_147 := fdq_180 hD hth r0
  have nf0 : fc_1 PRD (20, [4, 3, 6], [60, 2, 4, 495, 146, 147, 143, 140, 141, 142]) ws (vs) := by
    refine ⟨nf_in hl rfl, sgq_704 ?_⟩
    · show RTQ (w_fi ws (n_v vs 4) 146) (w_fi ws (n_v vs 4) 147) (w_ei ws (w_ar ws (n_v vs 4) 143)) (w_ei ws (w_ar ws (n_v vs 4) 140)) (w_ei ws (w_ar ws (n_v vs 4) 141)) (w_ei ws (w_ar ws (n_v vs 4) 142)) (v_iv (n_v vs 3)) (v_iv (n_v vs 6))
      simp only [q4, q6]
      exact vc_Mo_backFrom_20_0 (v_iv (n_v vs 2)) (v_iv (n_v vs 3)) (v_iv (n_v vs 6)) (v_iv (n_v vs 18)) (v_iv (n_v vs 19)) (v_iv (n_v vs 20)) (w_ei ws (w_ar ws (n_v vs 0) 143)) (w_fi ws (n_v vs 0) 146) (w_fi ws (n_v vs 0) 147) (w_ei ws (w_ar ws (n_v vs 0) 140)) (w_ei ws (w_ar ws (n_v vs 0) 141)) (w_ei ws (w_ar ws (n_v vs 0) 142)) k2 k3 k6 k18 k19 k20 d2 d3 d8 f1 f2 f3 f4 f17 kz_0_146 kz_0_147
  have nf1 : fc_1 PRD (20, [4, 5, 6], [60, 0, 1, 497, 140]) ws (vs) := by
    refine ⟨nf_in hl rfl, sgq_706 ?_⟩
    · show PIV (w_ei ws (w_ar ws (n_v vs 4) 140)) (v_iv (n_v vs 5)) (v_iv (n_v vs 6))
      simp only [q4, q5, q6]
      exact vc_Mo_backFrom_20_1 (v_iv (n_v vs 1)) (v_iv (n_v vs 2)) (v_iv (n_v vs 5)) (v_iv (n_v vs 6)) (v_iv (n_v vs 18)) (v_iv (n_v vs 20)) (v_iv (n_v vs 21)) (w_ei ws (w_ar ws (n_v vs 0) 140)) k1 k2 k5 k6 k18 k20 k21 d2 d3 d7 d8 d9 f3 f4 f5 f6 f18
  refine ⟨(fun _ h => (by cases h)), [], trivial, ?_, (fun _ h => (by cases h))⟩
  rw [List.append_nil]
  exact List.forall_mem_cons.mpr ⟨⟨show (20 : Nat) < 100 from by decide, nf0⟩, List.forall_mem_cons.mpr ⟨⟨show (20 : Nat) < 100 from by decide, nf1⟩, (fun _ h => (by cases h))⟩⟩

def n_Mo_backFrom_an : List an_T := [(94, [(0, (2, 0, 0, [165])), (1, (0, 0, 23999, [])), (2, (0, 0, 1000000, [])), (3, (0, 0, 5999, [])), (4, (0, 0, 3, [])), (5, (0, 0, 5999, [])), (6, (0, 0, 5999, [])), (7, (0, 0, 5999, [])), (8, (0, 0, 4, []))], [], (0, 0), [(0, 0, 99906), (1, 12, 4), (0, 0, 100000)], [(1, 5, (Int.negSucc 999999999999), 0), (2, 6, (Int.negSucc 999999999999), 0), (5, 1, (Int.negSucc 999999999999), 0), (6, 2, (Int.negSucc 999999999999), 0), (8, 10, (Int.negSucc 999999999999), 2), (8, 11, (Int.negSucc 999999999999), 2), (9, 8, (Int.negSucc 999999999999), 5998), (9, 11, (Int.negSucc 999999999999), 0)], [], [(2, 0, 0, [165]), (0, 0, 23999, []), (0, 0, 1000000, []), (0, 0, 5999, [])], 0, [], [(20, [4, 3, 6], [60, 2, 4, 495, 146, 147, 143, 140, 141, 142]), (20, [4, 5, 6], [60, 0, 1, 497, 140]), (20, [4, 5, 11], [60, 2, 1, 500, 146, 147, 143]), (20, [8, 5], [50, 0, 0, 1, 2, 1, 0, 9, 2, 1, 1, 0, 4]), (20, [6], [50, 0, 0, 2, 6, 0, 2, 0, 0, 1, 0, 0, 2, 1, 0, 0, 999999]), (20, [11, 4], [50, 2, 0, 1146, 1147, 2, 6, 0, 2, 0, 0, 1, 0, 0, 6, 4, 2, 1, 0, 0, 1, 6, 3, 2, 1, 146, 2, 1, 147]), (24, [0, 4], []), (24, [1, 5], []), (24, [2, 6], [])])]
def t_Mo_backFrom_ct : ct_L := [(0, 387, e_Mo_in), (0, 1064, e_Mo_dx), (0, 1067, e_Mo_dy), (370, 1070, e_Mo_reached_at_gb)]
set_option maxRecDepth 100000 in
theorem c_Mo_backFrom {l : Launch} {D : va_G} {kA : Nat → ClassId} (h_Mo_dx : ct_ok PRD l D kA GG y_Mo_dx z_Mo_dx e_Mo_dx) (h_Mo_dy : ct_ok PRD l D kA GG y_Mo_dy z_Mo_dy e_Mo_dy) (h_Mo_in : ct_ok PRD l D kA GG y_Mo_in z_Mo_in e_Mo_in) (h_Mo_reached_at_gb : ct_ok PRD l D kA GG y_Mo_reached_at_gb z_Mo_reached_at_gb e_Mo_reached_at_gb) : ct_ok PRD l D kA GG y_Mo_backFrom z_Mo_backFrom e_Mo_backFrom := chk_all_ok (FT := [(327, 13, 143), (1043, 13, 146), (1046, 13, 147)]) (PT := []) (CT := t_Mo_backFrom_ct) (KT := []) (NT := []) (AN := n_Mo_backFrom_an) (OT := [o_Mo_backFrom_0, o_Mo_backFrom_1, o_Mo_backFrom_2, o_Mo_backFrom_3, o_Mo_backFrom_4, o_Mo_backFrom_5, o_Mo_backFrom_6, o_Mo_backFrom_7, o_Mo_backFrom_8, o_Mo_backFrom_9, o_Mo_backFrom_10, o_Mo_backFrom_11, o_Mo_backFrom_12, o_Mo_backFrom_13, o_Mo_backFrom_14, o_Mo_backFrom_15, o_Mo_backFrom_16, o_Mo_backFrom_17, o_Mo_backFrom_18, o_Mo_backFrom_19, o_Mo_backFrom_20]) 3 1008 (List.forall_mem_cons.mpr ⟨oo_Mo_backFrom_0, List.forall_mem_cons.mpr ⟨oo_Mo_backFrom_1, List.forall_mem_cons.mpr ⟨oo_Mo_backFrom_2, List.forall_mem_cons.mpr ⟨oo_Mo_backFrom_3, List.forall_mem_cons.mpr ⟨oo_Mo_backFrom_4, List.forall_mem_cons.mpr ⟨oo_Mo_backFrom_5, List.forall_mem_cons.mpr ⟨oo_Mo_backFrom_6, List.forall_mem_cons.mpr ⟨oo_Mo_backFrom_7, List.forall_mem_cons.mpr ⟨oo_Mo_backFrom_8, List.forall_mem_cons.mpr ⟨oo_Mo_backFrom_9, List.forall_mem_cons.mpr ⟨oo_Mo_backFrom_10, List.forall_mem_cons.mpr ⟨oo_Mo_backFrom_11, List.forall_mem_cons.mpr ⟨oo_Mo_backFrom_12, List.forall_mem_cons.mpr ⟨oo_Mo_backFrom_13, List.forall_mem_cons.mpr ⟨oo_Mo_backFrom_14, List.forall_mem_cons.mpr ⟨oo_Mo_backFrom_15, List.forall_mem_cons.mpr ⟨oo_Mo_backFrom_16, List.forall_mem_cons.mpr ⟨oo_Mo_backFrom_17, List.forall_mem_cons.mpr ⟨oo_Mo_backFrom_18, List.forall_mem_cons.mpr ⟨oo_Mo_backFrom_19, List.forall_mem_cons.mpr ⟨oo_Mo_backFrom_20, List.forall_mem_nil _⟩⟩⟩⟩⟩⟩⟩⟩⟩⟩⟩⟩⟩⟩⟩⟩⟩⟩⟩⟩⟩) (by decide +kernel) ⟨List.forall_mem_cons.mpr ⟨gf_Mo_327, List.forall_mem_cons.mpr ⟨gf_Mo_1043, List.forall_mem_cons.mpr ⟨gf_Mo_1046, List.forall_mem_nil _⟩⟩⟩, List.forall_mem_nil _, List.forall_mem_cons.mpr ⟨cl_static (y := y_Mo_in) h_Mo_in wm_2971 wm_9 wm_2969 wm_2970 ⟨by decide, by decide, by decide +kernel⟩ (by decide), List.forall_mem_cons.mpr ⟨cl_static (y := y_Mo_dx) h_Mo_dx wm_3703 wm_9 wm_3701 wm_3702 ⟨by decide, by decide, by decide +kernel⟩ (by decide), List.forall_mem_cons.mpr ⟨cl_static (y := y_Mo_dy) h_Mo_dy wm_3706 wm_9 wm_3704 wm_3705 ⟨by decide, by decide, by decide +kernel⟩ (by decide), List.forall_mem_cons.mpr ⟨cl_virtual (y := y_Mo_reached_at_gb) (ci := 13) rfl rfl ⟨_, _, rfl⟩ (by decide +kernel) h_Mo_reached_at_gb wm_3696 wm_9 wm_3693 wm_3695 wv_22_3 ⟨by decide, by decide, by decide +kernel⟩ (by decide), List.forall_mem_nil _⟩⟩⟩⟩, List.forall_mem_nil _, List.forall_mem_nil _, GG_pl⟩ (by decide +kernel)
set_option maxHeartbeats 4000000 in
theorem vc_Mo_becomes_at_k219_k0_0_0 (all_0 : Int → Int) (now_0 : Int → Int) (latest_0 : Int → Int) (r_0 : Int) (f0 : RWS (r_0) (all_0) (now_0) (latest_0)) : ROWS (all_0) (now_0) (latest_0) := by
  exact ‹RWS _ _ _ _›.1
def o_Mo_becomes_at_k219_k0_0 : or_T := (5, 7, [], [(20, [0], [60, 1, 3, 199, 5, 2, 3, 4])], [], [], [(20, [0], [60, 0, 3, 198, 2, 3, 4])], [], [])
theorem oo_Mo_becomes_at_k219_k0_0 {kA : Nat → ClassId} : or_ok PRD kA GG o_Mo_becomes_at_k219_k0_0 := by
  refine or_mk fun A ta ws vs hD hth hl => ?_
  intro f0
  have nf0 : fc_1 PRD (20, [0], [60, 0, 3, 198, 2, 3, 4]) ws (vs) := ⟨nf_in hl rfl, sgq_1230 (vc_Mo_becomes_at_k219_k0_0_0 (w_ei ws (w_ar ws (n_v vs 0) 2)) (w_ei ws (w_ar ws (n_v vs 0) 3)) (w_ei ws (w_ar ws (n_v vs 0) 4)) (w_fi ws (n_v vs 0) 5) (shm_980 f0))⟩
  refine ⟨(fun _ h => (by cases h)), [], trivial, ?_, (fun _ h => (by cases h))⟩
  rw [List.append_nil]
  exact List.forall_mem_cons.mpr ⟨⟨show (20 : Nat) < 100 from by decide, nf0⟩, (fun _ h => (by cases h))⟩
def n_Mo_becomes_at_k219_k0_an : List an_T := []
def t_Mo_becomes_at_k219_k0_ct : ct_L := []
set_option maxRecDepth 100000 in
theorem c_Mo_becomes_at_k219_k0 {l : Launch} {D : va_G} {kA : Nat → ClassId} : ct_ok PRD l D kA GG y_Mo_becomes_at_k219_k0 z_Mo_becomes_at_k219_k0 e_Mo_becomes_at_k219_k0 := chk_all_ok (FT := [(16, 13, 2), (391, 13, 5)]) (PT := []) (CT := t_Mo_becomes_at_k219_k0_ct) (KT := []) (NT := []) (AN := n_Mo_becomes_at_k219_k0_an) (OT := [o_Mo_becomes_at_k219_k0_0]) 0 200 (List.forall_mem_cons.mpr ⟨oo_Mo_becomes_at_k219_k0_0, List.forall_mem_nil _⟩) (by decide +kernel) ⟨List.forall_mem_cons.mpr ⟨gf_Mo_16, List.forall_mem_cons.mpr ⟨gf_Mo_391, List.forall_mem_nil _⟩⟩, List.forall_mem_nil _, List.forall_mem_nil _, List.forall_mem_nil _, List.forall_mem_nil _, GG_pl⟩ (by decide +kernel)
set_option maxHeartbeats 4000000 in
theorem vc_Mo_becomes_at_k219_k1_0_0 (x1 : Int) (x4 : Int) (x5 : Int) (x7 : Int) (x8 : Int) (x9 : Int) (now_0 : Int → Int) (r_0 : Int) (r_1 : Int) (all_1 : Int → Int) (now_1 : Int → Int) (latest_1 : Int → Int) (all_0 : Int → Int) (latest_0 : Int → Int) (k1 : 0 ≤ x1 ∧ x1 ≤ 3) (k4 : 0 ≤ x4 ∧ x4 ≤ 23) (k5 : 1 ≤ x5 ∧ x5 ≤ 99) (k7 : 0 ≤ x7 ∧ x7 ≤ 66297) (k8 : 219 ≤ x8 ∧ x8 ≤ 66516) (k9 : 219 ≤ x9 ∧ x9 ≤ 66539) (d3 : x7 + 219 ≤ x8 ∧ x8 ≤ x7 + 219) (f0 : r_0 = ((16709 * x1) + (539 * now_0 (x1)))) (f2 : x9 = x8 + x4) (g4 : x7 = r_1) (f6 : RWS (r_1) (all_1) (now_1) (latest_1)) (fe_0_5_1 : r_0 = r_1) (hE_0_2_1 : ∀ j : Int, 0 ≤ j → (j = x9 → all_0 j = x5) ∧ (j ≠ x9 → all_0 j = all_1 j)) (hE_0_3_1 : ∀ j : Int, now_0 j = now_1 j) (hE_0_4_1 : ∀ j : Int, latest_0 j = latest_1 j) : ROWS (all_0) (now_0) (latest_0) := by
  subst fe_0_5_1
  have e_hE_0_3_1 := funext hE_0_3_1; subst e_hE_0_3_1
  have e_hE_0_4_1 := funext hE_0_4_1; subst e_hE_0_4_1
  first
    | exact (rws_off ‹RWS _ _ _ _› (by assumption) (by omega)).1
def o_Mo_becomes_at_k219_k1_0 : or_T := (28, 11, [(0, (2, 0, 0, [165])), (1, (0, 0, 3, [])), (4, (0, 0, 23, [])), (5, (0, 1, 99, [])), (6, (2, 0, 0, [167])), (7, (0, 0, 66297, [])), (8, (0, 219, 66516, [])), (9, (0, 219, 66539, []))], [(20, [0, 1], [50, 1, 1, 5, 3, 1, 3, 2, 0, 5, 4, 6, 6, 2, 0, 16709, 1, 1, 6, 2, 0, 539, 3, 0, 3, 1, 1]), (100, [6, 9, 5], []), (1, [9, 8, 4], []), (9, [7, 0], [5]), (9, [6, 0], [2]), (20, [0], [60, 1, 3, 199, 5, 2, 3, 4])], [], [], [(20, [0], [60, 0, 3, 198, 2, 3, 4])], [], [(9, 4, 219, 66516), (9, 8, 0, 23), (9, 7, 219, 242), (8, 7, 219, 219)])
theorem oo_Mo_becomes_at_k219_k1_0 {kA : Nat → ClassId} : or_ok PRD kA GG o_Mo_becomes_at_k219_k1_0 := by
  refine or_mk fun A ta ws vs hD hth hl => ?_
  intro t0 r0 t1 k1 t4 k4 t5 k5 t6 r6 t7 k7 t8 k8 t9 k9 d0 d1 d2 d3 f0 ta1 w1 le1 s1 f2 f4 f5 f6
  have s1 : (∀ b j, w_el ws b j = if b = v_ad (n_v vs 6) ∧ j = (v_iv (n_v vs 9)).toNat then v_iv (n_v vs 5) else w_el w1 b j) ∧ ∀ b k, w_fd ws b k = w_fd w1 b k := s1.2
  replace f4 := shm_110 f4
  replace f5 := shm_120 f5
  replace f6 := shm_980 f6
  have ar_0_2_1 : w_ar w1 (n_v vs 0) 2 = w_ar ws (n_v vs 0) 2 := congrArg v_ad (s1.2 _ _).symm
  have ar_0_3_1 : w_ar w1 (n_v vs 0) 3 = w_ar ws (n_v vs 0) 3 := congrArg v_ad (s1.2 _ _).symm
  have cr_0_3 := fdq_142 hD hth r0
  have ar_0_4_1 : w_ar w1 (n_v vs 0) 4 = w_ar ws (n_v vs 0) 4 := congrArg v_ad (s1.2 _ _).symm
  have cr_0_4 := fdq_143 hD hth r0
  have ad_6 : v_ad (n_v vs 6) = w_ar ws (n_v vs 0) 2 := (congrArg v_ad f5).trans ar_0_2_1
  have g4 : v_iv (n_v vs 7) = w_fi w1 (n_v vs 0) 5 := congrArg v_iv f4
  simp only [ar_0_2_1, ar_0_3_1, ar_0_4_1] at f6
  have fe_0_5_1 : w_fi ws (n_v vs 0) 5 = w_fi w1 (n_v vs 0) 5 := congrArg v_iv (s1.2 _ _)
  have hE_0_2_1 : ∀ j : Int, 0 ≤ j → (j = v_iv (n_v vs 9) → w_ei ws (w_ar ws (n_v vs 0) 2) j = v_iv (n_v vs 5)) ∧ (j ≠ v_iv (n_v vs 9) → w_ei ws (w_ar ws (n_v vs 0) 2) j = w_ei w1 (w_ar ws (n_v vs 0) 2) j) := fun j hj => ⟨fun h => by unfold w_ei; rw [s1.1, if_pos ⟨ad_6.symm, by rw [h]⟩], fun h => by unfold w_ei; rw [s1.1, if_neg (fun e => h (by have := e.2; omega))]⟩
  have hE_0_3_1 : ∀ j : Int, w_ei ws (w_ar ws (n_v vs 0) 3) j = w_ei w1 (w_ar ws (n_v vs 0) 3) j := el_kp s1.1 r6 cr_0_3 (by decide)
  have hE_0_4_1 : ∀ j : Int, w_ei ws (w_ar ws (n_v vs 0) 4) j = w_ei w1 (w_ar ws (n_v vs 0) 4) j := el_kp s1.1 r6 cr_0_4 (by decide)
  have nf0 : fc_1 PRD (20, [0], [60, 0, 3, 198, 2, 3, 4]) ws (vs) := ⟨nf_in hl rfl, sgq_1230 (vc_Mo_becomes_at_k219_k1_0_0 (v_iv (n_v vs 1)) (v_iv (n_v vs 4)) (v_iv (n_v vs 5)) (v_iv (n_v vs 7)) (v_iv (n_v vs 8)) (v_iv (n_v vs 9)) (w_ei ws (w_ar ws (n_v vs 0) 3)) (w_fi ws (n_v vs 0) 5) (w_fi w1 (n_v vs 0) 5) (w_ei w1 (w_ar ws (n_v vs 0) 2)) (w_ei w1 (w_ar ws (n_v vs 0) 3)) (w_ei w1 (w_ar ws (n_v vs 0) 4)) (w_ei ws (w_ar ws (n_v vs 0) 2)) (w_ei ws (w_ar ws (n_v vs 0) 4)) k1 k4 k5 k7 k8 k9 d3 (shm_1037 f0) (shm_12 f2) g4 f6 fe_0_5_1 hE_0_2_1 hE_0_3_1 hE_0_4_1)⟩
  refine ⟨(fun _ h => (by cases h)), [], trivial, ?_, (fun _ h => (by cases h))⟩
  rw [List.append_nil]
  exact List.forall_mem_cons.mpr ⟨⟨show (20 : Nat) < 100 from by decide, nf0⟩, (fun _ h => (by cases h))⟩
def n_Mo_becomes_at_k219_k1_an : List an_T := []
def t_Mo_becomes_at_k219_k1_ct : ct_L := [(28, 533, e_Mo_step_at_gx)]
set_option maxRecDepth 100000 in
theorem c_Mo_becomes_at_k219_k1 {l : Launch} {D : va_G} {kA : Nat → ClassId} (h_Mo_step_at_gx : ct_ok PRD l D kA GG y_Mo_step_at_gx z_Mo_step_at_gx e_Mo_step_at_gx) : ct_ok PRD l D kA GG y_Mo_becomes_at_k219_k1 z_Mo_becomes_at_k219_k1 e_Mo_becomes_at_k219_k1 := chk_all_ok (FT := [(16, 13, 2), (391, 13, 5)]) (PT := []) (CT := t_Mo_becomes_at_k219_k1_ct) (KT := []) (NT := []) (AN := n_Mo_becomes_at_k219_k1_an) (OT := [o_Mo_becomes_at_k219_k1_0]) 0 200 (List.forall_mem_cons.mpr ⟨oo_Mo_becomes_at_k219_k1_0, List.forall_mem_nil _⟩) (by decide +kernel) ⟨List.forall_mem_cons.mpr ⟨gf_Mo_16, List.forall_mem_cons.mpr ⟨gf_Mo_391, List.forall_mem_nil _⟩⟩, List.forall_mem_nil _, List.forall_mem_cons.mpr ⟨cl_virtual (y := y_Mo_step_at_gx) (ci := 13) rfl rfl ⟨_, _, rfl⟩ (by decide +kernel) h_Mo_step_at_gx wm_3099 wm_9 wm_3096 wm_3098 wv_14_4 ⟨by decide, by decide, by decide +kernel⟩ (by decide), List.forall_mem_nil _⟩, List.forall_mem_nil _, List.forall_mem_nil _, GG_pl⟩ (by decide +kernel)
set_option maxHeartbeats 4000000 in
theorem vc_Mo_becomes_at_k243_k0_0_0 (all_0 : Int → Int) (now_0 : Int → Int) (latest_0 : Int → Int) (r_0 : Int) (f0 : RWS (r_0) (all_0) (now_0) (latest_0)) : ROWS (all_0) (now_0) (latest_0) := by
  exact ‹RWS _ _ _ _›.1
def o_Mo_becomes_at_k243_k0_0 : or_T := (5, 7, [], [(20, [0], [60, 1, 3, 199, 5, 2, 3, 4])], [], [], [(20, [0], [60, 0, 3, 198, 2, 3, 4])], [], [])
theorem oo_Mo_becomes_at_k243_k0_0 {kA : Nat → ClassId} : or_ok PRD kA GG o_Mo_becomes_at_k243_k0_0 := by
  refine or_mk fun A ta ws vs hD hth hl => ?_
  intro f0
  have nf0 : fc_1 PRD (20, [0], [60, 0, 3, 198, 2, 3, 4]) ws (vs) := ⟨nf_in hl rfl, sgq_1230 (vc_Mo_becomes_at_k243_k0_0_0 (w_ei ws (w_ar ws (n_v vs 0) 2)) (w_ei ws (w_ar ws (n_v vs 0) 3)) (w_ei ws (w_ar ws (n_v vs 0) 4)) (w_fi ws (n_v vs 0) 5) (shm_980 f0))⟩
  refine ⟨(fun _ h => (by cases h)), [], trivial, ?_, (fun _ h => (by cases h))⟩
  rw [List.append_nil]
  exact List.forall_mem_cons.mpr ⟨⟨show (20 : Nat) < 100 from by decide, nf0⟩, (fun _ h => (by cases h))⟩
def n_Mo_becomes_at_k243_k0_an : List an_T := []
def t_Mo_becomes_at_k243_k0_ct : ct_L := []
set_option maxRecDepth 100000 in
theorem c_Mo_becomes_at_k243_k0 {l : Launch} {D : va_G} {kA : Nat → ClassId} : ct_ok PRD l D kA GG y_Mo_becomes_at_k243_k0 z_Mo_becomes_at_k243_k0 e_Mo_becomes_at_k243_k0 := chk_all_ok (FT := [(16, 13, 2), (391, 13, 5)]) (PT := []) (CT := t_Mo_becomes_at_k243_k0_ct) (KT := []) (NT := []) (AN := n_Mo_becomes_at_k243_k0_an) (OT := [o_Mo_becomes_at_k243_k0_0]) 0 200 (List.forall_mem_cons.mpr ⟨oo_Mo_becomes_at_k243_k0_0, List.forall_mem_nil _⟩) (by decide +kernel) ⟨List.forall_mem_cons.mpr ⟨gf_Mo_16, List.forall_mem_cons.mpr ⟨gf_Mo_391, List.forall_mem_nil _⟩⟩, List.forall_mem_nil _, List.forall_mem_nil _, List.forall_mem_nil _, List.forall_mem_nil _, GG_pl⟩ (by decide +kernel)
set_option maxHeartbeats 4000000 in
theorem vc_Mo_becomes_at_k243_k1_0_0 (x1 : Int) (x4 : Int) (x5 : Int) (x7 : Int) (x8 : Int) (x9 : Int) (now_0 : Int → Int) (r_0 : Int) (r_1 : Int) (all_1 : Int → Int) (now_1 : Int → Int) (latest_1 : Int → Int) (all_0 : Int → Int) (latest_0 : Int → Int) (k1 : 0 ≤ x1 ∧ x1 ≤ 3) (k4 : 0 ≤ x4 ∧ x4 ≤ 23) (k5 : 0 ≤ x5 ∧ x5 ≤ 7) (k7 : 0 ≤ x7 ∧ x7 ≤ 66297) (k8 : 243 ≤ x8 ∧ x8 ≤ 66540) (k9 : 243 ≤ x9 ∧ x9 ≤ 66563) (d3 : x7 + 243 ≤ x8 ∧ x8 ≤ x7 + 243) (f0 : r_0 = ((16709 * x1) + (539 * now_0 (x1)))) (f2 : x9 = x8 + x4) (g4 : x7 = r_1) (f6 : RWS (r_1) (all_1) (now_1) (latest_1)) (fe_0_5_1 : r_0 = r_1) (hE_0_2_1 : ∀ j : Int, 0 ≤ j → (j = x9 → all_0 j = x5) ∧ (j ≠ x9 → all_0 j = all_1 j)) (hE_0_3_1 : ∀ j : Int, now_0 j = now_1 j) (hE_0_4_1 : ∀ j : Int, latest_0 j = latest_1 j) : ROWS (all_0) (now_0) (latest_0) := by
  subst fe_0_5_1
  have e_hE_0_3_1 := funext hE_0_3_1; subst e_hE_0_3_1
  have e_hE_0_4_1 := funext hE_0_4_1; subst e_hE_0_4_1
  first
    | exact (rws_off ‹RWS _ _ _ _› (by assumption) (by omega)).1
def o_Mo_becomes_at_k243_k1_0 : or_T := (28, 11, [(0, (2, 0, 0, [165])), (1, (0, 0, 3, [])), (4, (0, 0, 23, [])), (5, (0, 0, 7, [])), (6, (2, 0, 0, [167])), (7, (0, 0, 66297, [])), (8, (0, 243, 66540, [])), (9, (0, 243, 66563, []))], [(20, [0, 1], [50, 1, 1, 5, 3, 1, 3, 2, 0, 5, 4, 6, 6, 2, 0, 16709, 1, 1, 6, 2, 0, 539, 3, 0, 3, 1, 1]), (100, [6, 9, 5], []), (1, [9, 8, 4], []), (9, [7, 0], [5]), (9, [6, 0], [2]), (20, [0], [60, 1, 3, 199, 5, 2, 3, 4])], [], [], [(20, [0], [60, 0, 3, 198, 2, 3, 4])], [], [(9, 4, 243, 66540), (9, 8, 0, 23), (9, 7, 243, 266), (8, 7, 243, 243)])
theorem oo_Mo_becomes_at_k243_k1_0 {kA : Nat → ClassId} : or_ok PRD kA GG o_Mo_becomes_at_k243_k1_0 := by
  refine or_mk fun A ta ws vs hD hth hl => ?_
  intro t0 r0 t1 k1 t4 k4 t5 k5 t6 r6 t7 k7 t8 k8 t9 k9 d0 d1 d2 d3 f0 ta1 w1 le1 s1 f2 f4 f5 f6
  have s1 : (∀ b j, w_el ws b j = if b = v_ad (n_v vs 6) ∧ j = (v_iv (n_v vs 9)).toNat then v_iv (n_v vs 5) else w_el w1 b j) ∧ ∀ b k, w_fd ws b k = w_fd w1 b k := s1.2
  replace f4 := shm_110 f4
  replace f5 := shm_120 f5
  replace f6 := shm_980 f6
  have ar_0_2_1 : w_ar w1 (n_v vs 0) 2 = w_ar ws (n_v vs 0) 2 := congrArg v_ad (s1.2 _ _).symm
  have ar_0_3_1 : w_ar w1 (n_v vs 0) 3 = w_ar ws (n_v vs 0) 3 := congrArg v_ad (s1.2 _ _).symm
  have cr_0_3 := fdq_142 hD hth r0
  have ar_0_4_1 : w_ar w1 (n_v vs 0) 4 = w_ar ws (n_v vs 0) 4 := congrArg v_ad (s1.2 _ _).symm
  have cr_0_4 := fdq_143 hD hth r0
  have ad_6 : v_ad (n_v vs 6) = w_ar ws (n_v vs 0) 2 := (congrArg v_ad f5).trans ar_0_2_1
  have g4 : v_iv (n_v vs 7) = w_fi w1 (n_v vs 0) 5 := congrArg v_iv f4
  simp only [ar_0_2_1, ar_0_3_1, ar_0_4_1] at f6
  have fe_0_5_1 : w_fi ws (n_v vs 0) 5 = w_fi w1 (n_v vs 0) 5 := congrArg v_iv (s1.2 _ _)
  have hE_0_2_1 : ∀ j : Int, 0 ≤ j → (j = v_iv (n_v vs 9) → w_ei ws (w_ar ws (n_v vs 0) 2) j = v_iv (n_v vs 5)) ∧ (j ≠ v_iv (n_v vs 9) → w_ei ws (w_ar ws (n_v vs 0) 2) j = w_ei w1 (w_ar ws (n_v vs 0) 2) j) := fun j hj => ⟨fun h => by unfold w_ei; rw [s1.1, if_pos ⟨ad_6.symm, by rw [h]⟩], fun h => by unfold w_ei; rw [s1.1, if_neg (fun e => h (by have := e.2; omega))]⟩
  have hE_0_3_1 : ∀ j : Int, w_ei ws (w_ar ws (n_v vs 0) 3) j = w_ei w1 (w_ar ws (n_v vs 0) 3) j := el_kp s1.1 r6 cr_0_3 (by decide)
  have hE_0_4_1 : ∀ j : Int, w_ei ws (w_ar ws (n_v vs 0) 4) j = w_ei w1 (w_ar ws (n_v vs 0) 4) j := el_kp s1.1 r6 cr_0_4 (by decide)
  have nf0 : fc_1 PRD (20, [0], [60, 0, 3, 198, 2, 3, 4]) ws (vs) := ⟨nf_in hl rfl, sgq_1230 (vc_Mo_becomes_at_k243_k1_0_0 (v_iv (n_v vs 1)) (v_iv (n_v vs 4)) (v_iv (n_v vs 5)) (v_iv (n_v vs 7)) (v_iv (n_v vs 8)) (v_iv (n_v vs 9)) (w_ei ws (w_ar ws (n_v vs 0) 3)) (w_fi ws (n_v vs 0) 5) (w_fi w1 (n_v vs 0) 5) (w_ei w1 (w_ar ws (n_v vs 0) 2)) (w_ei w1 (w_ar ws (n_v vs 0) 3)) (w_ei w1 (w_ar ws (n_v vs 0) 4)) (w_ei ws (w_ar ws (n_v vs 0) 2)) (w_ei ws (w_ar ws (n_v vs 0) 4)) k1 k4 k5 k7 k8 k9 d3 (shm_1037 f0) (shm_12 f2) g4 f6 fe_0_5_1 hE_0_2_1 hE_0_3_1 hE_0_4_1)⟩
  refine ⟨(fun _ h => (by cases h)), [], trivial, ?_, (fun _ h => (by cases h))⟩
  rw [List.append_nil]
  exact List.forall_mem_cons.mpr ⟨⟨show (20 : Nat) < 100 from by decide, nf0⟩, (fun _ h => (by cases h))⟩
def n_Mo_becomes_at_k243_k1_an : List an_T := []
def t_Mo_becomes_at_k243_k1_ct : ct_L := [(28, 533, e_Mo_step_at_gx)]
set_option maxRecDepth 100000 in
theorem c_Mo_becomes_at_k243_k1 {l : Launch} {D : va_G} {kA : Nat → ClassId} (h_Mo_step_at_gx : ct_ok PRD l D kA GG y_Mo_step_at_gx z_Mo_step_at_gx e_Mo_step_at_gx) : ct_ok PRD l D kA GG y_Mo_becomes_at_k243_k1 z_Mo_becomes_at_k243_k1 e_Mo_becomes_at_k243_k1 := chk_all_ok (FT := [(16, 13, 2), (391, 13, 5)]) (PT := []) (CT := t_Mo_becomes_at_k243_k1_ct) (KT := []) (NT := []) (AN := n_Mo_becomes_at_k243_k1_an) (OT := [o_Mo_becomes_at_k243_k1_0]) 0 200 (List.forall_mem_cons.mpr ⟨oo_Mo_becomes_at_k243_k1_0, List.forall_mem_nil _⟩) (by decide +kernel) ⟨List.forall_mem_cons.mpr ⟨gf_Mo_16, List.forall_mem_cons.mpr ⟨gf_Mo_391, List.forall_mem_nil _⟩⟩, List.forall_mem_nil _, List.forall_mem_cons.mpr ⟨cl_virtual (y := y_Mo_step_at_gx) (ci := 13) rfl rfl ⟨_, _, rfl⟩ (by decide +kernel) h_Mo_step_at_gx wm_3099 wm_9 wm_3096 wm_3098 wv_14_4 ⟨by decide, by decide, by decide +kernel⟩ (by decide), List.forall_mem_nil _⟩, List.forall_mem_nil _, List.forall_mem_nil _, GG_pl⟩ (by decide +kernel)
set_option maxHeartbeats 4000000 in
theorem vc_Mo_becomes_at_k363_k0_0_0 (all_0 : Int → Int) (now_0 : Int → Int) (latest_0 : Int → Int) (r_0 : Int) (f0 : RWS (r_0) (all_0) (now_0) (latest_0)) : ROWS (all_0) (now_0) (latest_0) := by
  exact ‹RWS _ _ _ _›.1
def o_Mo_becomes_at_k363_k0_0 : or_T := (5, 7, [], [(20, [0], [60, 1, 3, 199, 5, 2, 3, 4])], [], [], [(20, [0], [60, 0, 3, 198, 2, 3, 4])], [], [])
theorem oo_Mo_becomes_at_k363_k0_0 {kA : Nat → ClassId} : or_ok PRD kA GG o_Mo_becomes_at_k363_k0_0 := by
  refine or_mk fun A ta ws vs hD hth hl => ?_
  intro f0
  have nf0 : fc_1 PRD (20, [0], [60, 0, 3, 198, 2, 3, 4]) ws (vs) := ⟨nf_in hl rfl, sgq_1230 (vc_Mo_becomes_at_k363_k0_0_0 (w_ei ws (w_ar ws (n_v vs 0) 2)) (w_ei ws (w_ar ws (n_v vs 0) 3)) (w_ei ws (w_ar ws (n_v vs 0) 4)) (w_fi ws (n_v vs 0) 5) (shm_980 f0))⟩
  refine ⟨(fun _ h => (by cases h)), [], trivial, ?_, (fun _ h => (by cases h))⟩
  rw [List.append_nil]
  exact List.forall_mem_cons.mpr ⟨⟨show (20 : Nat) < 100 from by decide, nf0⟩, (fun _ h => (by cases h))⟩
def n_Mo_becomes_at_k363_k0_an : List an_T := []
def t_Mo_becomes_at_k363_k0_ct : ct_L := []
set_option maxRecDepth 100000 in
theorem c_Mo_becomes_at_k363_k0 {l : Launch} {D : va_G} {kA : Nat → ClassId} : ct_ok PRD l D kA GG y_Mo_becomes_at_k363_k0 z_Mo_becomes_at_k363_k0 e_Mo_becomes_at_k363_k0 := chk_all_ok (FT := [(16, 13, 2), (391, 13, 5)]) (PT := []) (CT := t_Mo_becomes_at_k363_k0_ct) (KT := []) (NT := []) (AN := n_Mo_becomes_at_k363_k0_an) (OT := [o_Mo_becomes_at_k363_k0_0]) 0 200 (List.forall_mem_cons.mpr ⟨oo_Mo_becomes_at_k363_k0_0, List.forall_mem_nil _⟩) (by decide +kernel) ⟨List.forall_mem_cons.mpr ⟨gf_Mo_16, List.forall_mem_cons.mpr ⟨gf_Mo_391, List.forall_mem_nil _⟩⟩, List.forall_mem_nil _, List.forall_mem_nil _, List.forall_mem_nil _, List.forall_mem_nil _, GG_pl⟩ (by decide +kernel)
set_option maxHeartbeats 4000000 in
theorem vc_Mo_becomes_at_k363_k1_0_0 (x1 : Int) (x4 : Int) (x5 : Int) (x7 : Int) (x8 : Int) (x9 : Int) (now_0 : Int → Int) (r_0 : Int) (r_1 : Int) (all_1 : Int → Int) (now_1 : Int → Int) (latest_1 : Int → Int) (all_0 : Int → Int) (latest_0 : Int → Int) (k1 : 0 ≤ x1 ∧ x1 ≤ 3) (k4 : 0 ≤ x4 ∧ x4 ≤ 47) (k5 : 1 ≤ x5 ∧ x5 ≤ 9) (k7 : 0 ≤ x7 ∧ x7 ≤ 66297) (k8 : 363 ≤ x8 ∧ x8 ≤ 66660) (k9 : 363 ≤ x9 ∧ x9 ≤ 66707) (d3 : x7 + 363 ≤ x8 ∧ x8 ≤ x7 + 363) (f0 : r_0 = ((16709 * x1) + (539 * now_0 (x1)))) (f2 : x9 = x8 + x4) (g4 : x7 = r_1) (f6 : RWS (r_1) (all_1) (now_1) (latest_1)) (fe_0_5_1 : r_0 = r_1) (hE_0_2_1 : ∀ j : Int, 0 ≤ j → (j = x9 → all_0 j = x5) ∧ (j ≠ x9 → all_0 j = all_1 j)) (hE_0_3_1 : ∀ j : Int, now_0 j = now_1 j) (hE_0_4_1 : ∀ j : Int, latest_0 j = latest_1 j) : ROWS (all_0) (now_0) (latest_0) := by
  subst fe_0_5_1
  have e_hE_0_3_1 := funext hE_0_3_1; subst e_hE_0_3_1
  have e_hE_0_4_1 := funext hE_0_4_1; subst e_hE_0_4_1
  first
    | exact (rws_off ‹RWS _ _ _ _› (by assumption) (by omega)).1
def o_Mo_becomes_at_k363_k1_0 : or_T := (28, 11, [(0, (2, 0, 0, [165])), (1, (0, 0, 3, [])), (4, (0, 0, 47, [])), (5, (0, 1, 9, [])), (6, (2, 0, 0, [167])), (7, (0, 0, 66297, [])), (8, (0, 363, 66660, [])), (9, (0, 363, 66707, []))], [(20, [0, 1], [50, 1, 1, 5, 3, 1, 3, 2, 0, 5, 4, 6, 6, 2, 0, 16709, 1, 1, 6, 2, 0, 539, 3, 0, 3, 1, 1]), (100, [6, 9, 5], []), (1, [9, 8, 4], []), (9, [7, 0], [5]), (9, [6, 0], [2]), (20, [0], [60, 1, 3, 199, 5, 2, 3, 4])], [], [], [(20, [0], [60, 0, 3, 198, 2, 3, 4])], [], [(9, 4, 363, 66660), (9, 8, 0, 47), (9, 7, 363, 410), (8, 7, 363, 363)])
theorem oo_Mo_becomes_at_k363_k1_0 {kA : Nat → ClassId} : or_ok PRD kA GG o_Mo_becomes_at_k363_k1_0 := by
  refine or_mk fun A ta ws vs hD hth hl => ?_
  intro t0 r0 t1 k1 t4 k4 t5 k5 t6 r6 t7 k7 t8 k8 t9 k9 d0 d1 d2 d3 f0 ta1 w1 le1 s1 f2 f4 f5 f6
  have s1 : (∀ b j, w_el ws b j = if b = v_ad (n_v vs 6) ∧ j = (v_iv (n_v vs 9)).toNat then v_iv (n_v vs 5) else w_el w1 b j) ∧ ∀ b k, w_fd ws b k = w_fd w1 b k := s1.2
  replace f4 := shm_110 f4
  replace f5 := shm_120 f5
  replace f6 := shm_980 f6
  have ar_0_2_1 : w_ar w1 (n_v vs 0) 2 = w_ar ws (n_v vs 0) 2 := congrArg v_ad (s1.2 _ _).symm
  have ar_0_3_1 : w_ar w1 (n_v vs 0) 3 = w_ar ws (n_v vs 0) 3 := congrArg v_ad (s1.2 _ _).symm
  have cr_0_3 := fdq_142 hD hth r0
  have ar_0_4_1 : w_ar w1 (n_v vs 0) 4 = w_ar ws (n_v vs 0) 4 := congrArg v_ad (s1.2 _ _).symm
  have cr_0_4 := fdq_143 hD hth r0
  have ad_6 : v_ad (n_v vs 6) = w_ar ws (n_v vs 0) 2 := (congrArg v_ad f5).trans ar_0_2_1
  have g4 : v_iv (n_v vs 7) = w_fi w1 (n_v vs 0) 5 := congrArg v_iv f4
  simp only [ar_0_2_1, ar_0_3_1, ar_0_4_1] at f6
  have fe_0_5_1 : w_fi ws (n_v vs 0) 5 = w_fi w1 (n_v vs 0) 5 := congrArg v_iv (s1.2 _ _)
  have hE_0_2_1 : ∀ j : Int, 0 ≤ j → (j = v_iv (n_v vs 9) → w_ei ws (w_ar ws (n_v vs 0) 2) j = v_iv (n_v vs 5)) ∧ (j ≠ v_iv (n_v vs 9) → w_ei ws (w_ar ws (n_v vs 0) 2) j = w_ei w1 (w_ar ws (n_v vs 0) 2) j) := fun j hj => ⟨fun h => by unfold w_ei; rw [s1.1, if_pos ⟨ad_6.symm, by rw [h]⟩], fun h => by unfold w_ei; rw [s1.1, if_neg (fun e => h (by have := e.2; omega))]⟩
  have hE_0_3_1 : ∀ j : Int, w_ei ws (w_ar ws (n_v vs 0) 3) j = w_ei w1 (w_ar ws (n_v vs 0) 3) j := el_kp s1.1 r6 cr_0_3 (by decide)
  have hE_0_4_1 : ∀ j : Int, w_ei ws (w_ar ws (n_v vs 0) 4) j = w_ei w1 (w_ar ws (n_v vs 0) 4) j := el_kp s1.1 r6 cr_0_4 (by decide)
  have nf0 : fc_1 PRD (20, [0], [60, 0, 3, 198, 2, 3, 4]) ws (vs) := ⟨nf_in hl rfl, sgq_1230 (vc_Mo_becomes_at_k363_k1_0_0 (v_iv (n_v vs 1)) (v_iv (n_v vs 4)) (v_iv (n_v vs 5)) (v_iv (n_v vs 7)) (v_iv (n_v vs 8)) (v_iv (n_v vs 9)) (w_ei ws (w_ar ws (n_v vs 0) 3)) (w_fi ws (n_v vs 0) 5) (w_fi w1 (n_v vs 0) 5) (w_ei w1 (w_ar ws (n_v vs 0) 2)) (w_ei w1 (w_ar ws (n_v vs 0) 3)) (w_ei w1 (w_ar ws (n_v vs 0) 4)) (w_ei ws (w_ar ws (n_v vs 0) 2)) (w_ei ws (w_ar ws (n_v vs 0) 4)) k1 k4 k5 k7 k8 k9 d3 (shm_1037 f0) (shm_12 f2) g4 f6 fe_0_5_1 hE_0_2_1 hE_0_3_1 hE_0_4_1)⟩
  refine ⟨(fun _ h => (by cases h)), [], trivial, ?_, (fun _ h => (by cases h))⟩
  rw [List.append_nil]
  exact List.forall_mem_cons.mpr ⟨⟨show (20 : Nat) < 100 from by decide, nf0⟩, (fun _ h => (by cases h))⟩
def n_Mo_becomes_at_k363_k1_an : List an_T := []
def t_Mo_becomes_at_k363_k1_ct : ct_L := [(28, 533, e_Mo_step_at_gx)]
set_option maxRecDepth 100000 in
theorem c_Mo_becomes_at_k363_k1 {l : Launch} {D : va_G} {kA : Nat → ClassId} (h_Mo_step_at_gx : ct_ok PRD l D kA GG y_Mo_step_at_gx z_Mo_step_at_gx e_Mo_step_at_gx) : ct_ok PRD l D kA GG y_Mo_becomes_at_k363_k1 z_Mo_becomes_at_k363_k1 e_Mo_becomes_at_k363_k1 := chk_all_ok (FT := [(16, 13, 2), (391, 13, 5)]) (PT := []) (CT := t_Mo_becomes_at_k363_k1_ct) (KT := []) (NT := []) (AN := n_Mo_becomes_at_k363_k1_an) (OT := [o_Mo_becomes_at_k363_k1_0]) 0 200 (List.forall_mem_cons.mpr ⟨oo_Mo_becomes_at_k363_k1_0, List.forall_mem_nil _⟩) (by decide +kernel) ⟨List.forall_mem_cons.mpr ⟨gf_Mo_16, List.forall_mem_cons.mpr ⟨gf_Mo_391, List.forall_mem_nil _⟩⟩, List.forall_mem_nil _, List.forall_mem_cons.mpr ⟨cl_virtual (y := y_Mo_step_at_gx) (ci := 13) rfl rfl ⟨_, _, rfl⟩ (by decide +kernel) h_Mo_step_at_gx wm_3099 wm_9 wm_3096 wm_3098 wv_14_4 ⟨by decide, by decide, by decide +kernel⟩ (by decide), List.forall_mem_nil _⟩, List.forall_mem_nil _, List.forall_mem_nil _, GG_pl⟩ (by decide +kernel)
set_option maxHeartbeats 4000000 in
theorem vc_Mo_becomes_at_k411_k0_0_0 (all_0 : Int → Int) (now_0 : Int → Int) (latest_0 : Int → Int) (r_0 : Int) (f0 : RWS (r_0) (all_0) (now_0) (latest_0)) : ROWS (all_0) (now_0) (latest_0) := by
  exact ‹RWS _ _ _ _›.1
def o_Mo_becomes_at_k411_k0_0 : or_T := (5, 7, [], [(20, [0], [60, 1, 3, 199, 5, 2, 3, 4])], [], [], [(20, [0], [60, 0, 3, 198, 2, 3, 4])], [], [])
theorem oo_Mo_becomes_at_k411_k0_0 {kA : Nat → ClassId} : or_ok PRD kA GG o_Mo_becomes_at_k411_k0_0 := by
  refine or_mk fun A ta ws vs hD hth hl => ?_
  intro f0
  have nf0 : fc_1 PRD (20, [0], [60, 0, 3, 198, 2, 3, 4]) ws (vs) := ⟨nf_in hl rfl, sgq_1230 (vc_Mo_becomes_at_k411_k0_0_0 (w_ei ws (w_ar ws (n_v vs 0) 2)) (w_ei ws (w_ar ws (n_v vs 0) 3)) (w_ei ws (w_ar ws (n_v vs 0) 4)) (w_fi ws (n_v vs 0) 5) (shm_980 f0))⟩
  refine ⟨(fun _ h => (by cases h)), [], trivial, ?_, (fun _ h => (by cases h))⟩
  rw [List.append_nil]
  exact List.forall_mem_cons.mpr ⟨⟨show (20 : Nat) < 100 from by decide, nf0⟩, (fun _ h => (by cases h))⟩
def n_Mo_becomes_at_k411_k0_an : List an_T := []
def t_Mo_becomes_at_k411_k0_ct : ct_L := []
set_option maxRecDepth 100000 in
theorem c_Mo_becomes_at_k411_k0 {l : Launch} {D : va_G} {kA : Nat → ClassId} : ct_ok PRD l D kA GG y_Mo_becomes_at_k411_k0 z_Mo_becomes_at_k411_k0 e_Mo_becomes_at_k411_k0 := chk_all_ok (FT := [(16, 13, 2), (391, 13, 5)]) (PT := []) (CT := t_Mo_becomes_at_k411_k0_ct) (KT := []) (NT := []) (AN := n_Mo_becomes_at_k411_k0_an) (OT := [o_Mo_becomes_at_k411_k0_0]) 0 200 (List.forall_mem_cons.mpr ⟨oo_Mo_becomes_at_k411_k0_0, List.forall_mem_nil _⟩) (by decide +kernel) ⟨List.forall_mem_cons.mpr ⟨gf_Mo_16, List.forall_mem_cons.mpr ⟨gf_Mo_391, List.forall_mem_nil _⟩⟩, List.forall_mem_nil _, List.forall_mem_nil _, List.forall_mem_nil _, List.forall_mem_nil _, GG_pl⟩ (by decide +kernel)
set_option maxHeartbeats 4000000 in
theorem vc_Mo_becomes_at_k411_k1_0_0 (x1 : Int) (x4 : Int) (x5 : Int) (x7 : Int) (x8 : Int) (x9 : Int) (now_0 : Int → Int) (r_0 : Int) (r_1 : Int) (all_1 : Int → Int) (now_1 : Int → Int) (latest_1 : Int → Int) (all_0 : Int → Int) (latest_0 : Int → Int) (k1 : 0 ≤ x1 ∧ x1 ≤ 3) (k4 : 0 ≤ x4 ∧ x4 ≤ 47) (k5 : 0 ≤ x5 ∧ x5 ≤ 1) (k7 : 0 ≤ x7 ∧ x7 ≤ 66297) (k8 : 411 ≤ x8 ∧ x8 ≤ 66708) (k9 : 411 ≤ x9 ∧ x9 ≤ 66755) (d3 : x7 + 411 ≤ x8 ∧ x8 ≤ x7 + 411) (f0 : r_0 = ((16709 * x1) + (539 * now_0 (x1)))) (f2 : x9 = x8 + x4) (g4 : x7 = r_1) (f6 : RWS (r_1) (all_1) (now_1) (latest_1)) (fe_0_5_1 : r_0 = r_1) (hE_0_2_1 : ∀ j : Int, 0 ≤ j → (j = x9 → all_0 j = x5) ∧ (j ≠ x9 → all_0 j = all_1 j)) (hE_0_3_1 : ∀ j : Int, now_0 j = now_1 j) (hE_0_4_1 : ∀ j : Int, latest_0 j = latest_1 j) : ROWS (all_0) (now_0) (latest_0) := by
  subst fe_0_5_1
  have e_hE_0_3_1 := funext hE_0_3_1; subst e_hE_0_3_1
  have e_hE_0_4_1 := funext hE_0_4_1; subst e_hE_0_4_1
  first
    | exact (rws_off ‹RWS _ _ _ _› (by assumption) (by omega)).1
def o_Mo_becomes_at_k411_k1_0 : or_T := (28, 11, [(0, (2, 0, 0, [165])), (1, (0, 0, 3, [])), (4, (0, 0, 47, [])), (5, (0, 0, 1, [])), (6, (2, 0, 0, [167])), (7, (0, 0, 66297, [])), (8, (0, 411, 66708, [])), (9, (0, 411, 66755, []))], [(20, [0, 1], [50, 1, 1, 5, 3, 1, 3, 2, 0, 5, 4, 6, 6, 2, 0, 16709, 1, 1, 6, 2, 0, 539, 3, 0, 3, 1, 1]), (100, [6, 9, 5], []), (1, [9, 8, 4], []), (9, [7, 0], [5]), (9, [6, 0], [2]), (20, [0], [60, 1, 3, 199, 5, 2, 3, 4])], [], [], [(20, [0], [60, 0, 3, 198, 2, 3, 4])], [], [(9, 4, 411, 66708), (9, 8, 0, 47), (9, 7, 411, 458), (8, 7, 411, 411)])
theorem oo_Mo_becomes_at_k411_k1_0 {kA : Nat → ClassId} : or_ok PRD kA GG o_Mo_becomes_at_k411_k1_0 := by
  refine or_mk fun A ta ws vs hD hth hl => ?_
  intro t0 r0 t1 k1 t4 k4 t5 k5 t6 r6 t7 k7 t8 k8 t9 k9 d0 d1 d2 d3 f0 ta1 w1 le1 s1 f2 f4 f5 f6
  have s1 : (∀ b j, w_el ws b j = if b = v_ad (n_v vs 6) ∧ j = (v_iv (n_v vs 9)).toNat then v_iv (n_v vs 5) else w_el w1 b j) ∧ ∀ b k, w_fd ws b k = w_fd w1 b k := s1.2
  replace f4 := shm_110 f4
  replace f5 := shm_120 f5
  replace f6 := shm_980 f6
  have ar_0_2_1 : w_ar w1 (n_v vs 0) 2 = w_ar ws (n_v vs 0) 2 := congrArg v_ad (s1.2 _ _).symm
  have ar_0_3_1 : w_ar w1 (n_v vs 0) 3 = w_ar ws (n_v vs 0) 3 := congrArg v_ad (s1.2 _ _).symm
  have cr_0_3 := fdq_142 hD hth r0
  have ar_0_4_1 : w_ar w1 (n_v vs 0) 4 = w_ar ws (n_v vs 0) 4 := congrArg v_ad (s1.2 _ _).symm
  have cr_0_4 := fdq_143 hD hth r0
  have ad_6 : v_ad (n_v vs 6) = w_ar ws (n_v vs 0) 2 := (congrArg v_ad f5).trans ar_0_2_1
  have g4 : v_iv (n_v vs 7) = w_fi w1 (n_v vs 0) 5 := congrArg v_iv f4
  simp only [ar_0_2_1, ar_0_3_1, ar_0_4_1] at f6
  have fe_0_5_1 : w_fi ws (n_v vs 0) 5 = w_fi w1 (n_v vs 0) 5 := congrArg v_iv (s1.2 _ _)
  have hE_0_2_1 : ∀ j : Int, 0 ≤ j → (j = v_iv (n_v vs 9) → w_ei ws (w_ar ws (n_v vs 0) 2) j = v_iv (n_v vs 5)) ∧ (j ≠ v_iv (n_v vs 9) → w_ei ws (w_ar ws (n_v vs 0) 2) j = w_ei w1 (w_ar ws (n_v vs 0) 2) j) := fun j hj => ⟨fun h => by unfold w_ei; rw [s1.1, if_pos ⟨ad_6.symm, by rw [h]⟩], fun h => by unfold w_ei; rw [s1.1, if_neg (fun e => h (by have := e.2; omega))]⟩
  have hE_0_3_1 : ∀ j : Int, w_ei ws (w_ar ws (n_v vs 0) 3) j = w_ei w1 (w_ar ws (n_v vs 0) 3) j := el_kp s1.1 r6 cr_0_3 (by decide)
  have hE_0_4_1 : ∀ j : Int, w_ei ws (w_ar ws (n_v vs 0) 4) j = w_ei w1 (w_ar ws (n_v vs 0) 4) j := el_kp s1.1 r6 cr_0_4 (by decide)
  have nf0 : fc_1 PRD (20, [0], [60, 0, 3, 198, 2, 3, 4]) ws (vs) := ⟨nf_in hl rfl, sgq_1230 (vc_Mo_becomes_at_k411_k1_0_0 (v_iv (n_v vs 1)) (v_iv (n_v vs 4)) (v_iv (n_v vs 5)) (v_iv (n_v vs 7)) (v_iv (n_v vs 8)) (v_iv (n_v vs 9)) (w_ei ws (w_ar ws (n_v vs 0) 3)) (w_fi ws (n_v vs 0) 5) (w_fi w1 (n_v vs 0) 5) (w_ei w1 (w_ar ws (n_v vs 0) 2)) (w_ei w1 (w_ar ws (n_v vs 0) 3)) (w_ei w1 (w_ar ws (n_v vs 0) 4)) (w_ei ws (w_ar ws (n_v vs 0) 2)) (w_ei ws (w_ar ws (n_v vs 0) 4)) k1 k4 k5 k7 k8 k9 d3 (shm_1037 f0) (shm_12 f2) g4 f6 fe_0_5_1 hE_0_2_1 hE_0_3_1 hE_0_4_1)⟩
  refine ⟨(fun _ h => (by cases h)), [], trivial, ?_, (fun _ h => (by cases h))⟩
  rw [List.append_nil]
  exact List.forall_mem_cons.mpr ⟨⟨show (20 : Nat) < 100 from by decide, nf0⟩, (fun _ h => (by cases h))⟩
def n_Mo_becomes_at_k411_k1_an : List an_T := []
def t_Mo_becomes_at_k411_k1_ct : ct_L := [(28, 533, e_Mo_step_at_gx)]
set_option maxRecDepth 100000 in
theorem c_Mo_becomes_at_k411_k1 {l : Launch} {D : va_G} {kA : Nat → ClassId} (h_Mo_step_at_gx : ct_ok PRD l D kA GG y_Mo_step_at_gx z_Mo_step_at_gx e_Mo_step_at_gx) : ct_ok PRD l D kA GG y_Mo_becomes_at_k411_k1 z_Mo_becomes_at_k411_k1 e_Mo_becomes_at_k411_k1 := chk_all_ok (FT := [(16, 13, 2), (391, 13, 5)]) (PT := []) (CT := t_Mo_becomes_at_k411_k1_ct) (KT := []) (NT := []) (AN := n_Mo_becomes_at_k411_k1_an) (OT := [o_Mo_becomes_at_k411_k1_0]) 0 200 (List.forall_mem_cons.mpr ⟨oo_Mo_becomes_at_k411_k1_0, List.forall_mem_nil _⟩) (by decide +kernel) ⟨List.forall_mem_cons.mpr ⟨gf_Mo_16, List.forall_mem_cons.mpr ⟨gf_Mo_391, List.forall_mem_nil _⟩⟩, List.forall_mem_nil _, List.forall_mem_cons.mpr ⟨cl_virtual (y := y_Mo_step_at_gx) (ci := 13) rfl rfl ⟨_, _, rfl⟩ (by decide +kernel) h_Mo_step_at_gx wm_3099 wm_9 wm_3096 wm_3098 wv_14_4 ⟨by decide, by decide, by decide +kernel⟩ (by decide), List.forall_mem_nil _⟩, List.forall_mem_nil _, List.forall_mem_nil _, GG_pl⟩ (by decide +kernel)

set_option maxHeartbeats 4000000 in
theorem vc_Mo_bendsBecome_0_0 (x2 : Int) (x3 : Int) (x5 : Int) (x6 : Int) (x7 : Int) (x8 : Int) (wide_0 : Int) (tall_0 : Int) (barredPoint_0 : Int → Int) (costOf_0 : Int → Int) (k2 : 0 ≤ x2 ∧ x2 ≤ 5999) (k3 : 0 ≤ x3 ∧ x3 ≤ 5999) (k5 : 0 ≤ x5 ∧ x5 ≤ 0) (k6 : (-1) ≤ x6 ∧ x6 ≤ (-1)) (k7 : 1000000 ≤ x7 ∧ x7 ≤ 1000000) (k8 : 0 ≤ x8 ∧ x8 ≤ 0) (f0 : GRX (wide_0) (tall_0)) (f1 : RTV (wide_0) (tall_0) (barredPoint_0) (costOf_0) (x3)) (f2 : (0 ≤ x2) ∧ ((x2 + 1) ≤ (wide_0 * tall_0))) (f3 : (0 ≤ x3) ∧ ((x3 + 1) ≤ (wide_0 * tall_0))) (hK_0_140 : ∀ j : Int, 0 ≤ j → j < 24000 → 0 ≤ costOf_0 j ∧ costOf_0 j ≤ 1000000) (hK_0_143 : ∀ j : Int, 0 ≤ j → j < 6000 → 0 ≤ barredPoint_0 j ∧ barredPoint_0 j ≤ 1) (kz_0_146 : (-3999999) ≤ wide_0 ∧ wide_0 ≤ 600000023) (kz_0_147 : (-3999999) ≤ tall_0 ∧ tall_0 ≤ 600000007) : BB1 (wide_0) (tall_0) (barredPoint_0) (costOf_0) (x2) (x6) (x7) (x8) := by
  first
    | assumption
    | exact Or.inl ⟨by omega, by omega⟩
    | (have h := ‹BB1 _ _ _ _ _ _ _ _›; exact h)
    | (have hb : x8 ≤ 1000000 := by
         rcases ‹BB1 _ _ _ _ _ _ _ _› with h | h
         · omega
         · have := h.2.1; omega
       have e1 : x16 = costOf_0 x15 := by assumption
       have e2 : x22 = costOf_0 x21 := by assumption
       have e3 : x15 = x21 := by omega
       rw [e3, ← e2] at e1
       rw [show x24 = x22 + 1 by omega]; exact bb1_take (b := x8) (d := x7) (q := x11) (x := x21) (v := x22) ‹STQ _ _ _ _ _ _› (by omega) (by omega) (by omega) (by omega) (by assumption) (by omega))
  
set_option maxHeartbeats 4000000 in
theorem vc_Mo_bendsBecome_0_1 (x2 : Int) (x3 : Int) (x5 : Int) (x6 : Int) (x7 : Int) (x8 : Int) (wide_0 : Int) (tall_0 : Int) (barredPoint_0 : Int → Int) (costOf_0 : Int → Int) (k2 : 0 ≤ x2 ∧ x2 ≤ 5999) (k3 : 0 ≤ x3 ∧ x3 ≤ 5999) (k5 : 0 ≤ x5 ∧ x5 ≤ 0) (k6 : (-1) ≤ x6 ∧ x6 ≤ (-1)) (k7 : 1000000 ≤ x7 ∧ x7 ≤ 1000000) (k8 : 0 ≤ x8 ∧ x8 ≤ 0) (f0 : GRX (wide_0) (tall_0)) (f1 : RTV (wide_0) (tall_0) (barredPoint_0) (costOf_0) (x3)) (f2 : (0 ≤ x2) ∧ ((x2 + 1) ≤ (wide_0 * tall_0))) (f3 : (0 ≤ x3) ∧ ((x3 + 1) ≤ (wide_0 * tall_0))) (hK_0_140 : ∀ j : Int, 0 ≤ j → j < 24000 → 0 ≤ costOf_0 j ∧ costOf_0 j ≤ 1000000) (hK_0_143 : ∀ j : Int, 0 ≤ j → j < 6000 → 0 ≤ barredPoint_0 j ∧ barredPoint_0 j ≤ 1) (kz_0_146 : (-3999999) ≤ wide_0 ∧ wide_0 ≤ 600000023) (kz_0_147 : (-3999999) ≤ tall_0 ∧ tall_0 ≤ 600000007) : x5 = 0 := by
  first
    | omega
    | (have g := gok_bd ‹GRX _ _›; omega)
    | (have h := bb_next ‹RTV _ _ _ _ _› ‹BB2 _ _ _ _ _ _ _› ‹BB3 _ _ _ _ _ _ _ _ _ _› (by omega) (by omega)
       have h1 := h.1.1
       have h2 := h.2
       omega)
    | (obtain ⟨⟨mf, q, n1, n2, n3, n4⟩, u0, u1⟩ := bb_next ‹RTV _ _ _ _ _› ‹BB2 _ _ _ _ _ _ _› ‹BB3 _ _ _ _ _ _ _ _ _ _› (by omega) (by omega)
       have e := ‹STQ _ _ _ _ _ _›.2.2 q n1 n2
       have i := nb_in n1 (by have g := gok_bd ‹GRX _ _›; omega)
       have g3 := ‹GRX _ _›.2.2
       omega)
def o_Mo_bendsBecome_0 : or_T := (22, 9, [(0, (2, 0, 0, [165])), (2, (0, 0, 5999, [])), (3, (0, 0, 5999, [])), (5, (0, 0, 0, [])), (6, (0, -1, -1, [])), (7, (0, 1000000, 1000000, [])), (8, (0, 0, 0, []))], [(20, [0], [60, 2, 0, 494, 146, 147]), (20, [0, 3], [60, 2, 2, 504, 146, 147, 143, 140]), (20, [2, 0], [50, 2, 0, 1146, 1147, 2, 6, 0, 2, 0, 0, 1, 0, 0, 6, 4, 2, 1, 0, 0, 1, 6, 3, 2, 1, 146, 2, 1, 147]), (20, [3, 0], [50, 2, 0, 1146, 1147, 2, 6, 0, 2, 0, 0, 1, 0, 0, 6, 4, 2, 1, 0, 0, 1, 6, 3, 2, 1, 146, 2, 1, 147])], [], [], [(20, [0, 2, 6, 7, 8], [60, 2, 2, 506, 146, 147, 143, 140]), (20, [5], [50, 0, 0, 1, 2, 1, 0, 0, 0])], [], [])
theorem oo_Mo_bendsBecome_0 {kA : Nat → ClassId} : or_ok PRD kA GG o_Mo_bendsBecome_0 := by
  refine or_mk fun A ta ws vs hD hth hl => ?_
  intro t0 r0 t2 k2 t3 k3 t5 k5 t6 k6 t7 k7 t8 k8 f0 f1 f2 f3
  have cr_0_140 := fdq_175 hD hth r0
  have cr_0_143 := fdq_178 hD hth r0
  have hK_0_140 := elq_104 hD hth cr_0_140
  have hK_0_143 := elq_107 hD hth cr_0_143
  have kz_0_146 := fdq_179 hD hth r0
  have kz_0_147 := fdq_180 hD hth r0
  have nf0 : fc_1 PRD (20, [0, 2, 6, 7, 8], [60, 2, 2, 506, 146, 147, 143, 140]) ws (vs) := ⟨nf_in hl rfl, sgq_1412 (vc_Mo_bendsBecome_0_0 (v_iv (n_v vs 2)) (v_iv (n_v vs 3)) (v_iv (n_v vs 5)) (v_iv (n_v vs 6)) (v_iv (n_v vs 7)) (v_iv (n_v vs 8)) (w_fi ws (n_v vs 0) 146) (w_fi ws (n_v vs 0) 147) (w_ei ws (w_ar ws (n_v vs 0) 143)) (w_ei ws (w_ar ws (n_v vs 0) 140)) k2 k3 k5 k6 k7 k8 (shm_1289 f0) (shm_1411 f1) (shm_1290 f2) (shm_1290 f3) hK_0_140 hK_0_143 kz_0_146 kz_0_147)⟩
  have nf1 : fc_1 PRD (20, [5], [50, 0, 0, 1, 2, 1, 0, 0, 0]) ws (vs) := ⟨nf_in hl rfl, sgq_649 (vc_Mo_bendsBecome_0_1 (v_iv (n_v vs 2)) (v_iv (n_v vs 3)) (v_iv (n_v vs 5)) (v_iv (n_v vs 6)) (v_iv (n_v vs 7)) (v_iv (n_v vs 8)) (w_fi ws (n_v vs 0) 146) (w_fi ws (n_v vs 0) 147) (w_ei ws (w_ar ws (n_v vs 0) 143)) (w_ei ws (w_ar ws (n_v vs 0) 140)) k2 k3 k5 k6 k7 k8 (shm_1289 f0) (shm_1411 f1) (shm_1290 f2) (shm_1290 f3) hK_0_140 hK_0_143 kz_0_146 kz_0_147)⟩
  refine ⟨(fun _ h => (by cases h)), [], trivial, ?_, (fun _ h => (by cases h))⟩
  rw [List.append_nil]
  exact List.forall_mem_cons.mpr ⟨⟨show (20 : Nat) < 100 from by decide, nf0⟩, List.forall_mem_cons.mpr ⟨⟨show (20 : Nat) < 100 from by decide, nf1⟩, (fun _ h => (by cases h))⟩⟩
set_option maxHeartbeats 4000000 in
theorem vc_Mo_bendsBecome_1_r0 (x3 : Int) (x5 : Int) (x6 : Int) (x7 : Int) (x8 : Int) (x9 : Int) (x10 : Int) (x11 : Int) (barredPoint_0 : Int → Int) (wide_0 : Int) (tall_0 : Int) (costOf_0 : Int → Int) (k3 : 0 ≤ x3 ∧ x3 ≤ 5999) (k5 : 0 ≤ x5 ∧ x5 ≤ 0) (k6 : 0 ≤ x6 ∧ x6 ≤ 5999) (k7 : 0 ≤ x7 ∧ x7 ≤ 3) (k8 : 1 ≤ x8 ∧ x8 ≤ 1000001) (k9 : 4 ≤ x9 ∧ x9 ≤ 4) (k10 : 4 ≤ x10 ∧ x10 ≤ 4) (k11 : (-1) ≤ x11 ∧ x11 ≤ 5999) (f0 : STQ (wide_0) (tall_0) (barredPoint_0) (x6) (x7) (x11)) (f1 : ((-1) ≤ x11) ∧ ((x11 + 1) ≤ (wide_0 * tall_0))) (f2 : 0 ≤ x7) (f3 : x10 ≤ x9) (f4 : GRX (wide_0) (tall_0)) (f5 : RTV (wide_0) (tall_0) (barredPoint_0) (costOf_0) (x3)) (f6 : (0 ≤ x3) ∧ ((x3 + 1) ≤ (wide_0 * tall_0))) (f7 : (0 ≤ x6) ∧ ((x6 + 1) ≤ (wide_0 * tall_0))) (f8 : BB1 (wide_0) (tall_0) (barredPoint_0) (costOf_0) (x6) (x7) (x8) (x9)) (f9 : x5 = 0) (hK_0_140 : ∀ j : Int, 0 ≤ j → j < 24000 → 0 ≤ costOf_0 j ∧ costOf_0 j ≤ 1000000) (hK_0_143 : ∀ j : Int, 0 ≤ j → j < 6000 → 0 ≤ barredPoint_0 j ∧ barredPoint_0 j ≤ 1) (kz_0_146 : (-3999999) ≤ wide_0 ∧ wide_0 ≤ 600000023) (kz_0_147 : (-3999999) ≤ tall_0 ∧ tall_0 ≤ 600000007) : 0 ≤ x11 ∧ x11 ≤ 5999 := by
  (have h := bb2_start (t := x8 - 1) ‹RTV _ _ _ _ _› ‹BB1 _ _ _ _ _ _ _ _› (by omega) ‹STQ _ _ _ _ _ _› rfl
   have h1 := h.1
   have g3 := ‹GRX _ _›.2.2
   omega)
def o_Mo_bendsBecome_1 : or_T := (104, 12, [(0, (2, 0, 0, [165])), (3, (0, 0, 5999, [])), (5, (0, 0, 0, [])), (6, (0, 0, 5999, [])), (7, (0, 0, 3, [])), (8, (0, 1, 1000001, [])), (9, (0, 4, 4, [])), (10, (0, 4, 4, [])), (11, (0, -1, 5999, []))], [(20, [0, 6, 7, 11], [60, 2, 1, 505, 146, 147, 143]), (20, [11, 0], [50, 2, 0, 1146, 1147, 2, 6, 0, 2, 0, -1, 1, 0, 0, 6, 4, 2, 1, 0, 0, 1, 6, 3, 2, 1, 146, 2, 1, 147]), (8, [7], [3]), (7, [9, 10], [3]), (20, [0], [60, 2, 0, 494, 146, 147]), (20, [0, 3], [60, 2, 2, 504, 146, 147, 143, 140]), (20, [3, 0], [50, 2, 0, 1146, 1147, 2, 6, 0, 2, 0, 0, 1, 0, 0, 6, 4, 2, 1, 0, 0, 1, 6, 3, 2, 1, 146, 2, 1, 147]), (20, [6, 0], [50, 2, 0, 1146, 1147, 2, 6, 0, 2, 0, 0, 1, 0, 0, 6, 4, 2, 1, 0, 0, 1, 6, 3, 2, 1, 146, 2, 1, 147]), (20, [0, 6, 7, 8, 9], [60, 2, 2, 506, 146, 147, 143, 140]), (20, [5], [50, 0, 0, 1, 2, 1, 0, 0, 0])], [(11, (0, 0, 5999, []))], [], [], [], [])
theorem oo_Mo_bendsBecome_1 {kA : Nat → ClassId} : or_ok PRD kA GG o_Mo_bendsBecome_1 := by
  refine or_mk fun A ta ws vs hD hth hl => ?_
  intro t0 r0 t3 k3 t5 k5 t6 k6 t7 k7 t8 k8 t9 k9 t10 k10 t11 k11 f0 f1 f2 f3 f4 f5 f6 f7 f8 f9
  have cr_0_140 := fdq_175 hD hth r0
  have cr_0_143 := fdq_178 hD hth r0
  have hK_0_140 := elq_104 hD hth cr_0_140
  have hK_0_143 := elq_107 hD hth cr_0_143
  have kz_0_146 := fdq_179 hD hth r0
  have kz_0_147 := fdq_180 hD hth r0
  have hrf0 : 0 ≤ v_iv (n_v vs 11) ∧ v_iv (n_v vs 11) ≤ 5999 := vc_Mo_bendsBecome_1_r0 (v_iv (n_v vs 3)) (v_iv (n_v vs 5)) (v_iv (n_v vs 6)) (v_iv (n_v vs 7)) (v_iv (n_v vs 8)) (v_iv (n_v vs 9)) (v_iv (n_v vs 10)) (v_iv (n_v vs 11)) (w_ei ws (w_ar ws (n_v vs 0) 143)) (w_fi ws (n_v vs 0) 146) (w_fi ws (n_v vs 0) 147) (w_ei ws (w_ar ws (n_v vs 0) 140)) k3 k5 k6 k7 k8 k9 k10 k11 (shm_1291 f0) (shm_1292 f1) (shm_32 f2) (shm_2 f3) (shm_1289 f4) (shm_1411 f5) (shm_1290 f6) (shm_1290 f7) (shm_1412 f8) (shm_649 f9) hK_0_140 hK_0_143 kz_0_146 kz_0_147
  have rf11 : tv_ok ta (0, 0, 5999, []) (n_v vs 11) := tv_in t11 (by first | omega | grind) (by first | omega | grind)
  refine ⟨List.forall_mem_cons.mpr ⟨rf11, (fun _ h => (by cases h))⟩, [], trivial, ?_, (fun _ h => (by cases h))⟩
  rw [List.append_nil]
  exact (fun _ h => (by cases h))
set_option maxHeartbeats 4000000 in
theorem vc_Mo_bendsBecome_2_0 (x3 : Int) (x5 : Int) (x6 : Int) (x7 : Int) (x8 : Int) (x9 : Int) (x10 : Int) (x11 : Int) (x12 : Int) (x13 : Int) (barredPoint_0 : Int → Int) (wide_0 : Int) (tall_0 : Int) (costOf_0 : Int → Int) (gx : Int) (k3 : 0 ≤ x3 ∧ x3 ≤ 5999) (k5 : 0 ≤ x5 ∧ x5 ≤ 0) (k6 : 0 ≤ x6 ∧ x6 ≤ 5999) (k7 : 0 ≤ x7 ∧ x7 ≤ 3) (k8 : 1 ≤ x8 ∧ x8 ≤ 1000001) (k9 : 4 ≤ x9 ∧ x9 ≤ 4) (k10 : 4 ≤ x10 ∧ x10 ≤ 4) (k11 : 0 ≤ x11 ∧ x11 ≤ 5999) (k12 : 1 ≤ x12 ∧ x12 ≤ 1) (k13 : 0 ≤ x13 ∧ x13 ≤ 1000000) (d0 : x8 + (-1) ≤ x13 ∧ x13 ≤ x8 + (-1)) (f0 : x13 = x8 - x12) (f1 : STQ (wide_0) (tall_0) (barredPoint_0) (x6) (x7) (x11)) (f2 : ((-1) ≤ x11) ∧ ((x11 + 1) ≤ (wide_0 * tall_0))) (f3 : 0 ≤ x7) (f4 : x10 ≤ x9) (f5 : GRX (wide_0) (tall_0)) (f6 : RTV (wide_0) (tall_0) (barredPoint_0) (costOf_0) (x3)) (f7 : (0 ≤ x3) ∧ ((x3 + 1) ≤ (wide_0 * tall_0))) (f8 : (0 ≤ x6) ∧ ((x6 + 1) ≤ (wide_0 * tall_0))) (f9 : BB1 (wide_0) (tall_0) (barredPoint_0) (costOf_0) (x6) (x7) (x8) (x9)) (f10 : x5 = 0) (hK_0_140 : ∀ j : Int, 0 ≤ j → j < 24000 → 0 ≤ costOf_0 j ∧ costOf_0 j ≤ 1000000) (hK_0_143 : ∀ j : Int, 0 ≤ j → j < 6000 → 0 ≤ barredPoint_0 j ∧ barredPoint_0 j ≤ 1) (kz_0_146 : (-3999999) ≤ wide_0 ∧ wide_0 ≤ 600000023) (kz_0_147 : (-3999999) ≤ tall_0 ∧ tall_0 ≤ 600000007) (ex2 : gx = 1000000) (ex3 : (-2) ≤ gx ∧ gx ≤ 1000000) : GRX (wide_0) (tall_0) := by
  assumption
set_option maxHeartbeats 4000000 in
theorem vc_Mo_bendsBecome_2_1 (x3 : Int) (x5 : Int) (x6 : Int) (x7 : Int) (x8 : Int) (x9 : Int) (x10 : Int) (x11 : Int) (x12 : Int) (x13 : Int) (barredPoint_0 : Int → Int) (wide_0 : Int) (tall_0 : Int) (costOf_0 : Int → Int) (gx : Int) (k3 : 0 ≤ x3 ∧ x3 ≤ 5999) (k5 : 0 ≤ x5 ∧ x5 ≤ 0) (k6 : 0 ≤ x6 ∧ x6 ≤ 5999) (k7 : 0 ≤ x7 ∧ x7 ≤ 3) (k8 : 1 ≤ x8 ∧ x8 ≤ 1000001) (k9 : 4 ≤ x9 ∧ x9 ≤ 4) (k10 : 4 ≤ x10 ∧ x10 ≤ 4) (k11 : 0 ≤ x11 ∧ x11 ≤ 5999) (k12 : 1 ≤ x12 ∧ x12 ≤ 1) (k13 : 0 ≤ x13 ∧ x13 ≤ 1000000) (d0 : x8 + (-1) ≤ x13 ∧ x13 ≤ x8 + (-1)) (f0 : x13 = x8 - x12) (f1 : STQ (wide_0) (tall_0) (barredPoint_0) (x6) (x7) (x11)) (f2 : ((-1) ≤ x11) ∧ ((x11 + 1) ≤ (wide_0 * tall_0))) (f3 : 0 ≤ x7) (f4 : x10 ≤ x9) (f5 : GRX (wide_0) (tall_0)) (f6 : RTV (wide_0) (tall_0) (barredPoint_0) (costOf_0) (x3)) (f7 : (0 ≤ x3) ∧ ((x3 + 1) ≤ (wide_0 * tall_0))) (f8 : (0 ≤ x6) ∧ ((x6 + 1) ≤ (wide_0 * tall_0))) (f9 : BB1 (wide_0) (tall_0) (barredPoint_0) (costOf_0) (x6) (x7) (x8) (x9)) (f10 : x5 = 0) (hK_0_140 : ∀ j : Int, 0 ≤ j → j < 24000 → 0 ≤ costOf_0 j ∧ costOf_0 j ≤ 1000000) (hK_0_143 : ∀ j : Int, 0 ≤ j → j < 6000 → 0 ≤ barredPoint_0 j ∧ barredPoint_0 j ≤ 1) (kz_0_146 : (-3999999) ≤ wide_0 ∧ wide_0 ≤ 600000023) (kz_0_147 : (-3999999) ≤ tall_0 ∧ tall_0 ≤ 600000007) (ex2 : gx = 1000000) (ex3 : (-2) ≤ gx ∧ gx ≤ 1000000) : RTV (wide_0) (tall_0) (barredPoint_0) (costOf_0) (x3) := by
  assumption
set_option maxHeartbeats 4000000 in
theorem vc_Mo_bendsBecome_2_2 (x3 : Int) (x5 : Int) (x6 : Int) (x7 : Int) (x8 : Int) (x9 : Int) (x10 : Int) (x11 : Int) (x12 : Int) (x13 : Int) (barredPoint_0 : Int → Int) (wide_0 : Int) (tall_0 : Int) (costOf_0 : Int → Int) (gx : Int) (k3 : 0 ≤ x3 ∧ x3 ≤ 5999) (k5 : 0 ≤ x5 ∧ x5 ≤ 0) (k6 : 0 ≤ x6 ∧ x6 ≤ 5999) (k7 : 0 ≤ x7 ∧ x7 ≤ 3) (k8 : 1 ≤ x8 ∧ x8 ≤ 1000001) (k9 : 4 ≤ x9 ∧ x9 ≤ 4) (k10 : 4 ≤ x10 ∧ x10 ≤ 4) (k11 : 0 ≤ x11 ∧ x11 ≤ 5999) (k12 : 1 ≤ x12 ∧ x12 ≤ 1) (k13 : 0 ≤ x13 ∧ x13 ≤ 1000000) (d0 : x8 + (-1) ≤ x13 ∧ x13 ≤ x8 + (-1)) (f0 : x13 = x8 - x12) (f1 : STQ (wide_0) (tall_0) (barredPoint_0) (x6) (x7) (x11)) (f2 : ((-1) ≤ x11) ∧ ((x11 + 1) ≤ (wide_0 * tall_0))) (f3 : 0 ≤ x7) (f4 : x10 ≤ x9) (f5 : GRX (wide_0) (tall_0)) (f6 : RTV (wide_0) (tall_0) (barredPoint_0) (costOf_0) (x3)) (f7 : (0 ≤ x3) ∧ ((x3 + 1) ≤ (wide_0 * tall_0))) (f8 : (0 ≤ x6) ∧ ((x6 + 1) ≤ (wide_0 * tall_0))) (f9 : BB1 (wide_0) (tall_0) (barredPoint_0) (costOf_0) (x6) (x7) (x8) (x9)) (f10 : x5 = 0) (hK_0_140 : ∀ j : Int, 0 ≤ j → j < 24000 → 0 ≤ costOf_0 j ∧ costOf_0 j ≤ 1000000) (hK_0_143 : ∀ j : Int, 0 ≤ j → j < 6000 → 0 ≤ barredPoint_0 j ∧ barredPoint_0 j ≤ 1) (kz_0_146 : (-3999999) ≤ wide_0 ∧ wide_0 ≤ 600000023) (kz_0_147 : (-3999999) ≤ tall_0 ∧ tall_0 ≤ 600000007) (ex2 : gx = 1000000) (ex3 : (-2) ≤ gx ∧ gx ≤ 1000000) : (0 ≤ x3) ∧ ((x3 + 1) ≤ (wide_0 * tall_0)) := by
  first
    | omega
    | (have h := bb2_start (t := x13) ‹RTV _ _ _ _ _› ‹BB1 _ _ _ _ _ _ _ _› (by omega) ‹STQ _ _ _ _ _ _› (by omega)
       have h1 := h.1
       have h2 := h.2.2.2.2
       omega)
    | (have h := bb_next ‹RTV _ _ _ _ _› ‹BB2 _ _ _ _ _ _ _› ‹BB3 _ _ _ _ _ _ _ _ _ _› (by omega) (by omega)
       have h1 := h.1.1
       have h2 := h.2
       omega)
set_option maxHeartbeats 4000000 in
theorem vc_Mo_bendsBecome_2_3 (x3 : Int) (x5 : Int) (x6 : Int) (x7 : Int) (x8 : Int) (x9 : Int) (x10 : Int) (x11 : Int) (x12 : Int) (x13 : Int) (barredPoint_0 : Int → Int) (wide_0 : Int) (tall_0 : Int) (costOf_0 : Int → Int) (gx : Int) (k3 : 0 ≤ x3 ∧ x3 ≤ 5999) (k5 : 0 ≤ x5 ∧ x5 ≤ 0) (k6 : 0 ≤ x6 ∧ x6 ≤ 5999) (k7 : 0 ≤ x7 ∧ x7 ≤ 3) (k8 : 1 ≤ x8 ∧ x8 ≤ 1000001) (k9 : 4 ≤ x9 ∧ x9 ≤ 4) (k10 : 4 ≤ x10 ∧ x10 ≤ 4) (k11 : 0 ≤ x11 ∧ x11 ≤ 5999) (k12 : 1 ≤ x12 ∧ x12 ≤ 1) (k13 : 0 ≤ x13 ∧ x13 ≤ 1000000) (d0 : x8 + (-1) ≤ x13 ∧ x13 ≤ x8 + (-1)) (f0 : x13 = x8 - x12) (f1 : STQ (wide_0) (tall_0) (barredPoint_0) (x6) (x7) (x11)) (f2 : ((-1) ≤ x11) ∧ ((x11 + 1) ≤ (wide_0 * tall_0))) (f3 : 0 ≤ x7) (f4 : x10 ≤ x9) (f5 : GRX (wide_0) (tall_0)) (f6 : RTV (wide_0) (tall_0) (barredPoint_0) (costOf_0) (x3)) (f7 : (0 ≤ x3) ∧ ((x3 + 1) ≤ (wide_0 * tall_0))) (f8 : (0 ≤ x6) ∧ ((x6 + 1) ≤ (wide_0 * tall_0))) (f9 : BB1 (wide_0) (tall_0) (barredPoint_0) (costOf_0) (x6) (x7) (x8) (x9)) (f10 : x5 = 0) (hK_0_140 : ∀ j : Int, 0 ≤ j → j < 24000 → 0 ≤ costOf_0 j ∧ costOf_0 j ≤ 1000000) (hK_0_143 : ∀ j : Int, 0 ≤ j → j < 6000 → 0 ≤ barredPoint_0 j ∧ barredPoint_0 j ≤ 1) (kz_0_146 : (-3999999) ≤ wide_0 ∧ wide_0 ≤ 600000023) (kz_0_147 : (-3999999) ≤ tall_0 ∧ tall_0 ≤ 600000007) (ex2 : gx = 1000000) (ex3 : (-2) ≤ gx ∧ gx ≤ 1000000) : BB2 (wide_0) (tall_0) (barredPoint_0) (costOf_0) (x11) (x7) (x13) := by
  first
    | exact bb2_start ‹RTV _ _ _ _ _› ‹BB1 _ _ _ _ _ _ _ _› (by omega) ‹STQ _ _ _ _ _ _› (by omega)
    | exact bb2_next ‹RTV _ _ _ _ _› ‹BB2 _ _ _ _ _ _ _› ‹BB3 _ _ _ _ _ _ _ _ _ _› (by omega) (by omega) ‹STQ _ _ _ _ _ _›
  
set_option maxHeartbeats 4000000 in
theorem vc_Mo_bendsBecome_2_4 (x3 : Int) (x5 : Int) (x6 : Int) (x7 : Int) (x8 : Int) (x9 : Int) (x10 : Int) (x11 : Int) (x12 : Int) (x13 : Int) (barredPoint_0 : Int → Int) (wide_0 : Int) (tall_0 : Int) (costOf_0 : Int → Int) (gx : Int) (k3 : 0 ≤ x3 ∧ x3 ≤ 5999) (k5 : 0 ≤ x5 ∧ x5 ≤ 0) (k6 : 0 ≤ x6 ∧ x6 ≤ 5999) (k7 : 0 ≤ x7 ∧ x7 ≤ 3) (k8 : 1 ≤ x8 ∧ x8 ≤ 1000001) (k9 : 4 ≤ x9 ∧ x9 ≤ 4) (k10 : 4 ≤ x10 ∧ x10 ≤ 4) (k11 : 0 ≤ x11 ∧ x11 ≤ 5999) (k12 : 1 ≤ x12 ∧ x12 ≤ 1) (k13 : 0 ≤ x13 ∧ x13 ≤ 1000000) (d0 : x8 + (-1) ≤ x13 ∧ x13 ≤ x8 + (-1)) (f0 : x13 = x8 - x12) (f1 : STQ (wide_0) (tall_0) (barredPoint_0) (x6) (x7) (x11)) (f2 : ((-1) ≤ x11) ∧ ((x11 + 1) ≤ (wide_0 * tall_0))) (f3 : 0 ≤ x7) (f4 : x10 ≤ x9) (f5 : GRX (wide_0) (tall_0)) (f6 : RTV (wide_0) (tall_0) (barredPoint_0) (costOf_0) (x3)) (f7 : (0 ≤ x3) ∧ ((x3 + 1) ≤ (wide_0 * tall_0))) (f8 : (0 ≤ x6) ∧ ((x6 + 1) ≤ (wide_0 * tall_0))) (f9 : BB1 (wide_0) (tall_0) (barredPoint_0) (costOf_0) (x6) (x7) (x8) (x9)) (f10 : x5 = 0) (hK_0_140 : ∀ j : Int, 0 ≤ j → j < 24000 → 0 ≤ costOf_0 j ∧ costOf_0 j ≤ 1000000) (hK_0_143 : ∀ j : Int, 0 ≤ j → j < 6000 → 0 ≤ barredPoint_0 j ∧ barredPoint_0 j ≤ 1) (kz_0_146 : (-3999999) ≤ wide_0 ∧ wide_0 ≤ 600000023) (kz_0_147 : (-3999999) ≤ tall_0 ∧ tall_0 ≤ 600000007) (ex2 : gx = 1000000) (ex3 : (-2) ≤ gx ∧ gx ≤ 1000000) : (0 ≤ x11) ∧ ((x11 + 1) ≤ (wide_0 * tall_0)) := by
  first
    | omega
    | (have h := bb2_start (t := x13) ‹RTV _ _ _ _ _› ‹BB1 _ _ _ _ _ _ _ _› (by omega) ‹STQ _ _ _ _ _ _› (by omega)
       have h1 := h.1
       have h2 := h.2.2.2.2
       omega)
    | (have h := bb_next ‹RTV _ _ _ _ _› ‹BB2 _ _ _ _ _ _ _› ‹BB3 _ _ _ _ _ _ _ _ _ _› (by omega) (by omega)
       have h1 := h.1.1
       have h2 := h.2
       omega)
set_option maxHeartbeats 4000000 in
theorem vc_Mo_bendsBecome_2_5 (x3 : Int) (x5 : Int) (x6 : Int) (x7 : Int) (x8 : Int) (x9 : Int) (x10 : Int) (x11 : Int) (x12 : Int) (x13 : Int) (barredPoint_0 : Int → Int) (wide_0 : Int) (tall_0 : Int) (costOf_0 : Int → Int) (gx : Int) (k3 : 0 ≤ x3 ∧ x3 ≤ 5999) (k5 : 0 ≤ x5 ∧ x5 ≤ 0) (k6 : 0 ≤ x6 ∧ x6 ≤ 5999) (k7 : 0 ≤ x7 ∧ x7 ≤ 3) (k8 : 1 ≤ x8 ∧ x8 ≤ 1000001) (k9 : 4 ≤ x9 ∧ x9 ≤ 4) (k10 : 4 ≤ x10 ∧ x10 ≤ 4) (k11 : 0 ≤ x11 ∧ x11 ≤ 5999) (k12 : 1 ≤ x12 ∧ x12 ≤ 1) (k13 : 0 ≤ x13 ∧ x13 ≤ 1000000) (d0 : x8 + (-1) ≤ x13 ∧ x13 ≤ x8 + (-1)) (f0 : x13 = x8 - x12) (f1 : STQ (wide_0) (tall_0) (barredPoint_0) (x6) (x7) (x11)) (f2 : ((-1) ≤ x11) ∧ ((x11 + 1) ≤ (wide_0 * tall_0))) (f3 : 0 ≤ x7) (f4 : x10 ≤ x9) (f5 : GRX (wide_0) (tall_0)) (f6 : RTV (wide_0) (tall_0) (barredPoint_0) (costOf_0) (x3)) (f7 : (0 ≤ x3) ∧ ((x3 + 1) ≤ (wide_0 * tall_0))) (f8 : (0 ≤ x6) ∧ ((x6 + 1) ≤ (wide_0 * tall_0))) (f9 : BB1 (wide_0) (tall_0) (barredPoint_0) (costOf_0) (x6) (x7) (x8) (x9)) (f10 : x5 = 0) (hK_0_140 : ∀ j : Int, 0 ≤ j → j < 24000 → 0 ≤ costOf_0 j ∧ costOf_0 j ≤ 1000000) (hK_0_143 : ∀ j : Int, 0 ≤ j → j < 6000 → 0 ≤ barredPoint_0 j ∧ barredPoint_0 j ≤ 1) (kz_0_146 : (-3999999) ≤ wide_0 ∧ wide_0 ≤ 600000023) (kz_0_147 : (-3999999) ≤ tall_0 ∧ tall_0 ≤ 600000007) (ex2 : gx = 1000000) (ex3 : (-2) ≤ gx ∧ gx ≤ 1000000) : (x5 + x13) ≤ 1000000 := by
  first
    | omega
    | (have h := bb2_start (t := x13) ‹RTV _ _ _ _ _› ‹BB1 _ _ _ _ _ _ _ _› (by omega) ‹STQ _ _ _ _ _ _› (by omega)
       have h1 := h.1
       have h2 := h.2.2.2.2
       omega)
    | (have h := bb_next ‹RTV _ _ _ _ _› ‹BB2 _ _ _ _ _ _ _› ‹BB3 _ _ _ _ _ _ _ _ _ _› (by omega) (by omega)
       have h1 := h.1.1
       have h2 := h.2
       omega)
set_option maxHeartbeats 4000000 in
theorem vc_Mo_bendsBecome_2_6 (x3 : Int) (x5 : Int) (x6 : Int) (x7 : Int) (x8 : Int) (x9 : Int) (x10 : Int) (x11 : Int) (x12 : Int) (x13 : Int) (barredPoint_0 : Int → Int) (wide_0 : Int) (tall_0 : Int) (costOf_0 : Int → Int) (gx : Int) (k3 : 0 ≤ x3 ∧ x3 ≤ 5999) (k5 : 0 ≤ x5 ∧ x5 ≤ 0) (k6 : 0 ≤ x6 ∧ x6 ≤ 5999) (k7 : 0 ≤ x7 ∧ x7 ≤ 3) (k8 : 1 ≤ x8 ∧ x8 ≤ 1000001) (k9 : 4 ≤ x9 ∧ x9 ≤ 4) (k10 : 4 ≤ x10 ∧ x10 ≤ 4) (k11 : 0 ≤ x11 ∧ x11 ≤ 5999) (k12 : 1 ≤ x12 ∧ x12 ≤ 1) (k13 : 0 ≤ x13 ∧ x13 ≤ 1000000) (d0 : x8 + (-1) ≤ x13 ∧ x13 ≤ x8 + (-1)) (f0 : x13 = x8 - x12) (f1 : STQ (wide_0) (tall_0) (barredPoint_0) (x6) (x7) (x11)) (f2 : ((-1) ≤ x11) ∧ ((x11 + 1) ≤ (wide_0 * tall_0))) (f3 : 0 ≤ x7) (f4 : x10 ≤ x9) (f5 : GRX (wide_0) (tall_0)) (f6 : RTV (wide_0) (tall_0) (barredPoint_0) (costOf_0) (x3)) (f7 : (0 ≤ x3) ∧ ((x3 + 1) ≤ (wide_0 * tall_0))) (f8 : (0 ≤ x6) ∧ ((x6 + 1) ≤ (wide_0 * tall_0))) (f9 : BB1 (wide_0) (tall_0) (barredPoint_0) (costOf_0) (x6) (x7) (x8) (x9)) (f10 : x5 = 0) (hK_0_140 : ∀ j : Int, 0 ≤ j → j < 24000 → 0 ≤ costOf_0 j ∧ costOf_0 j ≤ 1000000) (hK_0_143 : ∀ j : Int, 0 ≤ j → j < 6000 → 0 ≤ barredPoint_0 j ∧ barredPoint_0 j ≤ 1) (kz_0_146 : (-3999999) ≤ wide_0 ∧ wide_0 ≤ 600000023) (kz_0_147 : (-3999999) ≤ tall_0 ∧ tall_0 ≤ 600000007) (ex2 : gx = 1000000) (ex3 : (-2) ≤ gx ∧ gx ≤ 1000000) : 0 ≤ x5 := by
  first
    | omega
    | (have h := bb2_start (t := x13) ‹RTV _ _ _ _ _› ‹BB1 _ _ _ _ _ _ _ _› (by omega) ‹STQ _ _ _ _ _ _› (by omega)
       have h1 := h.1
       have h2 := h.2.2.2.2
       omega)
    | (have h := bb_next ‹RTV _ _ _ _ _› ‹BB2 _ _ _ _ _ _ _› ‹BB3 _ _ _ _ _ _ _ _ _ _› (by omega) (by omega)
       have h1 := h.1.1
       have h2 := h.2
       omega)
set_option maxHeartbeats 4000000 in
theorem vc_Mo_bendsBecome_2_7 (x3 : Int) (x5 : Int) (x6 : Int) (x7 : Int) (x8 : Int) (x9 : Int) (x10 : Int) (x11 : Int) (x12 : Int) (x13 : Int) (barredPoint_0 : Int → Int) (wide_0 : Int) (tall_0 : Int) (costOf_0 : Int → Int) (gx : Int) (k3 : 0 ≤ x3 ∧ x3 ≤ 5999) (k5 : 0 ≤ x5 ∧ x5 ≤ 0) (k6 : 0 ≤ x6 ∧ x6 ≤ 5999) (k7 : 0 ≤ x7 ∧ x7 ≤ 3) (k8 : 1 ≤ x8 ∧ x8 ≤ 1000001) (k9 : 4 ≤ x9 ∧ x9 ≤ 4) (k10 : 4 ≤ x10 ∧ x10 ≤ 4) (k11 : 0 ≤ x11 ∧ x11 ≤ 5999) (k12 : 1 ≤ x12 ∧ x12 ≤ 1) (k13 : 0 ≤ x13 ∧ x13 ≤ 1000000) (d0 : x8 + (-1) ≤ x13 ∧ x13 ≤ x8 + (-1)) (f0 : x13 = x8 - x12) (f1 : STQ (wide_0) (tall_0) (barredPoint_0) (x6) (x7) (x11)) (f2 : ((-1) ≤ x11) ∧ ((x11 + 1) ≤ (wide_0 * tall_0))) (f3 : 0 ≤ x7) (f4 : x10 ≤ x9) (f5 : GRX (wide_0) (tall_0)) (f6 : RTV (wide_0) (tall_0) (barredPoint_0) (costOf_0) (x3)) (f7 : (0 ≤ x3) ∧ ((x3 + 1) ≤ (wide_0 * tall_0))) (f8 : (0 ≤ x6) ∧ ((x6 + 1) ≤ (wide_0 * tall_0))) (f9 : BB1 (wide_0) (tall_0) (barredPoint_0) (costOf_0) (x6) (x7) (x8) (x9)) (f10 : x5 = 0) (hK_0_140 : ∀ j : Int, 0 ≤ j → j < 24000 → 0 ≤ costOf_0 j ∧ costOf_0 j ≤ 1000000) (hK_0_143 : ∀ j : Int, 0 ≤ j → j < 6000 → 0 ≤ barredPoint_0 j ∧ barredPoint_0 j ≤ 1) (kz_0_146 : (-3999999) ≤ wide_0 ∧ wide_0 ≤ 600000023) (kz_0_147 : (-3999999) ≤ tall_0 ∧ tall_0 ≤ 600000007) (ex2 : gx = 1000000) (ex3 : (-2) ≤ gx ∧ gx ≤ 1000000) : (0 ≤ x13) ∧ (x13 ≤ gx) := by
  first
    | omega
    | (have h := bb2_start (t := x13) ‹RTV _ _ _ _ _› ‹BB1 _ _ _ _ _ _ _ _› (by omega) ‹STQ _ _ _ _ _ _› (by omega)
       have h1 := h.1
       have h2 := h.2.2.2.2
       omega)
    | (have h := bb_next ‹RTV _ _ _ _ _› ‹BB2 _ _ _ _ _ _ _› ‹BB3 _ _ _ _ _ _ _ _ _ _› (by omega) (by omega)
       have h1 := h.1.1
       have h2 := h.2
       omega)
def o_Mo_bendsBecome_2 : or_T := (112, 14, [(0, (2, 0, 0, [165])), (3, (0, 0, 5999, [])), (5, (0, 0, 0, [])), (6, (0, 0, 5999, [])), (7, (0, 0, 3, [])), (8, (0, 1, 1000001, [])), (9, (0, 4, 4, [])), (10, (0, 4, 4, [])), (11, (0, 0, 5999, [])), (12, (0, 1, 1, [])), (13, (0, 0, 1000000, []))], [(2, [13, 8, 12], []), (20, [0, 6, 7, 11], [60, 2, 1, 505, 146, 147, 143]), (20, [11, 0], [50, 2, 0, 1146, 1147, 2, 6, 0, 2, 0, -1, 1, 0, 0, 6, 4, 2, 1, 0, 0, 1, 6, 3, 2, 1, 146, 2, 1, 147]), (8, [7], [3]), (7, [9, 10], [3]), (20, [0], [60, 2, 0, 494, 146, 147]), (20, [0, 3], [60, 2, 2, 504, 146, 147, 143, 140]), (20, [3, 0], [50, 2, 0, 1146, 1147, 2, 6, 0, 2, 0, 0, 1, 0, 0, 6, 4, 2, 1, 0, 0, 1, 6, 3, 2, 1, 146, 2, 1, 147]), (20, [6, 0], [50, 2, 0, 1146, 1147, 2, 6, 0, 2, 0, 0, 1, 0, 0, 6, 4, 2, 1, 0, 0, 1, 6, 3, 2, 1, 146, 2, 1, 147]), (20, [0, 6, 7, 8, 9], [60, 2, 2, 506, 146, 147, 143, 140]), (20, [5], [50, 0, 0, 1, 2, 1, 0, 0, 0])], [], [(0, -2, 1000000, [])], [(20, [0], [60, 2, 0, 494, 146, 147]), (20, [0, 3], [60, 2, 2, 504, 146, 147, 143, 140]), (20, [3, 0], [50, 2, 0, 1146, 1147, 2, 6, 0, 2, 0, 0, 1, 0, 0, 6, 4, 2, 1, 0, 0, 1, 6, 3, 2, 1, 146, 2, 1, 147]), (20, [0, 11, 7, 13], [60, 2, 2, 507, 146, 147, 143, 140]), (20, [11, 0], [50, 2, 0, 1146, 1147, 2, 6, 0, 2, 0, 0, 1, 0, 0, 6, 4, 2, 1, 0, 0, 1, 6, 3, 2, 1, 146, 2, 1, 147]), (20, [5, 13], [50, 0, 0, 0, 6, 4, 2, 1, 0, 1, 1, 0, 1000000]), (20, [5], [50, 0, 0, 0, 2, 0, 0, 1, 0]), (20, [13, 14], [50, 0, 0, 2, 6, 0, 2, 0, 0, 1, 0, 0, 2, 1, 0, 1, 1])], [], [(13, 8, -1, -1)])
theorem oo_Mo_bendsBecome_2 {kA : Nat → ClassId} : or_ok PRD kA GG o_Mo_bendsBecome_2 := by
  refine or_mk fun A ta ws vs hD hth hl => ?_
  intro t0 r0 t3 k3 t5 k5 t6 k6 t7 k7 t8 k8 t9 k9 t10 k10 t11 k11 t12 k12 t13 k13 d0 f0 f1 f2 f3 f4 f5 f6 f7 f8 f9 f10
  replace f0 := shm_14 f0
  replace f1 := shm_1291 f1
  replace f2 := shm_1292 f2
  replace f3 := shm_32 f3
  replace f4 := shm_2 f4
  replace f5 := shm_1289 f5
  replace f6 := shm_1411 f6
  replace f7 := shm_1290 f7
  replace f8 := shm_1290 f8
  replace f9 := shm_1412 f9
  replace f10 := shm_649 f10
  have cr_0_140 := fdq_175 hD hth r0
  have cr_0_143 := fdq_178 hD hth r0
  have hK_0_140 := elq_104 hD hth cr_0_140
  have hK_0_143 := elq_107 hD hth cr_0_143
  have kz_0_146 := fdq_179 hD hth r0
  have kz_0_147 := fdq_180 hD hth r0
  obtain ⟨x, ex, hx⟩ := iv_ex (ta := ta) (lo := (-2)) (hi := 1000000) (z := 1000000) (by omega) (by omega) (by omega) (by omega)
  have ex2 : v_iv (Value.int x) = 1000000 := ex
  have ex3 : (-2) ≤ v_iv (Value.int x) ∧ v_iv (Value.int x) ≤ 1000000 := tv_rng hx
  have e_0 : n_v (vs ++ [Value.int x]) 0 = n_v vs 0 := n_v_old (by rw [hl]; decide)
  have e_3 : n_v (vs ++ [Value.int x]) 3 = n_v vs 3 := n_v_old (by rw [hl]; decide)
  have e_5 : n_v (vs ++ [Value.int x]) 5 = n_v vs 5 := n_v_old (by rw [hl]; decide)
  have e_7 : n_v (vs ++ [Value.int x]) 7 = n_v vs 7 := n_v_old (by rw [hl]; decide)
  have e_11 : n_v (vs ++ [Value.int x]) 11 = n_v vs 11 := n_v_old (by rw [hl]; decide)
  have e_13 : n_v (vs ++ [Value.int x]) 13 = n_v vs 13 := n_v_old (by rw [hl]; decide)
  have e_14 : n_v (vs ++ [Value.int x]) 14 = Value.int x := n_v_new hl
  have nf0 : fc_1 PRD (20, [0], [60, 2, 0, 494, 146, 147]) ws (vs ++ [Value.int x]) := by
    refine ⟨nf_inA hl rfl, sgq_1289 ?_⟩
    · show GRX (w_fi ws (n_v (vs ++ [Value.int x]) 0) 146) (w_fi ws (n_v (vs ++ [Value.int x]) 0) 147)
      rw [e_0]
      exact vc_Mo_bendsBecome_2_0 (v_iv (n_v vs 3)) (v_iv (n_v vs 5)) (v_iv (n_v vs 6)) (v_iv (n_v vs 7)) (v_iv (n_v vs 8)) (v_iv (n_v vs 9)) (v_iv (n_v vs 10)) (v_iv (n_v vs 11)) (v_iv (n_v vs 12)) (v_iv (n_v vs 13)) (w_ei ws (w_ar ws (n_v vs 0) 143)) (w_fi ws (n_v vs 0) 146) (w_fi ws (n_v vs 0) 147) (w_ei ws (w_ar ws (n_v vs 0) 140)) (v_iv (Value.int x)) k3 k5 k6 k7 k8 k9 k10 k11 k12 k13 d0 f0 f1 f2 f3 f4 f5 f6 f7 f8 f9 f10 hK_0_140 hK_0_143 kz_0_146 kz_0_147 ex2 ex3
  have nf1 : fc_1 PRD (20, [0, 3], [60, 2, 2, 504, 146, 147, 143, 140]) ws (vs ++ [Value.int x]) := by
    refine ⟨nf_inA hl rfl, sgq_1411 ?_⟩
    · show RTV (w_fi ws (n_v (vs ++ [Value.int x]) 0) 146) (w_fi ws (n_v (vs ++ [Value.int x]) 0) 147) (w_ei ws (w_ar ws (n_v (vs ++ [Value.int x]) 0) 143)) (w_ei ws (w_ar ws (n_v (vs ++ [Value.int x]) 0) 140)) (v_iv (n_v (vs ++ [Value.int x]) 3))
      simp only [e_0, e_3]
      exact vc_Mo_bendsBecome_2_1 (v_iv (n_v vs 3)) (v_iv (n_v vs 5)) (v_iv (n_v vs 6)) (v_iv (n_v vs 7)) (v_iv (n_v vs 8)) (v_iv (n_v vs 9)) (v_iv (n_v vs 10)) (v_iv (n_v vs 11)) (v_iv (n_v vs 12)) (v_iv (n_v vs 13)) (w_ei ws (w_ar ws (n_v vs 0) 143)) (w_fi ws (n_v vs 0) 146) (w_fi ws (n_v vs 0) 147) (w_ei ws (w_ar ws (n_v vs 0) 140)) (v_iv (Value.int x)) k3 k5 k6 k7 k8 k9 k10 k11 k12 k13 d0 f0 f1 f2 f3 f4 f5 f6 f7 f8 f9 f10 hK_0_140 hK_0_143 kz_0_146 kz_0_147 ex2 ex3
  have nf2 : fc_1 PRD (20, [3, 0], [50, 2, 0, 1146, 1147, 2, 6, 0, 2, 0, 0, 1, 0, 0, 6, 4, 2, 1, 0, 0, 1, 6, 3, 2, 1, 146, 2, 1, 147]) ws (vs ++ [Value.int x]) := by
    refine ⟨nf_inA hl rfl, sgq_1290 ?_⟩
    · show (0 ≤ v_iv (n_v (vs ++ [Value.int x]) 3)) ∧ ((v_iv (n_v (vs ++ [Value.int x]) 3) + 1) ≤ (w_fi ws (n_v (vs ++ [Value.int x]) 0) 146 * w_fi ws (n_v (vs ++ [Value.int x]) 0) 147))
      simp only [e_0, e_3]
      exact vc_Mo_bendsBecome_2_2 (v_iv (n_v vs 3)) (v_iv (n_v vs 5)) (v_iv (n_v vs 6)) (v_iv (n_v vs 7)) (v_iv (n_v vs 8)) (v_iv (n_v vs 9)) (v_iv (n_v vs 10)) (v_iv (n_v vs 11)) (v_iv (n_v vs 12)) (v_iv (n_v vs 13)) (w_ei ws (w_ar ws (n_v vs 0) 143)) (w_fi ws (n_v vs 0) 146) (w_fi ws (n_v vs 0) 147) (w_ei ws (w_ar ws (n_v vs 0) 140)) (v_iv (Value.int x)) k3 k5 k6 k7 k8 k9 k10 k11 k12 k13 d0 f0 f1 f2 f3 f4 f5 f6 f7 f8 f9 f10 hK_0_140 hK_0_143 kz_0_146 kz_0_147 ex2 ex3
  have nf3 : fc_1 PRD (20, [0, 11, 7, 13], [60, 2, 2, 507, 146, 147, 143, 140]) ws (vs ++ [Value.int x]) := by
    refine ⟨nf_inA hl rfl, sgq_1413 ?_⟩
    · show BB2 (w_fi ws (n_v (vs ++ [Value.int x]) 0) 146) (w_fi ws (n_v (vs ++ [Value.int x]) 0) 147) (w_ei ws (w_ar ws (n_v (vs ++ [Value.int x]) 0) 143)) (w_ei ws (w_ar ws (n_v (vs ++ [Value.int x]) 0) 140)) (v_iv (n_v (vs ++ [Value.int x]) 11)) (v_iv (n_v (vs ++ [Value.int x]) 7)) (v_iv (n_v (vs ++ [Value.int x]) 13))
      simp only [e_0, e_7, e_11, e_13]
      exact vc_Mo_bendsBecome_2_3 (v_iv (n_v vs 3)) (v_iv (n_v vs 5)) (v_iv (n_v vs 6)) (v_iv (n_v vs 7)) (v_iv (n_v vs 8)) (v_iv (n_v vs 9)) (v_iv (n_v vs 10)) (v_iv (n_v vs 11)) (v_iv (n_v vs 12)) (v_iv (n_v vs 13)) (w_ei ws (w_ar ws (n_v vs 0) 143)) (w_fi ws (n_v vs 0) 146) (w_fi ws (n_v vs 0) 147) (w_ei ws (w_ar ws (n_v vs 0) 140)) (v_iv (Value.int x)) k3 k5 k6 k7 k8 k9 k10 k11 k12 k13 d0 f0 f1 f2 f3 f4 f5 f6 f7 f8 f9 f10 hK_0_140 hK_0_143 kz_0_146 kz_0_147 ex2 ex3
  have nf4 : fc_1 PRD (20, [11, 0], [50, 2, 0, 1146, 1147, 2, 6, 0, 2, 0, 0, 1, 0, 0, 6, 4, 2, 1, 0, 0, 1, 6, 3, 2, 1, 146, 2, 1, 147]) ws (vs ++ [Value.int x]) := by
    refine ⟨nf_inA hl rfl, sgq_1290 ?_⟩
    · show (0 ≤ v_iv (n_v (vs ++ [Value.int x]) 11)) ∧ ((v_iv (n_v (vs ++ [Value.int x]) 11) + 1) ≤ (w_fi ws (n_v (vs ++ [Value.int x]) 0) 146 * w_fi ws (n_v (vs ++ [Value.int x]) 0) 147))
      simp only [e_0, e_11]
      exact vc_Mo_bendsBecome_2_4 (v_iv (n_v vs 3)) (v_iv (n_v vs 5)) (v_iv (n_v vs 6)) (v_iv (n_v vs 7)) (v_iv (n_v vs 8)) (v_iv (n_v vs 9)) (v_iv (n_v vs 10)) (v_iv (n_v vs 11)) (v_iv (n_v vs 12)) (v_iv (n_v vs 13)) (w_ei ws (w_ar ws (n_v vs 0) 143)) (w_fi ws (n_v vs 0) 146) (w_fi ws (n_v vs 0) 147) (w_ei ws (w_ar ws (n_v vs 0) 140)) (v_iv (Value.int x)) k3 k5 k6 k7 k8 k9 k10 k11 k12 k13 d0 f0 f1 f2 f3 f4 f5 f6 f7 f8 f9 f10 hK_0_140 hK_0_143 kz_0_146 kz_0_147 ex2 ex3
  have nf5 : fc_1 PRD (20, [5, 13], [50, 0, 0, 0, 6, 4, 2, 1, 0, 1, 1, 0, 1000000]) ws (vs ++ [Value.int x]) := by
    refine ⟨nf_inA hl rfl, sgq_1414 ?_⟩
    · show (v_iv (n_v (vs ++ [Value.int x]) 5) + v_iv (n_v (vs ++ [Value.int x]) 13)) ≤ 1000000
      simp only [e_5, e_13]
      exact vc_Mo_bendsBecome_2_5 (v_iv (n_v vs 3)) (v_iv (n_v vs 5)) (v_iv (n_v vs 6)) (v_iv (n_v vs 7)) (v_iv (n_v vs 8)) (v_iv (n_v vs 9)) (v_iv (n_v vs 10)) (v_iv (n_v vs 11)) (v_iv (n_v vs 12)) (v_iv (n_v vs 13)) (w_ei ws (w_ar ws (n_v vs 0) 143)) (w_fi ws (n_v vs 0) 146) (w_fi ws (n_v vs 0) 147) (w_ei ws (w_ar ws (n_v vs 0) 140)) (v_iv (Value.int x)) k3 k5 k6 k7 k8 k9 k10 k11 k12 k13 d0 f0 f1 f2 f3 f4 f5 f6 f7 f8 f9 f10 hK_0_140 hK_0_143 kz_0_146 kz_0_147 ex2 ex3
  have nf6 : fc_1 PRD (20, [5], [50, 0, 0, 0, 2, 0, 0, 1, 0]) ws (vs ++ [Value.int x]) := by
    refine ⟨nf_inA hl rfl, sgq_722 ?_⟩
    · show 0 ≤ v_iv (n_v (vs ++ [Value.int x]) 5)
      rw [e_5]
      exact vc_Mo_bendsBecome_2_6 (v_iv (n_v vs 3)) (v_iv (n_v vs 5)) (v_iv (n_v vs 6)) (v_iv (n_v vs 7)) (v_iv (n_v vs 8)) (v_iv (n_v vs 9)) (v_iv (n_v vs 10)) (v_iv (n_v vs 11)) (v_iv (n_v vs 12)) (v_iv (n_v vs 13)) (w_ei ws (w_ar ws (n_v vs 0) 143)) (w_fi ws (n_v vs 0) 146) (w_fi ws (n_v vs 0) 147) (w_ei ws (w_ar ws (n_v vs 0) 140)) (v_iv (Value.int x)) k3 k5 k6 k7 k8 k9 k10 k11 k12 k13 d0 f0 f1 f2 f3 f4 f5 f6 f7 f8 f9 f10 hK_0_140 hK_0_143 kz_0_146 kz_0_147 ex2 ex3
  have nf7 : fc_1 PRD (20, [13, 14], [50, 0, 0, 2, 6, 0, 2, 0, 0, 1, 0, 0, 2, 1, 0, 1, 1]) ws (vs ++ [Value.int x]) := by
    refine ⟨nf_inA hl rfl, sgq_366 ?_⟩
    · show (0 ≤ v_iv (n_v (vs ++ [Value.int x]) 13)) ∧ (v_iv (n_v (vs ++ [Value.int x]) 13) ≤ v_iv (n_v (vs ++ [Value.int x]) 14))
      simp only [e_13, e_14]
      exact vc_Mo_bendsBecome_2_7 (v_iv (n_v vs 3)) (v_iv (n_v vs 5)) (v_iv (n_v vs 6)) (v_iv (n_v vs 7)) (v_iv (n_v vs 8)) (v_iv (n_v vs 9)) (v_iv (n_v vs 10)) (v_iv (n_v vs 11)) (v_iv (n_v vs 12)) (v_iv (n_v vs 13)) (w_ei ws (w_ar ws (n_v vs 0) 143)) (w_fi ws (n_v vs 0) 146) (w_fi ws (n_v vs 0) 147) (w_ei ws (w_ar ws (n_v vs 0) 140)) (v_iv (Value.int x)) k3 k5 k6 k7 k8 k9 k10 k11 k12 k13 d0 f0 f1 f2 f3 f4 f5 f6 f7 f8 f9 f10 hK_0_140 hK_0_143 kz_0_146 kz_0_147 ex2 ex3
  exact ⟨(fun _ h => (by cases h)), [Value.int x], ag_one hx, List.forall_mem_cons.mpr ⟨⟨show (20 : Nat) < 100 from by decide, nf0⟩, List.forall_mem_cons.mpr ⟨⟨show (20 : Nat) < 100 from by decide, nf1⟩, List.forall_mem_cons.mpr ⟨⟨show (20 : Nat) < 100 from by decide, nf2⟩, List.forall_mem_cons.mpr ⟨⟨show (20 : Nat) < 100 from by decide, nf3⟩, List.forall_mem_cons.mpr ⟨⟨show (20 : Nat) < 100 from by decide, nf4⟩, List.forall_mem_cons.mpr ⟨⟨show (20 : Nat) < 100 from by decide, nf5⟩, List.forall_mem_cons.mpr ⟨⟨show (20 : Nat) < 100 from by decide, nf6⟩, List.forall_mem_cons.mpr ⟨⟨show (20 : Nat) < 100 from by decide, nf7⟩, (fun _ h => (by cases h))⟩⟩⟩⟩⟩⟩⟩⟩, (fun _ h => (by cases h))⟩
set_option maxHeartbeats 4000000 in
theorem vc_Mo_bendsBecome_3_0 (x3 : Int) (x5 : Int) (x6 : Int) (x7 : Int) (x8 : Int) (x9 : Int) (x10 : Int) (x11 : Int) (x12 : Int) (barredPoint_0 : Int → Int) (wide_0 : Int) (tall_0 : Int) (costOf_0 : Int → Int) (k3 : 0 ≤ x3 ∧ x3 ≤ 5999) (k5 : 0 ≤ x5 ∧ x5 ≤ 0) (k6 : 0 ≤ x6 ∧ x6 ≤ 5999) (k7 : (-1) ≤ x7 ∧ x7 ≤ 2) (k8 : 1 ≤ x8 ∧ x8 ≤ 1000001) (k9 : 0 ≤ x9 ∧ x9 ≤ 3) (k10 : 4 ≤ x10 ∧ x10 ≤ 4) (k11 : (-1) ≤ x11 ∧ x11 ≤ (-1)) (k12 : 1 ≤ x12 ∧ x12 ≤ 4) (d0 : x9 + 1 ≤ x12 ∧ x12 ≤ x9 + 1) (d1 : x9 + (-4294967296) ≤ x7 ∧ x7 ≤ x9 + (-1)) (d2 : x7 + (-4294967296) ≤ x8 ∧ x8 ≤ x7 + 1000001) (d3 : x9 + (-4294967296) ≤ x8 ∧ x8 ≤ x9 + 1000000) (f0 : x12 = x9 + 1) (f1 : x11 < 0) (f2 : STQ (wide_0) (tall_0) (barredPoint_0) (x6) (x9) (x11)) (f3 : ((-1) ≤ x11) ∧ ((x11 + 1) ≤ (wide_0 * tall_0))) (f4 : x9 < x10) (f5 : GRX (wide_0) (tall_0)) (f6 : RTV (wide_0) (tall_0) (barredPoint_0) (costOf_0) (x3)) (f7 : (0 ≤ x3) ∧ ((x3 + 1) ≤ (wide_0 * tall_0))) (f8 : (0 ≤ x6) ∧ ((x6 + 1) ≤ (wide_0 * tall_0))) (f9 : BB1 (wide_0) (tall_0) (barredPoint_0) (costOf_0) (x6) (x7) (x8) (x9)) (f10 : x5 = 0) (hK_0_140 : ∀ j : Int, 0 ≤ j → j < 24000 → 0 ≤ costOf_0 j ∧ costOf_0 j ≤ 1000000) (hK_0_143 : ∀ j : Int, 0 ≤ j → j < 6000 → 0 ≤ barredPoint_0 j ∧ barredPoint_0 j ≤ 1) (kz_0_146 : (-3999999) ≤ wide_0 ∧ wide_0 ≤ 600000023) (kz_0_147 : (-3999999) ≤ tall_0 ∧ tall_0 ≤ 600000007) : BB1 (wide_0) (tall_0) (barredPoint_0) (costOf_0) (x6) (x7) (x8) (x12) := by
  first
    | assumption
    | exact Or.inl ⟨by omega, by omega⟩
    | (have h := ‹BB1 _ _ _ _ _ _ _ _›; exact h)
    | (have hb : x8 ≤ 1000000 := by
         rcases ‹BB1 _ _ _ _ _ _ _ _› with h | h
         · omega
         · have := h.2.1; omega
       have e1 : x16 = costOf_0 x15 := by assumption
       have e2 : x22 = costOf_0 x21 := by assumption
       have e3 : x15 = x21 := by omega
       rw [e3, ← e2] at e1
       rw [show x24 = x22 + 1 by omega]; exact bb1_take (b := x8) (d := x7) (q := x11) (x := x21) (v := x22) ‹STQ _ _ _ _ _ _› (by omega) (by omega) (by omega) (by omega) (by assumption) (by omega))
  
def o_Mo_bendsBecome_3 : or_T := (22, 13, [(0, (2, 0, 0, [165])), (3, (0, 0, 5999, [])), (5, (0, 0, 0, [])), (6, (0, 0, 5999, [])), (7, (0, -1, 2, [])), (8, (0, 1, 1000001, [])), (9, (0, 0, 3, [])), (10, (0, 4, 4, [])), (11, (0, -1, -1, [])), (12, (0, 1, 4, []))], [(6, [12, 9], [1]), (8, [11], [2]), (20, [0, 6, 9, 11], [60, 2, 1, 505, 146, 147, 143]), (20, [11, 0], [50, 2, 0, 1146, 1147, 2, 6, 0, 2, 0, -1, 1, 0, 0, 6, 4, 2, 1, 0, 0, 1, 6, 3, 2, 1, 146, 2, 1, 147]), (7, [9, 10], [2]), (20, [0], [60, 2, 0, 494, 146, 147]), (20, [0, 3], [60, 2, 2, 504, 146, 147, 143, 140]), (20, [3, 0], [50, 2, 0, 1146, 1147, 2, 6, 0, 2, 0, 0, 1, 0, 0, 6, 4, 2, 1, 0, 0, 1, 6, 3, 2, 1, 146, 2, 1, 147]), (20, [6, 0], [50, 2, 0, 1146, 1147, 2, 6, 0, 2, 0, 0, 1, 0, 0, 6, 4, 2, 1, 0, 0, 1, 6, 3, 2, 1, 146, 2, 1, 147]), (20, [0, 6, 7, 8, 9], [60, 2, 2, 506, 146, 147, 143, 140]), (20, [5], [50, 0, 0, 1, 2, 1, 0, 0, 0])], [], [], [(20, [0, 6, 7, 8, 12], [60, 2, 2, 506, 146, 147, 143, 140])], [], [(12, 9, 1, 1), (7, 9, -4294967296, -1), (8, 7, -4294967296, 1000001), (8, 9, -4294967296, 1000000)])
theorem oo_Mo_bendsBecome_3 {kA : Nat → ClassId} : or_ok PRD kA GG o_Mo_bendsBecome_3 := by
  refine or_mk fun A ta ws vs hD hth hl => ?_
  intro t0 r0 t3 k3 t5 k5 t6 k6 t7 k7 t8 k8 t9 k9 t10 k10 t11 k11 t12 k12 d0 d1 d2 d3 f0 f1 f2 f3 f4 f5 f6 f7 f8 f9 f10
  have cr_0_140 := fdq_175 hD hth r0
  have cr_0_143 := fdq_178 hD hth r0
  have hK_0_140 := elq_104 hD hth cr_0_140
  have hK_0_143 := elq_107 hD hth cr_0_143
  have kz_0_146 := fdq_179 hD hth r0
  have kz_0_147 := fdq_180 hD hth r0
  have nf0 : fc_1 PRD (20, [0, 6, 7, 8, 12], [60, 2, 2, 506, 146, 147, 143, 140]) ws (vs) := ⟨nf_in hl rfl, sgq_1412 (vc_Mo_bendsBecome_3_0 (v_iv (n_v vs 3)) (v_iv (n_v vs 5)) (v_iv (n_v vs 6)) (v_iv (n_v vs 7)) (v_iv (n_v vs 8)) (v_iv (n_v vs 9)) (v_iv (n_v vs 10)) (v_iv (n_v vs 11)) (v_iv (n_v vs 12)) (w_ei ws (w_ar ws (n_v vs 0) 143)) (w_fi ws (n_v vs 0) 146) (w_fi ws (n_v vs 0) 147) (w_ei ws (w_ar ws (n_v vs 0) 140)) k3 k5 k6 k7 k8 k9 k10 k11 k12 d0 d1 d2 d3 (shm_4 f0) (shm_39 f1) (shm_1291 f2) (shm_1292 f3) (shm_6 f4) (shm_1289 f5) (shm_1411 f6) (shm_1290 f7) (shm_1290 f8) (shm_1412 f9) (shm_649 f10) hK_0_140 hK_0_143 kz_0_146 kz_0_147)⟩
  refine ⟨(fun _ h => (by cases h)), [], trivial, ?_, (fun _ h => (by cases h))⟩
  rw [List.append_nil]
  exact List.forall_mem_cons.mpr ⟨⟨show (20 : Nat) < 100 from by decide, nf0⟩, (fun _ h => (by cases h))⟩
set_option maxHeartbeats 4000000 in
theorem vc_Mo_bendsBecome_4_0 (x3 : Int) (x5 : Int) (x6 : Int) (x7 : Int) (x8 : Int) (x9 : Int) (x10 : Int) (x11 : Int) (x13 : Int) (x14 : Int) (x15 : Int) (x16 : Int) (x17 : Int) (x18 : Int) (x19 : Int) (costOf_0 : Int → Int) (barredPoint_0 : Int → Int) (wide_0 : Int) (tall_0 : Int) (k3 : 0 ≤ x3 ∧ x3 ≤ 5999) (k5 : 0 ≤ x5 ∧ x5 ≤ 0) (k6 : 0 ≤ x6 ∧ x6 ≤ 5999) (k7 : (-1) ≤ x7 ∧ x7 ≤ 2) (k8 : 1 ≤ x8 ∧ x8 ≤ 1000001) (k9 : 0 ≤ x9 ∧ x9 ≤ 3) (k10 : 4 ≤ x10 ∧ x10 ≤ 4) (k11 : 0 ≤ x11 ∧ x11 ≤ 5999) (k13 : 4 ≤ x13 ∧ x13 ≤ 4) (k14 : 0 ≤ x14 ∧ x14 ≤ 23996) (k15 : 0 ≤ x15 ∧ x15 ≤ 23999) (k16 : 0 ≤ x16 ∧ x16 ≤ 1000000) (k17 : 1 ≤ x17 ∧ x17 ≤ 1) (k18 : 1 ≤ x18 ∧ x18 ≤ 1000001) (k19 : 1 ≤ x19 ∧ x19 ≤ 4) (d0 : x9 + 1 ≤ x19 ∧ x19 ≤ x9 + 1) (d1 : x8 + 0 ≤ x18 ∧ x18 ≤ x8 + 4294967296) (d2 : x16 + 1 ≤ x18 ∧ x18 ≤ x16 + 1) (d3 : x9 + 0 ≤ x15 ∧ x15 ≤ x9 + 23996) (d4 : x14 + 0 ≤ x15 ∧ x15 ≤ x14 + 3) (d5 : x9 + (-4294967296) ≤ x7 ∧ x7 ≤ x9 + (-1)) (d6 : x7 + (-4294967296) ≤ x8 ∧ x8 ≤ x7 + 1000001) (d7 : x9 + (-4294967296) ≤ x8 ∧ x8 ≤ x9 + 1000000) (f0 : x19 = x9 + 1) (f1 : x8 ≤ x18) (f2 : x18 = x16 + x17) (h3 : x16 = costOf_0 (x15)) (f4 : x15 = x14 + x9) (f5 : x14 = 4 * x11) (f7 : 0 ≤ x11) (f8 : STQ (wide_0) (tall_0) (barredPoint_0) (x6) (x9) (x11)) (f9 : ((-1) ≤ x11) ∧ ((x11 + 1) ≤ (wide_0 * tall_0))) (f10 : x9 < x10) (f11 : GRX (wide_0) (tall_0)) (f12 : RTV (wide_0) (tall_0) (barredPoint_0) (costOf_0) (x3)) (f13 : (0 ≤ x3) ∧ ((x3 + 1) ≤ (wide_0 * tall_0))) (f14 : (0 ≤ x6) ∧ ((x6 + 1) ≤ (wide_0 * tall_0))) (f15 : BB1 (wide_0) (tall_0) (barredPoint_0) (costOf_0) (x6) (x7) (x8) (x9)) (f16 : x5 = 0) (hK_0_140 : ∀ j : Int, 0 ≤ j → j < 24000 → 0 ≤ costOf_0 j ∧ costOf_0 j ≤ 1000000) (hK_0_143 : ∀ j : Int, 0 ≤ j → j < 6000 → 0 ≤ barredPoint_0 j ∧ barredPoint_0 j ≤ 1) (kz_0_146 : (-3999999) ≤ wide_0 ∧ wide_0 ≤ 600000023) (kz_0_147 : (-3999999) ≤ tall_0 ∧ tall_0 ≤ 600000007) : BB1 (wide_0) (tall_0) (barredPoint_0) (costOf_0) (x6) (x7) (x8) (x19) := by
  first
    | assumption
    | exact Or.inl ⟨by omega, by omega⟩
    | (have h := ‹BB1 _ _ _ _ _ _ _ _›; exact h)
    | (have hb : x8 ≤ 1000000 := by
         rcases ‹BB1 _ _ _ _ _ _ _ _› with h | h
         · omega
         · have := h.2.1; omega
       have e1 : x16 = costOf_0 x15 := by assumption
       have e2 : x22 = costOf_0 x21 := by assumption
       have e3 : x15 = x21 := by omega
       rw [e3, ← e2] at e1
       rw [show x24 = x22 + 1 by omega]; exact bb1_take (b := x8) (d := x7) (q := x11) (x := x21) (v := x22) ‹STQ _ _ _ _ _ _› (by omega) (by omega) (by omega) (by omega) (by assumption) (by omega))
  
def o_Mo_bendsBecome_4 : or_T := (22, 20, [(0, (2, 0, 0, [165])), (3, (0, 0, 5999, [])), (5, (0, 0, 0, [])), (6, (0, 0, 5999, [])), (7, (0, -1, 2, [])), (8, (0, 1, 1000001, [])), (9, (0, 0, 3, [])), (10, (0, 4, 4, [])), (11, (0, 0, 5999, [])), (13, (0, 4, 4, [])), (14, (0, 0, 23996, [])), (15, (0, 0, 23999, [])), (16, (0, 0, 1000000, [])), (17, (0, 1, 1, [])), (18, (0, 1, 1000001, [])), (19, (0, 1, 4, []))], [(6, [19, 9], [1]), (7, [18, 8], [3]), (1, [18, 16, 17], []), (10, [16, 12, 15], []), (1, [15, 14, 9], []), (3, [14, 13, 11], []), (9, [12, 0], [140]), (8, [11], [3]), (20, [0, 6, 9, 11], [60, 2, 1, 505, 146, 147, 143]), (20, [11, 0], [50, 2, 0, 1146, 1147, 2, 6, 0, 2, 0, -1, 1, 0, 0, 6, 4, 2, 1, 0, 0, 1, 6, 3, 2, 1, 146, 2, 1, 147]), (7, [9, 10], [2]), (20, [0], [60, 2, 0, 494, 146, 147]), (20, [0, 3], [60, 2, 2, 504, 146, 147, 143, 140]), (20, [3, 0], [50, 2, 0, 1146, 1147, 2, 6, 0, 2, 0, 0, 1, 0, 0, 6, 4, 2, 1, 0, 0, 1, 6, 3, 2, 1, 146, 2, 1, 147]), (20, [6, 0], [50, 2, 0, 1146, 1147, 2, 6, 0, 2, 0, 0, 1, 0, 0, 6, 4, 2, 1, 0, 0, 1, 6, 3, 2, 1, 146, 2, 1, 147]), (20, [0, 6, 7, 8, 9], [60, 2, 2, 506, 146, 147, 143, 140]), (20, [5], [50, 0, 0, 1, 2, 1, 0, 0, 0])], [], [], [(20, [0, 6, 7, 8, 19], [60, 2, 2, 506, 146, 147, 143, 140])], [], [(19, 9, 1, 1), (18, 8, 0, 4294967296), (18, 16, 1, 1), (15, 9, 0, 23996), (15, 14, 0, 3), (7, 9, -4294967296, -1), (8, 7, -4294967296, 1000001), (8, 9, -4294967296, 1000000)])
theorem oo_Mo_bendsBecome_4 {kA : Nat → ClassId} : or_ok PRD kA GG o_Mo_bendsBecome_4 := by
  refine or_mk fun A ta ws vs hD hth hl => ?_
  intro t0 r0 t3 k3 t5 k5 t6 k6 t7 k7 t8 k8 t9 k9 t10 k10 t11 k11 t13 k13 t14 k14 t15 k15 t16 k16 t17 k17 t18 k18 t19 k19 d0 d1 d2 d3 d4 d5 d6 d7 f0 f1 f2 f3 f4 f5 f6 f7 f8 f9 f10 f11 f12 f13 f14 f15 f16
  replace f3 := shm_107 f3
  replace f5 := shm_38 f5
  rw [show v_iv (n_v vs 13) = 4 from by omega] at f5
  replace f6 := shm_703 f6
  have cr_0_140 := fdq_175 hD hth r0
  have cr_0_143 := fdq_178 hD hth r0
  have ad_12 : v_ad (n_v vs 12) = w_ar ws (n_v vs 0) 140 := congrArg v_ad f6
  simp only [ad_12] at f3
  have h3 : v_iv (n_v vs 16) = w_ei ws (w_ar ws (n_v vs 0) 140) (v_iv (n_v vs 15)) := f3
  have hK_0_140 := elq_104 hD hth cr_0_140
  have hK_0_143 := elq_107 hD hth cr_0_143
  have kz_0_146 := fdq_179 hD hth r0
  have kz_0_147 := fdq_180 hD hth r0
  have nf0 : fc_1 PRD (20, [0, 6, 7, 8, 19], [60, 2, 2, 506, 146, 147, 143, 140]) ws (vs) := ⟨nf_in hl rfl, sgq_1412 (vc_Mo_bendsBecome_4_0 (v_iv (n_v vs 3)) (v_iv (n_v vs 5)) (v_iv (n_v vs 6)) (v_iv (n_v vs 7)) (v_iv (n_v vs 8)) (v_iv (n_v vs 9)) (v_iv (n_v vs 10)) (v_iv (n_v vs 11)) (v_iv (n_v vs 13)) (v_iv (n_v vs 14)) (v_iv (n_v vs 15)) (v_iv (n_v vs 16)) (v_iv (n_v vs 17)) (v_iv (n_v vs 18)) (v_iv (n_v vs 19)) (w_ei ws (w_ar ws (n_v vs 0) 140)) (w_ei ws (w_ar ws (n_v vs 0) 143)) (w_fi ws (n_v vs 0) 146) (w_fi ws (n_v vs 0) 147) k3 k5 k6 k7 k8 k9 k10 k11 k13 k14 k15 k16 k17 k18 k19 d0 d1 d2 d3 d4 d5 d6 d7 (shm_4 f0) (shm_2 f1) (shm_12 f2) h3 (shm_12 f4) f5 (shm_32 f7) (shm_1291 f8) (shm_1292 f9) (shm_6 f10) (shm_1289 f11) (shm_1411 f12) (shm_1290 f13) (shm_1290 f14) (shm_1412 f15) (shm_649 f16) hK_0_140 hK_0_143 kz_0_146 kz_0_147)⟩
  refine ⟨(fun _ h => (by cases h)), [], trivial, ?_, (fun _ h => (by cases h))⟩
  rw [List.append_nil]
  exact List.forall_mem_cons.mpr ⟨⟨show (20 : Nat) < 100 from by decide, nf0⟩, (fun _ h => (by cases h))⟩
set_option maxHeartbeats 4000000 in
theorem vc_Mo_bendsBecome_5_0 (x3 : Int) (x5 : Int) (x6 : Int) (x7 : Int) (x8 : Int) (x9 : Int) (x10 : Int) (x11 : Int) (x13 : Int) (x14 : Int) (x15 : Int) (x16 : Int) (x17 : Int) (x18 : Int) (x19 : Int) (x20 : Int) (x21 : Int) (x22 : Int) (x23 : Int) (x24 : Int) (x25 : Int) (costOf_0 : Int → Int) (barredPoint_0 : Int → Int) (wide_0 : Int) (tall_0 : Int) (k3 : 0 ≤ x3 ∧ x3 ≤ 5999) (k5 : 0 ≤ x5 ∧ x5 ≤ 0) (k6 : 0 ≤ x6 ∧ x6 ≤ 5999) (k7 : (-1) ≤ x7 ∧ x7 ≤ 2) (k8 : 2 ≤ x8 ∧ x8 ≤ 1000001) (k9 : 0 ≤ x9 ∧ x9 ≤ 3) (k10 : 4 ≤ x10 ∧ x10 ≤ 4) (k11 : 0 ≤ x11 ∧ x11 ≤ 5999) (k13 : 4 ≤ x13 ∧ x13 ≤ 4) (k14 : 0 ≤ x14 ∧ x14 ≤ 23996) (k15 : 0 ≤ x15 ∧ x15 ≤ 23999) (k16 : 0 ≤ x16 ∧ x16 ≤ 999999) (k17 : 1 ≤ x17 ∧ x17 ≤ 1) (k18 : 1 ≤ x18 ∧ x18 ≤ 1000000) (k19 : 4 ≤ x19 ∧ x19 ≤ 4) (k20 : 0 ≤ x20 ∧ x20 ≤ 23996) (k21 : 0 ≤ x21 ∧ x21 ≤ 23999) (k22 : 0 ≤ x22 ∧ x22 ≤ 1000000) (k23 : 1 ≤ x23 ∧ x23 ≤ 1) (k24 : 1 ≤ x24 ∧ x24 ≤ 1000001) (k25 : 1 ≤ x25 ∧ x25 ≤ 4) (d0 : x9 + 1 ≤ x25 ∧ x25 ≤ x9 + 1) (d1 : x22 + 1 ≤ x24 ∧ x24 ≤ x22 + 1) (d2 : x9 + 0 ≤ x21 ∧ x21 ≤ x9 + 23996) (d3 : x20 + 0 ≤ x21 ∧ x21 ≤ x20 + 3) (d4 : x8 + (-4294967296) ≤ x18 ∧ x18 ≤ x8 + (-1)) (d5 : x16 + 1 ≤ x18 ∧ x18 ≤ x16 + 1) (d6 : x9 + 0 ≤ x15 ∧ x15 ≤ x9 + 23996) (d7 : x14 + 0 ≤ x15 ∧ x15 ≤ x14 + 3) (d8 : x9 + (-4294967296) ≤ x7 ∧ x7 ≤ x9 + (-1)) (d9 : x7 + (-4294967296) ≤ x8 ∧ x8 ≤ x7 + 1000001) (d10 : x9 + (-4294967296) ≤ x8 ∧ x8 ≤ x9 + 1000000) (f0 : x25 = x9 + 1) (f1 : x24 = x22 + x23) (h2 : x22 = costOf_0 (x21)) (f3 : x21 = x20 + x9) (f4 : x20 = 4 * x11) (f6 : x18 < x8) (f7 : x18 = x16 + x17) (h8 : x16 = costOf_0 (x15)) (f9 : x15 = x14 + x9) (f10 : x14 = 4 * x11) (f11 : 0 ≤ x11) (f12 : STQ (wide_0) (tall_0) (barredPoint_0) (x6) (x9) (x11)) (f13 : ((-1) ≤ x11) ∧ ((x11 + 1) ≤ (wide_0 * tall_0))) (f14 : x9 < x10) (f15 : GRX (wide_0) (tall_0)) (f16 : RTV (wide_0) (tall_0) (barredPoint_0) (costOf_0) (x3)) (f17 : (0 ≤ x3) ∧ ((x3 + 1) ≤ (wide_0 * tall_0))) (f18 : (0 ≤ x6) ∧ ((x6 + 1) ≤ (wide_0 * tall_0))) (f19 : BB1 (wide_0) (tall_0) (barredPoint_0) (costOf_0) (x6) (x7) (x8) (x9)) (f20 : x5 = 0) (hK_0_140 : ∀ j : Int, 0 ≤ j → j < 24000 → 0 ≤ costOf_0 j ∧ costOf_0 j ≤ 1000000) (hK_0_143 : ∀ j : Int, 0 ≤ j → j < 6000 → 0 ≤ barredPoint_0 j ∧ barredPoint_0 j ≤ 1) (kz_0_146 : (-3999999) ≤ wide_0 ∧ wide_0 ≤ 600000023) (kz_0_147 : (-3999999) ≤ tall_0 ∧ tall_0 ≤ 600000007) : BB1 (wide_0) (tall_0) (barredPoint_0) (costOf_0) (x6) (x9) (x24) (x25) := by
  first
    | assumption
    | exact Or.inl ⟨by omega, by omega⟩
    | (have h := ‹BB1 _ _ _ _ _ _ _ _›; exact h)
    | (have hb : x8 ≤ 1000000 := by
         rcases ‹BB1 _ _ _ _ _ _ _ _› with h | h
         · omega
         · have := h.2.1; omega
       have e1 : x16 = costOf_0 x15 := by assumption
       have e2 : x22 = costOf_0 x21 := by assumption
       have e3 : x15 = x21 := by omega
       rw [e3, ← e2] at e1
       rw [show x24 = x22 + 1 by omega]; exact bb1_take (b := x8) (d := x7) (q := x11) (x := x21) (v := x22) ‹STQ _ _ _ _ _ _› (by omega) (by omega) (by omega) (by omega) (by assumption) (by omega))
  
def o_Mo_bendsBecome_5 : or_T := (22, 26, [(0, (2, 0, 0, [165])), (3, (0, 0, 5999, [])), (5, (0, 0, 0, [])), (6, (0, 0, 5999, [])), (7, (0, -1, 2, [])), (8, (0, 2, 1000001, [])), (9, (0, 0, 3, [])), (10, (0, 4, 4, [])), (11, (0, 0, 5999, [])), (13, (0, 4, 4, [])), (14, (0, 0, 23996, [])), (15, (0, 0, 23999, [])), (16, (0, 0, 999999, [])), (17, (0, 1, 1, [])), (18, (0, 1, 1000000, [])), (19, (0, 4, 4, [])), (20, (0, 0, 23996, [])), (21, (0, 0, 23999, [])), (22, (0, 0, 1000000, [])), (23, (0, 1, 1, [])), (24, (0, 1, 1000001, [])), (25, (0, 1, 4, []))], [(6, [25, 9], [1]), (1, [24, 22, 23], []), (10, [22, 12, 21], []), (1, [21, 20, 9], []), (3, [20, 19, 11], []), (9, [12, 0], [140]), (7, [18, 8], [2]), (1, [18, 16, 17], []), (10, [16, 12, 15], []), (1, [15, 14, 9], []), (3, [14, 13, 11], []), (8, [11], [3]), (20, [0, 6, 9, 11], [60, 2, 1, 505, 146, 147, 143]), (20, [11, 0], [50, 2, 0, 1146, 1147, 2, 6, 0, 2, 0, -1, 1, 0, 0, 6, 4, 2, 1, 0, 0, 1, 6, 3, 2, 1, 146, 2, 1, 147]), (7, [9, 10], [2]), (20, [0], [60, 2, 0, 494, 146, 147]), (20, [0, 3], [60, 2, 2, 504, 146, 147, 143, 140]), (20, [3, 0], [50, 2, 0, 1146, 1147, 2, 6, 0, 2, 0, 0, 1, 0, 0, 6, 4, 2, 1, 0, 0, 1, 6, 3, 2, 1, 146, 2, 1, 147]), (20, [6, 0], [50, 2, 0, 1146, 1147, 2, 6, 0, 2, 0, 0, 1, 0, 0, 6, 4, 2, 1, 0, 0, 1, 6, 3, 2, 1, 146, 2, 1, 147]), (20, [0, 6, 7, 8, 9], [60, 2, 2, 506, 146, 147, 143, 140]), (20, [5], [50, 0, 0, 1, 2, 1, 0, 0, 0])], [], [], [(20, [0, 6, 9, 24, 25], [60, 2, 2, 506, 146, 147, 143, 140])], [], [(25, 9, 1, 1), (24, 22, 1, 1), (21, 9, 0, 23996), (21, 20, 0, 3), (18, 8, -4294967296, -1), (18, 16, 1, 1), (15, 9, 0, 23996), (15, 14, 0, 3), (7, 9, -4294967296, -1), (8, 7, -4294967296, 1000001), (8, 9, -4294967296, 1000000)])
theorem oo_Mo_bendsBecome_5 {kA : Nat → ClassId} : or_ok PRD kA GG o_Mo_bendsBecome_5 := by
  refine or_mk fun A ta ws vs hD hth hl => ?_
  intro t0 r0 t3 k3 t5 k5 t6 k6 t7 k7 t8 k8 t9 k9 t10 k10 t11 k11 t13 k13 t14 k14 t15 k15 t16 k16 t17 k17 t18 k18 t19 k19 t20 k20 t21 k21 t22 k22 t23 k23 t24 k24 t25 k25 d0 d1 d2 d3 d4 d5 d6 d7 d8 d9 d10 f0 f1 f2 f3 f4 f5 f6 f7 f8 f9 f10 f11 f12 f13 f14 f15 f16 f17 f18 f19 f20
  replace f2 := shm_107 f2
  replace f4 := shm_38 f4
  rw [show v_iv (n_v vs 19) = 4 from by omega] at f4
  replace f5 := shm_703 f5
  replace f8 := shm_107 f8
  replace f10 := shm_38 f10
  rw [show v_iv (n_v vs 13) = 4 from by omega] at f10
  have cr_0_140 := fdq_175 hD hth r0
  have cr_0_143 := fdq_178 hD hth r0
  have ad_12 : v_ad (n_v vs 12) = w_ar ws (n_v vs 0) 140 := congrArg v_ad f5
  simp only [ad_12] at f2
  have h2 : v_iv (n_v vs 22) = w_ei ws (w_ar ws (n_v vs 0) 140) (v_iv (n_v vs 21)) := f2
  simp only [ad_12] at f8
  have h8 : v_iv (n_v vs 16) = w_ei ws (w_ar ws (n_v vs 0) 140) (v_iv (n_v vs 15)) := f8
  have hK_0_140 := elq_104 hD hth cr_0_140
  have hK_0_143 := elq_107 hD hth cr_0_143
  have kz_0_146 := fdq_179 hD hth r0
  have kz_0_147 := fdq_180 hD hth r0
  have nf0 : fc_1 PRD (20, [0, 6, 9, 24, 25], [60, 2, 2, 506, 146, 147, 143, 140]) ws (vs) := ⟨nf_in hl rfl, sgq_1412 (vc_Mo_bendsBecome_5_0 (v_iv (n_v vs 3)) (v_iv (n_v vs 5)) (v_iv (n_v vs 6)) (v_iv (n_v vs 7)) (v_iv (n_v vs 8)) (v_iv (n_v vs 9)) (v_iv (n_v vs 10)) (v_iv (n_v vs 11)) (v_iv (n_v vs 13)) (v_iv (n_v vs 14)) (v_iv (n_v vs 15)) (v_iv (n_v vs 16)) (v_iv (n_v vs 17)) (v_iv (n_v vs 18)) (v_iv (n_v vs 19)) (v_iv (n_v vs 20)) (v_iv (n_v vs 21)) (v_iv (n_v vs 22)) (v_iv (n_v vs 23)) (v_iv (n_v vs 24)) (v_iv (n_v vs 25)) (w_ei ws (w_ar ws (n_v vs 0) 140)) (w_ei ws (w_ar ws (n_v vs 0) 143)) (w_fi ws (n_v vs 0) 146) (w_fi ws (n_v vs 0) 147) k3 k5 k6 k7 k8 k9 k10 k11 k13 k14 k15 k16 k17 k18 k19 k20 k21 k22 k23 k24 k25 d0 d1 d2 d3 d4 d5 d6 d7 d8 d9 d10 (shm_4 f0) (shm_12 f1) h2 (shm_12 f3) f4 (shm_6 f6) (shm_12 f7) h8 (shm_12 f9) f10 (shm_32 f11) (shm_1291 f12) (shm_1292 f13) (shm_6 f14) (shm_1289 f15) (shm_1411 f16) (shm_1290 f17) (shm_1290 f18) (shm_1412 f19) (shm_649 f20) hK_0_140 hK_0_143 kz_0_146 kz_0_147)⟩
  refine ⟨(fun _ h => (by cases h)), [], trivial, ?_, (fun _ h => (by cases h))⟩
  rw [List.append_nil]
  exact List.forall_mem_cons.mpr ⟨⟨show (20 : Nat) < 100 from by decide, nf0⟩, (fun _ h => (by cases h))⟩
set_option maxHeartbeats 4000000 in
theorem vc_Mo_bendsBecome_6_0 (x3 : Int) (x5 : Int) (x6 : Int) (x7 : Int) (x9 : Int) (x10 : Int) (x11 : Int) (x12 : Int) (x13 : Int) (wide_0 : Int) (tall_0 : Int) (barredPoint_0 : Int → Int) (costOf_0 : Int → Int) (gx : Int) (k3 : 0 ≤ x3 ∧ x3 ≤ 5999) (k5 : 0 ≤ x5 ∧ x5 ≤ 2147483647) (k6 : 0 ≤ x6 ∧ x6 ≤ 5999) (k7 : 0 ≤ x7 ∧ x7 ≤ 3) (k9 : 0 ≤ x9 ∧ x9 ≤ 1000000) (k10 : (-2) ≤ x10 ∧ x10 ≤ 1000000) (k11 : (-1) ≤ x11 ∧ x11 ≤ (-1)) (k12 : 0 ≤ x12 ∧ x12 ≤ 0) (k13 : 3 ≤ x13 ∧ x13 ≤ 3) (f0 : x6 ≠ x3) (f1 : GRX (wide_0) (tall_0)) (f2 : RTV (wide_0) (tall_0) (barredPoint_0) (costOf_0) (x3)) (f3 : (0 ≤ x3) ∧ ((x3 + 1) ≤ (wide_0 * tall_0))) (f4 : BB2 (wide_0) (tall_0) (barredPoint_0) (costOf_0) (x6) (x7) (x9)) (f5 : (0 ≤ x6) ∧ ((x6 + 1) ≤ (wide_0 * tall_0))) (f6 : (x5 + x9) ≤ 1000000) (f7 : 0 ≤ x5) (f8 : (0 ≤ x9) ∧ (x9 ≤ x10)) (hK_0_140 : ∀ j : Int, 0 ≤ j → j < 24000 → 0 ≤ costOf_0 j ∧ costOf_0 j ≤ 1000000) (hK_0_143 : ∀ j : Int, 0 ≤ j → j < 6000 → 0 ≤ barredPoint_0 j ∧ barredPoint_0 j ≤ 1) (kz_0_146 : (-3999999) ≤ wide_0 ∧ wide_0 ≤ 600000023) (kz_0_147 : (-3999999) ≤ tall_0 ∧ tall_0 ≤ 600000007) (ex2 : gx = 0 + (1 * x10 + 0)) (ex3 : (-2) ≤ gx ∧ gx ≤ 1000000) : GRX (wide_0) (tall_0) := by
  assumption
set_option maxHeartbeats 4000000 in
theorem vc_Mo_bendsBecome_6_1 (x3 : Int) (x5 : Int) (x6 : Int) (x7 : Int) (x9 : Int) (x10 : Int) (x11 : Int) (x12 : Int) (x13 : Int) (wide_0 : Int) (tall_0 : Int) (barredPoint_0 : Int → Int) (costOf_0 : Int → Int) (gx : Int) (k3 : 0 ≤ x3 ∧ x3 ≤ 5999) (k5 : 0 ≤ x5 ∧ x5 ≤ 2147483647) (k6 : 0 ≤ x6 ∧ x6 ≤ 5999) (k7 : 0 ≤ x7 ∧ x7 ≤ 3) (k9 : 0 ≤ x9 ∧ x9 ≤ 1000000) (k10 : (-2) ≤ x10 ∧ x10 ≤ 1000000) (k11 : (-1) ≤ x11 ∧ x11 ≤ (-1)) (k12 : 0 ≤ x12 ∧ x12 ≤ 0) (k13 : 3 ≤ x13 ∧ x13 ≤ 3) (f0 : x6 ≠ x3) (f1 : GRX (wide_0) (tall_0)) (f2 : RTV (wide_0) (tall_0) (barredPoint_0) (costOf_0) (x3)) (f3 : (0 ≤ x3) ∧ ((x3 + 1) ≤ (wide_0 * tall_0))) (f4 : BB2 (wide_0) (tall_0) (barredPoint_0) (costOf_0) (x6) (x7) (x9)) (f5 : (0 ≤ x6) ∧ ((x6 + 1) ≤ (wide_0 * tall_0))) (f6 : (x5 + x9) ≤ 1000000) (f7 : 0 ≤ x5) (f8 : (0 ≤ x9) ∧ (x9 ≤ x10)) (hK_0_140 : ∀ j : Int, 0 ≤ j → j < 24000 → 0 ≤ costOf_0 j ∧ costOf_0 j ≤ 1000000) (hK_0_143 : ∀ j : Int, 0 ≤ j → j < 6000 → 0 ≤ barredPoint_0 j ∧ barredPoint_0 j ≤ 1) (kz_0_146 : (-3999999) ≤ wide_0 ∧ wide_0 ≤ 600000023) (kz_0_147 : (-3999999) ≤ tall_0 ∧ tall_0 ≤ 600000007) (ex2 : gx = 0 + (1 * x10 + 0)) (ex3 : (-2) ≤ gx ∧ gx ≤ 1000000) : RTV (wide_0) (tall_0) (barredPoint_0) (costOf_0) (x3) := by
  assumption
set_option maxHeartbeats 4000000 in
theorem vc_Mo_bendsBecome_6_2 (x3 : Int) (x5 : Int) (x6 : Int) (x7 : Int) (x9 : Int) (x10 : Int) (x11 : Int) (x12 : Int) (x13 : Int) (wide_0 : Int) (tall_0 : Int) (barredPoint_0 : Int → Int) (costOf_0 : Int → Int) (gx : Int) (k3 : 0 ≤ x3 ∧ x3 ≤ 5999) (k5 : 0 ≤ x5 ∧ x5 ≤ 2147483647) (k6 : 0 ≤ x6 ∧ x6 ≤ 5999) (k7 : 0 ≤ x7 ∧ x7 ≤ 3) (k9 : 0 ≤ x9 ∧ x9 ≤ 1000000) (k10 : (-2) ≤ x10 ∧ x10 ≤ 1000000) (k11 : (-1) ≤ x11 ∧ x11 ≤ (-1)) (k12 : 0 ≤ x12 ∧ x12 ≤ 0) (k13 : 3 ≤ x13 ∧ x13 ≤ 3) (f0 : x6 ≠ x3) (f1 : GRX (wide_0) (tall_0)) (f2 : RTV (wide_0) (tall_0) (barredPoint_0) (costOf_0) (x3)) (f3 : (0 ≤ x3) ∧ ((x3 + 1) ≤ (wide_0 * tall_0))) (f4 : BB2 (wide_0) (tall_0) (barredPoint_0) (costOf_0) (x6) (x7) (x9)) (f5 : (0 ≤ x6) ∧ ((x6 + 1) ≤ (wide_0 * tall_0))) (f6 : (x5 + x9) ≤ 1000000) (f7 : 0 ≤ x5) (f8 : (0 ≤ x9) ∧ (x9 ≤ x10)) (hK_0_140 : ∀ j : Int, 0 ≤ j → j < 24000 → 0 ≤ costOf_0 j ∧ costOf_0 j ≤ 1000000) (hK_0_143 : ∀ j : Int, 0 ≤ j → j < 6000 → 0 ≤ barredPoint_0 j ∧ barredPoint_0 j ≤ 1) (kz_0_146 : (-3999999) ≤ wide_0 ∧ wide_0 ≤ 600000023) (kz_0_147 : (-3999999) ≤ tall_0 ∧ tall_0 ≤ 600000007) (ex2 : gx = 0 + (1 * x10 + 0)) (ex3 : (-2) ≤ gx ∧ gx ≤ 1000000) : (0 ≤ x3) ∧ ((x3 + 1) ≤ (wide_0 * tall_0)) := by
  first
    | omega
    | (have h := ‹BB2 _ _ _ _ _ _ _›
       obtain ⟨g, c, hc⟩ := ‹RTV _ _ _ _ _›
       obtain ⟨p0, d0, b0, e, t0, t1⟩ := h
       have w := ((hc (4 * x6 + x7) (by omega) (by omega)).2 (by omega)).2
       rw [e] at w
       rcases w with w | ⟨d_zq, q, w1, w2, w3, w4, w5, w6⟩
       · have := w.2; omega
       · have := cw_bd ((4 * x6 + x7) % 4) d_zq; omega)
set_option maxHeartbeats 4000000 in
theorem vc_Mo_bendsBecome_6_3 (x3 : Int) (x5 : Int) (x6 : Int) (x7 : Int) (x9 : Int) (x10 : Int) (x11 : Int) (x12 : Int) (x13 : Int) (wide_0 : Int) (tall_0 : Int) (barredPoint_0 : Int → Int) (costOf_0 : Int → Int) (gx : Int) (k3 : 0 ≤ x3 ∧ x3 ≤ 5999) (k5 : 0 ≤ x5 ∧ x5 ≤ 2147483647) (k6 : 0 ≤ x6 ∧ x6 ≤ 5999) (k7 : 0 ≤ x7 ∧ x7 ≤ 3) (k9 : 0 ≤ x9 ∧ x9 ≤ 1000000) (k10 : (-2) ≤ x10 ∧ x10 ≤ 1000000) (k11 : (-1) ≤ x11 ∧ x11 ≤ (-1)) (k12 : 0 ≤ x12 ∧ x12 ≤ 0) (k13 : 3 ≤ x13 ∧ x13 ≤ 3) (f0 : x6 ≠ x3) (f1 : GRX (wide_0) (tall_0)) (f2 : RTV (wide_0) (tall_0) (barredPoint_0) (costOf_0) (x3)) (f3 : (0 ≤ x3) ∧ ((x3 + 1) ≤ (wide_0 * tall_0))) (f4 : BB2 (wide_0) (tall_0) (barredPoint_0) (costOf_0) (x6) (x7) (x9)) (f5 : (0 ≤ x6) ∧ ((x6 + 1) ≤ (wide_0 * tall_0))) (f6 : (x5 + x9) ≤ 1000000) (f7 : 0 ≤ x5) (f8 : (0 ≤ x9) ∧ (x9 ≤ x10)) (hK_0_140 : ∀ j : Int, 0 ≤ j → j < 24000 → 0 ≤ costOf_0 j ∧ costOf_0 j ≤ 1000000) (hK_0_143 : ∀ j : Int, 0 ≤ j → j < 6000 → 0 ≤ barredPoint_0 j ∧ barredPoint_0 j ≤ 1) (kz_0_146 : (-3999999) ≤ wide_0 ∧ wide_0 ≤ 600000023) (kz_0_147 : (-3999999) ≤ tall_0 ∧ tall_0 ≤ 600000007) (ex2 : gx = 0 + (1 * x10 + 0)) (ex3 : (-2) ≤ gx ∧ gx ≤ 1000000) : BB2 (wide_0) (tall_0) (barredPoint_0) (costOf_0) (x6) (x7) (x9) := by
  assumption
set_option maxHeartbeats 4000000 in
theorem vc_Mo_bendsBecome_6_4 (x3 : Int) (x5 : Int) (x6 : Int) (x7 : Int) (x9 : Int) (x10 : Int) (x11 : Int) (x12 : Int) (x13 : Int) (wide_0 : Int) (tall_0 : Int) (barredPoint_0 : Int → Int) (costOf_0 : Int → Int) (gx : Int) (k3 : 0 ≤ x3 ∧ x3 ≤ 5999) (k5 : 0 ≤ x5 ∧ x5 ≤ 2147483647) (k6 : 0 ≤ x6 ∧ x6 ≤ 5999) (k7 : 0 ≤ x7 ∧ x7 ≤ 3) (k9 : 0 ≤ x9 ∧ x9 ≤ 1000000) (k10 : (-2) ≤ x10 ∧ x10 ≤ 1000000) (k11 : (-1) ≤ x11 ∧ x11 ≤ (-1)) (k12 : 0 ≤ x12 ∧ x12 ≤ 0) (k13 : 3 ≤ x13 ∧ x13 ≤ 3) (f0 : x6 ≠ x3) (f1 : GRX (wide_0) (tall_0)) (f2 : RTV (wide_0) (tall_0) (barredPoint_0) (costOf_0) (x3)) (f3 : (0 ≤ x3) ∧ ((x3 + 1) ≤ (wide_0 * tall_0))) (f4 : BB2 (wide_0) (tall_0) (barredPoint_0) (costOf_0) (x6) (x7) (x9)) (f5 : (0 ≤ x6) ∧ ((x6 + 1) ≤ (wide_0 * tall_0))) (f6 : (x5 + x9) ≤ 1000000) (f7 : 0 ≤ x5) (f8 : (0 ≤ x9) ∧ (x9 ≤ x10)) (hK_0_140 : ∀ j : Int, 0 ≤ j → j < 24000 → 0 ≤ costOf_0 j ∧ costOf_0 j ≤ 1000000) (hK_0_143 : ∀ j : Int, 0 ≤ j → j < 6000 → 0 ≤ barredPoint_0 j ∧ barredPoint_0 j ≤ 1) (kz_0_146 : (-3999999) ≤ wide_0 ∧ wide_0 ≤ 600000023) (kz_0_147 : (-3999999) ≤ tall_0 ∧ tall_0 ≤ 600000007) (ex2 : gx = 0 + (1 * x10 + 0)) (ex3 : (-2) ≤ gx ∧ gx ≤ 1000000) : (0 ≤ x6) ∧ ((x6 + 1) ≤ (wide_0 * tall_0)) := by
  first
    | omega
    | (have h := ‹BB2 _ _ _ _ _ _ _›
       obtain ⟨g, c, hc⟩ := ‹RTV _ _ _ _ _›
       obtain ⟨p0, d0, b0, e, t0, t1⟩ := h
       have w := ((hc (4 * x6 + x7) (by omega) (by omega)).2 (by omega)).2
       rw [e] at w
       rcases w with w | ⟨d_zq, q, w1, w2, w3, w4, w5, w6⟩
       · have := w.2; omega
       · have := cw_bd ((4 * x6 + x7) % 4) d_zq; omega)
set_option maxHeartbeats 4000000 in
theorem vc_Mo_bendsBecome_6_5 (x3 : Int) (x5 : Int) (x6 : Int) (x7 : Int) (x9 : Int) (x10 : Int) (x11 : Int) (x12 : Int) (x13 : Int) (wide_0 : Int) (tall_0 : Int) (barredPoint_0 : Int → Int) (costOf_0 : Int → Int) (gx : Int) (k3 : 0 ≤ x3 ∧ x3 ≤ 5999) (k5 : 0 ≤ x5 ∧ x5 ≤ 2147483647) (k6 : 0 ≤ x6 ∧ x6 ≤ 5999) (k7 : 0 ≤ x7 ∧ x7 ≤ 3) (k9 : 0 ≤ x9 ∧ x9 ≤ 1000000) (k10 : (-2) ≤ x10 ∧ x10 ≤ 1000000) (k11 : (-1) ≤ x11 ∧ x11 ≤ (-1)) (k12 : 0 ≤ x12 ∧ x12 ≤ 0) (k13 : 3 ≤ x13 ∧ x13 ≤ 3) (f0 : x6 ≠ x3) (f1 : GRX (wide_0) (tall_0)) (f2 : RTV (wide_0) (tall_0) (barredPoint_0) (costOf_0) (x3)) (f3 : (0 ≤ x3) ∧ ((x3 + 1) ≤ (wide_0 * tall_0))) (f4 : BB2 (wide_0) (tall_0) (barredPoint_0) (costOf_0) (x6) (x7) (x9)) (f5 : (0 ≤ x6) ∧ ((x6 + 1) ≤ (wide_0 * tall_0))) (f6 : (x5 + x9) ≤ 1000000) (f7 : 0 ≤ x5) (f8 : (0 ≤ x9) ∧ (x9 ≤ x10)) (hK_0_140 : ∀ j : Int, 0 ≤ j → j < 24000 → 0 ≤ costOf_0 j ∧ costOf_0 j ≤ 1000000) (hK_0_143 : ∀ j : Int, 0 ≤ j → j < 6000 → 0 ≤ barredPoint_0 j ∧ barredPoint_0 j ≤ 1) (kz_0_146 : (-3999999) ≤ wide_0 ∧ wide_0 ≤ 600000023) (kz_0_147 : (-3999999) ≤ tall_0 ∧ tall_0 ≤ 600000007) (ex2 : gx = 0 + (1 * x10 + 0)) (ex3 : (-2) ≤ gx ∧ gx ≤ 1000000) : (x5 + x9) ≤ 1000000 := by
  first
    | omega
    | (have h := ‹BB2 _ _ _ _ _ _ _›
       obtain ⟨g, c, hc⟩ := ‹RTV _ _ _ _ _›
       obtain ⟨p0, d0, b0, e, t0, t1⟩ := h
       have w := ((hc (4 * x6 + x7) (by omega) (by omega)).2 (by omega)).2
       rw [e] at w
       rcases w with w | ⟨d_zq, q, w1, w2, w3, w4, w5, w6⟩
       · have := w.2; omega
       · have := cw_bd ((4 * x6 + x7) % 4) d_zq; omega)
set_option maxHeartbeats 4000000 in
theorem vc_Mo_bendsBecome_6_6 (x3 : Int) (x5 : Int) (x6 : Int) (x7 : Int) (x9 : Int) (x10 : Int) (x11 : Int) (x12 : Int) (x13 : Int) (wide_0 : Int) (tall_0 : Int) (barredPoint_0 : Int → Int) (costOf_0 : Int → Int) (gx : Int) (k3 : 0 ≤ x3 ∧ x3 ≤ 5999) (k5 : 0 ≤ x5 ∧ x5 ≤ 2147483647) (k6 : 0 ≤ x6 ∧ x6 ≤ 5999) (k7 : 0 ≤ x7 ∧ x7 ≤ 3) (k9 : 0 ≤ x9 ∧ x9 ≤ 1000000) (k10 : (-2) ≤ x10 ∧ x10 ≤ 1000000) (k11 : (-1) ≤ x11 ∧ x11 ≤ (-1)) (k12 : 0 ≤ x12 ∧ x12 ≤ 0) (k13 : 3 ≤ x13 ∧ x13 ≤ 3) (f0 : x6 ≠ x3) (f1 : GRX (wide_0) (tall_0)) (f2 : RTV (wide_0) (tall_0) (barredPoint_0) (costOf_0) (x3)) (f3 : (0 ≤ x3) ∧ ((x3 + 1) ≤ (wide_0 * tall_0))) (f4 : BB2 (wide_0) (tall_0) (barredPoint_0) (costOf_0) (x6) (x7) (x9)) (f5 : (0 ≤ x6) ∧ ((x6 + 1) ≤ (wide_0 * tall_0))) (f6 : (x5 + x9) ≤ 1000000) (f7 : 0 ≤ x5) (f8 : (0 ≤ x9) ∧ (x9 ≤ x10)) (hK_0_140 : ∀ j : Int, 0 ≤ j → j < 24000 → 0 ≤ costOf_0 j ∧ costOf_0 j ≤ 1000000) (hK_0_143 : ∀ j : Int, 0 ≤ j → j < 6000 → 0 ≤ barredPoint_0 j ∧ barredPoint_0 j ≤ 1) (kz_0_146 : (-3999999) ≤ wide_0 ∧ wide_0 ≤ 600000023) (kz_0_147 : (-3999999) ≤ tall_0 ∧ tall_0 ≤ 600000007) (ex2 : gx = 0 + (1 * x10 + 0)) (ex3 : (-2) ≤ gx ∧ gx ≤ 1000000) : 0 ≤ x5 := by
  first
    | omega
    | (have h := ‹BB2 _ _ _ _ _ _ _›
       obtain ⟨g, c, hc⟩ := ‹RTV _ _ _ _ _›
       obtain ⟨p0, d0, b0, e, t0, t1⟩ := h
       have w := ((hc (4 * x6 + x7) (by omega) (by omega)).2 (by omega)).2
       rw [e] at w
       rcases w with w | ⟨d_zq, q, w1, w2, w3, w4, w5, w6⟩
       · have := w.2; omega
       · have := cw_bd ((4 * x6 + x7) % 4) d_zq; omega)
set_option maxHeartbeats 4000000 in
theorem vc_Mo_bendsBecome_6_7 (x3 : Int) (x5 : Int) (x6 : Int) (x7 : Int) (x9 : Int) (x10 : Int) (x11 : Int) (x12 : Int) (x13 : Int) (wide_0 : Int) (tall_0 : Int) (barredPoint_0 : Int → Int) (costOf_0 : Int → Int) (gx : Int) (k3 : 0 ≤ x3 ∧ x3 ≤ 5999) (k5 : 0 ≤ x5 ∧ x5 ≤ 2147483647) (k6 : 0 ≤ x6 ∧ x6 ≤ 5999) (k7 : 0 ≤ x7 ∧ x7 ≤ 3) (k9 : 0 ≤ x9 ∧ x9 ≤ 1000000) (k10 : (-2) ≤ x10 ∧ x10 ≤ 1000000) (k11 : (-1) ≤ x11 ∧ x11 ≤ (-1)) (k12 : 0 ≤ x12 ∧ x12 ≤ 0) (k13 : 3 ≤ x13 ∧ x13 ≤ 3) (f0 : x6 ≠ x3) (f1 : GRX (wide_0) (tall_0)) (f2 : RTV (wide_0) (tall_0) (barredPoint_0) (costOf_0) (x3)) (f3 : (0 ≤ x3) ∧ ((x3 + 1) ≤ (wide_0 * tall_0))) (f4 : BB2 (wide_0) (tall_0) (barredPoint_0) (costOf_0) (x6) (x7) (x9)) (f5 : (0 ≤ x6) ∧ ((x6 + 1) ≤ (wide_0 * tall_0))) (f6 : (x5 + x9) ≤ 1000000) (f7 : 0 ≤ x5) (f8 : (0 ≤ x9) ∧ (x9 ≤ x10)) (hK_0_140 : ∀ j : Int, 0 ≤ j → j < 24000 → 0 ≤ costOf_0 j ∧ costOf_0 j ≤ 1000000) (hK_0_143 : ∀ j : Int, 0 ≤ j → j < 6000 → 0 ≤ barredPoint_0 j ∧ barredPoint_0 j ≤ 1) (kz_0_146 : (-3999999) ≤ wide_0 ∧ wide_0 ≤ 600000023) (kz_0_147 : (-3999999) ≤ tall_0 ∧ tall_0 ≤ 600000007) (ex2 : gx = 0 + (1 * x10 + 0)) (ex3 : (-2) ≤ gx ∧ gx ≤ 1000000) : x6 ≠ x3 := by
  first
    | omega
    | (have h := ‹BB2 _ _ _ _ _ _ _›
       obtain ⟨g, c, hc⟩ := ‹RTV _ _ _ _ _›
       obtain ⟨p0, d0, b0, e, t0, t1⟩ := h
       have w := ((hc (4 * x6 + x7) (by omega) (by omega)).2 (by omega)).2
       rw [e] at w
       rcases w with w | ⟨d_zq, q, w1, w2, w3, w4, w5, w6⟩
       · have := w.2; omega
       · have := cw_bd ((4 * x6 + x7) % 4) d_zq; omega)
set_option maxHeartbeats 4000000 in
theorem vc_Mo_bendsBecome_6_8 (x3 : Int) (x5 : Int) (x6 : Int) (x7 : Int) (x9 : Int) (x10 : Int) (x11 : Int) (x12 : Int) (x13 : Int) (wide_0 : Int) (tall_0 : Int) (barredPoint_0 : Int → Int) (costOf_0 : Int → Int) (gx : Int) (k3 : 0 ≤ x3 ∧ x3 ≤ 5999) (k5 : 0 ≤ x5 ∧ x5 ≤ 2147483647) (k6 : 0 ≤ x6 ∧ x6 ≤ 5999) (k7 : 0 ≤ x7 ∧ x7 ≤ 3) (k9 : 0 ≤ x9 ∧ x9 ≤ 1000000) (k10 : (-2) ≤ x10 ∧ x10 ≤ 1000000) (k11 : (-1) ≤ x11 ∧ x11 ≤ (-1)) (k12 : 0 ≤ x12 ∧ x12 ≤ 0) (k13 : 3 ≤ x13 ∧ x13 ≤ 3) (f0 : x6 ≠ x3) (f1 : GRX (wide_0) (tall_0)) (f2 : RTV (wide_0) (tall_0) (barredPoint_0) (costOf_0) (x3)) (f3 : (0 ≤ x3) ∧ ((x3 + 1) ≤ (wide_0 * tall_0))) (f4 : BB2 (wide_0) (tall_0) (barredPoint_0) (costOf_0) (x6) (x7) (x9)) (f5 : (0 ≤ x6) ∧ ((x6 + 1) ≤ (wide_0 * tall_0))) (f6 : (x5 + x9) ≤ 1000000) (f7 : 0 ≤ x5) (f8 : (0 ≤ x9) ∧ (x9 ≤ x10)) (hK_0_140 : ∀ j : Int, 0 ≤ j → j < 24000 → 0 ≤ costOf_0 j ∧ costOf_0 j ≤ 1000000) (hK_0_143 : ∀ j : Int, 0 ≤ j → j < 6000 → 0 ≤ barredPoint_0 j ∧ barredPoint_0 j ≤ 1) (kz_0_146 : (-3999999) ≤ wide_0 ∧ wide_0 ≤ 600000023) (kz_0_147 : (-3999999) ≤ tall_0 ∧ tall_0 ≤ 600000007) (ex2 : gx = 0 + (1 * x10 + 0)) (ex3 : (-2) ≤ gx ∧ gx ≤ 1000000) : BB3 (wide_0) (tall_0) (barredPoint_0) (costOf_0) (x6) (x7) (x9) (x11) (x12) (x13) := by
  first
    | exact bb3_start (by omega) (by omega)
    | exact bb3_skip (w := x15) (x := x14) (v := x14) ‹BB3 _ _ _ _ _ _ _ _ _ _› (by omega) ‹STQ _ _ _ _ _ _› (by omega) (Or.inl (by omega))
    | exact bb3_skip (w := 1) (x := x14) (v := x14) ‹BB3 _ _ _ _ _ _ _ _ _ _› (by omega) ‹STQ _ _ _ _ _ _› (Or.inl ⟨by omega, rfl⟩) (Or.inl (by omega))
    | exact bb3_skip (w := 3) (x := x14) (v := x14) ‹BB3 _ _ _ _ _ _ _ _ _ _› (by omega) ‹STQ _ _ _ _ _ _› (Or.inr ⟨by omega, rfl⟩) (Or.inl (by omega))
    | exact bb3_skip (w := x15) (x := x19) (v := x20) ‹BB3 _ _ _ _ _ _ _ _ _ _› (by omega) ‹STQ _ _ _ _ _ _› (by omega) (Or.inr ⟨by omega, by assumption, by omega⟩)
    | exact bb3_take (q := x14) (x := x19) (v := x20) (w := x15) ‹STQ _ _ _ _ _ _› (by omega) (by omega) (by omega) (by omega) (by assumption) (by omega) (by omega) (by omega) (by omega)
  
set_option maxHeartbeats 4000000 in
theorem vc_Mo_bendsBecome_6_9 (x3 : Int) (x5 : Int) (x6 : Int) (x7 : Int) (x9 : Int) (x10 : Int) (x11 : Int) (x12 : Int) (x13 : Int) (wide_0 : Int) (tall_0 : Int) (barredPoint_0 : Int → Int) (costOf_0 : Int → Int) (gx : Int) (k3 : 0 ≤ x3 ∧ x3 ≤ 5999) (k5 : 0 ≤ x5 ∧ x5 ≤ 2147483647) (k6 : 0 ≤ x6 ∧ x6 ≤ 5999) (k7 : 0 ≤ x7 ∧ x7 ≤ 3) (k9 : 0 ≤ x9 ∧ x9 ≤ 1000000) (k10 : (-2) ≤ x10 ∧ x10 ≤ 1000000) (k11 : (-1) ≤ x11 ∧ x11 ≤ (-1)) (k12 : 0 ≤ x12 ∧ x12 ≤ 0) (k13 : 3 ≤ x13 ∧ x13 ≤ 3) (f0 : x6 ≠ x3) (f1 : GRX (wide_0) (tall_0)) (f2 : RTV (wide_0) (tall_0) (barredPoint_0) (costOf_0) (x3)) (f3 : (0 ≤ x3) ∧ ((x3 + 1) ≤ (wide_0 * tall_0))) (f4 : BB2 (wide_0) (tall_0) (barredPoint_0) (costOf_0) (x6) (x7) (x9)) (f5 : (0 ≤ x6) ∧ ((x6 + 1) ≤ (wide_0 * tall_0))) (f6 : (x5 + x9) ≤ 1000000) (f7 : 0 ≤ x5) (f8 : (0 ≤ x9) ∧ (x9 ≤ x10)) (hK_0_140 : ∀ j : Int, 0 ≤ j → j < 24000 → 0 ≤ costOf_0 j ∧ costOf_0 j ≤ 1000000) (hK_0_143 : ∀ j : Int, 0 ≤ j → j < 6000 → 0 ≤ barredPoint_0 j ∧ barredPoint_0 j ≤ 1) (kz_0_146 : (-3999999) ≤ wide_0 ∧ wide_0 ≤ 600000023) (kz_0_147 : (-3999999) ≤ tall_0 ∧ tall_0 ≤ 600000007) (ex2 : gx = 0 + (1 * x10 + 0)) (ex3 : (-2) ≤ gx ∧ gx ≤ 1000000) : (0 ≤ x9) ∧ (x9 ≤ gx) := by
  first
    | omega
    | (have h := ‹BB2 _ _ _ _ _ _ _›
       obtain ⟨g, c, hc⟩ := ‹RTV _ _ _ _ _›
       obtain ⟨p0, d0, b0, e, t0, t1⟩ := h
       have w := ((hc (4 * x6 + x7) (by omega) (by omega)).2 (by omega)).2
       rw [e] at w
       rcases w with w | ⟨d_zq, q, w1, w2, w3, w4, w5, w6⟩
       · have := w.2; omega
       · have := cw_bd ((4 * x6 + x7) % 4) d_zq; omega)
set_option maxHeartbeats 4000000 in
theorem vc_Mo_bendsBecome_6_10 (x3 : Int) (x5 : Int) (x6 : Int) (x7 : Int) (x9 : Int) (x10 : Int) (x11 : Int) (x12 : Int) (x13 : Int) (wide_0 : Int) (tall_0 : Int) (barredPoint_0 : Int → Int) (costOf_0 : Int → Int) (gx : Int) (k3 : 0 ≤ x3 ∧ x3 ≤ 5999) (k5 : 0 ≤ x5 ∧ x5 ≤ 2147483647) (k6 : 0 ≤ x6 ∧ x6 ≤ 5999) (k7 : 0 ≤ x7 ∧ x7 ≤ 3) (k9 : 0 ≤ x9 ∧ x9 ≤ 1000000) (k10 : (-2) ≤ x10 ∧ x10 ≤ 1000000) (k11 : (-1) ≤ x11 ∧ x11 ≤ (-1)) (k12 : 0 ≤ x12 ∧ x12 ≤ 0) (k13 : 3 ≤ x13 ∧ x13 ≤ 3) (f0 : x6 ≠ x3) (f1 : GRX (wide_0) (tall_0)) (f2 : RTV (wide_0) (tall_0) (barredPoint_0) (costOf_0) (x3)) (f3 : (0 ≤ x3) ∧ ((x3 + 1) ≤ (wide_0 * tall_0))) (f4 : BB2 (wide_0) (tall_0) (barredPoint_0) (costOf_0) (x6) (x7) (x9)) (f5 : (0 ≤ x6) ∧ ((x6 + 1) ≤ (wide_0 * tall_0))) (f6 : (x5 + x9) ≤ 1000000) (f7 : 0 ≤ x5) (f8 : (0 ≤ x9) ∧ (x9 ≤ x10)) (hK_0_140 : ∀ j : Int, 0 ≤ j → j < 24000 → 0 ≤ costOf_0 j ∧ costOf_0 j ≤ 1000000) (hK_0_143 : ∀ j : Int, 0 ≤ j → j < 6000 → 0 ≤ barredPoint_0 j ∧ barredPoint_0 j ≤ 1) (kz_0_146 : (-3999999) ≤ wide_0 ∧ wide_0 ≤ 600000023) (kz_0_147 : (-3999999) ≤ tall_0 ∧ tall_0 ≤ 600000007) (ex2 : gx = 0 + (1 * x10 + 0)) (ex3 : (-2) ≤ gx ∧ gx ≤ 1000000) : (-1) * gx + 0 ≤ (-1) := by
  first
    | omega
    | (have h := ‹BB2 _ _ _ _ _ _ _›
       obtain ⟨g, c, hc⟩ := ‹RTV _ _ _ _ _›
       obtain ⟨p0, d0, b0, e, t0, t1⟩ := h
       have w := ((hc (4 * x6 + x7) (by omega) (by omega)).2 (by omega)).2
       rw [e] at w
       rcases w with w | ⟨d_zq, q, w1, w2, w3, w4, w5, w6⟩
       · have := w.2; omega
       · have := cw_bd ((4 * x6 + x7) % 4) d_zq; omega)
def o_Mo_bendsBecome_6 : or_T := (127, 14, [(0, (2, 0, 0, [165])), (3, (0, 0, 5999, [])), (5, (0, 0, 2147483647, [])), (6, (0, 0, 5999, [])), (7, (0, 0, 3, [])), (9, (0, 0, 1000000, [])), (10, (0, -2, 1000000, [])), (11, (0, -1, -1, [])), (12, (0, 0, 0, [])), (13, (0, 3, 3, []))], [(7, [6, 3], [1]), (20, [0], [60, 2, 0, 494, 146, 147]), (20, [0, 3], [60, 2, 2, 504, 146, 147, 143, 140]), (20, [3, 0], [50, 2, 0, 1146, 1147, 2, 6, 0, 2, 0, 0, 1, 0, 0, 6, 4, 2, 1, 0, 0, 1, 6, 3, 2, 1, 146, 2, 1, 147]), (20, [0, 6, 7, 9], [60, 2, 2, 507, 146, 147, 143, 140]), (20, [6, 0], [50, 2, 0, 1146, 1147, 2, 6, 0, 2, 0, 0, 1, 0, 0, 6, 4, 2, 1, 0, 0, 1, 6, 3, 2, 1, 146, 2, 1, 147]), (20, [5, 9], [50, 0, 0, 0, 6, 4, 2, 1, 0, 1, 1, 0, 1000000]), (20, [5], [50, 0, 0, 0, 2, 0, 0, 1, 0]), (20, [9, 10], [50, 0, 0, 2, 6, 0, 2, 0, 0, 1, 0, 0, 2, 1, 0, 1, 1])], [], [(0, -2, 1000000, [])], [(20, [0], [60, 2, 0, 494, 146, 147]), (20, [0, 3], [60, 2, 2, 504, 146, 147, 143, 140]), (20, [3, 0], [50, 2, 0, 1146, 1147, 2, 6, 0, 2, 0, 0, 1, 0, 0, 6, 4, 2, 1, 0, 0, 1, 6, 3, 2, 1, 146, 2, 1, 147]), (20, [0, 6, 7, 9], [60, 2, 2, 507, 146, 147, 143, 140]), (20, [6, 0], [50, 2, 0, 1146, 1147, 2, 6, 0, 2, 0, 0, 1, 0, 0, 6, 4, 2, 1, 0, 0, 1, 6, 3, 2, 1, 146, 2, 1, 147]), (20, [5, 9], [50, 0, 0, 0, 6, 4, 2, 1, 0, 1, 1, 0, 1000000]), (20, [5], [50, 0, 0, 0, 2, 0, 0, 1, 0]), (20, [6, 3], [50, 0, 0, 7, 2, 1, 0, 1, 1]), (20, [0, 6, 7, 9, 11, 12, 13], [60, 2, 2, 508, 146, 147, 143, 140]), (20, [9, 14], [50, 0, 0, 2, 6, 0, 2, 0, 0, 1, 0, 0, 2, 1, 0, 1, 1]), (23, [14], [-1, -1])], [(14, 10, 0, 0)], [])
theorem oo_Mo_bendsBecome_6 {kA : Nat → ClassId} : or_ok PRD kA GG o_Mo_bendsBecome_6 := by
  refine or_mk fun A ta ws vs hD hth hl => ?_
  intro t0 r0 t3 k3 t5 k5 t6 k6 t7 k7 t9 k9 t10 k10 t11 k11 t12 k12 t13 k13 f0 f1 f2 f3 f4 f5 f6 f7 f8
  replace f0 := shm_40 f0
  replace f1 := shm_1289 f1
  replace f2 := shm_1411 f2
  replace f3 := shm_1290 f3
  replace f4 := shm_1413 f4
  replace f5 := shm_1290 f5
  replace f6 := shm_1414 f6
  replace f7 := shm_722 f7
  replace f8 := shm_366 f8
  have cr_0_140 := fdq_175 hD hth r0
  have cr_0_143 := fdq_178 hD hth r0
  have hK_0_140 := elq_104 hD hth cr_0_140
  have hK_0_143 := elq_107 hD hth cr_0_143
  have kz_0_146 := fdq_179 hD hth r0
  have kz_0_147 := fdq_180 hD hth r0
  obtain ⟨x, ex, hx⟩ := iv_ex (ta := ta) (lo := (-2)) (hi := 1000000) (z := 0 + (1 * v_iv (n_v vs 10) + 0)) (by omega) (by omega) (by omega) (by omega)
  have ex2 : v_iv (Value.int x) = 0 + (1 * v_iv (n_v vs 10) + 0) := ex
  have ex3 : (-2) ≤ v_iv (Value.int x) ∧ v_iv (Value.int x) ≤ 1000000 := tv_rng hx
  have e_0 : n_v (vs ++ [Value.int x]) 0 = n_v vs 0 := n_v_old (by rw [hl]; decide)
  have e_3 : n_v (vs ++ [Value.int x]) 3 = n_v vs 3 := n_v_old (by rw [hl]; decide)
  have e_5 : n_v (vs ++ [Value.int x]) 5 = n_v vs 5 := n_v_old (by rw [hl]; decide)
  have e_6 : n_v (vs ++ [Value.int x]) 6 = n_v vs 6 := n_v_old (by rw [hl]; decide)
  have e_7 : n_v (vs ++ [Value.int x]) 7 = n_v vs 7 := n_v_old (by rw [hl]; decide)
  have e_9 : n_v (vs ++ [Value.int x]) 9 = n_v vs 9 := n_v_old (by rw [hl]; decide)
  have e_11 : n_v (vs ++ [Value.int x]) 11 = n_v vs 11 := n_v_old (by rw [hl]; decide)
  have e_12 : n_v (vs ++ [Value.int x]) 12 = n_v vs 12 := n_v_old (by rw [hl]; decide)
  have e_13 : n_v (vs ++ [Value.int x]) 13 = n_v vs 13 := n_v_old (by rw [hl]; decide)
  have e_14 : n_v (vs ++ [Value.int x]) 14 = Value.int x := n_v_new hl
  have nf0 : fc_1 PRD (20, [0], [60, 2, 0, 494, 146, 147]) ws (vs ++ [Value.int x]) := by
    refine ⟨nf_inA hl rfl, sgq_1289 ?_⟩
    · show GRX (w_fi ws (n_v (vs ++ [Value.int x]) 0) 146) (w_fi ws (n_v (vs ++ [Value.int x]) 0) 147)
      rw [e_0]
      exact vc_Mo_bendsBecome_6_0 (v_iv (n_v vs 3)) (v_iv (n_v vs 5)) (v_iv (n_v vs 6)) (v_iv (n_v vs 7)) (v_iv (n_v vs 9)) (v_iv (n_v vs 10)) (v_iv (n_v vs 11)) (v_iv (n_v vs 12)) (v_iv (n_v vs 13)) (w_fi ws (n_v vs 0) 146) (w_fi ws (n_v vs 0) 147) (w_ei ws (w_ar ws (n_v vs 0) 143)) (w_ei ws (w_ar ws (n_v vs 0) 140)) (v_iv (Value.int x)) k3 k5 k6 k7 k9 k10 k11 k12 k13 f0 f1 f2 f3 f4 f5 f6 f7 f8 hK_0_140 hK_0_143 kz_0_146 kz_0_147 ex2 ex3
  have nf1 : fc_1 PRD (20, [0, 3], [60, 2, 2, 504, 146, 147, 143, 140]) ws (vs ++ [Value.int x]) := by
    refine ⟨nf_inA hl rfl, sgq_1411 ?_⟩
    · show RTV (w_fi ws (n_v (vs ++ [Value.int x]) 0) 146) (w_fi ws (n_v (vs ++ [Value.int x]) 0) 147) (w_ei ws (w_ar ws (n_v (vs ++ [Value.int x]) 0) 143)) (w_ei ws (w_ar ws (n_v (vs ++ [Value.int x]) 0) 140)) (v_iv (n_v (vs ++ [Value.int x]) 3))
      simp only [e_0, e_3]
      exact vc_Mo_bendsBecome_6_1 (v_iv (n_v vs 3)) (v_iv (n_v vs 5)) (v_iv (n_v vs 6)) (v_iv (n_v vs 7)) (v_iv (n_v vs 9)) (v_iv (n_v vs 10)) (v_iv (n_v vs 11)) (v_iv (n_v vs 12)) (v_iv (n_v vs 13)) (w_fi ws (n_v vs 0) 146) (w_fi ws (n_v vs 0) 147) (w_ei ws (w_ar ws (n_v vs 0) 143)) (w_ei ws (w_ar ws (n_v vs 0) 140)) (v_iv (Value.int x)) k3 k5 k6 k7 k9 k10 k11 k12 k13 f0 f1 f2 f3 f4 f5 f6 f7 f8 hK_0_140 hK_0_143 kz_0_146 kz_0_147 ex2 ex3
  have nf2 : fc_1 PRD (20, [3, 0], [50, 2, 0, 1146, 1147, 2, 6, 0, 2, 0, 0, 1, 0, 0, 6, 4, 2, 1, 0, 0, 1, 6, 3, 2, 1, 146, 2, 1, 147]) ws (vs ++ [Value.int x]) := by
    refine ⟨nf_inA hl rfl, sgq_1290 ?_⟩
    · show (0 ≤ v_iv (n_v (vs ++ [Value.int x]) 3)) ∧ ((v_iv (n_v (vs ++ [Value.int x]) 3) + 1) ≤ (w_fi ws (n_v (vs ++ [Value.int x]) 0) 146 * w_fi ws (n_v (vs ++ [Value.int x]) 0) 147))
      simp only [e_0, e_3]
      exact vc_Mo_bendsBecome_6_2 (v_iv (n_v vs 3)) (v_iv (n_v vs 5)) (v_iv (n_v vs 6)) (v_iv (n_v vs 7)) (v_iv (n_v vs 9)) (v_iv (n_v vs 10)) (v_iv (n_v vs 11)) (v_iv (n_v vs 12)) (v_iv (n_v vs 13)) (w_fi ws (n_v vs 0) 146) (w_fi ws (n_v vs 0) 147) (w_ei ws (w_ar ws (n_v vs 0) 143)) (w_ei ws (w_ar ws (n_v vs 0) 140)) (v_iv (Value.int x)) k3 k5 k6 k7 k9 k10 k11 k12 k13 f0 f1 f2 f3 f4 f5 f6 f7 f8 hK_0_140 hK_0_143 kz_0_146 kz_0_147 ex2 ex3
  have nf3 : fc_1 PRD (20, [0, 6, 7, 9], [60, 2, 2, 507, 146, 147, 143, 140]) ws (vs ++ [Value.int x]) := by
    refine ⟨nf_inA hl rfl, sgq_1413 ?_⟩
    · show BB2 (w_fi ws (n_v (vs ++ [Value.int x]) 0) 146) (w_fi ws (n_v (vs ++ [Value.int x]) 0) 147) (w_ei ws (w_ar ws (n_v (vs ++ [Value.int x]) 0) 143)) (w_ei ws (w_ar ws (n_v (vs ++ [Value.int x]) 0) 140)) (v_iv (n_v (vs ++ [Value.int x]) 6)) (v_iv (n_v (vs ++ [Value.int x]) 7)) (v_iv (n_v (vs ++ [Value.int x]) 9))
      simp only [e_0, e_6, e_7, e_9]
      exact vc_Mo_bendsBecome_6_3 (v_iv (n_v vs 3)) (v_iv (n_v vs 5)) (v_iv (n_v vs 6)) (v_iv (n_v vs 7)) (v_iv (n_v vs 9)) (v_iv (n_v vs 10)) (v_iv (n_v vs 11)) (v_iv (n_v vs 12)) (v_iv (n_v vs 13)) (w_fi ws (n_v vs 0) 146) (w_fi ws (n_v vs 0) 147) (w_ei ws (w_ar ws (n_v vs 0) 143)) (w_ei ws (w_ar ws (n_v vs 0) 140)) (v_iv (Value.int x)) k3 k5 k6 k7 k9 k10 k11 k12 k13 f0 f1 f2 f3 f4 f5 f6 f7 f8 hK_0_140 hK_0_143 kz_0_146 kz_0_147 ex2 ex3
  have nf4 : fc_1 PRD (20, [6, 0], [50, 2, 0, 1146, 1147, 2, 6, 0, 2, 0, 0, 1, 0, 0, 6, 4, 2, 1, 0, 0, 1, 6, 3, 2, 1, 146, 2, 1, 147]) ws (vs ++ [Value.int x]) := by
    refine ⟨nf_inA hl rfl, sgq_1290 ?_⟩
    · show (0 ≤ v_iv (n_v (vs ++ [Value.int x]) 6)) ∧ ((v_iv (n_v (vs ++ [Value.int x]) 6) + 1) ≤ (w_fi ws (n_v (vs ++ [Value.int x]) 0) 146 * w_fi ws (n_v (vs ++ [Value.int x]) 0) 147))
      simp only [e_0, e_6]
      exact vc_Mo_bendsBecome_6_4 (v_iv (n_v vs 3)) (v_iv (n_v vs 5)) (v_iv (n_v vs 6)) (v_iv (n_v vs 7)) (v_iv (n_v vs 9)) (v_iv (n_v vs 10)) (v_iv (n_v vs 11)) (v_iv (n_v vs 12)) (v_iv (n_v vs 13)) (w_fi ws (n_v vs 0) 146) (w_fi ws (n_v vs 0) 147) (w_ei ws (w_ar ws (n_v vs 0) 143)) (w_ei ws (w_ar ws (n_v vs 0) 140)) (v_iv (Value.int x)) k3 k5 k6 k7 k9 k10 k11 k12 k13 f0 f1 f2 f3 f4 f5 f6 f7 f8 hK_0_140 hK_0_143 kz_0_146 kz_0_147 ex2 ex3
  have nf5 : fc_1 PRD (20, [5, 9], [50, 0, 0, 0, 6, 4, 2, 1, 0, 1, 1, 0, 1000000]) ws (vs ++ [Value.int x]) := by
    refine ⟨nf_inA hl rfl, sgq_1414 ?_⟩
    · show (v_iv (n_v (vs ++ [Value.int x]) 5) + v_iv (n_v (vs ++ [Value.int x]) 9)) ≤ 1000000
      simp only [e_5, e_9]
      exact vc_Mo_bendsBecome_6_5 (v_iv (n_v vs 3)) (v_iv (n_v vs 5)) (v_iv (n_v vs 6)) (v_iv (n_v vs 7)) (v_iv (n_v vs 9)) (v_iv (n_v vs 10)) (v_iv (n_v vs 11)) (v_iv (n_v vs 12)) (v_iv (n_v vs 13)) (w_fi ws (n_v vs 0) 146) (w_fi ws (n_v vs 0) 147) (w_ei ws (w_ar ws (n_v vs 0) 143)) (w_ei ws (w_ar ws (n_v vs 0) 140)) (v_iv (Value.int x)) k3 k5 k6 k7 k9 k10 k11 k12 k13 f0 f1 f2 f3 f4 f5 f6 f7 f8 hK_0_140 hK_0_143 kz_0_146 kz_0_147 ex2 ex3
  have nf6 : fc_1 PRD (20, [5], [50, 0, 0, 0, 2, 0, 0, 1, 0]) ws (vs ++ [Value.int x]) := by
    refine ⟨nf_inA hl rfl, sgq_722 ?_⟩
    · show 0 ≤ v_iv (n_v (vs ++ [Value.int x]) 5)
      rw [e_5]
      exact vc_Mo_bendsBecome_6_6 (v_iv (n_v vs 3)) (v_iv (n_v vs 5)) (v_iv (n_v vs 6)) (v_iv (n_v vs 7)) (v_iv (n_v vs 9)) (v_iv (n_v vs 10)) (v_iv (n_v vs 11)) (v_iv (n_v vs 12)) (v_iv (n_v vs 13)) (w_fi ws (n_v vs 0) 146) (w_fi ws (n_v vs 0) 147) (w_ei ws (w_ar ws (n_v vs 0) 143)) (w_ei ws (w_ar ws (n_v vs 0) 140)) (v_iv (Value.int x)) k3 k5 k6 k7 k9 k10 k11 k12 k13 f0 f1 f2 f3 f4 f5 f6 f7 f8 hK_0_140 hK_0_143 kz_0_146 kz_0_147 ex2 ex3
  have nf7 : fc_1 PRD (20, [6, 3], [50, 0, 0, 7, 2, 1, 0, 1, 1]) ws (vs ++ [Value.int x]) := by
    refine ⟨nf_inA hl rfl, sgq_406 ?_⟩
    · show v_iv (n_v (vs ++ [Value.int x]) 6) ≠ v_iv (n_v (vs ++ [Value.int x]) 3)
      simp only [e_3, e_6]
      exact vc_Mo_bendsBecome_6_7 (v_iv (n_v vs 3)) (v_iv (n_v vs 5)) (v_iv (n_v vs 6)) (v_iv (n_v vs 7)) (v_iv (n_v vs 9)) (v_iv (n_v vs 10)) (v_iv (n_v vs 11)) (v_iv (n_v vs 12)) (v_iv (n_v vs 13)) (w_fi ws (n_v vs 0) 146) (w_fi ws (n_v vs 0) 147) (w_ei ws (w_ar ws (n_v vs 0) 143)) (w_ei ws (w_ar ws (n_v vs 0) 140)) (v_iv (Value.int x)) k3 k5 k6 k7 k9 k10 k11 k12 k13 f0 f1 f2 f3 f4 f5 f6 f7 f8 hK_0_140 hK_0_143 kz_0_146 kz_0_147 ex2 ex3
  have nf8 : fc_1 PRD (20, [0, 6, 7, 9, 11, 12, 13], [60, 2, 2, 508, 146, 147, 143, 140]) ws (vs ++ [Value.int x]) := by
    refine ⟨nf_inA hl rfl, sgq_1415 ?_⟩
    · show BB3 (w_fi ws (n_v (vs ++ [Value.int x]) 0) 146) (w_fi ws (n_v (vs ++ [Value.int x]) 0) 147) (w_ei ws (w_ar ws (n_v (vs ++ [Value.int x]) 0) 143)) (w_ei ws (w_ar ws (n_v (vs ++ [Value.int x]) 0) 140)) (v_iv (n_v (vs ++ [Value.int x]) 6)) (v_iv (n_v (vs ++ [Value.int x]) 7)) (v_iv (n_v (vs ++ [Value.int x]) 9)) (v_iv (n_v (vs ++ [Value.int x]) 11)) (v_iv (n_v (vs ++ [Value.int x]) 12)) (v_iv (n_v (vs ++ [Value.int x]) 13))
      simp only [e_0, e_6, e_7, e_9, e_11, e_12, e_13]
      exact vc_Mo_bendsBecome_6_8 (v_iv (n_v vs 3)) (v_iv (n_v vs 5)) (v_iv (n_v vs 6)) (v_iv (n_v vs 7)) (v_iv (n_v vs 9)) (v_iv (n_v vs 10)) (v_iv (n_v vs 11)) (v_iv (n_v vs 12)) (v_iv (n_v vs 13)) (w_fi ws (n_v vs 0) 146) (w_fi ws (n_v vs 0) 147) (w_ei ws (w_ar ws (n_v vs 0) 143)) (w_ei ws (w_ar ws (n_v vs 0) 140)) (v_iv (Value.int x)) k3 k5 k6 k7 k9 k10 k11 k12 k13 f0 f1 f2 f3 f4 f5 f6 f7 f8 hK_0_140 hK_0_143 kz_0_146 kz_0_147 ex2 ex3
  have nf9 : fc_1 PRD (20, [9, 14], [50, 0, 0, 2, 6, 0, 2, 0, 0, 1, 0, 0, 2, 1, 0, 1, 1]) ws (vs ++ [Value.int x]) := by
    refine ⟨nf_inA hl rfl, sgq_366 ?_⟩
    · show (0 ≤ v_iv (n_v (vs ++ [Value.int x]) 9)) ∧ (v_iv (n_v (vs ++ [Value.int x]) 9) ≤ v_iv (n_v (vs ++ [Value.int x]) 14))
      simp only [e_9, e_14]
      exact vc_Mo_bendsBecome_6_9 (v_iv (n_v vs 3)) (v_iv (n_v vs 5)) (v_iv (n_v vs 6)) (v_iv (n_v vs 7)) (v_iv (n_v vs 9)) (v_iv (n_v vs 10)) (v_iv (n_v vs 11)) (v_iv (n_v vs 12)) (v_iv (n_v vs 13)) (w_fi ws (n_v vs 0) 146) (w_fi ws (n_v vs 0) 147) (w_ei ws (w_ar ws (n_v vs 0) 143)) (w_ei ws (w_ar ws (n_v vs 0) 140)) (v_iv (Value.int x)) k3 k5 k6 k7 k9 k10 k11 k12 k13 f0 f1 f2 f3 f4 f5 f6 f7 f8 hK_0_140 hK_0_143 kz_0_146 kz_0_147 ex2 ex3
  have nf10 : fc_1 PRD (23, [14], [-1, -1]) ws (vs ++ [Value.int x]) := by
    refine ⟨nf_inA hl rfl, sgq_626 ?_⟩
    · show (-1) * v_iv (n_v (vs ++ [Value.int x]) 14) + 0 ≤ (-1)
      rw [e_14]
      exact vc_Mo_bendsBecome_6_10 (v_iv (n_v vs 3)) (v_iv (n_v vs 5)) (v_iv (n_v vs 6)) (v_iv (n_v vs 7)) (v_iv (n_v vs 9)) (v_iv (n_v vs 10)) (v_iv (n_v vs 11)) (v_iv (n_v vs 12)) (v_iv (n_v vs 13)) (w_fi ws (n_v vs 0) 146) (w_fi ws (n_v vs 0) 147) (w_ei ws (w_ar ws (n_v vs 0) 143)) (w_ei ws (w_ar ws (n_v vs 0) 140)) (v_iv (Value.int x)) k3 k5 k6 k7 k9 k10 k11 k12 k13 f0 f1 f2 f3 f4 f5 f6 f7 f8 hK_0_140 hK_0_143 kz_0_146 kz_0_147 ex2 ex3
  obtain ⟨x0, e0, _, _⟩ := tv_int t10 rfl
  have e1 : v_iv (n_v vs 10) = x0.toInt := by rw [e0]; rfl
  have ho : sy_ofs (vs ++ [Value.int x]) (14, 10, 0, 0) := by
    refine ⟨x, x0, by rw [List.getElem?_append_right (by rw [hl]; decide), hl]; rfl, ?_, ?_, ?_⟩
    · rw [List.getElem?_append_left (by rw [hl]; decide)]; exact n_v_some (by rw [hl]; decide) e0
    · show x0.toInt + 0 ≤ x.toInt; omega
    · show x.toInt ≤ x0.toInt + 0; omega
  exact ⟨(fun _ h => (by cases h)), [Value.int x], ag_one hx, List.forall_mem_cons.mpr ⟨⟨show (20 : Nat) < 100 from by decide, nf0⟩, List.forall_mem_cons.mpr ⟨⟨show (20 : Nat) < 100 from by decide, nf1⟩, List.forall_mem_cons.mpr ⟨⟨show (20 : Nat) < 100 from by decide, nf2⟩, List.forall_mem_cons.mpr ⟨⟨show (20 : Nat) < 100 from by decide, nf3⟩, List.forall_mem_cons.mpr ⟨⟨show (20 : Nat) < 100 from by decide, nf4⟩, List.forall_mem_cons.mpr ⟨⟨show (20 : Nat) < 100 from by decide, nf5⟩, List.forall_mem_cons.mpr ⟨⟨show (20 : Nat) < 100 from by decide, nf6⟩, List.forall_mem_cons.mpr ⟨⟨show (20 : Nat) < 100 from by decide, nf7⟩, List.forall_mem_cons.mpr ⟨⟨show (20 : Nat) < 100 from by decide, nf8⟩, List.forall_mem_cons.mpr ⟨⟨show (20 : Nat) < 100 from by decide, nf9⟩, List.forall_mem_cons.mpr ⟨⟨show (23 : Nat) < 100 from by decide, nf10⟩, (fun _ h => (by cases h))⟩⟩⟩⟩⟩⟩⟩⟩⟩⟩⟩, List.forall_mem_cons.mpr ⟨ho, (fun _ h => (by cases h))⟩⟩
set_option maxHeartbeats 4000000 in
theorem vc_Mo_bendsBecome_7_r0 (x3 : Int) (x5 : Int) (x6 : Int) (x7 : Int) (x9 : Int) (x10 : Int) (x11 : Int) (x12 : Int) (x13 : Int) (x14 : Int) (barredPoint_0 : Int → Int) (wide_0 : Int) (tall_0 : Int) (costOf_0 : Int → Int) (k3 : 0 ≤ x3 ∧ x3 ≤ 5999) (k5 : 0 ≤ x5 ∧ x5 ≤ 2147483647) (k6 : 0 ≤ x6 ∧ x6 ≤ 5999) (k7 : 0 ≤ x7 ∧ x7 ≤ 3) (k9 : 0 ≤ x9 ∧ x9 ≤ 1000000) (k10 : 0 ≤ x10 ∧ x10 ≤ 3) (k11 : 0 ≤ x11 ∧ x11 ≤ 999999) (k12 : (-1) ≤ x12 ∧ x12 ≤ (-1)) (k13 : (-2) ≤ x13 ∧ x13 ≤ 1000000) (k14 : (-1) ≤ x14 ∧ x14 ≤ 5999) (d0 : x7 + 0 ≤ x10 ∧ x10 ≤ x7 + 0) (d1 : x9 + (-4294967296) ≤ x10 ∧ x10 ≤ x9 + 2) (d2 : x9 + (-4294967296) ≤ x11 ∧ x11 ≤ x9 + 0) (f0 : STQ (wide_0) (tall_0) (barredPoint_0) (x6) (x10) (x14)) (f1 : ((-1) ≤ x14) ∧ ((x14 + 1) ≤ (wide_0 * tall_0))) (f2 : x10 = x7) (f3 : x12 < 0) (f4 : GRX (wide_0) (tall_0)) (f5 : RTV (wide_0) (tall_0) (barredPoint_0) (costOf_0) (x3)) (f6 : (0 ≤ x3) ∧ ((x3 + 1) ≤ (wide_0 * tall_0))) (f7 : BB2 (wide_0) (tall_0) (barredPoint_0) (costOf_0) (x6) (x7) (x9)) (f8 : (0 ≤ x6) ∧ ((x6 + 1) ≤ (wide_0 * tall_0))) (f9 : (x5 + x9) ≤ 1000000) (f10 : 0 ≤ x5) (f11 : x6 ≠ x3) (f12 : BB3 (wide_0) (tall_0) (barredPoint_0) (costOf_0) (x6) (x7) (x9) (x10) (x11) (x12)) (f13 : (0 ≤ x9) ∧ (x9 ≤ x13)) (f14 : (-1) * x13 + 0 ≤ (-1)) (hK_0_140 : ∀ j : Int, 0 ≤ j → j < 24000 → 0 ≤ costOf_0 j ∧ costOf_0 j ≤ 1000000) (hK_0_143 : ∀ j : Int, 0 ≤ j → j < 6000 → 0 ≤ barredPoint_0 j ∧ barredPoint_0 j ≤ 1) (kz_0_146 : (-3999999) ≤ wide_0 ∧ wide_0 ≤ 600000023) (kz_0_147 : (-3999999) ≤ tall_0 ∧ tall_0 ≤ 600000007) : 0 ≤ x14 ∧ x14 ≤ 5999 := by
  first
    | omega
    | (have g := gok_bd ‹GRX _ _›; omega)
    | (have h := bb_next ‹RTV _ _ _ _ _› ‹BB2 _ _ _ _ _ _ _› ‹BB3 _ _ _ _ _ _ _ _ _ _› (by omega) (by omega)
       have h1 := h.1.1
       have h2 := h.2
       omega)
    | (obtain ⟨⟨mf, q, n1, n2, n3, n4⟩, u0, u1⟩ := bb_next ‹RTV _ _ _ _ _› ‹BB2 _ _ _ _ _ _ _› ‹BB3 _ _ _ _ _ _ _ _ _ _› (by omega) (by omega)
       have e := ‹STQ _ _ _ _ _ _›.2.2 q n1 n2
       have i := nb_in n1 (by have g := gok_bd ‹GRX _ _›; omega)
       have g3 := ‹GRX _ _›.2.2
       omega)
def o_Mo_bendsBecome_7 : or_T := (272, 15, [(0, (2, 0, 0, [165])), (3, (0, 0, 5999, [])), (5, (0, 0, 2147483647, [])), (6, (0, 0, 5999, [])), (7, (0, 0, 3, [])), (9, (0, 0, 1000000, [])), (10, (0, 0, 3, [])), (11, (0, 0, 999999, [])), (12, (0, -1, -1, [])), (13, (0, -2, 1000000, [])), (14, (0, -1, 5999, []))], [(20, [0, 6, 10, 14], [60, 2, 1, 505, 146, 147, 143]), (20, [14, 0], [50, 2, 0, 1146, 1147, 2, 6, 0, 2, 0, -1, 1, 0, 0, 6, 4, 2, 1, 0, 0, 1, 6, 3, 2, 1, 146, 2, 1, 147]), (7, [10, 7], [0]), (8, [12], [2]), (20, [0], [60, 2, 0, 494, 146, 147]), (20, [0, 3], [60, 2, 2, 504, 146, 147, 143, 140]), (20, [3, 0], [50, 2, 0, 1146, 1147, 2, 6, 0, 2, 0, 0, 1, 0, 0, 6, 4, 2, 1, 0, 0, 1, 6, 3, 2, 1, 146, 2, 1, 147]), (20, [0, 6, 7, 9], [60, 2, 2, 507, 146, 147, 143, 140]), (20, [6, 0], [50, 2, 0, 1146, 1147, 2, 6, 0, 2, 0, 0, 1, 0, 0, 6, 4, 2, 1, 0, 0, 1, 6, 3, 2, 1, 146, 2, 1, 147]), (20, [5, 9], [50, 0, 0, 0, 6, 4, 2, 1, 0, 1, 1, 0, 1000000]), (20, [5], [50, 0, 0, 0, 2, 0, 0, 1, 0]), (20, [6, 3], [50, 0, 0, 7, 2, 1, 0, 1, 1]), (20, [0, 6, 7, 9, 10, 11, 12], [60, 2, 2, 508, 146, 147, 143, 140]), (20, [9, 13], [50, 0, 0, 2, 6, 0, 2, 0, 0, 1, 0, 0, 2, 1, 0, 1, 1]), (23, [13], [-1, -1])], [(14, (0, 0, 5999, []))], [], [], [], [(10, 7, 0, 0), (10, 9, -4294967296, 2), (11, 9, -4294967296, 0)])
theorem oo_Mo_bendsBecome_7 {kA : Nat → ClassId} : or_ok PRD kA GG o_Mo_bendsBecome_7 := by
  refine or_mk fun A ta ws vs hD hth hl => ?_
  intro t0 r0 t3 k3 t5 k5 t6 k6 t7 k7 t9 k9 t10 k10 t11 k11 t12 k12 t13 k13 t14 k14 d0 d1 d2 f0 f1 f2 f3 f4 f5 f6 f7 f8 f9 f10 f11 f12 f13 f14
  have cr_0_140 := fdq_175 hD hth r0
  have cr_0_143 := fdq_178 hD hth r0
  have hK_0_140 := elq_104 hD hth cr_0_140
  have hK_0_143 := elq_107 hD hth cr_0_143
  have kz_0_146 := fdq_179 hD hth r0
  have kz_0_147 := fdq_180 hD hth r0
  have hrf0 : 0 ≤ v_iv (n_v vs 14) ∧ v_iv (n_v vs 14) ≤ 5999 := vc_Mo_bendsBecome_7_r0 (v_iv (n_v vs 3)) (v_iv (n_v vs 5)) (v_iv (n_v vs 6)) (v_iv (n_v vs 7)) (v_iv (n_v vs 9)) (v_iv (n_v vs 10)) (v_iv (n_v vs 11)) (v_iv (n_v vs 12)) (v_iv (n_v vs 13)) (v_iv (n_v vs 14)) (w_ei ws (w_ar ws (n_v vs 0) 143)) (w_fi ws (n_v vs 0) 146) (w_fi ws (n_v vs 0) 147) (w_ei ws (w_ar ws (n_v vs 0) 140)) k3 k5 k6 k7 k9 k10 k11 k12 k13 k14 d0 d1 d2 (shm_1291 f0) (shm_1292 f1) (shm_37 f2) (shm_39 f3) (shm_1289 f4) (shm_1411 f5) (shm_1290 f6) (shm_1413 f7) (shm_1290 f8) (shm_1414 f9) (shm_722 f10) (shm_406 f11) (shm_1415 f12) (shm_366 f13) (shm_626 f14) hK_0_140 hK_0_143 kz_0_146 kz_0_147
  have rf14 : tv_ok ta (0, 0, 5999, []) (n_v vs 14) := tv_in t14 (by first | omega | grind) (by first | omega | grind)
  refine ⟨List.forall_mem_cons.mpr ⟨rf14, (fun _ h => (by cases h))⟩, [], trivial, ?_, (fun _ h => (by cases h))⟩
  rw [List.append_nil]
  exact (fun _ h => (by cases h))
set_option maxHeartbeats 4000000 in
theorem vc_Mo_bendsBecome_8_0 (x3 : Int) (x5 : Int) (x6 : Int) (x7 : Int) (x9 : Int) (x10 : Int) (x11 : Int) (x12 : Int) (x13 : Int) (x14 : Int) (barredPoint_0 : Int → Int) (wide_0 : Int) (tall_0 : Int) (costOf_0 : Int → Int) (gx : Int) (k3 : 0 ≤ x3 ∧ x3 ≤ 5999) (k5 : 0 ≤ x5 ∧ x5 ≤ 2147483647) (k6 : 0 ≤ x6 ∧ x6 ≤ 5999) (k7 : 0 ≤ x7 ∧ x7 ≤ 3) (k9 : 0 ≤ x9 ∧ x9 ≤ 1000000) (k10 : 0 ≤ x10 ∧ x10 ≤ 3) (k11 : 0 ≤ x11 ∧ x11 ≤ 999999) (k12 : (-1) ≤ x12 ∧ x12 ≤ (-1)) (k13 : (-2) ≤ x13 ∧ x13 ≤ 1000000) (k14 : 0 ≤ x14 ∧ x14 ≤ 5999) (d0 : x7 + 0 ≤ x10 ∧ x10 ≤ x7 + 0) (d1 : x9 + (-4294967296) ≤ x10 ∧ x10 ≤ x9 + 2) (d2 : x9 + (-4294967296) ≤ x11 ∧ x11 ≤ x9 + 0) (f0 : STQ (wide_0) (tall_0) (barredPoint_0) (x6) (x10) (x14)) (f1 : ((-1) ≤ x14) ∧ ((x14 + 1) ≤ (wide_0 * tall_0))) (f2 : x10 = x7) (f3 : x12 < 0) (f4 : GRX (wide_0) (tall_0)) (f5 : RTV (wide_0) (tall_0) (barredPoint_0) (costOf_0) (x3)) (f6 : (0 ≤ x3) ∧ ((x3 + 1) ≤ (wide_0 * tall_0))) (f7 : BB2 (wide_0) (tall_0) (barredPoint_0) (costOf_0) (x6) (x7) (x9)) (f8 : (0 ≤ x6) ∧ ((x6 + 1) ≤ (wide_0 * tall_0))) (f9 : (x5 + x9) ≤ 1000000) (f10 : 0 ≤ x5) (f11 : x6 ≠ x3) (f12 : BB3 (wide_0) (tall_0) (barredPoint_0) (costOf_0) (x6) (x7) (x9) (x10) (x11) (x12)) (f13 : (0 ≤ x9) ∧ (x9 ≤ x13)) (f14 : (-1) * x13 + 0 ≤ (-1)) (hK_0_140 : ∀ j : Int, 0 ≤ j → j < 24000 → 0 ≤ costOf_0 j ∧ costOf_0 j ≤ 1000000) (hK_0_143 : ∀ j : Int, 0 ≤ j → j < 6000 → 0 ≤ barredPoint_0 j ∧ barredPoint_0 j ≤ 1) (kz_0_146 : (-3999999) ≤ wide_0 ∧ wide_0 ≤ 600000023) (kz_0_147 : (-3999999) ≤ tall_0 ∧ tall_0 ≤ 600000007) (ex2 : gx = (-1) + (1 * x13 + 0)) (ex3 : (-2) ≤ gx ∧ gx ≤ 1000000) : GRX (wide_0) (tall_0) := by
  assumption
set_option maxHeartbeats 4000000 in
theorem vc_Mo_bendsBecome_8_1 (x3 : Int) (x5 : Int) (x6 : Int) (x7 : Int) (x9 : Int) (x10 : Int) (x11 : Int) (x12 : Int) (x13 : Int) (x14 : Int) (barredPoint_0 : Int → Int) (wide_0 : Int) (tall_0 : Int) (costOf_0 : Int → Int) (gx : Int) (k3 : 0 ≤ x3 ∧ x3 ≤ 5999) (k5 : 0 ≤ x5 ∧ x5 ≤ 2147483647) (k6 : 0 ≤ x6 ∧ x6 ≤ 5999) (k7 : 0 ≤ x7 ∧ x7 ≤ 3) (k9 : 0 ≤ x9 ∧ x9 ≤ 1000000) (k10 : 0 ≤ x10 ∧ x10 ≤ 3) (k11 : 0 ≤ x11 ∧ x11 ≤ 999999) (k12 : (-1) ≤ x12 ∧ x12 ≤ (-1)) (k13 : (-2) ≤ x13 ∧ x13 ≤ 1000000) (k14 : 0 ≤ x14 ∧ x14 ≤ 5999) (d0 : x7 + 0 ≤ x10 ∧ x10 ≤ x7 + 0) (d1 : x9 + (-4294967296) ≤ x10 ∧ x10 ≤ x9 + 2) (d2 : x9 + (-4294967296) ≤ x11 ∧ x11 ≤ x9 + 0) (f0 : STQ (wide_0) (tall_0) (barredPoint_0) (x6) (x10) (x14)) (f1 : ((-1) ≤ x14) ∧ ((x14 + 1) ≤ (wide_0 * tall_0))) (f2 : x10 = x7) (f3 : x12 < 0) (f4 : GRX (wide_0) (tall_0)) (f5 : RTV (wide_0) (tall_0) (barredPoint_0) (costOf_0) (x3)) (f6 : (0 ≤ x3) ∧ ((x3 + 1) ≤ (wide_0 * tall_0))) (f7 : BB2 (wide_0) (tall_0) (barredPoint_0) (costOf_0) (x6) (x7) (x9)) (f8 : (0 ≤ x6) ∧ ((x6 + 1) ≤ (wide_0 * tall_0))) (f9 : (x5 + x9) ≤ 1000000) (f10 : 0 ≤ x5) (f11 : x6 ≠ x3) (f12 : BB3 (wide_0) (tall_0) (barredPoint_0) (costOf_0) (x6) (x7) (x9) (x10) (x11) (x12)) (f13 : (0 ≤ x9) ∧ (x9 ≤ x13)) (f14 : (-1) * x13 + 0 ≤ (-1)) (hK_0_140 : ∀ j : Int, 0 ≤ j → j < 24000 → 0 ≤ costOf_0 j ∧ costOf_0 j ≤ 1000000) (hK_0_143 : ∀ j : Int, 0 ≤ j → j < 6000 → 0 ≤ barredPoint_0 j ∧ barredPoint_0 j ≤ 1) (kz_0_146 : (-3999999) ≤ wide_0 ∧ wide_0 ≤ 600000023) (kz_0_147 : (-3999999) ≤ tall_0 ∧ tall_0 ≤ 600000007) (ex2 : gx = (-1) + (1 * x13 + 0)) (ex3 : (-2) ≤ gx ∧ gx ≤ 1000000) : RTV (wide_0) (tall_0) (barredPoint_0) (costOf_0) (x3) := by
  assumption
set_option maxHeartbeats 4000000 in
theorem vc_Mo_bendsBecome_8_2 (x3 : Int) (x5 : Int) (x6 : Int) (x7 : Int) (x9 : Int) (x10 : Int) (x11 : Int) (x12 : Int) (x13 : Int) (x14 : Int) (barredPoint_0 : Int → Int) (wide_0 : Int) (tall_0 : Int) (costOf_0 : Int → Int) (gx : Int) (k3 : 0 ≤ x3 ∧ x3 ≤ 5999) (k5 : 0 ≤ x5 ∧ x5 ≤ 2147483647) (k6 : 0 ≤ x6 ∧ x6 ≤ 5999) (k7 : 0 ≤ x7 ∧ x7 ≤ 3) (k9 : 0 ≤ x9 ∧ x9 ≤ 1000000) (k10 : 0 ≤ x10 ∧ x10 ≤ 3) (k11 : 0 ≤ x11 ∧ x11 ≤ 999999) (k12 : (-1) ≤ x12 ∧ x12 ≤ (-1)) (k13 : (-2) ≤ x13 ∧ x13 ≤ 1000000) (k14 : 0 ≤ x14 ∧ x14 ≤ 5999) (d0 : x7 + 0 ≤ x10 ∧ x10 ≤ x7 + 0) (d1 : x9 + (-4294967296) ≤ x10 ∧ x10 ≤ x9 + 2) (d2 : x9 + (-4294967296) ≤ x11 ∧ x11 ≤ x9 + 0) (f0 : STQ (wide_0) (tall_0) (barredPoint_0) (x6) (x10) (x14)) (f1 : ((-1) ≤ x14) ∧ ((x14 + 1) ≤ (wide_0 * tall_0))) (f2 : x10 = x7) (f3 : x12 < 0) (f4 : GRX (wide_0) (tall_0)) (f5 : RTV (wide_0) (tall_0) (barredPoint_0) (costOf_0) (x3)) (f6 : (0 ≤ x3) ∧ ((x3 + 1) ≤ (wide_0 * tall_0))) (f7 : BB2 (wide_0) (tall_0) (barredPoint_0) (costOf_0) (x6) (x7) (x9)) (f8 : (0 ≤ x6) ∧ ((x6 + 1) ≤ (wide_0 * tall_0))) (f9 : (x5 + x9) ≤ 1000000) (f10 : 0 ≤ x5) (f11 : x6 ≠ x3) (f12 : BB3 (wide_0) (tall_0) (barredPoint_0) (costOf_0) (x6) (x7) (x9) (x10) (x11) (x12)) (f13 : (0 ≤ x9) ∧ (x9 ≤ x13)) (f14 : (-1) * x13 + 0 ≤ (-1)) (hK_0_140 : ∀ j : Int, 0 ≤ j → j < 24000 → 0 ≤ costOf_0 j ∧ costOf_0 j ≤ 1000000) (hK_0_143 : ∀ j : Int, 0 ≤ j → j < 6000 → 0 ≤ barredPoint_0 j ∧ barredPoint_0 j ≤ 1) (kz_0_146 : (-3999999) ≤ wide_0 ∧ wide_0 ≤ 600000023) (kz_0_147 : (-3999999) ≤ tall_0 ∧ tall_0 ≤ 600000007) (ex2 : gx = (-1) + (1 * x13 + 0)) (ex3 : (-2) ≤ gx ∧ gx ≤ 1000000) : (0 ≤ x3) ∧ ((x3 + 1) ≤ (wide_0 * tall_0)) := by
  first
    | omega
    | (have h := bb2_start (t := x13) ‹RTV _ _ _ _ _› ‹BB1 _ _ _ _ _ _ _ _› (by omega) ‹STQ _ _ _ _ _ _› (by omega)
       have h1 := h.1
       have h2 := h.2.2.2.2
       omega)
    | (have h := bb_next ‹RTV _ _ _ _ _› ‹BB2 _ _ _ _ _ _ _› ‹BB3 _ _ _ _ _ _ _ _ _ _› (by omega) (by omega)
       have h1 := h.1.1
       have h2 := h.2
       omega)
set_option maxHeartbeats 4000000 in
theorem vc_Mo_bendsBecome_8_3 (x3 : Int) (x5 : Int) (x6 : Int) (x7 : Int) (x9 : Int) (x10 : Int) (x11 : Int) (x12 : Int) (x13 : Int) (x14 : Int) (barredPoint_0 : Int → Int) (wide_0 : Int) (tall_0 : Int) (costOf_0 : Int → Int) (gx : Int) (k3 : 0 ≤ x3 ∧ x3 ≤ 5999) (k5 : 0 ≤ x5 ∧ x5 ≤ 2147483647) (k6 : 0 ≤ x6 ∧ x6 ≤ 5999) (k7 : 0 ≤ x7 ∧ x7 ≤ 3) (k9 : 0 ≤ x9 ∧ x9 ≤ 1000000) (k10 : 0 ≤ x10 ∧ x10 ≤ 3) (k11 : 0 ≤ x11 ∧ x11 ≤ 999999) (k12 : (-1) ≤ x12 ∧ x12 ≤ (-1)) (k13 : (-2) ≤ x13 ∧ x13 ≤ 1000000) (k14 : 0 ≤ x14 ∧ x14 ≤ 5999) (d0 : x7 + 0 ≤ x10 ∧ x10 ≤ x7 + 0) (d1 : x9 + (-4294967296) ≤ x10 ∧ x10 ≤ x9 + 2) (d2 : x9 + (-4294967296) ≤ x11 ∧ x11 ≤ x9 + 0) (f0 : STQ (wide_0) (tall_0) (barredPoint_0) (x6) (x10) (x14)) (f1 : ((-1) ≤ x14) ∧ ((x14 + 1) ≤ (wide_0 * tall_0))) (f2 : x10 = x7) (f3 : x12 < 0) (f4 : GRX (wide_0) (tall_0)) (f5 : RTV (wide_0) (tall_0) (barredPoint_0) (costOf_0) (x3)) (f6 : (0 ≤ x3) ∧ ((x3 + 1) ≤ (wide_0 * tall_0))) (f7 : BB2 (wide_0) (tall_0) (barredPoint_0) (costOf_0) (x6) (x7) (x9)) (f8 : (0 ≤ x6) ∧ ((x6 + 1) ≤ (wide_0 * tall_0))) (f9 : (x5 + x9) ≤ 1000000) (f10 : 0 ≤ x5) (f11 : x6 ≠ x3) (f12 : BB3 (wide_0) (tall_0) (barredPoint_0) (costOf_0) (x6) (x7) (x9) (x10) (x11) (x12)) (f13 : (0 ≤ x9) ∧ (x9 ≤ x13)) (f14 : (-1) * x13 + 0 ≤ (-1)) (hK_0_140 : ∀ j : Int, 0 ≤ j → j < 24000 → 0 ≤ costOf_0 j ∧ costOf_0 j ≤ 1000000) (hK_0_143 : ∀ j : Int, 0 ≤ j → j < 6000 → 0 ≤ barredPoint_0 j ∧ barredPoint_0 j ≤ 1) (kz_0_146 : (-3999999) ≤ wide_0 ∧ wide_0 ≤ 600000023) (kz_0_147 : (-3999999) ≤ tall_0 ∧ tall_0 ≤ 600000007) (ex2 : gx = (-1) + (1 * x13 + 0)) (ex3 : (-2) ≤ gx ∧ gx ≤ 1000000) : BB2 (wide_0) (tall_0) (barredPoint_0) (costOf_0) (x14) (x10) (x11) := by
  first
    | exact bb2_start ‹RTV _ _ _ _ _› ‹BB1 _ _ _ _ _ _ _ _› (by omega) ‹STQ _ _ _ _ _ _› (by omega)
    | exact bb2_next ‹RTV _ _ _ _ _› ‹BB2 _ _ _ _ _ _ _› ‹BB3 _ _ _ _ _ _ _ _ _ _› (by omega) (by omega) ‹STQ _ _ _ _ _ _›
  
set_option maxHeartbeats 4000000 in
theorem vc_Mo_bendsBecome_8_4 (x3 : Int) (x5 : Int) (x6 : Int) (x7 : Int) (x9 : Int) (x10 : Int) (x11 : Int) (x12 : Int) (x13 : Int) (x14 : Int) (barredPoint_0 : Int → Int) (wide_0 : Int) (tall_0 : Int) (costOf_0 : Int → Int) (gx : Int) (k3 : 0 ≤ x3 ∧ x3 ≤ 5999) (k5 : 0 ≤ x5 ∧ x5 ≤ 2147483647) (k6 : 0 ≤ x6 ∧ x6 ≤ 5999) (k7 : 0 ≤ x7 ∧ x7 ≤ 3) (k9 : 0 ≤ x9 ∧ x9 ≤ 1000000) (k10 : 0 ≤ x10 ∧ x10 ≤ 3) (k11 : 0 ≤ x11 ∧ x11 ≤ 999999) (k12 : (-1) ≤ x12 ∧ x12 ≤ (-1)) (k13 : (-2) ≤ x13 ∧ x13 ≤ 1000000) (k14 : 0 ≤ x14 ∧ x14 ≤ 5999) (d0 : x7 + 0 ≤ x10 ∧ x10 ≤ x7 + 0) (d1 : x9 + (-4294967296) ≤ x10 ∧ x10 ≤ x9 + 2) (d2 : x9 + (-4294967296) ≤ x11 ∧ x11 ≤ x9 + 0) (f0 : STQ (wide_0) (tall_0) (barredPoint_0) (x6) (x10) (x14)) (f1 : ((-1) ≤ x14) ∧ ((x14 + 1) ≤ (wide_0 * tall_0))) (f2 : x10 = x7) (f3 : x12 < 0) (f4 : GRX (wide_0) (tall_0)) (f5 : RTV (wide_0) (tall_0) (barredPoint_0) (costOf_0) (x3)) (f6 : (0 ≤ x3) ∧ ((x3 + 1) ≤ (wide_0 * tall_0))) (f7 : BB2 (wide_0) (tall_0) (barredPoint_0) (costOf_0) (x6) (x7) (x9)) (f8 : (0 ≤ x6) ∧ ((x6 + 1) ≤ (wide_0 * tall_0))) (f9 : (x5 + x9) ≤ 1000000) (f10 : 0 ≤ x5) (f11 : x6 ≠ x3) (f12 : BB3 (wide_0) (tall_0) (barredPoint_0) (costOf_0) (x6) (x7) (x9) (x10) (x11) (x12)) (f13 : (0 ≤ x9) ∧ (x9 ≤ x13)) (f14 : (-1) * x13 + 0 ≤ (-1)) (hK_0_140 : ∀ j : Int, 0 ≤ j → j < 24000 → 0 ≤ costOf_0 j ∧ costOf_0 j ≤ 1000000) (hK_0_143 : ∀ j : Int, 0 ≤ j → j < 6000 → 0 ≤ barredPoint_0 j ∧ barredPoint_0 j ≤ 1) (kz_0_146 : (-3999999) ≤ wide_0 ∧ wide_0 ≤ 600000023) (kz_0_147 : (-3999999) ≤ tall_0 ∧ tall_0 ≤ 600000007) (ex2 : gx = (-1) + (1 * x13 + 0)) (ex3 : (-2) ≤ gx ∧ gx ≤ 1000000) : (0 ≤ x14) ∧ ((x14 + 1) ≤ (wide_0 * tall_0)) := by
  first
    | omega
    | (have h := bb2_start (t := x13) ‹RTV _ _ _ _ _› ‹BB1 _ _ _ _ _ _ _ _› (by omega) ‹STQ _ _ _ _ _ _› (by omega)
       have h1 := h.1
       have h2 := h.2.2.2.2
       omega)
    | (have h := bb_next ‹RTV _ _ _ _ _› ‹BB2 _ _ _ _ _ _ _› ‹BB3 _ _ _ _ _ _ _ _ _ _› (by omega) (by omega)
       have h1 := h.1.1
       have h2 := h.2
       omega)
set_option maxHeartbeats 4000000 in
theorem vc_Mo_bendsBecome_8_5 (x3 : Int) (x5 : Int) (x6 : Int) (x7 : Int) (x9 : Int) (x10 : Int) (x11 : Int) (x12 : Int) (x13 : Int) (x14 : Int) (barredPoint_0 : Int → Int) (wide_0 : Int) (tall_0 : Int) (costOf_0 : Int → Int) (gx : Int) (k3 : 0 ≤ x3 ∧ x3 ≤ 5999) (k5 : 0 ≤ x5 ∧ x5 ≤ 2147483647) (k6 : 0 ≤ x6 ∧ x6 ≤ 5999) (k7 : 0 ≤ x7 ∧ x7 ≤ 3) (k9 : 0 ≤ x9 ∧ x9 ≤ 1000000) (k10 : 0 ≤ x10 ∧ x10 ≤ 3) (k11 : 0 ≤ x11 ∧ x11 ≤ 999999) (k12 : (-1) ≤ x12 ∧ x12 ≤ (-1)) (k13 : (-2) ≤ x13 ∧ x13 ≤ 1000000) (k14 : 0 ≤ x14 ∧ x14 ≤ 5999) (d0 : x7 + 0 ≤ x10 ∧ x10 ≤ x7 + 0) (d1 : x9 + (-4294967296) ≤ x10 ∧ x10 ≤ x9 + 2) (d2 : x9 + (-4294967296) ≤ x11 ∧ x11 ≤ x9 + 0) (f0 : STQ (wide_0) (tall_0) (barredPoint_0) (x6) (x10) (x14)) (f1 : ((-1) ≤ x14) ∧ ((x14 + 1) ≤ (wide_0 * tall_0))) (f2 : x10 = x7) (f3 : x12 < 0) (f4 : GRX (wide_0) (tall_0)) (f5 : RTV (wide_0) (tall_0) (barredPoint_0) (costOf_0) (x3)) (f6 : (0 ≤ x3) ∧ ((x3 + 1) ≤ (wide_0 * tall_0))) (f7 : BB2 (wide_0) (tall_0) (barredPoint_0) (costOf_0) (x6) (x7) (x9)) (f8 : (0 ≤ x6) ∧ ((x6 + 1) ≤ (wide_0 * tall_0))) (f9 : (x5 + x9) ≤ 1000000) (f10 : 0 ≤ x5) (f11 : x6 ≠ x3) (f12 : BB3 (wide_0) (tall_0) (barredPoint_0) (costOf_0) (x6) (x7) (x9) (x10) (x11) (x12)) (f13 : (0 ≤ x9) ∧ (x9 ≤ x13)) (f14 : (-1) * x13 + 0 ≤ (-1)) (hK_0_140 : ∀ j : Int, 0 ≤ j → j < 24000 → 0 ≤ costOf_0 j ∧ costOf_0 j ≤ 1000000) (hK_0_143 : ∀ j : Int, 0 ≤ j → j < 6000 → 0 ≤ barredPoint_0 j ∧ barredPoint_0 j ≤ 1) (kz_0_146 : (-3999999) ≤ wide_0 ∧ wide_0 ≤ 600000023) (kz_0_147 : (-3999999) ≤ tall_0 ∧ tall_0 ≤ 600000007) (ex2 : gx = (-1) + (1 * x13 + 0)) (ex3 : (-2) ≤ gx ∧ gx ≤ 1000000) : (x5 + x11) ≤ 1000000 := by
  first
    | omega
    | (have h := bb2_start (t := x13) ‹RTV _ _ _ _ _› ‹BB1 _ _ _ _ _ _ _ _› (by omega) ‹STQ _ _ _ _ _ _› (by omega)
       have h1 := h.1
       have h2 := h.2.2.2.2
       omega)
    | (have h := bb_next ‹RTV _ _ _ _ _› ‹BB2 _ _ _ _ _ _ _› ‹BB3 _ _ _ _ _ _ _ _ _ _› (by omega) (by omega)
       have h1 := h.1.1
       have h2 := h.2
       omega)
set_option maxHeartbeats 4000000 in
theorem vc_Mo_bendsBecome_8_6 (x3 : Int) (x5 : Int) (x6 : Int) (x7 : Int) (x9 : Int) (x10 : Int) (x11 : Int) (x12 : Int) (x13 : Int) (x14 : Int) (barredPoint_0 : Int → Int) (wide_0 : Int) (tall_0 : Int) (costOf_0 : Int → Int) (gx : Int) (k3 : 0 ≤ x3 ∧ x3 ≤ 5999) (k5 : 0 ≤ x5 ∧ x5 ≤ 2147483647) (k6 : 0 ≤ x6 ∧ x6 ≤ 5999) (k7 : 0 ≤ x7 ∧ x7 ≤ 3) (k9 : 0 ≤ x9 ∧ x9 ≤ 1000000) (k10 : 0 ≤ x10 ∧ x10 ≤ 3) (k11 : 0 ≤ x11 ∧ x11 ≤ 999999) (k12 : (-1) ≤ x12 ∧ x12 ≤ (-1)) (k13 : (-2) ≤ x13 ∧ x13 ≤ 1000000) (k14 : 0 ≤ x14 ∧ x14 ≤ 5999) (d0 : x7 + 0 ≤ x10 ∧ x10 ≤ x7 + 0) (d1 : x9 + (-4294967296) ≤ x10 ∧ x10 ≤ x9 + 2) (d2 : x9 + (-4294967296) ≤ x11 ∧ x11 ≤ x9 + 0) (f0 : STQ (wide_0) (tall_0) (barredPoint_0) (x6) (x10) (x14)) (f1 : ((-1) ≤ x14) ∧ ((x14 + 1) ≤ (wide_0 * tall_0))) (f2 : x10 = x7) (f3 : x12 < 0) (f4 : GRX (wide_0) (tall_0)) (f5 : RTV (wide_0) (tall_0) (barredPoint_0) (costOf_0) (x3)) (f6 : (0 ≤ x3) ∧ ((x3 + 1) ≤ (wide_0 * tall_0))) (f7 : BB2 (wide_0) (tall_0) (barredPoint_0) (costOf_0) (x6) (x7) (x9)) (f8 : (0 ≤ x6) ∧ ((x6 + 1) ≤ (wide_0 * tall_0))) (f9 : (x5 + x9) ≤ 1000000) (f10 : 0 ≤ x5) (f11 : x6 ≠ x3) (f12 : BB3 (wide_0) (tall_0) (barredPoint_0) (costOf_0) (x6) (x7) (x9) (x10) (x11) (x12)) (f13 : (0 ≤ x9) ∧ (x9 ≤ x13)) (f14 : (-1) * x13 + 0 ≤ (-1)) (hK_0_140 : ∀ j : Int, 0 ≤ j → j < 24000 → 0 ≤ costOf_0 j ∧ costOf_0 j ≤ 1000000) (hK_0_143 : ∀ j : Int, 0 ≤ j → j < 6000 → 0 ≤ barredPoint_0 j ∧ barredPoint_0 j ≤ 1) (kz_0_146 : (-3999999) ≤ wide_0 ∧ wide_0 ≤ 600000023) (kz_0_147 : (-3999999) ≤ tall_0 ∧ tall_0 ≤ 600000007) (ex2 : gx = (-1) + (1 * x13 + 0)) (ex3 : (-2) ≤ gx ∧ gx ≤ 1000000) : 0 ≤ x5 := by
  first
    | omega
    | (have h := bb2_start (t := x13) ‹RTV _ _ _ _ _› ‹BB1 _ _ _ _ _ _ _ _› (by omega) ‹STQ _ _ _ _ _ _› (by omega)
       have h1 := h.1
       have h2 := h.2.2.2.2
       omega)
    | (have h := bb_next ‹RTV _ _ _ _ _› ‹BB2 _ _ _ _ _ _ _› ‹BB3 _ _ _ _ _ _ _ _ _ _› (by omega) (by omega)
       have h1 := h.1.1
       have h2 := h.2
       omega)
set_option maxHeartbeats 4000000 in
theorem vc_Mo_bendsBecome_8_7 (x3 : Int) (x5 : Int) (x6 : Int) (x7 : Int) (x9 : Int) (x10 : Int) (x11 : Int) (x12 : Int) (x13 : Int) (x14 : Int) (barredPoint_0 : Int → Int) (wide_0 : Int) (tall_0 : Int) (costOf_0 : Int → Int) (gx : Int) (k3 : 0 ≤ x3 ∧ x3 ≤ 5999) (k5 : 0 ≤ x5 ∧ x5 ≤ 2147483647) (k6 : 0 ≤ x6 ∧ x6 ≤ 5999) (k7 : 0 ≤ x7 ∧ x7 ≤ 3) (k9 : 0 ≤ x9 ∧ x9 ≤ 1000000) (k10 : 0 ≤ x10 ∧ x10 ≤ 3) (k11 : 0 ≤ x11 ∧ x11 ≤ 999999) (k12 : (-1) ≤ x12 ∧ x12 ≤ (-1)) (k13 : (-2) ≤ x13 ∧ x13 ≤ 1000000) (k14 : 0 ≤ x14 ∧ x14 ≤ 5999) (d0 : x7 + 0 ≤ x10 ∧ x10 ≤ x7 + 0) (d1 : x9 + (-4294967296) ≤ x10 ∧ x10 ≤ x9 + 2) (d2 : x9 + (-4294967296) ≤ x11 ∧ x11 ≤ x9 + 0) (f0 : STQ (wide_0) (tall_0) (barredPoint_0) (x6) (x10) (x14)) (f1 : ((-1) ≤ x14) ∧ ((x14 + 1) ≤ (wide_0 * tall_0))) (f2 : x10 = x7) (f3 : x12 < 0) (f4 : GRX (wide_0) (tall_0)) (f5 : RTV (wide_0) (tall_0) (barredPoint_0) (costOf_0) (x3)) (f6 : (0 ≤ x3) ∧ ((x3 + 1) ≤ (wide_0 * tall_0))) (f7 : BB2 (wide_0) (tall_0) (barredPoint_0) (costOf_0) (x6) (x7) (x9)) (f8 : (0 ≤ x6) ∧ ((x6 + 1) ≤ (wide_0 * tall_0))) (f9 : (x5 + x9) ≤ 1000000) (f10 : 0 ≤ x5) (f11 : x6 ≠ x3) (f12 : BB3 (wide_0) (tall_0) (barredPoint_0) (costOf_0) (x6) (x7) (x9) (x10) (x11) (x12)) (f13 : (0 ≤ x9) ∧ (x9 ≤ x13)) (f14 : (-1) * x13 + 0 ≤ (-1)) (hK_0_140 : ∀ j : Int, 0 ≤ j → j < 24000 → 0 ≤ costOf_0 j ∧ costOf_0 j ≤ 1000000) (hK_0_143 : ∀ j : Int, 0 ≤ j → j < 6000 → 0 ≤ barredPoint_0 j ∧ barredPoint_0 j ≤ 1) (kz_0_146 : (-3999999) ≤ wide_0 ∧ wide_0 ≤ 600000023) (kz_0_147 : (-3999999) ≤ tall_0 ∧ tall_0 ≤ 600000007) (ex2 : gx = (-1) + (1 * x13 + 0)) (ex3 : (-2) ≤ gx ∧ gx ≤ 1000000) : (0 ≤ x11) ∧ (x11 ≤ gx) := by
  first
    | omega
    | (have h := bb2_start (t := x13) ‹RTV _ _ _ _ _› ‹BB1 _ _ _ _ _ _ _ _› (by omega) ‹STQ _ _ _ _ _ _› (by omega)
       have h1 := h.1
       have h2 := h.2.2.2.2
       omega)
    | (have h := bb_next ‹RTV _ _ _ _ _› ‹BB2 _ _ _ _ _ _ _› ‹BB3 _ _ _ _ _ _ _ _ _ _› (by omega) (by omega)
       have h1 := h.1.1
       have h2 := h.2
       omega)
def o_Mo_bendsBecome_8 : or_T := (112, 15, [(0, (2, 0, 0, [165])), (3, (0, 0, 5999, [])), (5, (0, 0, 2147483647, [])), (6, (0, 0, 5999, [])), (7, (0, 0, 3, [])), (9, (0, 0, 1000000, [])), (10, (0, 0, 3, [])), (11, (0, 0, 999999, [])), (12, (0, -1, -1, [])), (13, (0, -2, 1000000, [])), (14, (0, 0, 5999, []))], [(20, [0, 6, 10, 14], [60, 2, 1, 505, 146, 147, 143]), (20, [14, 0], [50, 2, 0, 1146, 1147, 2, 6, 0, 2, 0, -1, 1, 0, 0, 6, 4, 2, 1, 0, 0, 1, 6, 3, 2, 1, 146, 2, 1, 147]), (7, [10, 7], [0]), (8, [12], [2]), (20, [0], [60, 2, 0, 494, 146, 147]), (20, [0, 3], [60, 2, 2, 504, 146, 147, 143, 140]), (20, [3, 0], [50, 2, 0, 1146, 1147, 2, 6, 0, 2, 0, 0, 1, 0, 0, 6, 4, 2, 1, 0, 0, 1, 6, 3, 2, 1, 146, 2, 1, 147]), (20, [0, 6, 7, 9], [60, 2, 2, 507, 146, 147, 143, 140]), (20, [6, 0], [50, 2, 0, 1146, 1147, 2, 6, 0, 2, 0, 0, 1, 0, 0, 6, 4, 2, 1, 0, 0, 1, 6, 3, 2, 1, 146, 2, 1, 147]), (20, [5, 9], [50, 0, 0, 0, 6, 4, 2, 1, 0, 1, 1, 0, 1000000]), (20, [5], [50, 0, 0, 0, 2, 0, 0, 1, 0]), (20, [6, 3], [50, 0, 0, 7, 2, 1, 0, 1, 1]), (20, [0, 6, 7, 9, 10, 11, 12], [60, 2, 2, 508, 146, 147, 143, 140]), (20, [9, 13], [50, 0, 0, 2, 6, 0, 2, 0, 0, 1, 0, 0, 2, 1, 0, 1, 1]), (23, [13], [-1, -1])], [], [(0, -2, 1000000, [])], [(20, [0], [60, 2, 0, 494, 146, 147]), (20, [0, 3], [60, 2, 2, 504, 146, 147, 143, 140]), (20, [3, 0], [50, 2, 0, 1146, 1147, 2, 6, 0, 2, 0, 0, 1, 0, 0, 6, 4, 2, 1, 0, 0, 1, 6, 3, 2, 1, 146, 2, 1, 147]), (20, [0, 14, 10, 11], [60, 2, 2, 507, 146, 147, 143, 140]), (20, [14, 0], [50, 2, 0, 1146, 1147, 2, 6, 0, 2, 0, 0, 1, 0, 0, 6, 4, 2, 1, 0, 0, 1, 6, 3, 2, 1, 146, 2, 1, 147]), (20, [5, 11], [50, 0, 0, 0, 6, 4, 2, 1, 0, 1, 1, 0, 1000000]), (20, [5], [50, 0, 0, 0, 2, 0, 0, 1, 0]), (20, [11, 15], [50, 0, 0, 2, 6, 0, 2, 0, 0, 1, 0, 0, 2, 1, 0, 1, 1])], [(15, 13, -1000000000000, -1)], [(10, 7, 0, 0), (10, 9, -4294967296, 2), (11, 9, -4294967296, 0)])
theorem oo_Mo_bendsBecome_8 {kA : Nat → ClassId} : or_ok PRD kA GG o_Mo_bendsBecome_8 := by
  refine or_mk fun A ta ws vs hD hth hl => ?_
  intro t0 r0 t3 k3 t5 k5 t6 k6 t7 k7 t9 k9 t10 k10 t11 k11 t12 k12 t13 k13 t14 k14 d0 d1 d2 f0 f1 f2 f3 f4 f5 f6 f7 f8 f9 f10 f11 f12 f13 f14
  replace f0 := shm_1291 f0
  replace f1 := shm_1292 f1
  replace f2 := shm_37 f2
  replace f3 := shm_39 f3
  replace f4 := shm_1289 f4
  replace f5 := shm_1411 f5
  replace f6 := shm_1290 f6
  replace f7 := shm_1413 f7
  replace f8 := shm_1290 f8
  replace f9 := shm_1414 f9
  replace f10 := shm_722 f10
  replace f11 := shm_406 f11
  replace f12 := shm_1415 f12
  replace f13 := shm_366 f13
  replace f14 := shm_626 f14
  have cr_0_140 := fdq_175 hD hth r0
  have cr_0_143 := fdq_178 hD hth r0
  have hK_0_140 := elq_104 hD hth cr_0_140
  have hK_0_143 := elq_107 hD hth cr_0_143
  have kz_0_146 := fdq_179 hD hth r0
  have kz_0_147 := fdq_180 hD hth r0
  obtain ⟨x, ex, hx⟩ := iv_ex (ta := ta) (lo := (-2)) (hi := 1000000) (z := (-1) + (1 * v_iv (n_v vs 13) + 0)) (by omega) (by omega) (by omega) (by omega)
  have ex2 : v_iv (Value.int x) = (-1) + (1 * v_iv (n_v vs 13) + 0) := ex
  have ex3 : (-2) ≤ v_iv (Value.int x) ∧ v_iv (Value.int x) ≤ 1000000 := tv_rng hx
  have e_0 : n_v (vs ++ [Value.int x]) 0 = n_v vs 0 := n_v_old (by rw [hl]; decide)
  have e_3 : n_v (vs ++ [Value.int x]) 3 = n_v vs 3 := n_v_old (by rw [hl]; decide)
  have e_5 : n_v (vs ++ [Value.int x]) 5 = n_v vs 5 := n_v_old (by rw [hl]; decide)
  have e_10 : n_v (vs ++ [Value.int x]) 10 = n_v vs 10 := n_v_old (by rw [hl]; decide)
  have e_11 : n_v (vs ++ [Value.int x]) 11 = n_v vs 11 := n_v_old (by rw [hl]; decide)
  have e_14 : n_v (vs ++ [Value.int x]) 14 = n_v vs 14 := n_v_old (by rw [hl]; decide)
  have e_15 : n_v (vs ++ [Value.int x]) 15 = Value.int x := n_v_new hl
  have nf0 : fc_1 PRD (20, [0], [60, 2, 0, 494, 146, 147]) ws (vs ++ [Value.int x]) := by
    refine ⟨nf_inA hl rfl, sgq_1289 ?_⟩
    · show GRX (w_fi ws (n_v (vs ++ [Value.int x]) 0) 146) (w_fi ws (n_v (vs ++ [Value.int x]) 0) 147)
      rw [e_0]
      exact vc_Mo_bendsBecome_8_0 (v_iv (n_v vs 3)) (v_iv (n_v vs 5)) (v_iv (n_v vs 6)) (v_iv (n_v vs 7)) (v_iv (n_v vs 9)) (v_iv (n_v vs 10)) (v_iv (n_v vs 11)) (v_iv (n_v vs 12)) (v_iv (n_v vs 13)) (v_iv (n_v vs 14)) (w_ei ws (w_ar ws (n_v vs 0) 143)) (w_fi ws (n_v vs 0) 146) (w_fi ws (n_v vs 0) 147) (w_ei ws (w_ar ws (n_v vs 0) 140)) (v_iv (Value.int x)) k3 k5 k6 k7 k9 k10 k11 k12 k13 k14 d0 d1 d2 f0 f1 f2 f3 f4 f5 f6 f7 f8 f9 f10 f11 f12 f13 f14 hK_0_140 hK_0_143 kz_0_146 kz_0_147 ex2 ex3
  have nf1 : fc_1 PRD (20, [0, 3], [60, 2, 2, 504, 146, 147, 143, 140]) ws (vs ++ [Value.int x]) := by
    refine ⟨nf_inA hl rfl, sgq_1411 ?_⟩
    · show RTV (w_fi ws (n_v (vs ++ [Value.int x]) 0) 146) (w_fi ws (n_v (vs ++ [Value.int x]) 0) 147) (w_ei ws (w_ar ws (n_v (vs ++ [Value.int x]) 0) 143)) (w_ei ws (w_ar ws (n_v (vs ++ [Value.int x]) 0) 140)) (v_iv (n_v (vs ++ [Value.int x]) 3))
      simp only [e_0, e_3]
      exact vc_Mo_bendsBecome_8_1 (v_iv (n_v vs 3)) (v_iv (n_v vs 5)) (v_iv (n_v vs 6)) (v_iv (n_v vs 7)) (v_iv (n_v vs 9)) (v_iv (n_v vs 10)) (v_iv (n_v vs 11)) (v_iv (n_v vs 12)) (v_iv (n_v vs 13)) (v_iv (n_v vs 14)) (w_ei ws (w_ar ws (n_v vs 0) 143)) (w_fi ws (n_v vs 0) 146) (w_fi ws (n_v vs 0) 147) (w_ei ws (w_ar ws (n_v vs 0) 140)) (v_iv (Value.int x)) k3 k5 k6 k7 k9 k10 k11 k12 k13 k14 d0 d1 d2 f0 f1 f2 f3 f4 f5 f6 f7 f8 f9 f10 f11 f12 f13 f14 hK_0_140 hK_0_143 kz_0_146 kz_0_147 ex2 ex3
  have nf2 : fc_1 PRD (20, [3, 0], [50, 2, 0, 1146, 1147, 2, 6, 0, 2, 0, 0, 1, 0, 0, 6, 4, 2, 1, 0, 0, 1, 6, 3, 2, 1, 146, 2, 1, 147]) ws (vs ++ [Value.int x]) := by
    refine ⟨nf_inA hl rfl, sgq_1290 ?_⟩
    · show (0 ≤ v_iv (n_v (vs ++ [Value.int x]) 3)) ∧ ((v_iv (n_v (vs ++ [Value.int x]) 3) + 1) ≤ (w_fi ws (n_v (vs ++ [Value.int x]) 0) 146 * w_fi ws (n_v (vs ++ [Value.int x]) 0) 147))
      simp only [e_0, e_3]
      exact vc_Mo_bendsBecome_8_2 (v_iv (n_v vs 3)) (v_iv (n_v vs 5)) (v_iv (n_v vs 6)) (v_iv (n_v vs 7)) (v_iv (n_v vs 9)) (v_iv (n_v vs 10)) (v_iv (n_v vs 11)) (v_iv (n_v vs 12)) (v_iv (n_v vs 13)) (v_iv (n_v vs 14)) (w_ei ws (w_ar ws (n_v vs 0) 143)) (w_fi ws (n_v vs 0) 146) (w_fi ws (n_v vs 0) 147) (w_ei ws (w_ar ws (n_v vs 0) 140)) (v_iv (Value.int x)) k3 k5 k6 k7 k9 k10 k11 k12 k13 k14 d0 d1 d2 f0 f1 f2 f3 f4 f5 f6 f7 f8 f9 f10 f11 f12 f13 f14 hK_0_140 hK_0_143 kz_0_146 kz_0_147 ex2 ex3
  have nf3 : fc_1 PRD (20, [0, 14, 10, 11], [60, 2, 2, 507, 146, 147, 143, 140]) ws (vs ++ [Value.int x]) := by
    refine ⟨nf_inA hl rfl, sgq_1413 ?_⟩
    · show BB2 (w_fi ws (n_v (vs ++ [Value.int x]) 0) 146) (w_fi ws (n_v (vs ++ [Value.int x]) 0) 147) (w_ei ws (w_ar ws (n_v (vs ++ [Value.int x]) 0) 143)) (w_ei ws (w_ar ws (n_v (vs ++ [Value.int x]) 0) 140)) (v_iv (n_v (vs ++ [Value.int x]) 14)) (v_iv (n_v (vs ++ [Value.int x]) 10)) (v_iv (n_v (vs ++ [Value.int x]) 11))
      simp only [e_0, e_10, e_11, e_14]
      exact vc_Mo_bendsBecome_8_3 (v_iv (n_v vs 3)) (v_iv (n_v vs 5)) (v_iv (n_v vs 6)) (v_iv (n_v vs 7)) (v_iv (n_v vs 9)) (v_iv (n_v vs 10)) (v_iv (n_v vs 11)) (v_iv (n_v vs 12)) (v_iv (n_v vs 13)) (v_iv (n_v vs 14)) (w_ei ws (w_ar ws (n_v vs 0) 143)) (w_fi ws (n_v vs 0) 146) (w_fi ws (n_v vs 0) 147) (w_ei ws (w_ar ws (n_v vs 0) 140)) (v_iv (Value.int x)) k3 k5 k6 k7 k9 k10 k11 k12 k13 k14 d0 d1 d2 f0 f1 f2 f3 f4 f5 f6 f7 f8 f9 f10 f11 f12 f13 f14 hK_0_140 hK_0_143 kz_0_146 kz_0_147 ex2 ex3
  have nf4 : fc_1 PRD (20, [14, 0], [50, 2, 0, 1146, 1147, 2, 6, 0, 2, 0, 0, 1, 0, 0, 6, 4, 2, 1, 0, 0, 1, 6, 3, 2, 1, 146, 2, 1, 147]) ws (vs ++ [Value.int x]) := by
    refine ⟨nf_inA hl rfl, sgq_1290 ?_⟩
    · show (0 ≤ v_iv (n_v (vs ++ [Value.int x]) 14)) ∧ ((v_iv (n_v (vs ++ [Value.int x]) 14) + 1) ≤ (w_fi ws (n_v (vs ++ [Value.int x]) 0) 146 * w_fi ws (n_v (vs ++ [Value.int x]) 0) 147))
      simp only [e_0, e_14]
      exact vc_Mo_bendsBecome_8_4 (v_iv (n_v vs 3)) (v_iv (n_v vs 5)) (v_iv (n_v vs 6)) (v_iv (n_v vs 7)) (v_iv (n_v vs 9)) (v_iv (n_v vs 10)) (v_iv (n_v vs 11)) (v_iv (n_v vs 12)) (v_iv (n_v vs 13)) (v_iv (n_v vs 14)) (w_ei ws (w_ar ws (n_v vs 0) 143)) (w_fi ws (n_v vs 0) 146) (w_fi ws (n_v vs 0) 147) (w_ei ws (w_ar ws (n_v vs 0) 140)) (v_iv (Value.int x)) k3 k5 k6 k7 k9 k10 k11 k12 k13 k14 d0 d1 d2 f0 f1 f2 f3 f4 f5 f6 f7 f8 f9 f10 f11 f12 f13 f14 hK_0_140 hK_0_143 kz_0_146 kz_0_147 ex2 ex3
  have nf5 : fc_1 PRD (20, [5, 11], [50, 0, 0, 0, 6, 4, 2, 1, 0, 1, 1, 0, 1000000]) ws (vs ++ [Value.int x]) := by
    refine ⟨nf_inA hl rfl, sgq_1414 ?_⟩
    · show (v_iv (n_v (vs ++ [Value.int x]) 5) + v_iv (n_v (vs ++ [Value.int x]) 11)) ≤ 1000000
      simp only [e_5, e_11]
      exact vc_Mo_bendsBecome_8_5 (v_iv (n_v vs 3)) (v_iv (n_v vs 5)) (v_iv (n_v vs 6)) (v_iv (n_v vs 7)) (v_iv (n_v vs 9)) (v_iv (n_v vs 10)) (v_iv (n_v vs 11)) (v_iv (n_v vs 12)) (v_iv (n_v vs 13)) (v_iv (n_v vs 14)) (w_ei ws (w_ar ws (n_v vs 0) 143)) (w_fi ws (n_v vs 0) 146) (w_fi ws (n_v vs 0) 147) (w_ei ws (w_ar ws (n_v vs 0) 140)) (v_iv (Value.int x)) k3 k5 k6 k7 k9 k10 k11 k12 k13 k14 d0 d1 d2 f0 f1 f2 f3 f4 f5 f6 f7 f8 f9 f10 f11 f12 f13 f14 hK_0_140 hK_0_143 kz_0_146 kz_0_147 ex2 ex3
  have nf6 : fc_1 PRD (20, [5], [50, 0, 0, 0, 2, 0, 0, 1, 0]) ws (vs ++ [Value.int x]) := by
    refine ⟨nf_inA hl rfl, sgq_722 ?_⟩
    · show 0 ≤ v_iv (n_v (vs ++ [Value.int x]) 5)
      rw [e_5]
      exact vc_Mo_bendsBecome_8_6 (v_iv (n_v vs 3)) (v_iv (n_v vs 5)) (v_iv (n_v vs 6)) (v_iv (n_v vs 7)) (v_iv (n_v vs 9)) (v_iv (n_v vs 10)) (v_iv (n_v vs 11)) (v_iv (n_v vs 12)) (v_iv (n_v vs 13)) (v_iv (n_v vs 14)) (w_ei ws (w_ar ws (n_v vs 0) 143)) (w_fi ws (n_v vs 0) 146) (w_fi ws (n_v vs 0) 147) (w_ei ws (w_ar ws (n_v vs 0) 140)) (v_iv (Value.int x)) k3 k5 k6 k7 k9 k10 k11 k12 k13 k14 d0 d1 d2 f0 f1 f2 f3 f4 f5 f6 f7 f8 f9 f10 f11 f12 f13 f14 hK_0_140 hK_0_143 kz_0_146 kz_0_147 ex2 ex3
  have nf7 : fc_1 PRD (20, [11, 15], [50, 0, 0, 2, 6, 0, 2, 0, 0, 1, 0, 0, 2, 1, 0, 1, 1]) ws (vs ++ [Value.int x]) := by
    refine ⟨nf_inA hl rfl, sgq_366 ?_⟩
    · show (0 ≤ v_iv (n_v (vs ++ [Value.int x]) 11)) ∧ (v_iv (n_v (vs ++ [Value.int x]) 11) ≤ v_iv (n_v (vs ++ [Value.int x]) 15))
      simp only [e_11, e_15]
      exact vc_Mo_bendsBecome_8_7 (v_iv (n_v vs 3)) (v_iv (n_v vs 5)) (v_iv (n_v vs 6)) (v_iv (n_v vs 7)) (v_iv (n_v vs 9)) (v_iv (n_v vs 10)) (v_iv (n_v vs 11)) (v_iv (n_v vs 12)) (v_iv (n_v vs 13)) (v_iv (n_v vs 14)) (w_ei ws (w_ar ws (n_v vs 0) 143)) (w_fi ws (n_v vs 0) 146) (w_fi ws (n_v vs 0) 147) (w_ei ws (w_ar ws (n_v vs 0) 140)) (v_iv (Value.int x)) k3 k5 k6 k7 k9 k10 k11 k12 k13 k14 d0 d1 d2 f0 f1 f2 f3 f4 f5 f6 f7 f8 f9 f10 f11 f12 f13 f14 hK_0_140 hK_0_143 kz_0_146 kz_0_147 ex2 ex3
  obtain ⟨x0, e0, _, _⟩ := tv_int t13 rfl
  have e1 : v_iv (n_v vs 13) = x0.toInt := by rw [e0]; rfl
  have ho : sy_ofs (vs ++ [Value.int x]) (15, 13, -1000000000000, -1) := by
    refine ⟨x, x0, by rw [List.getElem?_append_right (by rw [hl]; decide), hl]; rfl, ?_, ?_, ?_⟩
    · rw [List.getElem?_append_left (by rw [hl]; decide)]; exact n_v_some (by rw [hl]; decide) e0
    · show x0.toInt + (-1000000000000) ≤ x.toInt; omega
    · show x.toInt ≤ x0.toInt + (-1); omega
  exact ⟨(fun _ h => (by cases h)), [Value.int x], ag_one hx, List.forall_mem_cons.mpr ⟨⟨show (20 : Nat) < 100 from by decide, nf0⟩, List.forall_mem_cons.mpr ⟨⟨show (20 : Nat) < 100 from by decide, nf1⟩, List.forall_mem_cons.mpr ⟨⟨show (20 : Nat) < 100 from by decide, nf2⟩, List.forall_mem_cons.mpr ⟨⟨show (20 : Nat) < 100 from by decide, nf3⟩, List.forall_mem_cons.mpr ⟨⟨show (20 : Nat) < 100 from by decide, nf4⟩, List.forall_mem_cons.mpr ⟨⟨show (20 : Nat) < 100 from by decide, nf5⟩, List.forall_mem_cons.mpr ⟨⟨show (20 : Nat) < 100 from by decide, nf6⟩, List.forall_mem_cons.mpr ⟨⟨show (20 : Nat) < 100 from by decide, nf7⟩, (fun _ h => (by cases h))⟩⟩⟩⟩⟩⟩⟩⟩, List.forall_mem_cons.mpr ⟨ho, (fun _ h => (by cases h))⟩⟩
set_option maxHeartbeats 4000000 in
theorem vc_Mo_bendsBecome_9_r0 (x3 : Int) (x5 : Int) (x6 : Int) (x7 : Int) (x9 : Int) (x10 : Int) (x11 : Int) (x12 : Int) (x13 : Int) (x14 : Int) (wide_0 : Int) (tall_0 : Int) (barredPoint_0 : Int → Int) (costOf_0 : Int → Int) (k3 : 0 ≤ x3 ∧ x3 ≤ 5999) (k5 : 25 ≤ x5 ∧ x5 ≤ 2147483647) (k6 : 0 ≤ x6 ∧ x6 ≤ 5999) (k7 : 0 ≤ x7 ∧ x7 ≤ 3) (k9 : 0 ≤ x9 ∧ x9 ≤ 1000000) (k10 : (-1) ≤ x10 ∧ x10 ≤ 3) (k11 : 0 ≤ x11 ∧ x11 ≤ 999999) (k12 : (-1) ≤ x12 ∧ x12 ≤ (-1)) (k13 : (-2) ≤ x13 ∧ x13 ≤ 1000000) (k14 : 25 ≤ x14 ∧ x14 ≤ 25) (d0 : x9 + (-4294967296) ≤ x10 ∧ x10 ≤ x9 + 2) (d1 : x9 + (-4294967296) ≤ x11 ∧ x11 ≤ x9 + 0) (f0 : x14 ≤ x5) (f1 : x10 ≠ x7) (f2 : x12 < 0) (f3 : GRX (wide_0) (tall_0)) (f4 : RTV (wide_0) (tall_0) (barredPoint_0) (costOf_0) (x3)) (f5 : (0 ≤ x3) ∧ ((x3 + 1) ≤ (wide_0 * tall_0))) (f6 : BB2 (wide_0) (tall_0) (barredPoint_0) (costOf_0) (x6) (x7) (x9)) (f7 : (0 ≤ x6) ∧ ((x6 + 1) ≤ (wide_0 * tall_0))) (f8 : (x5 + x9) ≤ 1000000) (f9 : 0 ≤ x5) (f10 : x6 ≠ x3) (f11 : BB3 (wide_0) (tall_0) (barredPoint_0) (costOf_0) (x6) (x7) (x9) (x10) (x11) (x12)) (f12 : (0 ≤ x9) ∧ (x9 ≤ x13)) (f13 : (-1) * x13 + 0 ≤ (-1)) (hK_0_140 : ∀ j : Int, 0 ≤ j → j < 24000 → 0 ≤ costOf_0 j ∧ costOf_0 j ≤ 1000000) (hK_0_143 : ∀ j : Int, 0 ≤ j → j < 6000 → 0 ≤ barredPoint_0 j ∧ barredPoint_0 j ≤ 1) (kz_0_146 : (-3999999) ≤ wide_0 ∧ wide_0 ≤ 600000023) (kz_0_147 : (-3999999) ≤ tall_0 ∧ tall_0 ≤ 600000007) : 25 ≤ x5 ∧ x5 ≤ 999999 := by
  first
    | omega
    | (have g := gok_bd ‹GRX _ _›; omega)
    | (have h := bb_next ‹RTV _ _ _ _ _› ‹BB2 _ _ _ _ _ _ _› ‹BB3 _ _ _ _ _ _ _ _ _ _› (by omega) (by omega)
       have h1 := h.1.1
       have h2 := h.2
       omega)
    | (obtain ⟨⟨mf, q, n1, n2, n3, n4⟩, u0, u1⟩ := bb_next ‹RTV _ _ _ _ _› ‹BB2 _ _ _ _ _ _ _› ‹BB3 _ _ _ _ _ _ _ _ _ _› (by omega) (by omega)
       have e := ‹STQ _ _ _ _ _ _›.2.2 q n1 n2
       have i := nb_in n1 (by have g := gok_bd ‹GRX _ _›; omega)
       have g3 := ‹GRX _ _›.2.2
       omega)
def o_Mo_bendsBecome_9 : or_T := (253, 15, [(0, (2, 0, 0, [165])), (3, (0, 0, 5999, [])), (5, (0, 25, 2147483647, [])), (6, (0, 0, 5999, [])), (7, (0, 0, 3, [])), (9, (0, 0, 1000000, [])), (10, (0, -1, 3, [])), (11, (0, 0, 999999, [])), (12, (0, -1, -1, [])), (13, (0, -2, 1000000, [])), (14, (0, 25, 25, []))], [(7, [5, 14], [3]), (7, [10, 7], [1]), (8, [12], [2]), (20, [0], [60, 2, 0, 494, 146, 147]), (20, [0, 3], [60, 2, 2, 504, 146, 147, 143, 140]), (20, [3, 0], [50, 2, 0, 1146, 1147, 2, 6, 0, 2, 0, 0, 1, 0, 0, 6, 4, 2, 1, 0, 0, 1, 6, 3, 2, 1, 146, 2, 1, 147]), (20, [0, 6, 7, 9], [60, 2, 2, 507, 146, 147, 143, 140]), (20, [6, 0], [50, 2, 0, 1146, 1147, 2, 6, 0, 2, 0, 0, 1, 0, 0, 6, 4, 2, 1, 0, 0, 1, 6, 3, 2, 1, 146, 2, 1, 147]), (20, [5, 9], [50, 0, 0, 0, 6, 4, 2, 1, 0, 1, 1, 0, 1000000]), (20, [5], [50, 0, 0, 0, 2, 0, 0, 1, 0]), (20, [6, 3], [50, 0, 0, 7, 2, 1, 0, 1, 1]), (20, [0, 6, 7, 9, 10, 11, 12], [60, 2, 2, 508, 146, 147, 143, 140]), (20, [9, 13], [50, 0, 0, 2, 6, 0, 2, 0, 0, 1, 0, 0, 2, 1, 0, 1, 1]), (23, [13], [-1, -1])], [(5, (0, 25, 999999, []))], [], [], [], [(10, 9, -4294967296, 2), (11, 9, -4294967296, 0)])
theorem oo_Mo_bendsBecome_9 {kA : Nat → ClassId} : or_ok PRD kA GG o_Mo_bendsBecome_9 := by
  refine or_mk fun A ta ws vs hD hth hl => ?_
  intro t0 r0 t3 k3 t5 k5 t6 k6 t7 k7 t9 k9 t10 k10 t11 k11 t12 k12 t13 k13 t14 k14 d0 d1 f0 f1 f2 f3 f4 f5 f6 f7 f8 f9 f10 f11 f12 f13
  have cr_0_140 := fdq_175 hD hth r0
  have cr_0_143 := fdq_178 hD hth r0
  have hK_0_140 := elq_104 hD hth cr_0_140
  have hK_0_143 := elq_107 hD hth cr_0_143
  have kz_0_146 := fdq_179 hD hth r0
  have kz_0_147 := fdq_180 hD hth r0
  have hrf0 : 25 ≤ v_iv (n_v vs 5) ∧ v_iv (n_v vs 5) ≤ 999999 := vc_Mo_bendsBecome_9_r0 (v_iv (n_v vs 3)) (v_iv (n_v vs 5)) (v_iv (n_v vs 6)) (v_iv (n_v vs 7)) (v_iv (n_v vs 9)) (v_iv (n_v vs 10)) (v_iv (n_v vs 11)) (v_iv (n_v vs 12)) (v_iv (n_v vs 13)) (v_iv (n_v vs 14)) (w_fi ws (n_v vs 0) 146) (w_fi ws (n_v vs 0) 147) (w_ei ws (w_ar ws (n_v vs 0) 143)) (w_ei ws (w_ar ws (n_v vs 0) 140)) k3 k5 k6 k7 k9 k10 k11 k12 k13 k14 d0 d1 (shm_2 f0) (shm_40 f1) (shm_39 f2) (shm_1289 f3) (shm_1411 f4) (shm_1290 f5) (shm_1413 f6) (shm_1290 f7) (shm_1414 f8) (shm_722 f9) (shm_406 f10) (shm_1415 f11) (shm_366 f12) (shm_626 f13) hK_0_140 hK_0_143 kz_0_146 kz_0_147
  have rf5 : tv_ok ta (0, 25, 999999, []) (n_v vs 5) := tv_in t5 (by first | omega | grind) (by first | omega | grind)
  refine ⟨List.forall_mem_cons.mpr ⟨rf5, (fun _ h => (by cases h))⟩, [], trivial, ?_, (fun _ h => (by cases h))⟩
  rw [List.append_nil]
  exact (fun _ h => (by cases h))
set_option maxHeartbeats 4000000 in
theorem vc_Mo_bendsBecome_10_r0 (x3 : Int) (x5 : Int) (x6 : Int) (x7 : Int) (x9 : Int) (x10 : Int) (x11 : Int) (x12 : Int) (x13 : Int) (x14 : Int) (x15 : Int) (wide_0 : Int) (tall_0 : Int) (barredPoint_0 : Int → Int) (costOf_0 : Int → Int) (k3 : 0 ≤ x3 ∧ x3 ≤ 5999) (k5 : 25 ≤ x5 ∧ x5 ≤ 999999) (k6 : 0 ≤ x6 ∧ x6 ≤ 5999) (k7 : 0 ≤ x7 ∧ x7 ≤ 3) (k9 : 0 ≤ x9 ∧ x9 ≤ 1000000) (k10 : (-1) ≤ x10 ∧ x10 ≤ 3) (k11 : 0 ≤ x11 ∧ x11 ≤ 999999) (k12 : (-1) ≤ x12 ∧ x12 ≤ (-1)) (k13 : (-2) ≤ x13 ∧ x13 ≤ 1000000) (k14 : 25 ≤ x14 ∧ x14 ≤ 25) (k15 : 26 ≤ x15 ∧ x15 ≤ 1000000) (d0 : x5 + 1 ≤ x15 ∧ x15 ≤ x5 + 1) (d1 : x9 + (-4294967296) ≤ x10 ∧ x10 ≤ x9 + 2) (d2 : x9 + (-4294967296) ≤ x11 ∧ x11 ≤ x9 + 0) (f0 : x15 = x5 + 1) (f1 : x14 ≤ x5) (f2 : x10 ≠ x7) (f3 : x12 < 0) (f4 : GRX (wide_0) (tall_0)) (f5 : RTV (wide_0) (tall_0) (barredPoint_0) (costOf_0) (x3)) (f6 : (0 ≤ x3) ∧ ((x3 + 1) ≤ (wide_0 * tall_0))) (f7 : BB2 (wide_0) (tall_0) (barredPoint_0) (costOf_0) (x6) (x7) (x9)) (f8 : (0 ≤ x6) ∧ ((x6 + 1) ≤ (wide_0 * tall_0))) (f9 : (x5 + x9) ≤ 1000000) (f10 : 0 ≤ x5) (f11 : x6 ≠ x3) (f12 : BB3 (wide_0) (tall_0) (barredPoint_0) (costOf_0) (x6) (x7) (x9) (x10) (x11) (x12)) (f13 : (0 ≤ x9) ∧ (x9 ≤ x13)) (f14 : (-1) * x13 + 0 ≤ (-1)) (hK_0_140 : ∀ j : Int, 0 ≤ j → j < 24000 → 0 ≤ costOf_0 j ∧ costOf_0 j ≤ 1000000) (hK_0_143 : ∀ j : Int, 0 ≤ j → j < 6000 → 0 ≤ barredPoint_0 j ∧ barredPoint_0 j ≤ 1) (kz_0_146 : (-3999999) ≤ wide_0 ∧ wide_0 ≤ 600000023) (kz_0_147 : (-3999999) ≤ tall_0 ∧ tall_0 ≤ 600000007) : 0 ≤ x10 ∧ x10 ≤ 3 := by
  first
    | omega
    | (have g := gok_bd ‹GRX _ _›; omega)
    | (have h := bb_next ‹RTV _ _ _ _ _› ‹BB2 _ _ _ _ _ _ _› ‹BB3 _ _ _ _ _ _ _ _ _ _› (by omega) (by omega)
       have h1 := h.1.1
       have h2 := h.2
       omega)
    | (obtain ⟨⟨mf, q, n1, n2, n3, n4⟩, u0, u1⟩ := bb_next ‹RTV _ _ _ _ _› ‹BB2 _ _ _ _ _ _ _› ‹BB3 _ _ _ _ _ _ _ _ _ _› (by omega) (by omega)
       have e := ‹STQ _ _ _ _ _ _›.2.2 q n1 n2
       have i := nb_in n1 (by have g := gok_bd ‹GRX _ _›; omega)
       have g3 := ‹GRX _ _›.2.2
       omega)
def o_Mo_bendsBecome_10 : or_T := (258, 16, [(0, (2, 0, 0, [165])), (3, (0, 0, 5999, [])), (5, (0, 25, 999999, [])), (6, (0, 0, 5999, [])), (7, (0, 0, 3, [])), (9, (0, 0, 1000000, [])), (10, (0, -1, 3, [])), (11, (0, 0, 999999, [])), (12, (0, -1, -1, [])), (13, (0, -2, 1000000, [])), (14, (0, 25, 25, [])), (15, (0, 26, 1000000, []))], [(6, [15, 5], [1]), (7, [5, 14], [3]), (7, [10, 7], [1]), (8, [12], [2]), (20, [0], [60, 2, 0, 494, 146, 147]), (20, [0, 3], [60, 2, 2, 504, 146, 147, 143, 140]), (20, [3, 0], [50, 2, 0, 1146, 1147, 2, 6, 0, 2, 0, 0, 1, 0, 0, 6, 4, 2, 1, 0, 0, 1, 6, 3, 2, 1, 146, 2, 1, 147]), (20, [0, 6, 7, 9], [60, 2, 2, 507, 146, 147, 143, 140]), (20, [6, 0], [50, 2, 0, 1146, 1147, 2, 6, 0, 2, 0, 0, 1, 0, 0, 6, 4, 2, 1, 0, 0, 1, 6, 3, 2, 1, 146, 2, 1, 147]), (20, [5, 9], [50, 0, 0, 0, 6, 4, 2, 1, 0, 1, 1, 0, 1000000]), (20, [5], [50, 0, 0, 0, 2, 0, 0, 1, 0]), (20, [6, 3], [50, 0, 0, 7, 2, 1, 0, 1, 1]), (20, [0, 6, 7, 9, 10, 11, 12], [60, 2, 2, 508, 146, 147, 143, 140]), (20, [9, 13], [50, 0, 0, 2, 6, 0, 2, 0, 0, 1, 0, 0, 2, 1, 0, 1, 1]), (23, [13], [-1, -1])], [(10, (0, 0, 3, []))], [], [], [], [(15, 5, 1, 1), (10, 9, -4294967296, 2), (11, 9, -4294967296, 0)])
theorem oo_Mo_bendsBecome_10 {kA : Nat → ClassId} : or_ok PRD kA GG o_Mo_bendsBecome_10 := by
  refine or_mk fun A ta ws vs hD hth hl => ?_
  intro t0 r0 t3 k3 t5 k5 t6 k6 t7 k7 t9 k9 t10 k10 t11 k11 t12 k12 t13 k13 t14 k14 t15 k15 d0 d1 d2 f0 f1 f2 f3 f4 f5 f6 f7 f8 f9 f10 f11 f12 f13 f14
  have cr_0_140 := fdq_175 hD hth r0
  have cr_0_143 := fdq_178 hD hth r0
  have hK_0_140 := elq_104 hD hth cr_0_140
  have hK_0_143 := elq_107 hD hth cr_0_143
  have kz_0_146 := fdq_179 hD hth r0
  have kz_0_147 := fdq_180 hD hth r0
  have hrf0 : 0 ≤ v_iv (n_v vs 10) ∧ v_iv (n_v vs 10) ≤ 3 := vc_Mo_bendsBecome_10_r0 (v_iv (n_v vs 3)) (v_iv (n_v vs 5)) (v_iv (n_v vs 6)) (v_iv (n_v vs 7)) (v_iv (n_v vs 9)) (v_iv (n_v vs 10)) (v_iv (n_v vs 11)) (v_iv (n_v vs 12)) (v_iv (n_v vs 13)) (v_iv (n_v vs 14)) (v_iv (n_v vs 15)) (w_fi ws (n_v vs 0) 146) (w_fi ws (n_v vs 0) 147) (w_ei ws (w_ar ws (n_v vs 0) 143)) (w_ei ws (w_ar ws (n_v vs 0) 140)) k3 k5 k6 k7 k9 k10 k11 k12 k13 k14 k15 d0 d1 d2 (shm_4 f0) (shm_2 f1) (shm_40 f2) (shm_39 f3) (shm_1289 f4) (shm_1411 f5) (shm_1290 f6) (shm_1413 f7) (shm_1290 f8) (shm_1414 f9) (shm_722 f10) (shm_406 f11) (shm_1415 f12) (shm_366 f13) (shm_626 f14) hK_0_140 hK_0_143 kz_0_146 kz_0_147
  have rf10 : tv_ok ta (0, 0, 3, []) (n_v vs 10) := tv_in t10 (by first | omega | grind) (by first | omega | grind)
  refine ⟨List.forall_mem_cons.mpr ⟨rf10, (fun _ h => (by cases h))⟩, [], trivial, ?_, (fun _ h => (by cases h))⟩
  rw [List.append_nil]
  exact (fun _ h => (by cases h))
set_option maxHeartbeats 4000000 in
theorem vc_Mo_bendsBecome_11_r0 (x3 : Int) (x5 : Int) (x6 : Int) (x7 : Int) (x9 : Int) (x10 : Int) (x11 : Int) (x12 : Int) (x13 : Int) (x14 : Int) (x15 : Int) (x16 : Int) (barredPoint_0 : Int → Int) (wide_0 : Int) (tall_0 : Int) (costOf_0 : Int → Int) (k3 : 0 ≤ x3 ∧ x3 ≤ 5999) (k5 : 25 ≤ x5 ∧ x5 ≤ 999999) (k6 : 0 ≤ x6 ∧ x6 ≤ 5999) (k7 : 0 ≤ x7 ∧ x7 ≤ 3) (k9 : 0 ≤ x9 ∧ x9 ≤ 1000000) (k10 : 0 ≤ x10 ∧ x10 ≤ 3) (k11 : 0 ≤ x11 ∧ x11 ≤ 999999) (k12 : (-1) ≤ x12 ∧ x12 ≤ (-1)) (k13 : (-2) ≤ x13 ∧ x13 ≤ 1000000) (k14 : 25 ≤ x14 ∧ x14 ≤ 25) (k15 : 26 ≤ x15 ∧ x15 ≤ 1000000) (k16 : (-1) ≤ x16 ∧ x16 ≤ 5999) (d0 : x5 + 1 ≤ x15 ∧ x15 ≤ x5 + 1) (d1 : x9 + (-4294967296) ≤ x10 ∧ x10 ≤ x9 + 2) (d2 : x9 + (-4294967296) ≤ x11 ∧ x11 ≤ x9 + 0) (f0 : STQ (wide_0) (tall_0) (barredPoint_0) (x6) (x10) (x16)) (f1 : ((-1) ≤ x16) ∧ ((x16 + 1) ≤ (wide_0 * tall_0))) (f2 : x15 = x5 + 1) (f3 : x14 ≤ x5) (f4 : x10 ≠ x7) (f5 : x12 < 0) (f6 : GRX (wide_0) (tall_0)) (f7 : RTV (wide_0) (tall_0) (barredPoint_0) (costOf_0) (x3)) (f8 : (0 ≤ x3) ∧ ((x3 + 1) ≤ (wide_0 * tall_0))) (f9 : BB2 (wide_0) (tall_0) (barredPoint_0) (costOf_0) (x6) (x7) (x9)) (f10 : (0 ≤ x6) ∧ ((x6 + 1) ≤ (wide_0 * tall_0))) (f11 : (x5 + x9) ≤ 1000000) (f12 : 0 ≤ x5) (f13 : x6 ≠ x3) (f14 : BB3 (wide_0) (tall_0) (barredPoint_0) (costOf_0) (x6) (x7) (x9) (x10) (x11) (x12)) (f15 : (0 ≤ x9) ∧ (x9 ≤ x13)) (f16 : (-1) * x13 + 0 ≤ (-1)) (hK_0_140 : ∀ j : Int, 0 ≤ j → j < 24000 → 0 ≤ costOf_0 j ∧ costOf_0 j ≤ 1000000) (hK_0_143 : ∀ j : Int, 0 ≤ j → j < 6000 → 0 ≤ barredPoint_0 j ∧ barredPoint_0 j ≤ 1) (kz_0_146 : (-3999999) ≤ wide_0 ∧ wide_0 ≤ 600000023) (kz_0_147 : (-3999999) ≤ tall_0 ∧ tall_0 ≤ 600000007) : 0 ≤ x16 ∧ x16 ≤ 5999 := by
  first
    | omega
    | (have g := gok_bd ‹GRX _ _›; omega)
    | (have h := bb_next ‹RTV _ _ _ _ _› ‹BB2 _ _ _ _ _ _ _› ‹BB3 _ _ _ _ _ _ _ _ _ _› (by omega) (by omega)
       have h1 := h.1.1
       have h2 := h.2
       omega)
    | (obtain ⟨⟨mf, q, n1, n2, n3, n4⟩, u0, u1⟩ := bb_next ‹RTV _ _ _ _ _› ‹BB2 _ _ _ _ _ _ _› ‹BB3 _ _ _ _ _ _ _ _ _ _› (by omega) (by omega)
       have e := ‹STQ _ _ _ _ _ _›.2.2 q n1 n2
       have i := nb_in n1 (by have g := gok_bd ‹GRX _ _›; omega)
       have g3 := ‹GRX _ _›.2.2
       omega)
def o_Mo_bendsBecome_11 : or_T := (272, 17, [(0, (2, 0, 0, [165])), (3, (0, 0, 5999, [])), (5, (0, 25, 999999, [])), (6, (0, 0, 5999, [])), (7, (0, 0, 3, [])), (9, (0, 0, 1000000, [])), (10, (0, 0, 3, [])), (11, (0, 0, 999999, [])), (12, (0, -1, -1, [])), (13, (0, -2, 1000000, [])), (14, (0, 25, 25, [])), (15, (0, 26, 1000000, [])), (16, (0, -1, 5999, []))], [(20, [0, 6, 10, 16], [60, 2, 1, 505, 146, 147, 143]), (20, [16, 0], [50, 2, 0, 1146, 1147, 2, 6, 0, 2, 0, -1, 1, 0, 0, 6, 4, 2, 1, 0, 0, 1, 6, 3, 2, 1, 146, 2, 1, 147]), (6, [15, 5], [1]), (7, [5, 14], [3]), (7, [10, 7], [1]), (8, [12], [2]), (20, [0], [60, 2, 0, 494, 146, 147]), (20, [0, 3], [60, 2, 2, 504, 146, 147, 143, 140]), (20, [3, 0], [50, 2, 0, 1146, 1147, 2, 6, 0, 2, 0, 0, 1, 0, 0, 6, 4, 2, 1, 0, 0, 1, 6, 3, 2, 1, 146, 2, 1, 147]), (20, [0, 6, 7, 9], [60, 2, 2, 507, 146, 147, 143, 140]), (20, [6, 0], [50, 2, 0, 1146, 1147, 2, 6, 0, 2, 0, 0, 1, 0, 0, 6, 4, 2, 1, 0, 0, 1, 6, 3, 2, 1, 146, 2, 1, 147]), (20, [5, 9], [50, 0, 0, 0, 6, 4, 2, 1, 0, 1, 1, 0, 1000000]), (20, [5], [50, 0, 0, 0, 2, 0, 0, 1, 0]), (20, [6, 3], [50, 0, 0, 7, 2, 1, 0, 1, 1]), (20, [0, 6, 7, 9, 10, 11, 12], [60, 2, 2, 508, 146, 147, 143, 140]), (20, [9, 13], [50, 0, 0, 2, 6, 0, 2, 0, 0, 1, 0, 0, 2, 1, 0, 1, 1]), (23, [13], [-1, -1])], [(16, (0, 0, 5999, []))], [], [], [], [(15, 5, 1, 1), (10, 9, -4294967296, 2), (11, 9, -4294967296, 0)])
theorem oo_Mo_bendsBecome_11 {kA : Nat → ClassId} : or_ok PRD kA GG o_Mo_bendsBecome_11 := by
  refine or_mk fun A ta ws vs hD hth hl => ?_
  intro t0 r0 t3 k3 t5 k5 t6 k6 t7 k7 t9 k9 t10 k10 t11 k11 t12 k12 t13 k13 t14 k14 t15 k15 t16 k16 d0 d1 d2 f0 f1 f2 f3 f4 f5 f6 f7 f8 f9 f10 f11 f12 f13 f14 f15 f16
  have cr_0_140 := fdq_175 hD hth r0
  have cr_0_143 := fdq_178 hD hth r0
  have hK_0_140 := elq_104 hD hth cr_0_140
  have hK_0_143 := elq_107 hD hth cr_0_143
  have kz_0_146 := fdq_179 hD hth r0
  have kz_0_147 := fdq_180 hD hth r0
  have hrf0 : 0 ≤ v_iv (n_v vs 16) ∧ v_iv (n_v vs 16) ≤ 5999 := vc_Mo_bendsBecome_11_r0 (v_iv (n_v vs 3)) (v_iv (n_v vs 5)) (v_iv (n_v vs 6)) (v_iv (n_v vs 7)) (v_iv (n_v vs 9)) (v_iv (n_v vs 10)) (v_iv (n_v vs 11)) (v_iv (n_v vs 12)) (v_iv (n_v vs 13)) (v_iv (n_v vs 14)) (v_iv (n_v vs 15)) (v_iv (n_v vs 16)) (w_ei ws (w_ar ws (n_v vs 0) 143)) (w_fi ws (n_v vs 0) 146) (w_fi ws (n_v vs 0) 147) (w_ei ws (w_ar ws (n_v vs 0) 140)) k3 k5 k6 k7 k9 k10 k11 k12 k13 k14 k15 k16 d0 d1 d2 (shm_1291 f0) (shm_1292 f1) (shm_4 f2) (shm_2 f3) (shm_40 f4) (shm_39 f5) (shm_1289 f6) (shm_1411 f7) (shm_1290 f8) (shm_1413 f9) (shm_1290 f10) (shm_1414 f11) (shm_722 f12) (shm_406 f13) (shm_1415 f14) (shm_366 f15) (shm_626 f16) hK_0_140 hK_0_143 kz_0_146 kz_0_147
  have rf16 : tv_ok ta (0, 0, 5999, []) (n_v vs 16) := tv_in t16 (by first | omega | grind) (by first | omega | grind)
  refine ⟨List.forall_mem_cons.mpr ⟨rf16, (fun _ h => (by cases h))⟩, [], trivial, ?_, (fun _ h => (by cases h))⟩
  rw [List.append_nil]
  exact (fun _ h => (by cases h))
set_option maxHeartbeats 4000000 in
theorem vc_Mo_bendsBecome_12_0 (x3 : Int) (x5 : Int) (x6 : Int) (x7 : Int) (x9 : Int) (x10 : Int) (x11 : Int) (x12 : Int) (x13 : Int) (x14 : Int) (x15 : Int) (x16 : Int) (barredPoint_0 : Int → Int) (wide_0 : Int) (tall_0 : Int) (costOf_0 : Int → Int) (gx : Int) (k3 : 0 ≤ x3 ∧ x3 ≤ 5999) (k5 : 25 ≤ x5 ∧ x5 ≤ 999999) (k6 : 0 ≤ x6 ∧ x6 ≤ 5999) (k7 : 0 ≤ x7 ∧ x7 ≤ 3) (k9 : 0 ≤ x9 ∧ x9 ≤ 1000000) (k10 : 0 ≤ x10 ∧ x10 ≤ 3) (k11 : 0 ≤ x11 ∧ x11 ≤ 999999) (k12 : (-1) ≤ x12 ∧ x12 ≤ (-1)) (k13 : (-2) ≤ x13 ∧ x13 ≤ 1000000) (k14 : 25 ≤ x14 ∧ x14 ≤ 25) (k15 : 26 ≤ x15 ∧ x15 ≤ 1000000) (k16 : 0 ≤ x16 ∧ x16 ≤ 5999) (d0 : x5 + 1 ≤ x15 ∧ x15 ≤ x5 + 1) (d1 : x9 + (-4294967296) ≤ x10 ∧ x10 ≤ x9 + 2) (d2 : x9 + (-4294967296) ≤ x11 ∧ x11 ≤ x9 + 0) (f0 : STQ (wide_0) (tall_0) (barredPoint_0) (x6) (x10) (x16)) (f1 : ((-1) ≤ x16) ∧ ((x16 + 1) ≤ (wide_0 * tall_0))) (f2 : x15 = x5 + 1) (f3 : x14 ≤ x5) (f4 : x10 ≠ x7) (f5 : x12 < 0) (f6 : GRX (wide_0) (tall_0)) (f7 : RTV (wide_0) (tall_0) (barredPoint_0) (costOf_0) (x3)) (f8 : (0 ≤ x3) ∧ ((x3 + 1) ≤ (wide_0 * tall_0))) (f9 : BB2 (wide_0) (tall_0) (barredPoint_0) (costOf_0) (x6) (x7) (x9)) (f10 : (0 ≤ x6) ∧ ((x6 + 1) ≤ (wide_0 * tall_0))) (f11 : (x5 + x9) ≤ 1000000) (f12 : 0 ≤ x5) (f13 : x6 ≠ x3) (f14 : BB3 (wide_0) (tall_0) (barredPoint_0) (costOf_0) (x6) (x7) (x9) (x10) (x11) (x12)) (f15 : (0 ≤ x9) ∧ (x9 ≤ x13)) (f16 : (-1) * x13 + 0 ≤ (-1)) (hK_0_140 : ∀ j : Int, 0 ≤ j → j < 24000 → 0 ≤ costOf_0 j ∧ costOf_0 j ≤ 1000000) (hK_0_143 : ∀ j : Int, 0 ≤ j → j < 6000 → 0 ≤ barredPoint_0 j ∧ barredPoint_0 j ≤ 1) (kz_0_146 : (-3999999) ≤ wide_0 ∧ wide_0 ≤ 600000023) (kz_0_147 : (-3999999) ≤ tall_0 ∧ tall_0 ≤ 600000007) (ex2 : gx = (-1) + (1 * x13 + 0)) (ex3 : (-2) ≤ gx ∧ gx ≤ 1000000) : GRX (wide_0) (tall_0) := by
  assumption
set_option maxHeartbeats 4000000 in
theorem vc_Mo_bendsBecome_12_1 (x3 : Int) (x5 : Int) (x6 : Int) (x7 : Int) (x9 : Int) (x10 : Int) (x11 : Int) (x12 : Int) (x13 : Int) (x14 : Int) (x15 : Int) (x16 : Int) (barredPoint_0 : Int → Int) (wide_0 : Int) (tall_0 : Int) (costOf_0 : Int → Int) (gx : Int) (k3 : 0 ≤ x3 ∧ x3 ≤ 5999) (k5 : 25 ≤ x5 ∧ x5 ≤ 999999) (k6 : 0 ≤ x6 ∧ x6 ≤ 5999) (k7 : 0 ≤ x7 ∧ x7 ≤ 3) (k9 : 0 ≤ x9 ∧ x9 ≤ 1000000) (k10 : 0 ≤ x10 ∧ x10 ≤ 3) (k11 : 0 ≤ x11 ∧ x11 ≤ 999999) (k12 : (-1) ≤ x12 ∧ x12 ≤ (-1)) (k13 : (-2) ≤ x13 ∧ x13 ≤ 1000000) (k14 : 25 ≤ x14 ∧ x14 ≤ 25) (k15 : 26 ≤ x15 ∧ x15 ≤ 1000000) (k16 : 0 ≤ x16 ∧ x16 ≤ 5999) (d0 : x5 + 1 ≤ x15 ∧ x15 ≤ x5 + 1) (d1 : x9 + (-4294967296) ≤ x10 ∧ x10 ≤ x9 + 2) (d2 : x9 + (-4294967296) ≤ x11 ∧ x11 ≤ x9 + 0) (f0 : STQ (wide_0) (tall_0) (barredPoint_0) (x6) (x10) (x16)) (f1 : ((-1) ≤ x16) ∧ ((x16 + 1) ≤ (wide_0 * tall_0))) (f2 : x15 = x5 + 1) (f3 : x14 ≤ x5) (f4 : x10 ≠ x7) (f5 : x12 < 0) (f6 : GRX (wide_0) (tall_0)) (f7 : RTV (wide_0) (tall_0) (barredPoint_0) (costOf_0) (x3)) (f8 : (0 ≤ x3) ∧ ((x3 + 1) ≤ (wide_0 * tall_0))) (f9 : BB2 (wide_0) (tall_0) (barredPoint_0) (costOf_0) (x6) (x7) (x9)) (f10 : (0 ≤ x6) ∧ ((x6 + 1) ≤ (wide_0 * tall_0))) (f11 : (x5 + x9) ≤ 1000000) (f12 : 0 ≤ x5) (f13 : x6 ≠ x3) (f14 : BB3 (wide_0) (tall_0) (barredPoint_0) (costOf_0) (x6) (x7) (x9) (x10) (x11) (x12)) (f15 : (0 ≤ x9) ∧ (x9 ≤ x13)) (f16 : (-1) * x13 + 0 ≤ (-1)) (hK_0_140 : ∀ j : Int, 0 ≤ j → j < 24000 → 0 ≤ costOf_0 j ∧ costOf_0 j ≤ 1000000) (hK_0_143 : ∀ j : Int, 0 ≤ j → j < 6000 → 0 ≤ barredPoint_0 j ∧ barredPoint_0 j ≤ 1) (kz_0_146 : (-3999999) ≤ wide_0 ∧ wide_0 ≤ 600000023) (kz_0_147 : (-3999999) ≤ tall_0 ∧ tall_0 ≤ 600000007) (ex2 : gx = (-1) + (1 * x13 + 0)) (ex3 : (-2) ≤ gx ∧ gx ≤ 1000000) : RTV (wide_0) (tall_0) (barredPoint_0) (costOf_0) (x3) := by
  assumption
set_option maxHeartbeats 4000000 in
theorem vc_Mo_bendsBecome_12_2 (x3 : Int) (x5 : Int) (x6 : Int) (x7 : Int) (x9 : Int) (x10 : Int) (x11 : Int) (x12 : Int) (x13 : Int) (x14 : Int) (x15 : Int) (x16 : Int) (barredPoint_0 : Int → Int) (wide_0 : Int) (tall_0 : Int) (costOf_0 : Int → Int) (gx : Int) (k3 : 0 ≤ x3 ∧ x3 ≤ 5999) (k5 : 25 ≤ x5 ∧ x5 ≤ 999999) (k6 : 0 ≤ x6 ∧ x6 ≤ 5999) (k7 : 0 ≤ x7 ∧ x7 ≤ 3) (k9 : 0 ≤ x9 ∧ x9 ≤ 1000000) (k10 : 0 ≤ x10 ∧ x10 ≤ 3) (k11 : 0 ≤ x11 ∧ x11 ≤ 999999) (k12 : (-1) ≤ x12 ∧ x12 ≤ (-1)) (k13 : (-2) ≤ x13 ∧ x13 ≤ 1000000) (k14 : 25 ≤ x14 ∧ x14 ≤ 25) (k15 : 26 ≤ x15 ∧ x15 ≤ 1000000) (k16 : 0 ≤ x16 ∧ x16 ≤ 5999) (d0 : x5 + 1 ≤ x15 ∧ x15 ≤ x5 + 1) (d1 : x9 + (-4294967296) ≤ x10 ∧ x10 ≤ x9 + 2) (d2 : x9 + (-4294967296) ≤ x11 ∧ x11 ≤ x9 + 0) (f0 : STQ (wide_0) (tall_0) (barredPoint_0) (x6) (x10) (x16)) (f1 : ((-1) ≤ x16) ∧ ((x16 + 1) ≤ (wide_0 * tall_0))) (f2 : x15 = x5 + 1) (f3 : x14 ≤ x5) (f4 : x10 ≠ x7) (f5 : x12 < 0) (f6 : GRX (wide_0) (tall_0)) (f7 : RTV (wide_0) (tall_0) (barredPoint_0) (costOf_0) (x3)) (f8 : (0 ≤ x3) ∧ ((x3 + 1) ≤ (wide_0 * tall_0))) (f9 : BB2 (wide_0) (tall_0) (barredPoint_0) (costOf_0) (x6) (x7) (x9)) (f10 : (0 ≤ x6) ∧ ((x6 + 1) ≤ (wide_0 * tall_0))) (f11 : (x5 + x9) ≤ 1000000) (f12 : 0 ≤ x5) (f13 : x6 ≠ x3) (f14 : BB3 (wide_0) (tall_0) (barredPoint_0) (costOf_0) (x6) (x7) (x9) (x10) (x11) (x12)) (f15 : (0 ≤ x9) ∧ (x9 ≤ x13)) (f16 : (-1) * x13 + 0 ≤ (-1)) (hK_0_140 : ∀ j : Int, 0 ≤ j → j < 24000 → 0 ≤ costOf_0 j ∧ costOf_0 j ≤ 1000000) (hK_0_143 : ∀ j : Int, 0 ≤ j → j < 6000 → 0 ≤ barredPoint_0 j ∧ barredPoint_0 j ≤ 1) (kz_0_146 : (-3999999) ≤ wide_0 ∧ wide_0 ≤ 600000023) (kz_0_147 : (-3999999) ≤ tall_0 ∧ tall_0 ≤ 600000007) (ex2 : gx = (-1) + (1 * x13 + 0)) (ex3 : (-2) ≤ gx ∧ gx ≤ 1000000) : (0 ≤ x3) ∧ ((x3 + 1) ≤ (wide_0 * tall_0)) := by
  first
    | omega
    | (have h := bb2_start (t := x13) ‹RTV _ _ _ _ _› ‹BB1 _ _ _ _ _ _ _ _› (by omega) ‹STQ _ _ _ _ _ _› (by omega)
       have h1 := h.1
       have h2 := h.2.2.2.2
       omega)
    | (have h := bb_next ‹RTV _ _ _ _ _› ‹BB2 _ _ _ _ _ _ _› ‹BB3 _ _ _ _ _ _ _ _ _ _› (by omega) (by omega)
       have h1 := h.1.1
       have h2 := h.2
       omega)
set_option maxHeartbeats 4000000 in
theorem vc_Mo_bendsBecome_12_3 (x3 : Int) (x5 : Int) (x6 : Int) (x7 : Int) (x9 : Int) (x10 : Int) (x11 : Int) (x12 : Int) (x13 : Int) (x14 : Int) (x15 : Int) (x16 : Int) (barredPoint_0 : Int → Int) (wide_0 : Int) (tall_0 : Int) (costOf_0 : Int → Int) (gx : Int) (k3 : 0 ≤ x3 ∧ x3 ≤ 5999) (k5 : 25 ≤ x5 ∧ x5 ≤ 999999) (k6 : 0 ≤ x6 ∧ x6 ≤ 5999) (k7 : 0 ≤ x7 ∧ x7 ≤ 3) (k9 : 0 ≤ x9 ∧ x9 ≤ 1000000) (k10 : 0 ≤ x10 ∧ x10 ≤ 3) (k11 : 0 ≤ x11 ∧ x11 ≤ 999999) (k12 : (-1) ≤ x12 ∧ x12 ≤ (-1)) (k13 : (-2) ≤ x13 ∧ x13 ≤ 1000000) (k14 : 25 ≤ x14 ∧ x14 ≤ 25) (k15 : 26 ≤ x15 ∧ x15 ≤ 1000000) (k16 : 0 ≤ x16 ∧ x16 ≤ 5999) (d0 : x5 + 1 ≤ x15 ∧ x15 ≤ x5 + 1) (d1 : x9 + (-4294967296) ≤ x10 ∧ x10 ≤ x9 + 2) (d2 : x9 + (-4294967296) ≤ x11 ∧ x11 ≤ x9 + 0) (f0 : STQ (wide_0) (tall_0) (barredPoint_0) (x6) (x10) (x16)) (f1 : ((-1) ≤ x16) ∧ ((x16 + 1) ≤ (wide_0 * tall_0))) (f2 : x15 = x5 + 1) (f3 : x14 ≤ x5) (f4 : x10 ≠ x7) (f5 : x12 < 0) (f6 : GRX (wide_0) (tall_0)) (f7 : RTV (wide_0) (tall_0) (barredPoint_0) (costOf_0) (x3)) (f8 : (0 ≤ x3) ∧ ((x3 + 1) ≤ (wide_0 * tall_0))) (f9 : BB2 (wide_0) (tall_0) (barredPoint_0) (costOf_0) (x6) (x7) (x9)) (f10 : (0 ≤ x6) ∧ ((x6 + 1) ≤ (wide_0 * tall_0))) (f11 : (x5 + x9) ≤ 1000000) (f12 : 0 ≤ x5) (f13 : x6 ≠ x3) (f14 : BB3 (wide_0) (tall_0) (barredPoint_0) (costOf_0) (x6) (x7) (x9) (x10) (x11) (x12)) (f15 : (0 ≤ x9) ∧ (x9 ≤ x13)) (f16 : (-1) * x13 + 0 ≤ (-1)) (hK_0_140 : ∀ j : Int, 0 ≤ j → j < 24000 → 0 ≤ costOf_0 j ∧ costOf_0 j ≤ 1000000) (hK_0_143 : ∀ j : Int, 0 ≤ j → j < 6000 → 0 ≤ barredPoint_0 j ∧ barredPoint_0 j ≤ 1) (kz_0_146 : (-3999999) ≤ wide_0 ∧ wide_0 ≤ 600000023) (kz_0_147 : (-3999999) ≤ tall_0 ∧ tall_0 ≤ 600000007) (ex2 : gx = (-1) + (1 * x13 + 0)) (ex3 : (-2) ≤ gx ∧ gx ≤ 1000000) : BB2 (wide_0) (tall_0) (barredPoint_0) (costOf_0) (x16) (x10) (x11) := by
  first
    | exact bb2_start ‹RTV _ _ _ _ _› ‹BB1 _ _ _ _ _ _ _ _› (by omega) ‹STQ _ _ _ _ _ _› (by omega)
    | exact bb2_next ‹RTV _ _ _ _ _› ‹BB2 _ _ _ _ _ _ _› ‹BB3 _ _ _ _ _ _ _ _ _ _› (by omega) (by omega) ‹STQ _ _ _ _ _ _›
  
set_option maxHeartbeats 4000000 in
theorem vc_Mo_bendsBecome_12_4 (x3 : Int) (x5 : Int) (x6 : Int) (x7 : Int) (x9 : Int) (x10 : Int) (x11 : Int) (x12 : Int) (x13 : Int) (x14 : Int) (x15 : Int) (x16 : Int) (barredPoint_0 : Int → Int) (wide_0 : Int) (tall_0 : Int) (costOf_0 : Int → Int) (gx : Int) (k3 : 0 ≤ x3 ∧ x3 ≤ 5999) (k5 : 25 ≤ x5 ∧ x5 ≤ 999999) (k6 : 0 ≤ x6 ∧ x6 ≤ 5999) (k7 : 0 ≤ x7 ∧ x7 ≤ 3) (k9 : 0 ≤ x9 ∧ x9 ≤ 1000000) (k10 : 0 ≤ x10 ∧ x10 ≤ 3) (k11 : 0 ≤ x11 ∧ x11 ≤ 999999) (k12 : (-1) ≤ x12 ∧ x12 ≤ (-1)) (k13 : (-2) ≤ x13 ∧ x13 ≤ 1000000) (k14 : 25 ≤ x14 ∧ x14 ≤ 25) (k15 : 26 ≤ x15 ∧ x15 ≤ 1000000) (k16 : 0 ≤ x16 ∧ x16 ≤ 5999) (d0 : x5 + 1 ≤ x15 ∧ x15 ≤ x5 + 1) (d1 : x9 + (-4294967296) ≤ x10 ∧ x10 ≤ x9 + 2) (d2 : x9 + (-4294967296) ≤ x11 ∧ x11 ≤ x9 + 0) (f0 : STQ (wide_0) (tall_0) (barredPoint_0) (x6) (x10) (x16)) (f1 : ((-1) ≤ x16) ∧ ((x16 + 1) ≤ (wide_0 * tall_0))) (f2 : x15 = x5 + 1) (f3 : x14 ≤ x5) (f4 : x10 ≠ x7) (f5 : x12 < 0) (f6 : GRX (wide_0) (tall_0)) (f7 : RTV (wide_0) (tall_0) (barredPoint_0) (costOf_0) (x3)) (f8 : (0 ≤ x3) ∧ ((x3 + 1) ≤ (wide_0 * tall_0))) (f9 : BB2 (wide_0) (tall_0) (barredPoint_0) (costOf_0) (x6) (x7) (x9)) (f10 : (0 ≤ x6) ∧ ((x6 + 1) ≤ (wide_0 * tall_0))) (f11 : (x5 + x9) ≤ 1000000) (f12 : 0 ≤ x5) (f13 : x6 ≠ x3) (f14 : BB3 (wide_0) (tall_0) (barredPoint_0) (costOf_0) (x6) (x7) (x9) (x10) (x11) (x12)) (f15 : (0 ≤ x9) ∧ (x9 ≤ x13)) (f16 : (-1) * x13 + 0 ≤ (-1)) (hK_0_140 : ∀ j : Int, 0 ≤ j → j < 24000 → 0 ≤ costOf_0 j ∧ costOf_0 j ≤ 1000000) (hK_0_143 : ∀ j : Int, 0 ≤ j → j < 6000 → 0 ≤ barredPoint_0 j ∧ barredPoint_0 j ≤ 1) (kz_0_146 : (-3999999) ≤ wide_0 ∧ wide_0 ≤ 600000023) (kz_0_147 : (-3999999) ≤ tall_0 ∧ tall_0 ≤ 600000007) (ex2 : gx = (-1) + (1 * x13 + 0)) (ex3 : (-2) ≤ gx ∧ gx ≤ 1000000) : (0 ≤ x16) ∧ ((x16 + 1) ≤ (wide_0 * tall_0)) := by
  first
    | omega
    | (have h := bb2_start (t := x13) ‹RTV _ _ _ _ _› ‹BB1 _ _ _ _ _ _ _ _› (by omega) ‹STQ _ _ _ _ _ _› (by omega)
       have h1 := h.1
       have h2 := h.2.2.2.2
       omega)
    | (have h := bb_next ‹RTV _ _ _ _ _› ‹BB2 _ _ _ _ _ _ _› ‹BB3 _ _ _ _ _ _ _ _ _ _› (by omega) (by omega)
       have h1 := h.1.1
       have h2 := h.2
       omega)
set_option maxHeartbeats 4000000 in
theorem vc_Mo_bendsBecome_12_5 (x3 : Int) (x5 : Int) (x6 : Int) (x7 : Int) (x9 : Int) (x10 : Int) (x11 : Int) (x12 : Int) (x13 : Int) (x14 : Int) (x15 : Int) (x16 : Int) (barredPoint_0 : Int → Int) (wide_0 : Int) (tall_0 : Int) (costOf_0 : Int → Int) (gx : Int) (k3 : 0 ≤ x3 ∧ x3 ≤ 5999) (k5 : 25 ≤ x5 ∧ x5 ≤ 999999) (k6 : 0 ≤ x6 ∧ x6 ≤ 5999) (k7 : 0 ≤ x7 ∧ x7 ≤ 3) (k9 : 0 ≤ x9 ∧ x9 ≤ 1000000) (k10 : 0 ≤ x10 ∧ x10 ≤ 3) (k11 : 0 ≤ x11 ∧ x11 ≤ 999999) (k12 : (-1) ≤ x12 ∧ x12 ≤ (-1)) (k13 : (-2) ≤ x13 ∧ x13 ≤ 1000000) (k14 : 25 ≤ x14 ∧ x14 ≤ 25) (k15 : 26 ≤ x15 ∧ x15 ≤ 1000000) (k16 : 0 ≤ x16 ∧ x16 ≤ 5999) (d0 : x5 + 1 ≤ x15 ∧ x15 ≤ x5 + 1) (d1 : x9 + (-4294967296) ≤ x10 ∧ x10 ≤ x9 + 2) (d2 : x9 + (-4294967296) ≤ x11 ∧ x11 ≤ x9 + 0) (f0 : STQ (wide_0) (tall_0) (barredPoint_0) (x6) (x10) (x16)) (f1 : ((-1) ≤ x16) ∧ ((x16 + 1) ≤ (wide_0 * tall_0))) (f2 : x15 = x5 + 1) (f3 : x14 ≤ x5) (f4 : x10 ≠ x7) (f5 : x12 < 0) (f6 : GRX (wide_0) (tall_0)) (f7 : RTV (wide_0) (tall_0) (barredPoint_0) (costOf_0) (x3)) (f8 : (0 ≤ x3) ∧ ((x3 + 1) ≤ (wide_0 * tall_0))) (f9 : BB2 (wide_0) (tall_0) (barredPoint_0) (costOf_0) (x6) (x7) (x9)) (f10 : (0 ≤ x6) ∧ ((x6 + 1) ≤ (wide_0 * tall_0))) (f11 : (x5 + x9) ≤ 1000000) (f12 : 0 ≤ x5) (f13 : x6 ≠ x3) (f14 : BB3 (wide_0) (tall_0) (barredPoint_0) (costOf_0) (x6) (x7) (x9) (x10) (x11) (x12)) (f15 : (0 ≤ x9) ∧ (x9 ≤ x13)) (f16 : (-1) * x13 + 0 ≤ (-1)) (hK_0_140 : ∀ j : Int, 0 ≤ j → j < 24000 → 0 ≤ costOf_0 j ∧ costOf_0 j ≤ 1000000) (hK_0_143 : ∀ j : Int, 0 ≤ j → j < 6000 → 0 ≤ barredPoint_0 j ∧ barredPoint_0 j ≤ 1) (kz_0_146 : (-3999999) ≤ wide_0 ∧ wide_0 ≤ 600000023) (kz_0_147 : (-3999999) ≤ tall_0 ∧ tall_0 ≤ 600000007) (ex2 : gx = (-1) + (1 * x13 + 0)) (ex3 : (-2) ≤ gx ∧ gx ≤ 1000000) : (x15 + x11) ≤ 1000000 := by
  first
    | omega
    | (have h := bb2_start (t := x13) ‹RTV _ _ _ _ _› ‹BB1 _ _ _ _ _ _ _ _› (by omega) ‹STQ _ _ _ _ _ _› (by omega)
       have h1 := h.1
       have h2 := h.2.2.2.2
       omega)
    | (have h := bb_next ‹RTV _ _ _ _ _› ‹BB2 _ _ _ _ _ _ _› ‹BB3 _ _ _ _ _ _ _ _ _ _› (by omega) (by omega)
       have h1 := h.1.1
       have h2 := h.2
       omega)
set_option maxHeartbeats 4000000 in
theorem vc_Mo_bendsBecome_12_6 (x3 : Int) (x5 : Int) (x6 : Int) (x7 : Int) (x9 : Int) (x10 : Int) (x11 : Int) (x12 : Int) (x13 : Int) (x14 : Int) (x15 : Int) (x16 : Int) (barredPoint_0 : Int → Int) (wide_0 : Int) (tall_0 : Int) (costOf_0 : Int → Int) (gx : Int) (k3 : 0 ≤ x3 ∧ x3 ≤ 5999) (k5 : 25 ≤ x5 ∧ x5 ≤ 999999) (k6 : 0 ≤ x6 ∧ x6 ≤ 5999) (k7 : 0 ≤ x7 ∧ x7 ≤ 3) (k9 : 0 ≤ x9 ∧ x9 ≤ 1000000) (k10 : 0 ≤ x10 ∧ x10 ≤ 3) (k11 : 0 ≤ x11 ∧ x11 ≤ 999999) (k12 : (-1) ≤ x12 ∧ x12 ≤ (-1)) (k13 : (-2) ≤ x13 ∧ x13 ≤ 1000000) (k14 : 25 ≤ x14 ∧ x14 ≤ 25) (k15 : 26 ≤ x15 ∧ x15 ≤ 1000000) (k16 : 0 ≤ x16 ∧ x16 ≤ 5999) (d0 : x5 + 1 ≤ x15 ∧ x15 ≤ x5 + 1) (d1 : x9 + (-4294967296) ≤ x10 ∧ x10 ≤ x9 + 2) (d2 : x9 + (-4294967296) ≤ x11 ∧ x11 ≤ x9 + 0) (f0 : STQ (wide_0) (tall_0) (barredPoint_0) (x6) (x10) (x16)) (f1 : ((-1) ≤ x16) ∧ ((x16 + 1) ≤ (wide_0 * tall_0))) (f2 : x15 = x5 + 1) (f3 : x14 ≤ x5) (f4 : x10 ≠ x7) (f5 : x12 < 0) (f6 : GRX (wide_0) (tall_0)) (f7 : RTV (wide_0) (tall_0) (barredPoint_0) (costOf_0) (x3)) (f8 : (0 ≤ x3) ∧ ((x3 + 1) ≤ (wide_0 * tall_0))) (f9 : BB2 (wide_0) (tall_0) (barredPoint_0) (costOf_0) (x6) (x7) (x9)) (f10 : (0 ≤ x6) ∧ ((x6 + 1) ≤ (wide_0 * tall_0))) (f11 : (x5 + x9) ≤ 1000000) (f12 : 0 ≤ x5) (f13 : x6 ≠ x3) (f14 : BB3 (wide_0) (tall_0) (barredPoint_0) (costOf_0) (x6) (x7) (x9) (x10) (x11) (x12)) (f15 : (0 ≤ x9) ∧ (x9 ≤ x13)) (f16 : (-1) * x13 + 0 ≤ (-1)) (hK_0_140 : ∀ j : Int, 0 ≤ j → j < 24000 → 0 ≤ costOf_0 j ∧ costOf_0 j ≤ 1000000) (hK_0_143 : ∀ j : Int, 0 ≤ j → j < 6000 → 0 ≤ barredPoint_0 j ∧ barredPoint_0 j ≤ 1) (kz_0_146 : (-3999999) ≤ wide_0 ∧ wide_0 ≤ 600000023) (kz_0_147 : (-3999999) ≤ tall_0 ∧ tall_0 ≤ 600000007) (ex2 : gx = (-1) + (1 * x13 + 0)) (ex3 : (-2) ≤ gx ∧ gx ≤ 1000000) : 0 ≤ x15 := by
  first
    | omega
    | (have h := bb2_start (t := x13) ‹RTV _ _ _ _ _› ‹BB1 _ _ _ _ _ _ _ _› (by omega) ‹STQ _ _ _ _ _ _› (by omega)
       have h1 := h.1
       have h2 := h.2.2.2.2
       omega)
    | (have h := bb_next ‹RTV _ _ _ _ _› ‹BB2 _ _ _ _ _ _ _› ‹BB3 _ _ _ _ _ _ _ _ _ _› (by omega) (by omega)
       have h1 := h.1.1
       have h2 := h.2
       omega)
set_option maxHeartbeats 4000000 in
theorem vc_Mo_bendsBecome_12_7 (x3 : Int) (x5 : Int) (x6 : Int) (x7 : Int) (x9 : Int) (x10 : Int) (x11 : Int) (x12 : Int) (x13 : Int) (x14 : Int) (x15 : Int) (x16 : Int) (barredPoint_0 : Int → Int) (wide_0 : Int) (tall_0 : Int) (costOf_0 : Int → Int) (gx : Int) (k3 : 0 ≤ x3 ∧ x3 ≤ 5999) (k5 : 25 ≤ x5 ∧ x5 ≤ 999999) (k6 : 0 ≤ x6 ∧ x6 ≤ 5999) (k7 : 0 ≤ x7 ∧ x7 ≤ 3) (k9 : 0 ≤ x9 ∧ x9 ≤ 1000000) (k10 : 0 ≤ x10 ∧ x10 ≤ 3) (k11 : 0 ≤ x11 ∧ x11 ≤ 999999) (k12 : (-1) ≤ x12 ∧ x12 ≤ (-1)) (k13 : (-2) ≤ x13 ∧ x13 ≤ 1000000) (k14 : 25 ≤ x14 ∧ x14 ≤ 25) (k15 : 26 ≤ x15 ∧ x15 ≤ 1000000) (k16 : 0 ≤ x16 ∧ x16 ≤ 5999) (d0 : x5 + 1 ≤ x15 ∧ x15 ≤ x5 + 1) (d1 : x9 + (-4294967296) ≤ x10 ∧ x10 ≤ x9 + 2) (d2 : x9 + (-4294967296) ≤ x11 ∧ x11 ≤ x9 + 0) (f0 : STQ (wide_0) (tall_0) (barredPoint_0) (x6) (x10) (x16)) (f1 : ((-1) ≤ x16) ∧ ((x16 + 1) ≤ (wide_0 * tall_0))) (f2 : x15 = x5 + 1) (f3 : x14 ≤ x5) (f4 : x10 ≠ x7) (f5 : x12 < 0) (f6 : GRX (wide_0) (tall_0)) (f7 : RTV (wide_0) (tall_0) (barredPoint_0) (costOf_0) (x3)) (f8 : (0 ≤ x3) ∧ ((x3 + 1) ≤ (wide_0 * tall_0))) (f9 : BB2 (wide_0) (tall_0) (barredPoint_0) (costOf_0) (x6) (x7) (x9)) (f10 : (0 ≤ x6) ∧ ((x6 + 1) ≤ (wide_0 * tall_0))) (f11 : (x5 + x9) ≤ 1000000) (f12 : 0 ≤ x5) (f13 : x6 ≠ x3) (f14 : BB3 (wide_0) (tall_0) (barredPoint_0) (costOf_0) (x6) (x7) (x9) (x10) (x11) (x12)) (f15 : (0 ≤ x9) ∧ (x9 ≤ x13)) (f16 : (-1) * x13 + 0 ≤ (-1)) (hK_0_140 : ∀ j : Int, 0 ≤ j → j < 24000 → 0 ≤ costOf_0 j ∧ costOf_0 j ≤ 1000000) (hK_0_143 : ∀ j : Int, 0 ≤ j → j < 6000 → 0 ≤ barredPoint_0 j ∧ barredPoint_0 j ≤ 1) (kz_0_146 : (-3999999) ≤ wide_0 ∧ wide_0 ≤ 600000023) (kz_0_147 : (-3999999) ≤ tall_0 ∧ tall_0 ≤ 600000007) (ex2 : gx = (-1) + (1 * x13 + 0)) (ex3 : (-2) ≤ gx ∧ gx ≤ 1000000) : (0 ≤ x11) ∧ (x11 ≤ gx) := by
  first
    | omega
    | (have h := bb2_start (t := x13) ‹RTV _ _ _ _ _› ‹BB1 _ _ _ _ _ _ _ _› (by omega) ‹STQ _ _ _ _ _ _› (by omega)
       have h1 := h.1
       have h2 := h.2.2.2.2
       omega)
    | (have h := bb_next ‹RTV _ _ _ _ _› ‹BB2 _ _ _ _ _ _ _› ‹BB3 _ _ _ _ _ _ _ _ _ _› (by omega) (by omega)
       have h1 := h.1.1
       have h2 := h.2
       omega)
def o_Mo_bendsBecome_12 : or_T := (112, 17, [(0, (2, 0, 0, [165])), (3, (0, 0, 5999, [])), (5, (0, 25, 999999, [])), (6, (0, 0, 5999, [])), (7, (0, 0, 3, [])), (9, (0, 0, 1000000, [])), (10, (0, 0, 3, [])), (11, (0, 0, 999999, [])), (12, (0, -1, -1, [])), (13, (0, -2, 1000000, [])), (14, (0, 25, 25, [])), (15, (0, 26, 1000000, [])), (16, (0, 0, 5999, []))], [(20, [0, 6, 10, 16], [60, 2, 1, 505, 146, 147, 143]), (20, [16, 0], [50, 2, 0, 1146, 1147, 2, 6, 0, 2, 0, -1, 1, 0, 0, 6, 4, 2, 1, 0, 0, 1, 6, 3, 2, 1, 146, 2, 1, 147]), (6, [15, 5], [1]), (7, [5, 14], [3]), (7, [10, 7], [1]), (8, [12], [2]), (20, [0], [60, 2, 0, 494, 146, 147]), (20, [0, 3], [60, 2, 2, 504, 146, 147, 143, 140]), (20, [3, 0], [50, 2, 0, 1146, 1147, 2, 6, 0, 2, 0, 0, 1, 0, 0, 6, 4, 2, 1, 0, 0, 1, 6, 3, 2, 1, 146, 2, 1, 147]), (20, [0, 6, 7, 9], [60, 2, 2, 507, 146, 147, 143, 140]), (20, [6, 0], [50, 2, 0, 1146, 1147, 2, 6, 0, 2, 0, 0, 1, 0, 0, 6, 4, 2, 1, 0, 0, 1, 6, 3, 2, 1, 146, 2, 1, 147]), (20, [5, 9], [50, 0, 0, 0, 6, 4, 2, 1, 0, 1, 1, 0, 1000000]), (20, [5], [50, 0, 0, 0, 2, 0, 0, 1, 0]), (20, [6, 3], [50, 0, 0, 7, 2, 1, 0, 1, 1]), (20, [0, 6, 7, 9, 10, 11, 12], [60, 2, 2, 508, 146, 147, 143, 140]), (20, [9, 13], [50, 0, 0, 2, 6, 0, 2, 0, 0, 1, 0, 0, 2, 1, 0, 1, 1]), (23, [13], [-1, -1])], [], [(0, -2, 1000000, [])], [(20, [0], [60, 2, 0, 494, 146, 147]), (20, [0, 3], [60, 2, 2, 504, 146, 147, 143, 140]), (20, [3, 0], [50, 2, 0, 1146, 1147, 2, 6, 0, 2, 0, 0, 1, 0, 0, 6, 4, 2, 1, 0, 0, 1, 6, 3, 2, 1, 146, 2, 1, 147]), (20, [0, 16, 10, 11], [60, 2, 2, 507, 146, 147, 143, 140]), (20, [16, 0], [50, 2, 0, 1146, 1147, 2, 6, 0, 2, 0, 0, 1, 0, 0, 6, 4, 2, 1, 0, 0, 1, 6, 3, 2, 1, 146, 2, 1, 147]), (20, [15, 11], [50, 0, 0, 0, 6, 4, 2, 1, 0, 1, 1, 0, 1000000]), (20, [15], [50, 0, 0, 0, 2, 0, 0, 1, 0]), (20, [11, 17], [50, 0, 0, 2, 6, 0, 2, 0, 0, 1, 0, 0, 2, 1, 0, 1, 1])], [(17, 13, -1000000000000, -1)], [(15, 5, 1, 1), (10, 9, -4294967296, 2), (11, 9, -4294967296, 0)])
theorem oo_Mo_bendsBecome_12 {kA : Nat → ClassId} : or_ok PRD kA GG o_Mo_bendsBecome_12 := by
  refine or_mk fun A ta ws vs hD hth hl => ?_
  intro t0 r0 t3 k3 t5 k5 t6 k6 t7 k7 t9 k9 t10 k10 t11 k11 t12 k12 t13 k13 t14 k14 t15 k15 t16 k16 d0 d1 d2 f0 f1 f2 f3 f4 f5 f6 f7 f8 f9 f10 f11 f12 f13 f14 f15 f16
  replace f0 := shm_1291 f0
  replace f1 := shm_1292 f1
  replace f2 := shm_4 f2
  replace f3 := shm_2 f3
  replace f4 := shm_40 f4
  replace f5 := shm_39 f5
  replace f6 := shm_1289 f6
  replace f7 := shm_1411 f7
  replace f8 := shm_1290 f8
  replace f9 := shm_1413 f9
  replace f10 := shm_1290 f10
  replace f11 := shm_1414 f11
  replace f12 := shm_722 f12
  replace f13 := shm_406 f13
  replace f14 := shm_1415 f14
  replace f15 := shm_366 f15
  replace f16 := shm_626 f16
  have cr_0_140 := fdq_175 hD hth r0
  have cr_0_143 := fdq_178 hD hth r0
  have hK_0_140 := elq_104 hD hth cr_0_140
  have hK_0_143 := elq_107 hD hth cr_0_143
  have kz_0_146 := fdq_179 hD hth r0
  have kz_0_147 := fdq_180 hD hth r0
  obtain ⟨x, ex, hx⟩ := iv_ex (ta := ta) (lo := (-2)) (hi := 1000000) (z := (-1) + (1 * v_iv (n_v vs 13) + 0)) (by omega) (by omega) (by omega) (by omega)
  have ex2 : v_iv (Value.int x) = (-1) + (1 * v_iv (n_v vs 13) + 0) := ex
  have ex3 : (-2) ≤ v_iv (Value.int x) ∧ v_iv (Value.int x) ≤ 1000000 := tv_rng hx
  have e_0 : n_v (vs ++ [Value.int x]) 0 = n_v vs 0 := n_v_old (by rw [hl]; decide)
  have e_3 : n_v (vs ++ [Value.int x]) 3 = n_v vs 3 := n_v_old (by rw [hl]; decide)
  have e_10 : n_v (vs ++ [Value.int x]) 10 = n_v vs 10 := n_v_old (by rw [hl]; decide)
  have e_11 : n_v (vs ++ [Value.int x]) 11 = n_v vs 11 := n_v_old (by rw [hl]; decide)
  have e_15 : n_v (vs ++ [Value.int x]) 15 = n_v vs 15 := n_v_old (by rw [hl]; decide)
  have e_16 : n_v (vs ++ [Value.int x]) 16 = n_v vs 16 := n_v_old (by rw [hl]; decide)
  have e_17 : n_v (vs ++ [Value.int x]) 17 = Value.int x := n_v_new hl
  have nf0 : fc_1 PRD (20, [0], [60, 2, 0, 494, 146, 147]) ws (vs ++ [Value.int x]) := by
    refine ⟨nf_inA hl rfl, sgq_1289 ?_⟩
    · show GRX (w_fi ws (n_v (vs ++ [Value.int x]) 0) 146) (w_fi ws (n_v (vs ++ [Value.int x]) 0) 147)
      rw [e_0]
      exact vc_Mo_bendsBecome_12_0 (v_iv (n_v vs 3)) (v_iv (n_v vs 5)) (v_iv (n_v vs 6)) (v_iv (n_v vs 7)) (v_iv (n_v vs 9)) (v_iv (n_v vs 10)) (v_iv (n_v vs 11)) (v_iv (n_v vs 12)) (v_iv (n_v vs 13)) (v_iv (n_v vs 14)) (v_iv (n_v vs 15)) (v_iv (n_v vs 16)) (w_ei ws (w_ar ws (n_v vs 0) 143)) (w_fi ws (n_v vs 0) 146) (w_fi ws (n_v vs 0) 147) (w_ei ws (w_ar ws (n_v vs 0) 140)) (v_iv (Value.int x)) k3 k5 k6 k7 k9 k10 k11 k12 k13 k14 k15 k16 d0 d1 d2 f0 f1 f2 f3 f4 f5 f6 f7 f8 f9 f10 f11 f12 f13 f14 f15 f16 hK_0_140 hK_0_143 kz_0_146 kz_0_147 ex2 ex3
  have nf1 : fc_1 PRD (20, [0, 3], [60, 2, 2, 504, 146, 147, 143, 140]) ws (vs ++ [Value.int x]) := by
    refine ⟨nf_inA hl rfl, sgq_1411 ?_⟩
    · show RTV (w_fi ws (n_v (vs ++ [Value.int x]) 0) 146) (w_fi ws (n_v (vs ++ [Value.int x]) 0) 147) (w_ei ws (w_ar ws (n_v (vs ++ [Value.int x]) 0) 143)) (w_ei ws (w_ar ws (n_v (vs ++ [Value.int x]) 0) 140)) (v_iv (n_v (vs ++ [Value.int x]) 3))
      simp only [e_0, e_3]
      exact vc_Mo_bendsBecome_12_1 (v_iv (n_v vs 3)) (v_iv (n_v vs 5)) (v_iv (n_v vs 6)) (v_iv (n_v vs 7)) (v_iv (n_v vs 9)) (v_iv (n_v vs 10)) (v_iv (n_v vs 11)) (v_iv (n_v vs 12)) (v_iv (n_v vs 13)) (v_iv (n_v vs 14)) (v_iv (n_v vs 15)) (v_iv (n_v vs 16)) (w_ei ws (w_ar ws (n_v vs 0) 143)) (w_fi ws (n_v vs 0) 146) (w_fi ws (n_v vs 0) 147) (w_ei ws (w_ar ws (n_v vs 0) 140)) (v_iv (Value.int x)) k3 k5 k6 k7 k9 k10 k11 k12 k13 k14 k15 k16 d0 d1 d2 f0 f1 f2 f3 f4 f5 f6 f7 f8 f9 f10 f11 f12 f13 f14 f15 f16 hK_0_140 hK_0_143 kz_0_146 kz_0_147 ex2 ex3
  have nf2 : fc_1 PRD (20, [3, 0], [50, 2, 0, 1146, 1147, 2, 6, 0, 2, 0, 0, 1, 0, 0, 6, 4, 2, 1, 0, 0, 1, 6, 3, 2, 1, 146, 2, 1, 147]) ws (vs ++ [Value.int x]) := by
    refine ⟨nf_inA hl rfl, sgq_1290 ?_⟩
    · show (0 ≤ v_iv (n_v (vs ++ [Value.int x]) 3)) ∧ ((v_iv (n_v (vs ++ [Value.int x]) 3) + 1) ≤ (w_fi ws (n_v (vs ++ [Value.int x]) 0) 146 * w_fi ws (n_v (vs ++ [Value.int x]) 0) 147))
      simp only [e_0, e_3]
      exact vc_Mo_bendsBecome_12_2 (v_iv (n_v vs 3)) (v_iv (n_v vs 5)) (v_iv (n_v vs 6)) (v_iv (n_v vs 7)) (v_iv (n_v vs 9)) (v_iv (n_v vs 10)) (v_iv (n_v vs 11)) (v_iv (n_v vs 12)) (v_iv (n_v vs 13)) (v_iv (n_v vs 14)) (v_iv (n_v vs 15)) (v_iv (n_v vs 16)) (w_ei ws (w_ar ws (n_v vs 0) 143)) (w_fi ws (n_v vs 0) 146) (w_fi ws (n_v vs 0) 147) (w_ei ws (w_ar ws (n_v vs 0) 140)) (v_iv (Value.int x)) k3 k5 k6 k7 k9 k10 k11 k12 k13 k14 k15 k16 d0 d1 d2 f0 f1 f2 f3 f4 f5 f6 f7 f8 f9 f10 f11 f12 f13 f14 f15 f16 hK_0_140 hK_0_143 kz_0_146 kz_0_147 ex2 ex3
  have nf3 : fc_1 PRD (20, [0, 16, 10, 11], [60, 2, 2, 507, 146, 147, 143, 140]) ws (vs ++ [Value.int x]) := by
    refine ⟨nf_inA hl rfl, sgq_1413 ?_⟩
    · show BB2 (w_fi ws (n_v (vs ++ [Value.int x]) 0) 146) (w_fi ws (n_v (vs ++ [Value.int x]) 0) 147) (w_ei ws (w_ar ws (n_v (vs ++ [Value.int x]) 0) 143)) (w_ei ws (w_ar ws (n_v (vs ++ [Value.int x]) 0) 140)) (v_iv (n_v (vs ++ [Value.int x]) 16)) (v_iv (n_v (vs ++ [Value.int x]) 10)) (v_iv (n_v (vs ++ [Value.int x]) 11))
      simp only [e_0, e_10, e_11, e_16]
      exact vc_Mo_bendsBecome_12_3 (v_iv (n_v vs 3)) (v_iv (n_v vs 5)) (v_iv (n_v vs 6)) (v_iv (n_v vs 7)) (v_iv (n_v vs 9)) (v_iv (n_v vs 10)) (v_iv (n_v vs 11)) (v_iv (n_v vs 12)) (v_iv (n_v vs 13)) (v_iv (n_v vs 14)) (v_iv (n_v vs 15)) (v_iv (n_v vs 16)) (w_ei ws (w_ar ws (n_v vs 0) 143)) (w_fi ws (n_v vs 0) 146) (w_fi ws (n_v vs 0) 147) (w_ei ws (w_ar ws (n_v vs 0) 140)) (v_iv (Value.int x)) k3 k5 k6 k7 k9 k10 k11 k12 k13 k14 k15 k16 d0 d1 d2 f0 f1 f2 f3 f4 f5 f6 f7 f8 f9 f10 f11 f12 f13 f14 f15 f16 hK_0_140 hK_0_143 kz_0_146 kz_0_147 ex2 ex3
  have nf4 : fc_1 PRD (20, [16, 0], [50, 2, 0, 1146, 1147, 2, 6, 0, 2, 0, 0, 1, 0, 0, 6, 4, 2, 1, 0, 0, 1, 6, 3, 2, 1, 146, 2, 1, 147]) ws (vs ++ [Value.int x]) := by
    refine ⟨nf_inA hl rfl, sgq_1290 ?_⟩
    · show (0 ≤ v_iv (n_v (vs ++ [Value.int x]) 16)) ∧ ((v_iv (n_v (vs ++ [Value.int x]) 16) + 1) ≤ (w_fi ws (n_v (vs ++ [Value.int x]) 0) 146 * w_fi ws (n_v (vs ++ [Value.int x]) 0) 147))
      simp only [e_0, e_16]
      exact vc_Mo_bendsBecome_12_4 (v_iv (n_v vs 3)) (v_iv (n_v vs 5)) (v_iv (n_v vs 6)) (v_iv (n_v vs 7)) (v_iv (n_v vs 9)) (v_iv (n_v vs 10)) (v_iv (n_v vs 11)) (v_iv (n_v vs 12)) (v_iv (n_v vs 13)) (v_iv (n_v vs 14)) (v_iv (n_v vs 15)) (v_iv (n_v vs 16)) (w_ei ws (w_ar ws (n_v vs 0) 143)) (w_fi ws (n_v vs 0) 146) (w_fi ws (n_v vs 0) 147) (w_ei ws (w_ar ws (n_v vs 0) 140)) (v_iv (Value.int x)) k3 k5 k6 k7 k9 k10 k11 k12 k13 k14 k15 k16 d0 d1 d2 f0 f1 f2 f3 f4 f5 f6 f7 f8 f9 f10 f11 f12 f13 f14 f15 f16 hK_0_140 hK_0_143 kz_0_146 kz_0_147 ex2 ex3
  have nf5 : fc_1 PRD (20, [15, 11], [50, 0, 0, 0, 6, 4, 2, 1, 0, 1, 1, 0, 1000000]) ws (vs ++ [Value.int x]) := by
    refine ⟨nf_inA hl rfl, sgq_1414 ?_⟩
    · show (v_iv (n_v (vs ++ [Value.int x]) 15) + v_iv (n_v (vs ++ [Value.int x]) 11)) ≤ 1000000
      simp only [e_11, e_15]
      exact vc_Mo_bendsBecome_12_5 (v_iv (n_v vs 3)) (v_iv (n_v vs 5)) (v_iv (n_v vs 6)) (v_iv (n_v vs 7)) (v_iv (n_v vs 9)) (v_iv (n_v vs 10)) (v_iv (n_v vs 11)) (v_iv (n_v vs 12)) (v_iv (n_v vs 13)) (v_iv (n_v vs 14)) (v_iv (n_v vs 15)) (v_iv (n_v vs 16)) (w_ei ws (w_ar ws (n_v vs 0) 143)) (w_fi ws (n_v vs 0) 146) (w_fi ws (n_v vs 0) 147) (w_ei ws (w_ar ws (n_v vs 0) 140)) (v_iv (Value.int x)) k3 k5 k6 k7 k9 k10 k11 k12 k13 k14 k15 k16 d0 d1 d2 f0 f1 f2 f3 f4 f5 f6 f7 f8 f9 f10 f11 f12 f13 f14 f15 f16 hK_0_140 hK_0_143 kz_0_146 kz_0_147 ex2 ex3
  have nf6 : fc_1 PRD (20, [15], [50, 0, 0, 0, 2, 0, 0, 1, 0]) ws (vs ++ [Value.int x]) := by
    refine ⟨nf_inA hl rfl, sgq_722 ?_⟩
    · show 0 ≤ v_iv (n_v (vs ++ [Value.int x]) 15)
      rw [e_15]
      exact vc_Mo_bendsBecome_12_6 (v_iv (n_v vs 3)) (v_iv (n_v vs 5)) (v_iv (n_v vs 6)) (v_iv (n_v vs 7)) (v_iv (n_v vs 9)) (v_iv (n_v vs 10)) (v_iv (n_v vs 11)) (v_iv (n_v vs 12)) (v_iv (n_v vs 13)) (v_iv (n_v vs 14)) (v_iv (n_v vs 15)) (v_iv (n_v vs 16)) (w_ei ws (w_ar ws (n_v vs 0) 143)) (w_fi ws (n_v vs 0) 146) (w_fi ws (n_v vs 0) 147) (w_ei ws (w_ar ws (n_v vs 0) 140)) (v_iv (Value.int x)) k3 k5 k6 k7 k9 k10 k11 k12 k13 k14 k15 k16 d0 d1 d2 f0 f1 f2 f3 f4 f5 f6 f7 f8 f9 f10 f11 f12 f13 f14 f15 f16 hK_0_140 hK_0_143 kz_0_146 kz_0_147 ex2 ex3
  have nf7 : fc_1 PRD (20, [11, 17], [50, 0, 0, 2, 6, 0, 2, 0, 0, 1, 0, 0, 2, 1, 0, 1, 1]) ws (vs ++ [Value.int x]) := by
    refine ⟨nf_inA hl rfl, sgq_366 ?_⟩
    · show (0 ≤ v_iv (n_v (vs ++ [Value.int x]) 11)) ∧ (v_iv (n_v (vs ++ [Value.int x]) 11) ≤ v_iv (n_v (vs ++ [Value.int x]) 17))
      simp only [e_11, e_17]
      exact vc_Mo_bendsBecome_12_7 (v_iv (n_v vs 3)) (v_iv (n_v vs 5)) (v_iv (n_v vs 6)) (v_iv (n_v vs 7)) (v_iv (n_v vs 9)) (v_iv (n_v vs 10)) (v_iv (n_v vs 11)) (v_iv (n_v vs 12)) (v_iv (n_v vs 13)) (v_iv (n_v vs 14)) (v_iv (n_v vs 15)) (v_iv (n_v vs 16)) (w_ei ws (w_ar ws (n_v vs 0) 143)) (w_fi ws (n_v vs 0) 146) (w_fi ws (n_v vs 0) 147) (w_ei ws (w_ar ws (n_v vs 0) 140)) (v_iv (Value.int x)) k3 k5 k6 k7 k9 k10 k11 k12 k13 k14 k15 k16 d0 d1 d2 f0 f1 f2 f3 f4 f5 f6 f7 f8 f9 f10 f11 f12 f13 f14 f15 f16 hK_0_140 hK_0_143 kz_0_146 kz_0_147 ex2 ex3
  obtain ⟨x0, e0, _, _⟩ := tv_int t13 rfl
  have e1 : v_iv (n_v vs 13) = x0.toInt := by rw [e0]; rfl
  have ho : sy_ofs (vs ++ [Value.int x]) (17, 13, -1000000000000, -1) := by
    refine ⟨x, x0, by rw [List.getElem?_append_right (by rw [hl]; decide), hl]; rfl, ?_, ?_, ?_⟩
    · rw [List.getElem?_append_left (by rw [hl]; decide)]; exact n_v_some (by rw [hl]; decide) e0
    · show x0.toInt + (-1000000000000) ≤ x.toInt; omega
    · show x.toInt ≤ x0.toInt + (-1); omega
  exact ⟨(fun _ h => (by cases h)), [Value.int x], ag_one hx, List.forall_mem_cons.mpr ⟨⟨show (20 : Nat) < 100 from by decide, nf0⟩, List.forall_mem_cons.mpr ⟨⟨show (20 : Nat) < 100 from by decide, nf1⟩, List.forall_mem_cons.mpr ⟨⟨show (20 : Nat) < 100 from by decide, nf2⟩, List.forall_mem_cons.mpr ⟨⟨show (20 : Nat) < 100 from by decide, nf3⟩, List.forall_mem_cons.mpr ⟨⟨show (20 : Nat) < 100 from by decide, nf4⟩, List.forall_mem_cons.mpr ⟨⟨show (20 : Nat) < 100 from by decide, nf5⟩, List.forall_mem_cons.mpr ⟨⟨show (20 : Nat) < 100 from by decide, nf6⟩, List.forall_mem_cons.mpr ⟨⟨show (20 : Nat) < 100 from by decide, nf7⟩, (fun _ h => (by cases h))⟩⟩⟩⟩⟩⟩⟩⟩, List.forall_mem_cons.mpr ⟨ho, (fun _ h => (by cases h))⟩⟩
set_option maxHeartbeats 4000000 in
theorem vc_Mo_bendsBecome_13_r0 (x3 : Int) (x5 : Int) (x6 : Int) (x7 : Int) (x9 : Int) (x10 : Int) (x11 : Int) (x12 : Int) (x13 : Int) (x14 : Int) (x17 : Int) (wide_0 : Int) (tall_0 : Int) (barredPoint_0 : Int → Int) (costOf_0 : Int → Int) (k3 : 0 ≤ x3 ∧ x3 ≤ 5999) (k5 : 0 ≤ x5 ∧ x5 ≤ 24) (k6 : 0 ≤ x6 ∧ x6 ≤ 5999) (k7 : 0 ≤ x7 ∧ x7 ≤ 3) (k9 : 0 ≤ x9 ∧ x9 ≤ 1000000) (k10 : (-1) ≤ x10 ∧ x10 ≤ 3) (k11 : 0 ≤ x11 ∧ x11 ≤ 999999) (k12 : (-1) ≤ x12 ∧ x12 ≤ (-1)) (k13 : (-2) ≤ x13 ∧ x13 ≤ 1000000) (k14 : 25 ≤ x14 ∧ x14 ≤ 25) (k17 : (-3999999) ≤ x17 ∧ x17 ≤ 600000023) (d0 : x9 + (-4294967296) ≤ x10 ∧ x10 ≤ x9 + 2) (d1 : x9 + (-4294967296) ≤ x11 ∧ x11 ≤ x9 + 0) (g0 : x17 = wide_0) (f1 : x5 < x14) (f2 : x10 ≠ x7) (f3 : x12 < 0) (f4 : GRX (wide_0) (tall_0)) (f5 : RTV (wide_0) (tall_0) (barredPoint_0) (costOf_0) (x3)) (f6 : (0 ≤ x3) ∧ ((x3 + 1) ≤ (wide_0 * tall_0))) (f7 : BB2 (wide_0) (tall_0) (barredPoint_0) (costOf_0) (x6) (x7) (x9)) (f8 : (0 ≤ x6) ∧ ((x6 + 1) ≤ (wide_0 * tall_0))) (f9 : (x5 + x9) ≤ 1000000) (f10 : 0 ≤ x5) (f11 : x6 ≠ x3) (f12 : BB3 (wide_0) (tall_0) (barredPoint_0) (costOf_0) (x6) (x7) (x9) (x10) (x11) (x12)) (f13 : (0 ≤ x9) ∧ (x9 ≤ x13)) (f14 : (-1) * x13 + 0 ≤ (-1)) (hK_0_140 : ∀ j : Int, 0 ≤ j → j < 24000 → 0 ≤ costOf_0 j ∧ costOf_0 j ≤ 1000000) (hK_0_143 : ∀ j : Int, 0 ≤ j → j < 6000 → 0 ≤ barredPoint_0 j ∧ barredPoint_0 j ≤ 1) (kz_0_146 : (-3999999) ≤ wide_0 ∧ wide_0 ≤ 600000023) (kz_0_147 : (-3999999) ≤ tall_0 ∧ tall_0 ≤ 600000007) : 1 ≤ x17 ∧ x17 ≤ 6000 := by
  first
    | omega
    | (have g := gok_bd ‹GRX _ _›; omega)
    | (have h := bb_next ‹RTV _ _ _ _ _› ‹BB2 _ _ _ _ _ _ _› ‹BB3 _ _ _ _ _ _ _ _ _ _› (by omega) (by omega)
       have h1 := h.1.1
       have h2 := h.2
       omega)
    | (obtain ⟨⟨mf, q, n1, n2, n3, n4⟩, u0, u1⟩ := bb_next ‹RTV _ _ _ _ _› ‹BB2 _ _ _ _ _ _ _› ‹BB3 _ _ _ _ _ _ _ _ _ _› (by omega) (by omega)
       have e := ‹STQ _ _ _ _ _ _›.2.2 q n1 n2
       have i := nb_in n1 (by have g := gok_bd ‹GRX _ _›; omega)
       have g3 := ‹GRX _ _›.2.2
       omega)
def o_Mo_bendsBecome_13 : or_T := (231, 18, [(0, (2, 0, 0, [165])), (3, (0, 0, 5999, [])), (5, (0, 0, 24, [])), (6, (0, 0, 5999, [])), (7, (0, 0, 3, [])), (9, (0, 0, 1000000, [])), (10, (0, -1, 3, [])), (11, (0, 0, 999999, [])), (12, (0, -1, -1, [])), (13, (0, -2, 1000000, [])), (14, (0, 25, 25, [])), (17, (0, -3999999, 600000023, []))], [(9, [17, 0], [146]), (7, [5, 14], [2]), (7, [10, 7], [1]), (8, [12], [2]), (20, [0], [60, 2, 0, 494, 146, 147]), (20, [0, 3], [60, 2, 2, 504, 146, 147, 143, 140]), (20, [3, 0], [50, 2, 0, 1146, 1147, 2, 6, 0, 2, 0, 0, 1, 0, 0, 6, 4, 2, 1, 0, 0, 1, 6, 3, 2, 1, 146, 2, 1, 147]), (20, [0, 6, 7, 9], [60, 2, 2, 507, 146, 147, 143, 140]), (20, [6, 0], [50, 2, 0, 1146, 1147, 2, 6, 0, 2, 0, 0, 1, 0, 0, 6, 4, 2, 1, 0, 0, 1, 6, 3, 2, 1, 146, 2, 1, 147]), (20, [5, 9], [50, 0, 0, 0, 6, 4, 2, 1, 0, 1, 1, 0, 1000000]), (20, [5], [50, 0, 0, 0, 2, 0, 0, 1, 0]), (20, [6, 3], [50, 0, 0, 7, 2, 1, 0, 1, 1]), (20, [0, 6, 7, 9, 10, 11, 12], [60, 2, 2, 508, 146, 147, 143, 140]), (20, [9, 13], [50, 0, 0, 2, 6, 0, 2, 0, 0, 1, 0, 0, 2, 1, 0, 1, 1]), (23, [13], [-1, -1])], [(17, (0, 1, 6000, []))], [], [], [], [(10, 9, -4294967296, 2), (11, 9, -4294967296, 0)])
theorem oo_Mo_bendsBecome_13 {kA : Nat → ClassId} : or_ok PRD kA GG o_Mo_bendsBecome_13 := by
  refine or_mk fun A ta ws vs hD hth hl => ?_
  intro t0 r0 t3 k3 t5 k5 t6 k6 t7 k7 t9 k9 t10 k10 t11 k11 t12 k12 t13 k13 t14 k14 t17 k17 d0 d1 f0 f1 f2 f3 f4 f5 f6 f7 f8 f9 f10 f11 f12 f13 f14
  replace f0 := shm_1288 f0
  have cr_0_140 := fdq_175 hD hth r0
  have cr_0_143 := fdq_178 hD hth r0
  have g0 : v_iv (n_v vs 17) = w_fi ws (n_v vs 0) 146 := congrArg v_iv f0
  have hK_0_140 := elq_104 hD hth cr_0_140
  have hK_0_143 := elq_107 hD hth cr_0_143
  have kz_0_146 := fdq_179 hD hth r0
  have kz_0_147 := fdq_180 hD hth r0
  have hrf0 : 1 ≤ v_iv (n_v vs 17) ∧ v_iv (n_v vs 17) ≤ 6000 := vc_Mo_bendsBecome_13_r0 (v_iv (n_v vs 3)) (v_iv (n_v vs 5)) (v_iv (n_v vs 6)) (v_iv (n_v vs 7)) (v_iv (n_v vs 9)) (v_iv (n_v vs 10)) (v_iv (n_v vs 11)) (v_iv (n_v vs 12)) (v_iv (n_v vs 13)) (v_iv (n_v vs 14)) (v_iv (n_v vs 17)) (w_fi ws (n_v vs 0) 146) (w_fi ws (n_v vs 0) 147) (w_ei ws (w_ar ws (n_v vs 0) 143)) (w_ei ws (w_ar ws (n_v vs 0) 140)) k3 k5 k6 k7 k9 k10 k11 k12 k13 k14 k17 d0 d1 g0 (shm_6 f1) (shm_40 f2) (shm_39 f3) (shm_1289 f4) (shm_1411 f5) (shm_1290 f6) (shm_1413 f7) (shm_1290 f8) (shm_1414 f9) (shm_722 f10) (shm_406 f11) (shm_1415 f12) (shm_366 f13) (shm_626 f14) hK_0_140 hK_0_143 kz_0_146 kz_0_147
  have rf17 : tv_ok ta (0, 1, 6000, []) (n_v vs 17) := tv_in t17 (by first | omega | grind) (by first | omega | grind)
  refine ⟨List.forall_mem_cons.mpr ⟨rf17, (fun _ h => (by cases h))⟩, [], trivial, ?_, (fun _ h => (by cases h))⟩
  rw [List.append_nil]
  exact (fun _ h => (by cases h))
set_option maxHeartbeats 4000000 in
theorem vc_Mo_bendsBecome_14_r0 (x3 : Int) (x5 : Int) (x6 : Int) (x7 : Int) (x9 : Int) (x10 : Int) (x11 : Int) (x12 : Int) (x13 : Int) (x14 : Int) (x17 : Int) (x18 : Int) (x22 : Int) (x24 : Int) (wide_0 : Int) (tall_0 : Int) (barredPoint_0 : Int → Int) (costOf_0 : Int → Int) (wide_1 : Int) (tall_1 : Int) (barredPoint_1 : Int → Int) (costOf_1 : Int → Int) (wide_2 : Int) (tall_2 : Int) (barredPoint_2 : Int → Int) (costOf_2 : Int → Int) (turnX_0 : Int → Int) (turnX_1 : Int → Int) (turnX_2 : Int → Int) (x19 : Int) (turnY_0 : Int → Int) (turnY_1 : Int → Int) (x23 : Int) (turnY_2 : Int → Int) (k3 : 0 ≤ x3 ∧ x3 ≤ 5999) (k5 : 0 ≤ x5 ∧ x5 ≤ 24) (k6 : 0 ≤ x6 ∧ x6 ≤ 5999) (k7 : 0 ≤ x7 ∧ x7 ≤ 3) (k9 : 0 ≤ x9 ∧ x9 ≤ 1000000) (k10 : (-1) ≤ x10 ∧ x10 ≤ 3) (k11 : 0 ≤ x11 ∧ x11 ≤ 999999) (k12 : (-1) ≤ x12 ∧ x12 ≤ (-1)) (k13 : (-2) ≤ x13 ∧ x13 ≤ 1000000) (k14 : 25 ≤ x14 ∧ x14 ≤ 25) (k17 : 1 ≤ x17 ∧ x17 ≤ 6000) (k18 : 0 ≤ x18 ∧ x18 ≤ 5999) (k22 : 0 ≤ x22 ∧ x22 ≤ 5999) (k24 : 1 ≤ x24 ∧ x24 ≤ 25) (d0 : x5 + 1 ≤ x24 ∧ x24 ≤ x5 + 1) (d1 : x17 + (-4294967295) ≤ x18 ∧ x18 ≤ x17 + (-1)) (d2 : x9 + (-4294967296) ≤ x10 ∧ x10 ≤ x9 + 2) (d3 : x9 + (-4294967296) ≤ x11 ∧ x11 ≤ x9 + 0) (f0 : x24 = x5 + 1) (f1 : GRX (wide_0) (tall_0)) (f2 : RTV (wide_0) (tall_0) (barredPoint_0) (costOf_0) (x3)) (f3 : (0 ≤ x3) ∧ ((x3 + 1) ≤ (wide_0 * tall_0))) (f4 : BB2 (wide_0) (tall_0) (barredPoint_0) (costOf_0) (x6) (x7) (x9)) (f5 : (0 ≤ x6) ∧ ((x6 + 1) ≤ (wide_0 * tall_0))) (f6 : (x5 + x9) ≤ 1000000) (f7 : 0 ≤ x5) (f8 : x6 ≠ x3) (f9 : BB3 (wide_0) (tall_0) (barredPoint_0) (costOf_0) (x6) (x7) (x9) (x10) (x11) (x12)) (f10 : (0 ≤ x9) ∧ (x9 ≤ x13)) (f11 : (-1) * x13 + 0 ≤ (-1)) (f13 : x22 = Int.tdiv (x6) (x17)) (g14 : x17 = wide_1) (f16 : GRX (wide_1) (tall_1)) (f17 : RTV (wide_1) (tall_1) (barredPoint_1) (costOf_1) (x3)) (f18 : (0 ≤ x3) ∧ ((x3 + 1) ≤ (wide_1 * tall_1))) (f19 : BB2 (wide_1) (tall_1) (barredPoint_1) (costOf_1) (x6) (x7) (x9)) (f20 : (0 ≤ x6) ∧ ((x6 + 1) ≤ (wide_1 * tall_1))) (f21 : (x5 + x9) ≤ 1000000) (f22 : 0 ≤ x5) (f23 : x6 ≠ x3) (f24 : BB3 (wide_1) (tall_1) (barredPoint_1) (costOf_1) (x6) (x7) (x9) (x10) (x11) (x12)) (f25 : (0 ≤ x9) ∧ (x9 ≤ x13)) (f26 : (-1) * x13 + 0 ≤ (-1)) (f28 : x18 = Int.tmod (x6) (x17)) (f30 : x5 < x14) (f31 : x10 ≠ x7) (f32 : x12 < 0) (f33 : GRX (wide_2) (tall_2)) (f34 : RTV (wide_2) (tall_2) (barredPoint_2) (costOf_2) (x3)) (f35 : (0 ≤ x3) ∧ ((x3 + 1) ≤ (wide_2 * tall_2))) (f36 : BB2 (wide_2) (tall_2) (barredPoint_2) (costOf_2) (x6) (x7) (x9)) (f37 : (0 ≤ x6) ∧ ((x6 + 1) ≤ (wide_2 * tall_2))) (f38 : (x5 + x9) ≤ 1000000) (f39 : 0 ≤ x5) (f40 : x6 ≠ x3) (f41 : BB3 (wide_2) (tall_2) (barredPoint_2) (costOf_2) (x6) (x7) (x9) (x10) (x11) (x12)) (f42 : (0 ≤ x9) ∧ (x9 ≤ x13)) (f43 : (-1) * x13 + 0 ≤ (-1)) (fe_0_146_1 : wide_0 = wide_1) (fe_0_147_1 : tall_0 = tall_1) (fe_0_146_2 : wide_1 = wide_2) (fe_0_147_2 : tall_1 = tall_2) (hE_0_140_1 : ∀ j : Int, costOf_0 j = costOf_1 j) (hE_0_140_2 : ∀ j : Int, costOf_1 j = costOf_2 j) (hK_0_140 : ∀ j : Int, 0 ≤ j → j < 24000 → 0 ≤ costOf_0 j ∧ costOf_0 j ≤ 1000000) (hE_0_143_1 : ∀ j : Int, barredPoint_0 j = barredPoint_1 j) (hE_0_143_2 : ∀ j : Int, barredPoint_1 j = barredPoint_2 j) (hK_0_143 : ∀ j : Int, 0 ≤ j → j < 6000 → 0 ≤ barredPoint_0 j ∧ barredPoint_0 j ≤ 1) (hE_0_148_1 : ∀ j : Int, turnX_0 j = turnX_1 j) (hE_0_148_2 : ∀ j : Int, 0 ≤ j → (j = x5 → turnX_1 j = x19) ∧ (j ≠ x5 → turnX_1 j = turnX_2 j)) (hK_0_148 : ∀ j : Int, 0 ≤ j → j < 26 → (-300000011) ≤ turnX_0 j ∧ turnX_0 j ≤ 2005999) (hE_0_149_1 : ∀ j : Int, 0 ≤ j → (j = x5 → turnY_0 j = x23) ∧ (j ≠ x5 → turnY_0 j = turnY_1 j)) (hE_0_149_2 : ∀ j : Int, turnY_1 j = turnY_2 j) (hK_0_149 : ∀ j : Int, 0 ≤ j → j < 26 → (-300000003) ≤ turnY_0 j ∧ turnY_0 j ≤ 2005999) (kz_0_146 : (-3999999) ≤ wide_0 ∧ wide_0 ≤ 600000023) (kz_0_147 : (-3999999) ≤ tall_0 ∧ tall_0 ≤ 600000007) : 0 ≤ x10 ∧ x10 ≤ 3 := by
  subst fe_0_146_1
  subst fe_0_147_1
  subst fe_0_146_2
  subst fe_0_147_2
  have e_hE_0_140_1 := funext hE_0_140_1; subst e_hE_0_140_1
  have e_hE_0_140_2 := funext hE_0_140_2; subst e_hE_0_140_2
  have e_hE_0_143_1 := funext hE_0_143_1; subst e_hE_0_143_1
  have e_hE_0_143_2 := funext hE_0_143_2; subst e_hE_0_143_2
  have e_hE_0_148_1 := funext hE_0_148_1; subst e_hE_0_148_1
  have e_hE_0_149_2 := funext hE_0_149_2; subst e_hE_0_149_2
  first
    | omega
    | (have g := gok_bd ‹GRX _ _›; omega)
    | (have h := bb_next ‹RTV _ _ _ _ _› ‹BB2 _ _ _ _ _ _ _› ‹BB3 _ _ _ _ _ _ _ _ _ _› (by omega) (by omega)
       have h1 := h.1.1
       have h2 := h.2
       omega)
    | (obtain ⟨⟨mf, q, n1, n2, n3, n4⟩, u0, u1⟩ := bb_next ‹RTV _ _ _ _ _› ‹BB2 _ _ _ _ _ _ _› ‹BB3 _ _ _ _ _ _ _ _ _ _› (by omega) (by omega)
       have e := ‹STQ _ _ _ _ _ _›.2.2 q n1 n2
       have i := nb_in n1 (by have g := gok_bd ‹GRX _ _›; omega)
       have g3 := ‹GRX _ _›.2.2
       omega)
def o_Mo_bendsBecome_14 : or_T := (258, 25, [(0, (2, 0, 0, [165])), (3, (0, 0, 5999, [])), (5, (0, 0, 24, [])), (6, (0, 0, 5999, [])), (7, (0, 0, 3, [])), (9, (0, 0, 1000000, [])), (10, (0, -1, 3, [])), (11, (0, 0, 999999, [])), (12, (0, -1, -1, [])), (13, (0, -2, 1000000, [])), (14, (0, 25, 25, [])), (15, (2, 0, 0, [270])), (17, (0, 1, 6000, [])), (18, (0, 0, 5999, [])), (20, (2, 0, 0, [271])), (22, (0, 0, 5999, [])), (24, (0, 1, 25, []))], [(6, [24, 5], [1]), (20, [0], [60, 2, 0, 494, 146, 147]), (20, [0, 3], [60, 2, 2, 504, 146, 147, 143, 140]), (20, [3, 0], [50, 2, 0, 1146, 1147, 2, 6, 0, 2, 0, 0, 1, 0, 0, 6, 4, 2, 1, 0, 0, 1, 6, 3, 2, 1, 146, 2, 1, 147]), (20, [0, 6, 7, 9], [60, 2, 2, 507, 146, 147, 143, 140]), (20, [6, 0], [50, 2, 0, 1146, 1147, 2, 6, 0, 2, 0, 0, 1, 0, 0, 6, 4, 2, 1, 0, 0, 1, 6, 3, 2, 1, 146, 2, 1, 147]), (20, [5, 9], [50, 0, 0, 0, 6, 4, 2, 1, 0, 1, 1, 0, 1000000]), (20, [5], [50, 0, 0, 0, 2, 0, 0, 1, 0]), (20, [6, 3], [50, 0, 0, 7, 2, 1, 0, 1, 1]), (20, [0, 6, 7, 9, 10, 11, 12], [60, 2, 2, 508, 146, 147, 143, 140]), (20, [9, 13], [50, 0, 0, 2, 6, 0, 2, 0, 0, 1, 0, 0, 2, 1, 0, 1, 1]), (23, [13], [-1, -1]), (100, [20, 5, 23], []), (4, [22, 6, 17], []), (9, [17, 0], [146]), (9, [20, 0], [149]), (20, [0], [60, 2, 0, 494, 146, 147]), (20, [0, 3], [60, 2, 2, 504, 146, 147, 143, 140]), (20, [3, 0], [50, 2, 0, 1146, 1147, 2, 6, 0, 2, 0, 0, 1, 0, 0, 6, 4, 2, 1, 0, 0, 1, 6, 3, 2, 1, 146, 2, 1, 147]), (20, [0, 6, 7, 9], [60, 2, 2, 507, 146, 147, 143, 140]), (20, [6, 0], [50, 2, 0, 1146, 1147, 2, 6, 0, 2, 0, 0, 1, 0, 0, 6, 4, 2, 1, 0, 0, 1, 6, 3, 2, 1, 146, 2, 1, 147]), (20, [5, 9], [50, 0, 0, 0, 6, 4, 2, 1, 0, 1, 1, 0, 1000000]), (20, [5], [50, 0, 0, 0, 2, 0, 0, 1, 0]), (20, [6, 3], [50, 0, 0, 7, 2, 1, 0, 1, 1]), (20, [0, 6, 7, 9, 10, 11, 12], [60, 2, 2, 508, 146, 147, 143, 140]), (20, [9, 13], [50, 0, 0, 2, 6, 0, 2, 0, 0, 1, 0, 0, 2, 1, 0, 1, 1]), (23, [13], [-1, -1]), (100, [15, 5, 19], []), (5, [18, 6, 17], []), (9, [15, 0], [148]), (7, [5, 14], [2]), (7, [10, 7], [1]), (8, [12], [2]), (20, [0], [60, 2, 0, 494, 146, 147]), (20, [0, 3], [60, 2, 2, 504, 146, 147, 143, 140]), (20, [3, 0], [50, 2, 0, 1146, 1147, 2, 6, 0, 2, 0, 0, 1, 0, 0, 6, 4, 2, 1, 0, 0, 1, 6, 3, 2, 1, 146, 2, 1, 147]), (20, [0, 6, 7, 9], [60, 2, 2, 507, 146, 147, 143, 140]), (20, [6, 0], [50, 2, 0, 1146, 1147, 2, 6, 0, 2, 0, 0, 1, 0, 0, 6, 4, 2, 1, 0, 0, 1, 6, 3, 2, 1, 146, 2, 1, 147]), (20, [5, 9], [50, 0, 0, 0, 6, 4, 2, 1, 0, 1, 1, 0, 1000000]), (20, [5], [50, 0, 0, 0, 2, 0, 0, 1, 0]), (20, [6, 3], [50, 0, 0, 7, 2, 1, 0, 1, 1]), (20, [0, 6, 7, 9, 10, 11, 12], [60, 2, 2, 508, 146, 147, 143, 140]), (20, [9, 13], [50, 0, 0, 2, 6, 0, 2, 0, 0, 1, 0, 0, 2, 1, 0, 1, 1]), (23, [13], [-1, -1])], [(10, (0, 0, 3, []))], [], [], [], [(24, 5, 1, 1), (18, 17, -4294967295, -1), (10, 9, -4294967296, 2), (11, 9, -4294967296, 0)])
theorem oo_Mo_bendsBecome_14 {kA : Nat → ClassId} : or_ok PRD kA GG o_Mo_bendsBecome_14 := by
  refine or_mk fun A ta ws vs hD hth hl => ?_
  intro t0 r0 t3 k3 t5 k5 t6 k6 t7 k7 t9 k9 t10 k10 t11 k11 t12 k12 t13 k13 t14 k14 t15 r15 t17 k17 t18 k18 t20 r20 t22 k22 t24 k24 d0 d1 d2 d3 f0 f1 f2 f3 f4 f5 f6 f7 f8 f9 f10 f11 ta1 w1 le1 s1 f13 f14 f15 f16 f17 f18 f19 f20 f21 f22 f23 f24 f25 f26 ta2 w2 le2 s2 f28 f29 f30 f31 f32 f33 f34 f35 f36 f37 f38 f39 f40 f41 f42 f43
  have s1 : (∀ b j, w_el ws b j = if b = v_ad (n_v vs 20) ∧ j = (v_iv (n_v vs 5)).toNat then v_iv (n_v vs 23) else w_el w1 b j) ∧ ∀ b k, w_fd ws b k = w_fd w1 b k := s1.2
  replace f13 := shm_34 f13
  replace f14 := shm_1288 f14
  replace f15 := shm_1416 f15
  replace f17 := shm_1411 f17
  replace f19 := shm_1413 f19
  replace f24 := shm_1415 f24
  have s2 : (∀ b j, w_el w1 b j = if b = v_ad (n_v vs 15) ∧ j = (v_iv (n_v vs 5)).toNat then v_iv (n_v vs 19) else w_el w2 b j) ∧ ∀ b k, w_fd w1 b k = w_fd w2 b k := s2.2
  replace f29 := shm_1417 f29
  replace f34 := shm_1411 f34
  replace f36 := shm_1413 f36
  replace f41 := shm_1415 f41
  have ar_0_140_1 : w_ar w1 (n_v vs 0) 140 = w_ar ws (n_v vs 0) 140 := congrArg v_ad (s1.2 _ _).symm
  have ar_0_140_2 : w_ar w2 (n_v vs 0) 140 = w_ar ws (n_v vs 0) 140 := by rw [← ar_0_140_1]; show v_ad (w_fd w2 _ _) = v_ad (w_fd w1 _ _); rw [s2.2]
  have cr_0_140 := fdq_175 hD hth r0
  have ar_0_143_1 : w_ar w1 (n_v vs 0) 143 = w_ar ws (n_v vs 0) 143 := congrArg v_ad (s1.2 _ _).symm
  have ar_0_143_2 : w_ar w2 (n_v vs 0) 143 = w_ar ws (n_v vs 0) 143 := by rw [← ar_0_143_1]; show v_ad (w_fd w2 _ _) = v_ad (w_fd w1 _ _); rw [s2.2]
  have cr_0_143 := fdq_178 hD hth r0
  have ar_0_148_1 : w_ar w1 (n_v vs 0) 148 = w_ar ws (n_v vs 0) 148 := congrArg v_ad (s1.2 _ _).symm
  have ar_0_148_2 : w_ar w2 (n_v vs 0) 148 = w_ar ws (n_v vs 0) 148 := by rw [← ar_0_148_1]; show v_ad (w_fd w2 _ _) = v_ad (w_fd w1 _ _); rw [s2.2]
  have cr_0_148 := fdq_290 hD hth r0
  have ar_0_149_1 : w_ar w1 (n_v vs 0) 149 = w_ar ws (n_v vs 0) 149 := congrArg v_ad (s1.2 _ _).symm
  have cr_0_149 := fdq_291 hD hth r0
  have ad_20 : v_ad (n_v vs 20) = w_ar ws (n_v vs 0) 149 := (congrArg v_ad f15).trans ar_0_149_1
  have ad_15 : v_ad (n_v vs 15) = w_ar ws (n_v vs 0) 148 := (congrArg v_ad f29).trans ar_0_148_2
  have g14 : v_iv (n_v vs 17) = w_fi w1 (n_v vs 0) 146 := congrArg v_iv f14
  simp only [ar_0_140_1, ar_0_143_1, ar_0_140_2, ar_0_143_2] at f17 f19 f24 f34 f36 f41
  have fe_0_146_1 : w_fi ws (n_v vs 0) 146 = w_fi w1 (n_v vs 0) 146 := congrArg v_iv (s1.2 _ _)
  have fe_0_147_1 : w_fi ws (n_v vs 0) 147 = w_fi w1 (n_v vs 0) 147 := congrArg v_iv (s1.2 _ _)
  have fe_0_146_2 : w_fi w1 (n_v vs 0) 146 = w_fi w2 (n_v vs 0) 146 := congrArg v_iv (s2.2 _ _)
  have fe_0_147_2 : w_fi w1 (n_v vs 0) 147 = w_fi w2 (n_v vs 0) 147 := congrArg v_iv (s2.2 _ _)
  have hE_0_140_1 : ∀ j : Int, w_ei ws (w_ar ws (n_v vs 0) 140) j = w_ei w1 (w_ar ws (n_v vs 0) 140) j := el_kp s1.1 r20 cr_0_140 (by decide)
  have hE_0_140_2 : ∀ j : Int, w_ei w1 (w_ar ws (n_v vs 0) 140) j = w_ei w2 (w_ar ws (n_v vs 0) 140) j := el_kp s2.1 r15 cr_0_140 (by decide)
  have hK_0_140 := elq_104 hD hth cr_0_140
  have hE_0_143_1 : ∀ j : Int, w_ei ws (w_ar ws (n_v vs 0) 143) j = w_ei w1 (w_ar ws (n_v vs 0) 143) j := el_kp s1.1 r20 cr_0_143 (by decide)
  have hE_0_143_2 : ∀ j : Int, w_ei w1 (w_ar ws (n_v vs 0) 143) j = w_ei w2 (w_ar ws (n_v vs 0) 143) j := el_kp s2.1 r15 cr_0_143 (by decide)
  have hK_0_143 := elq_107 hD hth cr_0_143
  have hE_0_148_1 : ∀ j : Int, w_ei ws (w_ar ws (n_v vs 0) 148) j = w_ei w1 (w_ar ws (n_v vs 0) 148) j := el_kp s1.1 r20 cr_0_148 (by decide)
  have hE_0_148_2 : ∀ j : Int, 0 ≤ j → (j = v_iv (n_v vs 5) → w_ei w1 (w_ar ws (n_v vs 0) 148) j = v_iv (n_v vs 19)) ∧ (j ≠ v_iv (n_v vs 5) → w_ei w1 (w_ar ws (n_v vs 0) 148) j = w_ei w2 (w_ar ws (n_v vs 0) 148) j) := fun j hj => ⟨fun h => by unfold w_ei; rw [s2.1, if_pos ⟨ad_15.symm, by rw [h]⟩], fun h => by unfold w_ei; rw [s2.1, if_neg (fun e => h (by have := e.2; omega))]⟩
  have hK_0_148 := elq_182 hD hth cr_0_148
  have hE_0_149_1 : ∀ j : Int, 0 ≤ j → (j = v_iv (n_v vs 5) → w_ei ws (w_ar ws (n_v vs 0) 149) j = v_iv (n_v vs 23)) ∧ (j ≠ v_iv (n_v vs 5) → w_ei ws (w_ar ws (n_v vs 0) 149) j = w_ei w1 (w_ar ws (n_v vs 0) 149) j) := fun j hj => ⟨fun h => by unfold w_ei; rw [s1.1, if_pos ⟨ad_20.symm, by rw [h]⟩], fun h => by unfold w_ei; rw [s1.1, if_neg (fun e => h (by have := e.2; omega))]⟩
  have hE_0_149_2 : ∀ j : Int, w_ei w1 (w_ar ws (n_v vs 0) 149) j = w_ei w2 (w_ar ws (n_v vs 0) 149) j := el_kp s2.1 r15 cr_0_149 (by decide)
  have hK_0_149 := elq_183 hD hth cr_0_149
  have kz_0_146 := fdq_179 hD hth r0
  have kz_0_147 := fdq_180 hD hth r0
  have hrf0 : 0 ≤ v_iv (n_v vs 10) ∧ v_iv (n_v vs 10) ≤ 3 := vc_Mo_bendsBecome_14_r0 (v_iv (n_v vs 3)) (v_iv (n_v vs 5)) (v_iv (n_v vs 6)) (v_iv (n_v vs 7)) (v_iv (n_v vs 9)) (v_iv (n_v vs 10)) (v_iv (n_v vs 11)) (v_iv (n_v vs 12)) (v_iv (n_v vs 13)) (v_iv (n_v vs 14)) (v_iv (n_v vs 17)) (v_iv (n_v vs 18)) (v_iv (n_v vs 22)) (v_iv (n_v vs 24)) (w_fi ws (n_v vs 0) 146) (w_fi ws (n_v vs 0) 147) (w_ei ws (w_ar ws (n_v vs 0) 143)) (w_ei ws (w_ar ws (n_v vs 0) 140)) (w_fi w1 (n_v vs 0) 146) (w_fi w1 (n_v vs 0) 147) (w_ei w1 (w_ar ws (n_v vs 0) 143)) (w_ei w1 (w_ar ws (n_v vs 0) 140)) (w_fi w2 (n_v vs 0) 146) (w_fi w2 (n_v vs 0) 147) (w_ei w2 (w_ar ws (n_v vs 0) 143)) (w_ei w2 (w_ar ws (n_v vs 0) 140)) (w_ei ws (w_ar ws (n_v vs 0) 148)) (w_ei w1 (w_ar ws (n_v vs 0) 148)) (w_ei w2 (w_ar ws (n_v vs 0) 148)) (v_iv (n_v vs 19)) (w_ei ws (w_ar ws (n_v vs 0) 149)) (w_ei w1 (w_ar ws (n_v vs 0) 149)) (v_iv (n_v vs 23)) (w_ei w2 (w_ar ws (n_v vs 0) 149)) k3 k5 k6 k7 k9 k10 k11 k12 k13 k14 k17 k18 k22 k24 d0 d1 d2 d3 (shm_4 f0) (shm_1289 f1) (shm_1411 f2) (shm_1290 f3) (shm_1413 f4) (shm_1290 f5) (shm_1414 f6) (shm_722 f7) (shm_406 f8) (shm_1415 f9) (shm_366 f10) (shm_626 f11) f13 g14 (shm_1289 f16) f17 (shm_1290 f18) f19 (shm_1290 f20) (shm_1414 f21) (shm_722 f22) (shm_406 f23) f24 (shm_366 f25) (shm_626 f26) (shm_468 f28) (shm_6 f30) (shm_40 f31) (shm_39 f32) (shm_1289 f33) f34 (shm_1290 f35) f36 (shm_1290 f37) (shm_1414 f38) (shm_722 f39) (shm_406 f40) f41 (shm_366 f42) (shm_626 f43) fe_0_146_1 fe_0_147_1 fe_0_146_2 fe_0_147_2 hE_0_140_1 hE_0_140_2 hK_0_140 hE_0_143_1 hE_0_143_2 hK_0_143 hE_0_148_1 hE_0_148_2 hK_0_148 hE_0_149_1 hE_0_149_2 hK_0_149 kz_0_146 kz_0_147
  have rf10 : tv_ok ta (0, 0, 3, []) (n_v vs 10) := tv_in t10 (by first | omega | grind) (by first | omega | grind)
  refine ⟨List.forall_mem_cons.mpr ⟨rf10, (fun _ h => (by cases h))⟩, [], trivial, ?_, (fun _ h => (by cases h))⟩
  rw [List.append_nil]
  exact (fun _ h => (by cases h))
set_option maxHeartbeats 4000000 in
theorem vc_Mo_bendsBecome_15_r0 (x3 : Int) (x5 : Int) (x6 : Int) (x7 : Int) (x9 : Int) (x10 : Int) (x11 : Int) (x12 : Int) (x13 : Int) (x14 : Int) (x17 : Int) (x18 : Int) (x22 : Int) (x24 : Int) (x25 : Int) (barredPoint_0 : Int → Int) (wide_0 : Int) (tall_0 : Int) (costOf_0 : Int → Int) (wide_1 : Int) (tall_1 : Int) (barredPoint_1 : Int → Int) (costOf_1 : Int → Int) (wide_2 : Int) (tall_2 : Int) (barredPoint_2 : Int → Int) (costOf_2 : Int → Int) (turnX_0 : Int → Int) (turnX_1 : Int → Int) (turnX_2 : Int → Int) (x19 : Int) (turnY_0 : Int → Int) (turnY_1 : Int → Int) (x23 : Int) (turnY_2 : Int → Int) (k3 : 0 ≤ x3 ∧ x3 ≤ 5999) (k5 : 0 ≤ x5 ∧ x5 ≤ 24) (k6 : 0 ≤ x6 ∧ x6 ≤ 5999) (k7 : 0 ≤ x7 ∧ x7 ≤ 3) (k9 : 0 ≤ x9 ∧ x9 ≤ 1000000) (k10 : 0 ≤ x10 ∧ x10 ≤ 3) (k11 : 0 ≤ x11 ∧ x11 ≤ 999999) (k12 : (-1) ≤ x12 ∧ x12 ≤ (-1)) (k13 : (-2) ≤ x13 ∧ x13 ≤ 1000000) (k14 : 25 ≤ x14 ∧ x14 ≤ 25) (k17 : 1 ≤ x17 ∧ x17 ≤ 6000) (k18 : 0 ≤ x18 ∧ x18 ≤ 5999) (k22 : 0 ≤ x22 ∧ x22 ≤ 5999) (k24 : 1 ≤ x24 ∧ x24 ≤ 25) (k25 : (-1) ≤ x25 ∧ x25 ≤ 5999) (d0 : x5 + 1 ≤ x24 ∧ x24 ≤ x5 + 1) (d1 : x17 + (-4294967295) ≤ x18 ∧ x18 ≤ x17 + (-1)) (d2 : x9 + (-4294967296) ≤ x10 ∧ x10 ≤ x9 + 2) (d3 : x9 + (-4294967296) ≤ x11 ∧ x11 ≤ x9 + 0) (f0 : STQ (wide_0) (tall_0) (barredPoint_0) (x6) (x10) (x25)) (f1 : ((-1) ≤ x25) ∧ ((x25 + 1) ≤ (wide_0 * tall_0))) (f2 : x24 = x5 + 1) (f3 : GRX (wide_0) (tall_0)) (f4 : RTV (wide_0) (tall_0) (barredPoint_0) (costOf_0) (x3)) (f5 : (0 ≤ x3) ∧ ((x3 + 1) ≤ (wide_0 * tall_0))) (f6 : BB2 (wide_0) (tall_0) (barredPoint_0) (costOf_0) (x6) (x7) (x9)) (f7 : (0 ≤ x6) ∧ ((x6 + 1) ≤ (wide_0 * tall_0))) (f8 : (x5 + x9) ≤ 1000000) (f9 : 0 ≤ x5) (f10 : x6 ≠ x3) (f11 : BB3 (wide_0) (tall_0) (barredPoint_0) (costOf_0) (x6) (x7) (x9) (x10) (x11) (x12)) (f12 : (0 ≤ x9) ∧ (x9 ≤ x13)) (f13 : (-1) * x13 + 0 ≤ (-1)) (f15 : x22 = Int.tdiv (x6) (x17)) (g16 : x17 = wide_1) (f18 : GRX (wide_1) (tall_1)) (f19 : RTV (wide_1) (tall_1) (barredPoint_1) (costOf_1) (x3)) (f20 : (0 ≤ x3) ∧ ((x3 + 1) ≤ (wide_1 * tall_1))) (f21 : BB2 (wide_1) (tall_1) (barredPoint_1) (costOf_1) (x6) (x7) (x9)) (f22 : (0 ≤ x6) ∧ ((x6 + 1) ≤ (wide_1 * tall_1))) (f23 : (x5 + x9) ≤ 1000000) (f24 : 0 ≤ x5) (f25 : x6 ≠ x3) (f26 : BB3 (wide_1) (tall_1) (barredPoint_1) (costOf_1) (x6) (x7) (x9) (x10) (x11) (x12)) (f27 : (0 ≤ x9) ∧ (x9 ≤ x13)) (f28 : (-1) * x13 + 0 ≤ (-1)) (f30 : x18 = Int.tmod (x6) (x17)) (f32 : x5 < x14) (f33 : x10 ≠ x7) (f34 : x12 < 0) (f35 : GRX (wide_2) (tall_2)) (f36 : RTV (wide_2) (tall_2) (barredPoint_2) (costOf_2) (x3)) (f37 : (0 ≤ x3) ∧ ((x3 + 1) ≤ (wide_2 * tall_2))) (f38 : BB2 (wide_2) (tall_2) (barredPoint_2) (costOf_2) (x6) (x7) (x9)) (f39 : (0 ≤ x6) ∧ ((x6 + 1) ≤ (wide_2 * tall_2))) (f40 : (x5 + x9) ≤ 1000000) (f41 : 0 ≤ x5) (f42 : x6 ≠ x3) (f43 : BB3 (wide_2) (tall_2) (barredPoint_2) (costOf_2) (x6) (x7) (x9) (x10) (x11) (x12)) (f44 : (0 ≤ x9) ∧ (x9 ≤ x13)) (f45 : (-1) * x13 + 0 ≤ (-1)) (fe_0_146_1 : wide_0 = wide_1) (fe_0_147_1 : tall_0 = tall_1) (fe_0_146_2 : wide_1 = wide_2) (fe_0_147_2 : tall_1 = tall_2) (hE_0_140_1 : ∀ j : Int, costOf_0 j = costOf_1 j) (hE_0_140_2 : ∀ j : Int, costOf_1 j = costOf_2 j) (hK_0_140 : ∀ j : Int, 0 ≤ j → j < 24000 → 0 ≤ costOf_0 j ∧ costOf_0 j ≤ 1000000) (hE_0_143_1 : ∀ j : Int, barredPoint_0 j = barredPoint_1 j) (hE_0_143_2 : ∀ j : Int, barredPoint_1 j = barredPoint_2 j) (hK_0_143 : ∀ j : Int, 0 ≤ j → j < 6000 → 0 ≤ barredPoint_0 j ∧ barredPoint_0 j ≤ 1) (hE_0_148_1 : ∀ j : Int, turnX_0 j = turnX_1 j) (hE_0_148_2 : ∀ j : Int, 0 ≤ j → (j = x5 → turnX_1 j = x19) ∧ (j ≠ x5 → turnX_1 j = turnX_2 j)) (hK_0_148 : ∀ j : Int, 0 ≤ j → j < 26 → (-300000011) ≤ turnX_0 j ∧ turnX_0 j ≤ 2005999) (hE_0_149_1 : ∀ j : Int, 0 ≤ j → (j = x5 → turnY_0 j = x23) ∧ (j ≠ x5 → turnY_0 j = turnY_1 j)) (hE_0_149_2 : ∀ j : Int, turnY_1 j = turnY_2 j) (hK_0_149 : ∀ j : Int, 0 ≤ j → j < 26 → (-300000003) ≤ turnY_0 j ∧ turnY_0 j ≤ 2005999) (kz_0_146 : (-3999999) ≤ wide_0 ∧ wide_0 ≤ 600000023) (kz_0_147 : (-3999999) ≤ tall_0 ∧ tall_0 ≤ 600000007) : 0 ≤ x25 ∧ x25 ≤ 5999 := by
  subst fe_0_146_1
  subst fe_0_147_1
  subst fe_0_146_2
  subst fe_0_147_2
  have e_hE_0_140_1 := funext hE_0_140_1; subst e_hE_0_140_1
  have e_hE_0_140_2 := funext hE_0_140_2; subst e_hE_0_140_2
  have e_hE_0_143_1 := funext hE_0_143_1; subst e_hE_0_143_1
  have e_hE_0_143_2 := funext hE_0_143_2; subst e_hE_0_143_2
  have e_hE_0_148_1 := funext hE_0_148_1; subst e_hE_0_148_1
  have e_hE_0_149_2 := funext hE_0_149_2; subst e_hE_0_149_2
  first
    | omega
    | (have g := gok_bd ‹GRX _ _›; omega)
    | (have h := bb_next ‹RTV _ _ _ _ _› ‹BB2 _ _ _ _ _ _ _› ‹BB3 _ _ _ _ _ _ _ _ _ _› (by omega) (by omega)
       have h1 := h.1.1
       have h2 := h.2
       omega)
    | (obtain ⟨⟨mf, q, n1, n2, n3, n4⟩, u0, u1⟩ := bb_next ‹RTV _ _ _ _ _› ‹BB2 _ _ _ _ _ _ _› ‹BB3 _ _ _ _ _ _ _ _ _ _› (by omega) (by omega)
       have e := ‹STQ _ _ _ _ _ _›.2.2 q n1 n2
       have i := nb_in n1 (by have g := gok_bd ‹GRX _ _›; omega)
       have g3 := ‹GRX _ _›.2.2
       omega)
def o_Mo_bendsBecome_15 : or_T := (272, 26, [(0, (2, 0, 0, [165])), (3, (0, 0, 5999, [])), (5, (0, 0, 24, [])), (6, (0, 0, 5999, [])), (7, (0, 0, 3, [])), (9, (0, 0, 1000000, [])), (10, (0, 0, 3, [])), (11, (0, 0, 999999, [])), (12, (0, -1, -1, [])), (13, (0, -2, 1000000, [])), (14, (0, 25, 25, [])), (15, (2, 0, 0, [270])), (17, (0, 1, 6000, [])), (18, (0, 0, 5999, [])), (20, (2, 0, 0, [271])), (22, (0, 0, 5999, [])), (24, (0, 1, 25, [])), (25, (0, -1, 5999, []))], [(20, [0, 6, 10, 25], [60, 2, 1, 505, 146, 147, 143]), (20, [25, 0], [50, 2, 0, 1146, 1147, 2, 6, 0, 2, 0, -1, 1, 0, 0, 6, 4, 2, 1, 0, 0, 1, 6, 3, 2, 1, 146, 2, 1, 147]), (6, [24, 5], [1]), (20, [0], [60, 2, 0, 494, 146, 147]), (20, [0, 3], [60, 2, 2, 504, 146, 147, 143, 140]), (20, [3, 0], [50, 2, 0, 1146, 1147, 2, 6, 0, 2, 0, 0, 1, 0, 0, 6, 4, 2, 1, 0, 0, 1, 6, 3, 2, 1, 146, 2, 1, 147]), (20, [0, 6, 7, 9], [60, 2, 2, 507, 146, 147, 143, 140]), (20, [6, 0], [50, 2, 0, 1146, 1147, 2, 6, 0, 2, 0, 0, 1, 0, 0, 6, 4, 2, 1, 0, 0, 1, 6, 3, 2, 1, 146, 2, 1, 147]), (20, [5, 9], [50, 0, 0, 0, 6, 4, 2, 1, 0, 1, 1, 0, 1000000]), (20, [5], [50, 0, 0, 0, 2, 0, 0, 1, 0]), (20, [6, 3], [50, 0, 0, 7, 2, 1, 0, 1, 1]), (20, [0, 6, 7, 9, 10, 11, 12], [60, 2, 2, 508, 146, 147, 143, 140]), (20, [9, 13], [50, 0, 0, 2, 6, 0, 2, 0, 0, 1, 0, 0, 2, 1, 0, 1, 1]), (23, [13], [-1, -1]), (100, [20, 5, 23], []), (4, [22, 6, 17], []), (9, [17, 0], [146]), (9, [20, 0], [149]), (20, [0], [60, 2, 0, 494, 146, 147]), (20, [0, 3], [60, 2, 2, 504, 146, 147, 143, 140]), (20, [3, 0], [50, 2, 0, 1146, 1147, 2, 6, 0, 2, 0, 0, 1, 0, 0, 6, 4, 2, 1, 0, 0, 1, 6, 3, 2, 1, 146, 2, 1, 147]), (20, [0, 6, 7, 9], [60, 2, 2, 507, 146, 147, 143, 140]), (20, [6, 0], [50, 2, 0, 1146, 1147, 2, 6, 0, 2, 0, 0, 1, 0, 0, 6, 4, 2, 1, 0, 0, 1, 6, 3, 2, 1, 146, 2, 1, 147]), (20, [5, 9], [50, 0, 0, 0, 6, 4, 2, 1, 0, 1, 1, 0, 1000000]), (20, [5], [50, 0, 0, 0, 2, 0, 0, 1, 0]), (20, [6, 3], [50, 0, 0, 7, 2, 1, 0, 1, 1]), (20, [0, 6, 7, 9, 10, 11, 12], [60, 2, 2, 508, 146, 147, 143, 140]), (20, [9, 13], [50, 0, 0, 2, 6, 0, 2, 0, 0, 1, 0, 0, 2, 1, 0, 1, 1]), (23, [13], [-1, -1]), (100, [15, 5, 19], []), (5, [18, 6, 17], []), (9, [15, 0], [148]), (7, [5, 14], [2]), (7, [10, 7], [1]), (8, [12], [2]), (20, [0], [60, 2, 0, 494, 146, 147]), (20, [0, 3], [60, 2, 2, 504, 146, 147, 143, 140]), (20, [3, 0], [50, 2, 0, 1146, 1147, 2, 6, 0, 2, 0, 0, 1, 0, 0, 6, 4, 2, 1, 0, 0, 1, 6, 3, 2, 1, 146, 2, 1, 147]), (20, [0, 6, 7, 9], [60, 2, 2, 507, 146, 147, 143, 140]), (20, [6, 0], [50, 2, 0, 1146, 1147, 2, 6, 0, 2, 0, 0, 1, 0, 0, 6, 4, 2, 1, 0, 0, 1, 6, 3, 2, 1, 146, 2, 1, 147]), (20, [5, 9], [50, 0, 0, 0, 6, 4, 2, 1, 0, 1, 1, 0, 1000000]), (20, [5], [50, 0, 0, 0, 2, 0, 0, 1, 0]), (20, [6, 3], [50, 0, 0, 7, 2, 1, 0, 1, 1]), (20, [0, 6, 7, 9, 10, 11, 12], [60, 2, 2, 508, 146, 147, 143, 140]), (20, [9, 13], [50, 0, 0, 2, 6, 0, 2, 0, 0, 1, 0, 0, 2, 1, 0, 1, 1]), (23, [13], [-1, -1])], [(25, (0, 0, 5999, []))], [], [], [], [(24, 5, 1, 1), (18, 17, -4294967295, -1), (10, 9, -4294967296, 2), (11, 9, -4294967296, 0)])
theorem oo_Mo_bendsBecome_15 {kA : Nat → ClassId} : or_ok PRD kA GG o_Mo_bendsBecome_15 := by
  refine or_mk fun A ta ws vs hD hth hl => ?_
  intro t0 r0 t3 k3 t5 k5 t6 k6 t7 k7 t9 k9 t10 k10 t11 k11 t12 k12 t13 k13 t14 k14 t15 r15 t17 k17 t18 k18 t20 r20 t22 k22 t24 k24 t25 k25 d0 d1 d2 d3 f0 f1 f2 f3 f4 f5 f6 f7 f8 f9 f10 f11 f12 f13 ta1 w1 le1 s1 f15 f16 f17 f18 f19 f20 f21 f22 f23 f24 f25 f26 f27 f28 ta2 w2 le2 s2 f30 f31 f32 f33 f34 f35 f36 f37 f38 f39 f40 f41 f42 f43 f44 f45
  have s1 : (∀ b j, w_el ws b j = if b = v_ad (n_v vs 20) ∧ j = (v_iv (n_v vs 5)).toNat then v_iv (n_v vs 23) else w_el w1 b j) ∧ ∀ b k, w_fd ws b k = w_fd w1 b k := s1.2
  replace f15 := shm_34 f15
  replace f16 := shm_1288 f16
  replace f17 := shm_1416 f17
  replace f19 := shm_1411 f19
  replace f21 := shm_1413 f21
  replace f26 := shm_1415 f26
  have s2 : (∀ b j, w_el w1 b j = if b = v_ad (n_v vs 15) ∧ j = (v_iv (n_v vs 5)).toNat then v_iv (n_v vs 19) else w_el w2 b j) ∧ ∀ b k, w_fd w1 b k = w_fd w2 b k := s2.2
  replace f31 := shm_1417 f31
  replace f36 := shm_1411 f36
  replace f38 := shm_1413 f38
  replace f43 := shm_1415 f43
  have ar_0_140_1 : w_ar w1 (n_v vs 0) 140 = w_ar ws (n_v vs 0) 140 := congrArg v_ad (s1.2 _ _).symm
  have ar_0_140_2 : w_ar w2 (n_v vs 0) 140 = w_ar ws (n_v vs 0) 140 := by rw [← ar_0_140_1]; show v_ad (w_fd w2 _ _) = v_ad (w_fd w1 _ _); rw [s2.2]
  have cr_0_140 := fdq_175 hD hth r0
  have ar_0_143_1 : w_ar w1 (n_v vs 0) 143 = w_ar ws (n_v vs 0) 143 := congrArg v_ad (s1.2 _ _).symm
  have ar_0_143_2 : w_ar w2 (n_v vs 0) 143 = w_ar ws (n_v vs 0) 143 := by rw [← ar_0_143_1]; show v_ad (w_fd w2 _ _) = v_ad (w_fd w1 _ _); rw [s2.2]
  have cr_0_143 := fdq_178 hD hth r0
  have ar_0_148_1 : w_ar w1 (n_v vs 0) 148 = w_ar ws (n_v vs 0) 148 := congrArg v_ad (s1.2 _ _).symm
  have ar_0_148_2 : w_ar w2 (n_v vs 0) 148 = w_ar ws (n_v vs 0) 148 := by rw [← ar_0_148_1]; show v_ad (w_fd w2 _ _) = v_ad (w_fd w1 _ _); rw [s2.2]
  have cr_0_148 := fdq_290 hD hth r0
  have ar_0_149_1 : w_ar w1 (n_v vs 0) 149 = w_ar ws (n_v vs 0) 149 := congrArg v_ad (s1.2 _ _).symm
  have cr_0_149 := fdq_291 hD hth r0
  have ad_20 : v_ad (n_v vs 20) = w_ar ws (n_v vs 0) 149 := (congrArg v_ad f17).trans ar_0_149_1
  have ad_15 : v_ad (n_v vs 15) = w_ar ws (n_v vs 0) 148 := (congrArg v_ad f31).trans ar_0_148_2
  have g16 : v_iv (n_v vs 17) = w_fi w1 (n_v vs 0) 146 := congrArg v_iv f16
  simp only [ar_0_140_1, ar_0_143_1, ar_0_140_2, ar_0_143_2] at f19 f21 f26 f36 f38 f43
  have fe_0_146_1 : w_fi ws (n_v vs 0) 146 = w_fi w1 (n_v vs 0) 146 := congrArg v_iv (s1.2 _ _)
  have fe_0_147_1 : w_fi ws (n_v vs 0) 147 = w_fi w1 (n_v vs 0) 147 := congrArg v_iv (s1.2 _ _)
  have fe_0_146_2 : w_fi w1 (n_v vs 0) 146 = w_fi w2 (n_v vs 0) 146 := congrArg v_iv (s2.2 _ _)
  have fe_0_147_2 : w_fi w1 (n_v vs 0) 147 = w_fi w2 (n_v vs 0) 147 := congrArg v_iv (s2.2 _ _)
  have hE_0_140_1 : ∀ j : Int, w_ei ws (w_ar ws (n_v vs 0) 140) j = w_ei w1 (w_ar ws (n_v vs 0) 140) j := el_kp s1.1 r20 cr_0_140 (by decide)
  have hE_0_140_2 : ∀ j : Int, w_ei w1 (w_ar ws (n_v vs 0) 140) j = w_ei w2 (w_ar ws (n_v vs 0) 140) j := el_kp s2.1 r15 cr_0_140 (by decide)
  have hK_0_140 := elq_104 hD hth cr_0_140
  have hE_0_143_1 : ∀ j : Int, w_ei ws (w_ar ws (n_v vs 0) 143) j = w_ei w1 (w_ar ws (n_v vs 0) 143) j := el_kp s1.1 r20 cr_0_143 (by decide)
  have hE_0_143_2 : ∀ j : Int, w_ei w1 (w_ar ws (n_v vs 0) 143) j = w_ei w2 (w_ar ws (n_v vs 0) 143) j := el_kp s2.1 r15 cr_0_143 (by decide)
  have hK_0_143 := elq_107 hD hth cr_0_143
  have hE_0_148_1 : ∀ j : Int, w_ei ws (w_ar ws (n_v vs 0) 148) j = w_ei w1 (w_ar ws (n_v vs 0) 148) j := el_kp s1.1 r20 cr_0_148 (by decide)
  have hE_0_148_2 : ∀ j : Int, 0 ≤ j → (j = v_iv (n_v vs 5) → w_ei w1 (w_ar ws (n_v vs 0) 148) j = v_iv (n_v vs 19)) ∧ (j ≠ v_iv (n_v vs 5) → w_ei w1 (w_ar ws (n_v vs 0) 148) j = w_ei w2 (w_ar ws (n_v vs 0) 148) j) := fun j hj => ⟨fun h => by unfold w_ei; rw [s2.1, if_pos ⟨ad_15.symm, by rw [h]⟩], fun h => by unfold w_ei; rw [s2.1, if_neg (fun e => h (by have := e.2; omega))]⟩
  have hK_0_148 := elq_182 hD hth cr_0_148
  have hE_0_149_1 : ∀ j : Int, 0 ≤ j → (j = v_iv (n_v vs 5) → w_ei ws (w_ar ws (n_v vs 0) 149) j = v_iv (n_v vs 23)) ∧ (j ≠ v_iv (n_v vs 5) → w_ei ws (w_ar ws (n_v vs 0) 149) j = w_ei w1 (w_ar ws (n_v vs 0) 149) j) := fun j hj => ⟨fun h => by unfold w_ei; rw [s1.1, if_pos ⟨ad_20.symm, by rw [h]⟩], fun h => by unfold w_ei; rw [s1.1, if_neg (fun e => h (by have := e.2; omega))]⟩
  have hE_0_149_2 : ∀ j : Int, w_ei w1 (w_ar ws (n_v vs 0) 149) j = w_ei w2 (w_ar ws (n_v vs 0) 149) j := el_kp s2.1 r15 cr_0_149 (by decide)
  have hK_0_149 := elq_183 hD hth cr_0_149
  have kz_0_146 := fdq_179 hD hth r0
  have kz_0_147 := fdq_180 hD hth r0
  have hrf0 : 0 ≤ v_iv (n_v vs 25) ∧ v_iv (n_v vs 25) ≤ 5999 := vc_Mo_bendsBecome_15_r0 (v_iv (n_v vs 3)) (v_iv (n_v vs 5)) (v_iv (n_v vs 6)) (v_iv (n_v vs 7)) (v_iv (n_v vs 9)) (v_iv (n_v vs 10)) (v_iv (n_v vs 11)) (v_iv (n_v vs 12)) (v_iv (n_v vs 13)) (v_iv (n_v vs 14)) (v_iv (n_v vs 17)) (v_iv (n_v vs 18)) (v_iv (n_v vs 22)) (v_iv (n_v vs 24)) (v_iv (n_v vs 25)) (w_ei ws (w_ar ws (n_v vs 0) 143)) (w_fi ws (n_v vs 0) 146) (w_fi ws (n_v vs 0) 147) (w_ei ws (w_ar ws (n_v vs 0) 140)) (w_fi w1 (n_v vs 0) 146) (w_fi w1 (n_v vs 0) 147) (w_ei w1 (w_ar ws (n_v vs 0) 143)) (w_ei w1 (w_ar ws (n_v vs 0) 140)) (w_fi w2 (n_v vs 0) 146) (w_fi w2 (n_v vs 0) 147) (w_ei w2 (w_ar ws (n_v vs 0) 143)) (w_ei w2 (w_ar ws (n_v vs 0) 140)) (w_ei ws (w_ar ws (n_v vs 0) 148)) (w_ei w1 (w_ar ws (n_v vs 0) 148)) (w_ei w2 (w_ar ws (n_v vs 0) 148)) (v_iv (n_v vs 19)) (w_ei ws (w_ar ws (n_v vs 0) 149)) (w_ei w1 (w_ar ws (n_v vs 0) 149)) (v_iv (n_v vs 23)) (w_ei w2 (w_ar ws (n_v vs 0) 149)) k3 k5 k6 k7 k9 k10 k11 k12 k13 k14 k17 k18 k22 k24 k25 d0 d1 d2 d3 (shm_1291 f0) (shm_1292 f1) (shm_4 f2) (shm_1289 f3) (shm_1411 f4) (shm_1290 f5) (shm_1413 f6) (shm_1290 f7) (shm_1414 f8) (shm_722 f9) (shm_406 f10) (shm_1415 f11) (shm_366 f12) (shm_626 f13) f15 g16 (shm_1289 f18) f19 (shm_1290 f20) f21 (shm_1290 f22) (shm_1414 f23) (shm_722 f24) (shm_406 f25) f26 (shm_366 f27) (shm_626 f28) (shm_468 f30) (shm_6 f32) (shm_40 f33) (shm_39 f34) (shm_1289 f35) f36 (shm_1290 f37) f38 (shm_1290 f39) (shm_1414 f40) (shm_722 f41) (shm_406 f42) f43 (shm_366 f44) (shm_626 f45) fe_0_146_1 fe_0_147_1 fe_0_146_2 fe_0_147_2 hE_0_140_1 hE_0_140_2 hK_0_140 hE_0_143_1 hE_0_143_2 hK_0_143 hE_0_148_1 hE_0_148_2 hK_0_148 hE_0_149_1 hE_0_149_2 hK_0_149 kz_0_146 kz_0_147
  have rf25 : tv_ok ta (0, 0, 5999, []) (n_v vs 25) := tv_in t25 (by first | omega | grind) (by first | omega | grind)
  refine ⟨List.forall_mem_cons.mpr ⟨rf25, (fun _ h => (by cases h))⟩, [], trivial, ?_, (fun _ h => (by cases h))⟩
  rw [List.append_nil]
  exact (fun _ h => (by cases h))
set_option maxHeartbeats 4000000 in
theorem vc_Mo_bendsBecome_16_0 (x3 : Int) (x5 : Int) (x6 : Int) (x7 : Int) (x9 : Int) (x10 : Int) (x11 : Int) (x12 : Int) (x13 : Int) (x14 : Int) (x17 : Int) (x18 : Int) (x22 : Int) (x24 : Int) (x25 : Int) (barredPoint_0 : Int → Int) (wide_0 : Int) (tall_0 : Int) (costOf_0 : Int → Int) (wide_1 : Int) (tall_1 : Int) (barredPoint_1 : Int → Int) (costOf_1 : Int → Int) (wide_2 : Int) (tall_2 : Int) (barredPoint_2 : Int → Int) (costOf_2 : Int → Int) (turnX_0 : Int → Int) (turnX_1 : Int → Int) (turnX_2 : Int → Int) (x19 : Int) (turnY_0 : Int → Int) (turnY_1 : Int → Int) (x23 : Int) (turnY_2 : Int → Int) (gx : Int) (k3 : 0 ≤ x3 ∧ x3 ≤ 5999) (k5 : 0 ≤ x5 ∧ x5 ≤ 24) (k6 : 0 ≤ x6 ∧ x6 ≤ 5999) (k7 : 0 ≤ x7 ∧ x7 ≤ 3) (k9 : 0 ≤ x9 ∧ x9 ≤ 1000000) (k10 : 0 ≤ x10 ∧ x10 ≤ 3) (k11 : 0 ≤ x11 ∧ x11 ≤ 999999) (k12 : (-1) ≤ x12 ∧ x12 ≤ (-1)) (k13 : (-2) ≤ x13 ∧ x13 ≤ 1000000) (k14 : 25 ≤ x14 ∧ x14 ≤ 25) (k17 : 1 ≤ x17 ∧ x17 ≤ 6000) (k18 : 0 ≤ x18 ∧ x18 ≤ 5999) (k22 : 0 ≤ x22 ∧ x22 ≤ 5999) (k24 : 1 ≤ x24 ∧ x24 ≤ 25) (k25 : 0 ≤ x25 ∧ x25 ≤ 5999) (d0 : x5 + 1 ≤ x24 ∧ x24 ≤ x5 + 1) (d1 : x17 + (-4294967295) ≤ x18 ∧ x18 ≤ x17 + (-1)) (d2 : x9 + (-4294967296) ≤ x10 ∧ x10 ≤ x9 + 2) (d3 : x9 + (-4294967296) ≤ x11 ∧ x11 ≤ x9 + 0) (f0 : STQ (wide_0) (tall_0) (barredPoint_0) (x6) (x10) (x25)) (f1 : ((-1) ≤ x25) ∧ ((x25 + 1) ≤ (wide_0 * tall_0))) (f2 : x24 = x5 + 1) (f3 : GRX (wide_0) (tall_0)) (f4 : RTV (wide_0) (tall_0) (barredPoint_0) (costOf_0) (x3)) (f5 : (0 ≤ x3) ∧ ((x3 + 1) ≤ (wide_0 * tall_0))) (f6 : BB2 (wide_0) (tall_0) (barredPoint_0) (costOf_0) (x6) (x7) (x9)) (f7 : (0 ≤ x6) ∧ ((x6 + 1) ≤ (wide_0 * tall_0))) (f8 : (x5 + x9) ≤ 1000000) (f9 : 0 ≤ x5) (f10 : x6 ≠ x3) (f11 : BB3 (wide_0) (tall_0) (barredPoint_0) (costOf_0) (x6) (x7) (x9) (x10) (x11) (x12)) (f12 : (0 ≤ x9) ∧ (x9 ≤ x13)) (f13 : (-1) * x13 + 0 ≤ (-1)) (f15 : x22 = Int.tdiv (x6) (x17)) (g16 : x17 = wide_1) (f18 : GRX (wide_1) (tall_1)) (f19 : RTV (wide_1) (tall_1) (barredPoint_1) (costOf_1) (x3)) (f20 : (0 ≤ x3) ∧ ((x3 + 1) ≤ (wide_1 * tall_1))) (f21 : BB2 (wide_1) (tall_1) (barredPoint_1) (costOf_1) (x6) (x7) (x9)) (f22 : (0 ≤ x6) ∧ ((x6 + 1) ≤ (wide_1 * tall_1))) (f23 : (x5 + x9) ≤ 1000000) (f24 : 0 ≤ x5) (f25 : x6 ≠ x3) (f26 : BB3 (wide_1) (tall_1) (barredPoint_1) (costOf_1) (x6) (x7) (x9) (x10) (x11) (x12)) (f27 : (0 ≤ x9) ∧ (x9 ≤ x13)) (f28 : (-1) * x13 + 0 ≤ (-1)) (f30 : x18 = Int.tmod (x6) (x17)) (f32 : x5 < x14) (f33 : x10 ≠ x7) (f34 : x12 < 0) (f35 : GRX (wide_2) (tall_2)) (f36 : RTV (wide_2) (tall_2) (barredPoint_2) (costOf_2) (x3)) (f37 : (0 ≤ x3) ∧ ((x3 + 1) ≤ (wide_2 * tall_2))) (f38 : BB2 (wide_2) (tall_2) (barredPoint_2) (costOf_2) (x6) (x7) (x9)) (f39 : (0 ≤ x6) ∧ ((x6 + 1) ≤ (wide_2 * tall_2))) (f40 : (x5 + x9) ≤ 1000000) (f41 : 0 ≤ x5) (f42 : x6 ≠ x3) (f43 : BB3 (wide_2) (tall_2) (barredPoint_2) (costOf_2) (x6) (x7) (x9) (x10) (x11) (x12)) (f44 : (0 ≤ x9) ∧ (x9 ≤ x13)) (f45 : (-1) * x13 + 0 ≤ (-1)) (fe_0_146_1 : wide_0 = wide_1) (fe_0_147_1 : tall_0 = tall_1) (fe_0_146_2 : wide_1 = wide_2) (fe_0_147_2 : tall_1 = tall_2) (hE_0_140_1 : ∀ j : Int, costOf_0 j = costOf_1 j) (hE_0_140_2 : ∀ j : Int, costOf_1 j = costOf_2 j) (hK_0_140 : ∀ j : Int, 0 ≤ j → j < 24000 → 0 ≤ costOf_0 j ∧ costOf_0 j ≤ 1000000) (hE_0_143_1 : ∀ j : Int, barredPoint_0 j = barredPoint_1 j) (hE_0_143_2 : ∀ j : Int, barredPoint_1 j = barredPoint_2 j) (hK_0_143 : ∀ j : Int, 0 ≤ j → j < 6000 → 0 ≤ barredPoint_0 j ∧ barredPoint_0 j ≤ 1) (hE_0_148_1 : ∀ j : Int, turnX_0 j = turnX_1 j) (hE_0_148_2 : ∀ j : Int, 0 ≤ j → (j = x5 → turnX_1 j = x19) ∧ (j ≠ x5 → turnX_1 j = turnX_2 j)) (hK_0_148 : ∀ j : Int, 0 ≤ j → j < 26 → (-300000011) ≤ turnX_0 j ∧ turnX_0 j ≤ 2005999) (hE_0_149_1 : ∀ j : Int, 0 ≤ j → (j = x5 → turnY_0 j = x23) ∧ (j ≠ x5 → turnY_0 j = turnY_1 j)) (hE_0_149_2 : ∀ j : Int, turnY_1 j = turnY_2 j) (hK_0_149 : ∀ j : Int, 0 ≤ j → j < 26 → (-300000003) ≤ turnY_0 j ∧ turnY_0 j ≤ 2005999) (kz_0_146 : (-3999999) ≤ wide_0 ∧ wide_0 ≤ 600000023) (kz_0_147 : (-3999999) ≤ tall_0 ∧ tall_0 ≤ 600000007) (ex2 : gx = (-1) + (1 * x13 + 0)) (ex3 : (-2) ≤ gx ∧ gx ≤ 1000000) : GRX (wide_0) (tall_0) := by
  subst fe_0_146_1
  subst fe_0_147_1
  subst fe_0_146_2
  subst fe_0_147_2
  have e_hE_0_140_1 := funext hE_0_140_1; subst e_hE_0_140_1
  have e_hE_0_140_2 := funext hE_0_140_2; subst e_hE_0_140_2
  have e_hE_0_143_1 := funext hE_0_143_1; subst e_hE_0_143_1
  have e_hE_0_143_2 := funext hE_0_143_2; subst e_hE_0_143_2
  have e_hE_0_148_1 := funext hE_0_148_1; subst e_hE_0_148_1
  have e_hE_0_149_2 := funext hE_0_149_2; subst e_hE_0_149_2
  assumption
set_option maxHeartbeats 4000000 in
theorem vc_Mo_bendsBecome_16_1 (x3 : Int) (x5 : Int) (x6 : Int) (x7 : Int) (x9 : Int) (x10 : Int) (x11 : Int) (x12 : Int) (x13 : Int) (x14 : Int) (x17 : Int) (x18 : Int) (x22 : Int) (x24 : Int) (x25 : Int) (barredPoint_0 : Int → Int) (wide_0 : Int) (tall_0 : Int) (costOf_0 : Int → Int) (wide_1 : Int) (tall_1 : Int) (barredPoint_1 : Int → Int) (costOf_1 : Int → Int) (wide_2 : Int) (tall_2 : Int) (barredPoint_2 : Int → Int) (costOf_2 : Int → Int) (turnX_0 : Int → Int) (turnX_1 : Int → Int) (turnX_2 : Int → Int) (x19 : Int) (turnY_0 : Int → Int) (turnY_1 : Int → Int) (x23 : Int) (turnY_2 : Int → Int) (gx : Int) (k3 : 0 ≤ x3 ∧ x3 ≤ 5999) (k5 : 0 ≤ x5 ∧ x5 ≤ 24) (k6 : 0 ≤ x6 ∧ x6 ≤ 5999) (k7 : 0 ≤ x7 ∧ x7 ≤ 3) (k9 : 0 ≤ x9 ∧ x9 ≤ 1000000) (k10 : 0 ≤ x10 ∧ x10 ≤ 3) (k11 : 0 ≤ x11 ∧ x11 ≤ 999999) (k12 : (-1) ≤ x12 ∧ x12 ≤ (-1)) (k13 : (-2) ≤ x13 ∧ x13 ≤ 1000000) (k14 : 25 ≤ x14 ∧ x14 ≤ 25) (k17 : 1 ≤ x17 ∧ x17 ≤ 6000) (k18 : 0 ≤ x18 ∧ x18 ≤ 5999) (k22 : 0 ≤ x22 ∧ x22 ≤ 5999) (k24 : 1 ≤ x24 ∧ x24 ≤ 25) (k25 : 0 ≤ x25 ∧ x25 ≤ 5999) (d0 : x5 + 1 ≤ x24 ∧ x24 ≤ x5 + 1) (d1 : x17 + (-4294967295) ≤ x18 ∧ x18 ≤ x17 + (-1)) (d2 : x9 + (-4294967296) ≤ x10 ∧ x10 ≤ x9 + 2) (d3 : x9 + (-4294967296) ≤ x11 ∧ x11 ≤ x9 + 0) (f0 : STQ (wide_0) (tall_0) (barredPoint_0) (x6) (x10) (x25)) (f1 : ((-1) ≤ x25) ∧ ((x25 + 1) ≤ (wide_0 * tall_0))) (f2 : x24 = x5 + 1) (f3 : GRX (wide_0) (tall_0)) (f4 : RTV (wide_0) (tall_0) (barredPoint_0) (costOf_0) (x3)) (f5 : (0 ≤ x3) ∧ ((x3 + 1) ≤ (wide_0 * tall_0))) (f6 : BB2 (wide_0) (tall_0) (barredPoint_0) (costOf_0) (x6) (x7) (x9)) (f7 : (0 ≤ x6) ∧ ((x6 + 1) ≤ (wide_0 * tall_0))) (f8 : (x5 + x9) ≤ 1000000) (f9 : 0 ≤ x5) (f10 : x6 ≠ x3) (f11 : BB3 (wide_0) (tall_0) (barredPoint_0) (costOf_0) (x6) (x7) (x9) (x10) (x11) (x12)) (f12 : (0 ≤ x9) ∧ (x9 ≤ x13)) (f13 : (-1) * x13 + 0 ≤ (-1)) (f15 : x22 = Int.tdiv (x6) (x17)) (g16 : x17 = wide_1) (f18 : GRX (wide_1) (tall_1)) (f19 : RTV (wide_1) (tall_1) (barredPoint_1) (costOf_1) (x3)) (f20 : (0 ≤ x3) ∧ ((x3 + 1) ≤ (wide_1 * tall_1))) (f21 : BB2 (wide_1) (tall_1) (barredPoint_1) (costOf_1) (x6) (x7) (x9)) (f22 : (0 ≤ x6) ∧ ((x6 + 1) ≤ (wide_1 * tall_1))) (f23 : (x5 + x9) ≤ 1000000) (f24 : 0 ≤ x5) (f25 : x6 ≠ x3) (f26 : BB3 (wide_1) (tall_1) (barredPoint_1) (costOf_1) (x6) (x7) (x9) (x10) (x11) (x12)) (f27 : (0 ≤ x9) ∧ (x9 ≤ x13)) (f28 : (-1) * x13 + 0 ≤ (-1)) (f30 : x18 = Int.tmod (x6) (x17)) (f32 : x5 < x14) (f33 : x10 ≠ x7) (f34 : x12 < 0) (f35 : GRX (wide_2) (tall_2)) (f36 : RTV (wide_2) (tall_2) (barredPoint_2) (costOf_2) (x3)) (f37 : (0 ≤ x3) ∧ ((x3 + 1) ≤ (wide_2 * tall_2))) (f38 : BB2 (wide_2) (tall_2) (barredPoint_2) (costOf_2) (x6) (x7) (x9)) (f39 : (0 ≤ x6) ∧ ((x6 + 1) ≤ (wide_2 * tall_2))) (f40 : (x5 + x9) ≤ 1000000) (f41 : 0 ≤ x5) (f42 : x6 ≠ x3) (f43 : BB3 (wide_2) (tall_2) (barredPoint_2) (costOf_2) (x6) (x7) (x9) (x10) (x11) (x12)) (f44 : (0 ≤ x9) ∧ (x9 ≤ x13)) (f45 : (-1) * x13 + 0 ≤ (-1)) (fe_0_146_1 : wide_0 = wide_1) (fe_0_147_1 : tall_0 = tall_1) (fe_0_146_2 : wide_1 = wide_2) (fe_0_147_2 : tall_1 = tall_2) (hE_0_140_1 : ∀ j : Int, costOf_0 j = costOf_1 j) (hE_0_140_2 : ∀ j : Int, costOf_1 j = costOf_2 j) (hK_0_140 : ∀ j : Int, 0 ≤ j → j < 24000 → 0 ≤ costOf_0 j ∧ costOf_0 j ≤ 1000000) (hE_0_143_1 : ∀ j : Int, barredPoint_0 j = barredPoint_1 j) (hE_0_143_2 : ∀ j : Int, barredPoint_1 j = barredPoint_2 j) (hK_0_143 : ∀ j : Int, 0 ≤ j → j < 6000 → 0 ≤ barredPoint_0 j ∧ barredPoint_0 j ≤ 1) (hE_0_148_1 : ∀ j : Int, turnX_0 j = turnX_1 j) (hE_0_148_2 : ∀ j : Int, 0 ≤ j → (j = x5 → turnX_1 j = x19) ∧ (j ≠ x5 → turnX_1 j = turnX_2 j)) (hK_0_148 : ∀ j : Int, 0 ≤ j → j < 26 → (-300000011) ≤ turnX_0 j ∧ turnX_0 j ≤ 2005999) (hE_0_149_1 : ∀ j : Int, 0 ≤ j → (j = x5 → turnY_0 j = x23) ∧ (j ≠ x5 → turnY_0 j = turnY_1 j)) (hE_0_149_2 : ∀ j : Int, turnY_1 j = turnY_2 j) (hK_0_149 : ∀ j : Int, 0 ≤ j → j < 26 → (-300000003) ≤ turnY_0 j ∧ turnY_0 j ≤ 2005999) (kz_0_146 : (-3999999) ≤ wide_0 ∧ wide_0 ≤ 600000023) (kz_0_147 : (-3999999) ≤ tall_0 ∧ tall_0 ≤ 600000007) (ex2 : gx = (-1) + (1 * x13 + 0)) (ex3 : (-2) ≤ gx ∧ gx ≤ 1000000) : RTV (wide_0) (tall_0) (barredPoint_0) (costOf_0) (x3) := by
  subst fe_0_146_1
  subst fe_0_147_1
  subst fe_0_146_2
  subst fe_0_147_2
  have e_hE_0_140_1 := funext hE_0_140_1; subst e_hE_0_140_1
  have e_hE_0_140_2 := funext hE_0_140_2; subst e_hE_0_140_2
  have e_hE_0_143_1 := funext hE_0_143_1; subst e_hE_0_143_1
  have e_hE_0_143_2 := funext hE_0_143_2; subst e_hE_0_143_2
  have e_hE_0_148_1 := funext hE_0_148_1; subst e_hE_0_148_1
  have e_hE_0_149_2 := funext hE_0_149_2; subst e_hE_0_149_2
  assumption
set_option maxHeartbeats 4000000 in
theorem vc_Mo_bendsBecome_16_2 (x3 : Int) (x5 : Int) (x6 : Int) (x7 : Int) (x9 : Int) (x10 : Int) (x11 : Int) (x12 : Int) (x13 : Int) (x14 : Int) (x17 : Int) (x18 : Int) (x22 : Int) (x24 : Int) (x25 : Int) (barredPoint_0 : Int → Int) (wide_0 : Int) (tall_0 : Int) (costOf_0 : Int → Int) (wide_1 : Int) (tall_1 : Int) (barredPoint_1 : Int → Int) (costOf_1 : Int → Int) (wide_2 : Int) (tall_2 : Int) (barredPoint_2 : Int → Int) (costOf_2 : Int → Int) (turnX_0 : Int → Int) (turnX_1 : Int → Int) (turnX_2 : Int → Int) (x19 : Int) (turnY_0 : Int → Int) (turnY_1 : Int → Int) (x23 : Int) (turnY_2 : Int → Int) (gx : Int) (k3 : 0 ≤ x3 ∧ x3 ≤ 5999) (k5 : 0 ≤ x5 ∧ x5 ≤ 24) (k6 : 0 ≤ x6 ∧ x6 ≤ 5999) (k7 : 0 ≤ x7 ∧ x7 ≤ 3) (k9 : 0 ≤ x9 ∧ x9 ≤ 1000000) (k10 : 0 ≤ x10 ∧ x10 ≤ 3) (k11 : 0 ≤ x11 ∧ x11 ≤ 999999) (k12 : (-1) ≤ x12 ∧ x12 ≤ (-1)) (k13 : (-2) ≤ x13 ∧ x13 ≤ 1000000) (k14 : 25 ≤ x14 ∧ x14 ≤ 25) (k17 : 1 ≤ x17 ∧ x17 ≤ 6000) (k18 : 0 ≤ x18 ∧ x18 ≤ 5999) (k22 : 0 ≤ x22 ∧ x22 ≤ 5999) (k24 : 1 ≤ x24 ∧ x24 ≤ 25) (k25 : 0 ≤ x25 ∧ x25 ≤ 5999) (d0 : x5 + 1 ≤ x24 ∧ x24 ≤ x5 + 1) (d1 : x17 + (-4294967295) ≤ x18 ∧ x18 ≤ x17 + (-1)) (d2 : x9 + (-4294967296) ≤ x10 ∧ x10 ≤ x9 + 2) (d3 : x9 + (-4294967296) ≤ x11 ∧ x11 ≤ x9 + 0) (f0 : STQ (wide_0) (tall_0) (barredPoint_0) (x6) (x10) (x25)) (f1 : ((-1) ≤ x25) ∧ ((x25 + 1) ≤ (wide_0 * tall_0))) (f2 : x24 = x5 + 1) (f3 : GRX (wide_0) (tall_0)) (f4 : RTV (wide_0) (tall_0) (barredPoint_0) (costOf_0) (x3)) (f5 : (0 ≤ x3) ∧ ((x3 + 1) ≤ (wide_0 * tall_0))) (f6 : BB2 (wide_0) (tall_0) (barredPoint_0) (costOf_0) (x6) (x7) (x9)) (f7 : (0 ≤ x6) ∧ ((x6 + 1) ≤ (wide_0 * tall_0))) (f8 : (x5 + x9) ≤ 1000000) (f9 : 0 ≤ x5) (f10 : x6 ≠ x3) (f11 : BB3 (wide_0) (tall_0) (barredPoint_0) (costOf_0) (x6) (x7) (x9) (x10) (x11) (x12)) (f12 : (0 ≤ x9) ∧ (x9 ≤ x13)) (f13 : (-1) * x13 + 0 ≤ (-1)) (f15 : x22 = Int.tdiv (x6) (x17)) (g16 : x17 = wide_1) (f18 : GRX (wide_1) (tall_1)) (f19 : RTV (wide_1) (tall_1) (barredPoint_1) (costOf_1) (x3)) (f20 : (0 ≤ x3) ∧ ((x3 + 1) ≤ (wide_1 * tall_1))) (f21 : BB2 (wide_1) (tall_1) (barredPoint_1) (costOf_1) (x6) (x7) (x9)) (f22 : (0 ≤ x6) ∧ ((x6 + 1) ≤ (wide_1 * tall_1))) (f23 : (x5 + x9) ≤ 1000000) (f24 : 0 ≤ x5) (f25 : x6 ≠ x3) (f26 : BB3 (wide_1) (tall_1) (barredPoint_1) (costOf_1) (x6) (x7) (x9) (x10) (x11) (x12)) (f27 : (0 ≤ x9) ∧ (x9 ≤ x13)) (f28 : (-1) * x13 + 0 ≤ (-1)) (f30 : x18 = Int.tmod (x6) (x17)) (f32 : x5 < x14) (f33 : x10 ≠ x7) (f34 : x12 < 0) (f35 : GRX (wide_2) (tall_2)) (f36 : RTV (wide_2) (tall_2) (barredPoint_2) (costOf_2) (x3)) (f37 : (0 ≤ x3) ∧ ((x3 + 1) ≤ (wide_2 * tall_2))) (f38 : BB2 (wide_2) (tall_2) (barredPoint_2) (costOf_2) (x6) (x7) (x9)) (f39 : (0 ≤ x6) ∧ ((x6 + 1) ≤ (wide_2 * tall_2))) (f40 : (x5 + x9) ≤ 1000000) (f41 : 0 ≤ x5) (f42 : x6 ≠ x3) (f43 : BB3 (wide_2) (tall_2) (barredPoint_2) (costOf_2) (x6) (x7) (x9) (x10) (x11) (x12)) (f44 : (0 ≤ x9) ∧ (x9 ≤ x13)) (f45 : (-1) * x13 + 0 ≤ (-1)) (fe_0_146_1 : wide_0 = wide_1) (fe_0_147_1 : tall_0 = tall_1) (fe_0_146_2 : wide_1 = wide_2) (fe_0_147_2 : tall_1 = tall_2) (hE_0_140_1 : ∀ j : Int, costOf_0 j = costOf_1 j) (hE_0_140_2 : ∀ j : Int, costOf_1 j = costOf_2 j) (hK_0_140 : ∀ j : Int, 0 ≤ j → j < 24000 → 0 ≤ costOf_0 j ∧ costOf_0 j ≤ 1000000) (hE_0_143_1 : ∀ j : Int, barredPoint_0 j = barredPoint_1 j) (hE_0_143_2 : ∀ j : Int, barredPoint_1 j = barredPoint_2 j) (hK_0_143 : ∀ j : Int, 0 ≤ j → j < 6000 → 0 ≤ barredPoint_0 j ∧ barredPoint_0 j ≤ 1) (hE_0_148_1 : ∀ j : Int, turnX_0 j = turnX_1 j) (hE_0_148_2 : ∀ j : Int, 0 ≤ j → (j = x5 → turnX_1 j = x19) ∧ (j ≠ x5 → turnX_1 j = turnX_2 j)) (hK_0_148 : ∀ j : Int, 0 ≤ j → j < 26 → (-300000011) ≤ turnX_0 j ∧ turnX_0 j ≤ 2005999) (hE_0_149_1 : ∀ j : Int, 0 ≤ j → (j = x5 → turnY_0 j = x23) ∧ (j ≠ x5 → turnY_0 j = turnY_1 j)) (hE_0_149_2 : ∀ j : Int, turnY_1 j = turnY_2 j) (hK_0_149 : ∀ j : Int, 0 ≤ j → j < 26 → (-300000003) ≤ turnY_0 j ∧ turnY_0 j ≤ 2005999) (kz_0_146 : (-3999999) ≤ wide_0 ∧ wide_0 ≤ 600000023) (kz_0_147 : (-3999999) ≤ tall_0 ∧ tall_0 ≤ 600000007) (ex2 : gx = (-1) + (1 * x13 + 0)) (ex3 : (-2) ≤ gx ∧ gx ≤ 1000000) : (0 ≤ x3) ∧ ((x3 + 1) ≤ (wide_0 * tall_0)) := by
  subst fe_0_146_1
  subst fe_0_147_1
  subst fe_0_146_2
  subst fe_0_147_2
  have e_hE_0_140_1 := funext hE_0_140_1; subst e_hE_0_140_1
  have e_hE_0_140_2 := funext hE_0_140_2; subst e_hE_0_140_2
  have e_hE_0_143_1 := funext hE_0_143_1; subst e_hE_0_143_1
  have e_hE_0_143_2 := funext hE_0_143_2; subst e_hE_0_143_2
  have e_hE_0_148_1 := funext hE_0_148_1; subst e_hE_0_148_1
  have e_hE_0_149_2 := funext hE_0_149_2; subst e_hE_0_149_2
  first
    | omega
    | (have h := bb2_start (t := x13) ‹RTV _ _ _ _ _› ‹BB1 _ _ _ _ _ _ _ _› (by omega) ‹STQ _ _ _ _ _ _› (by omega)
       have h1 := h.1
       have h2 := h.2.2.2.2
       omega)
    | (have h := bb_next ‹RTV _ _ _ _ _› ‹BB2 _ _ _ _ _ _ _› ‹BB3 _ _ _ _ _ _ _ _ _ _› (by omega) (by omega)
       have h1 := h.1.1
       have h2 := h.2
       omega)
set_option maxHeartbeats 4000000 in
theorem vc_Mo_bendsBecome_16_3 (x3 : Int) (x5 : Int) (x6 : Int) (x7 : Int) (x9 : Int) (x10 : Int) (x11 : Int) (x12 : Int) (x13 : Int) (x14 : Int) (x17 : Int) (x18 : Int) (x22 : Int) (x24 : Int) (x25 : Int) (barredPoint_0 : Int → Int) (wide_0 : Int) (tall_0 : Int) (costOf_0 : Int → Int) (wide_1 : Int) (tall_1 : Int) (barredPoint_1 : Int → Int) (costOf_1 : Int → Int) (wide_2 : Int) (tall_2 : Int) (barredPoint_2 : Int → Int) (costOf_2 : Int → Int) (turnX_0 : Int → Int) (turnX_1 : Int → Int) (turnX_2 : Int → Int) (x19 : Int) (turnY_0 : Int → Int) (turnY_1 : Int → Int) (x23 : Int) (turnY_2 : Int → Int) (gx : Int) (k3 : 0 ≤ x3 ∧ x3 ≤ 5999) (k5 : 0 ≤ x5 ∧ x5 ≤ 24) (k6 : 0 ≤ x6 ∧ x6 ≤ 5999) (k7 : 0 ≤ x7 ∧ x7 ≤ 3) (k9 : 0 ≤ x9 ∧ x9 ≤ 1000000) (k10 : 0 ≤ x10 ∧ x10 ≤ 3) (k11 : 0 ≤ x11 ∧ x11 ≤ 999999) (k12 : (-1) ≤ x12 ∧ x12 ≤ (-1)) (k13 : (-2) ≤ x13 ∧ x13 ≤ 1000000) (k14 : 25 ≤ x14 ∧ x14 ≤ 25) (k17 : 1 ≤ x17 ∧ x17 ≤ 6000) (k18 : 0 ≤ x18 ∧ x18 ≤ 5999) (k22 : 0 ≤ x22 ∧ x22 ≤ 5999) (k24 : 1 ≤ x24 ∧ x24 ≤ 25) (k25 : 0 ≤ x25 ∧ x25 ≤ 5999) (d0 : x5 + 1 ≤ x24 ∧ x24 ≤ x5 + 1) (d1 : x17 + (-4294967295) ≤ x18 ∧ x18 ≤ x17 + (-1)) (d2 : x9 + (-4294967296) ≤ x10 ∧ x10 ≤ x9 + 2) (d3 : x9 + (-4294967296) ≤ x11 ∧ x11 ≤ x9 + 0) (f0 : STQ (wide_0) (tall_0) (barredPoint_0) (x6) (x10) (x25)) (f1 : ((-1) ≤ x25) ∧ ((x25 + 1) ≤ (wide_0 * tall_0))) (f2 : x24 = x5 + 1) (f3 : GRX (wide_0) (tall_0)) (f4 : RTV (wide_0) (tall_0) (barredPoint_0) (costOf_0) (x3)) (f5 : (0 ≤ x3) ∧ ((x3 + 1) ≤ (wide_0 * tall_0))) (f6 : BB2 (wide_0) (tall_0) (barredPoint_0) (costOf_0) (x6) (x7) (x9)) (f7 : (0 ≤ x6) ∧ ((x6 + 1) ≤ (wide_0 * tall_0))) (f8 : (x5 + x9) ≤ 1000000) (f9 : 0 ≤ x5) (f10 : x6 ≠ x3) (f11 : BB3 (wide_0) (tall_0) (barredPoint_0) (costOf_0) (x6) (x7) (x9) (x10) (x11) (x12)) (f12 : (0 ≤ x9) ∧ (x9 ≤ x13)) (f13 : (-1) * x13 + 0 ≤ (-1)) (f15 : x22 = Int.tdiv (x6) (x17)) (g16 : x17 = wide_1) (f18 : GRX (wide_1) (tall_1)) (f19 : RTV (wide_1) (tall_1) (barredPoint_1) (costOf_1) (x3)) (f20 : (0 ≤ x3) ∧ ((x3 + 1) ≤ (wide_1 * tall_1))) (f21 : BB2 (wide_1) (tall_1) (barredPoint_1) (costOf_1) (x6) (x7) (x9)) (f22 : (0 ≤ x6) ∧ ((x6 + 1) ≤ (wide_1 * tall_1))) (f23 : (x5 + x9) ≤ 1000000) (f24 : 0 ≤ x5) (f25 : x6 ≠ x3) (f26 : BB3 (wide_1) (tall_1) (barredPoint_1) (costOf_1) (x6) (x7) (x9) (x10) (x11) (x12)) (f27 : (0 ≤ x9) ∧ (x9 ≤ x13)) (f28 : (-1) * x13 + 0 ≤ (-1)) (f30 : x18 = Int.tmod (x6) (x17)) (f32 : x5 < x14) (f33 : x10 ≠ x7) (f34 : x12 < 0) (f35 : GRX (wide_2) (tall_2)) (f36 : RTV (wide_2) (tall_2) (barredPoint_2) (costOf_2) (x3)) (f37 : (0 ≤ x3) ∧ ((x3 + 1) ≤ (wide_2 * tall_2))) (f38 : BB2 (wide_2) (tall_2) (barredPoint_2) (costOf_2) (x6) (x7) (x9)) (f39 : (0 ≤ x6) ∧ ((x6 + 1) ≤ (wide_2 * tall_2))) (f40 : (x5 + x9) ≤ 1000000) (f41 : 0 ≤ x5) (f42 : x6 ≠ x3) (f43 : BB3 (wide_2) (tall_2) (barredPoint_2) (costOf_2) (x6) (x7) (x9) (x10) (x11) (x12)) (f44 : (0 ≤ x9) ∧ (x9 ≤ x13)) (f45 : (-1) * x13 + 0 ≤ (-1)) (fe_0_146_1 : wide_0 = wide_1) (fe_0_147_1 : tall_0 = tall_1) (fe_0_146_2 : wide_1 = wide_2) (fe_0_147_2 : tall_1 = tall_2) (hE_0_140_1 : ∀ j : Int, costOf_0 j = costOf_1 j) (hE_0_140_2 : ∀ j : Int, costOf_1 j = costOf_2 j) (hK_0_140 : ∀ j : Int, 0 ≤ j → j < 24000 → 0 ≤ costOf_0 j ∧ costOf_0 j ≤ 1000000) (hE_0_143_1 : ∀ j : Int, barredPoint_0 j = barredPoint_1 j) (hE_0_143_2 : ∀ j : Int, barredPoint_1 j = barredPoint_2 j) (hK_0_143 : ∀ j : Int, 0 ≤ j → j < 6000 → 0 ≤ barredPoint_0 j ∧ barredPoint_0 j ≤ 1) (hE_0_148_1 : ∀ j : Int, turnX_0 j = turnX_1 j) (hE_0_148_2 : ∀ j : Int, 0 ≤ j → (j = x5 → turnX_1 j = x19) ∧ (j ≠ x5 → turnX_1 j = turnX_2 j)) (hK_0_148 : ∀ j : Int, 0 ≤ j → j < 26 → (-300000011) ≤ turnX_0 j ∧ turnX_0 j ≤ 2005999) (hE_0_149_1 : ∀ j : Int, 0 ≤ j → (j = x5 → turnY_0 j = x23) ∧ (j ≠ x5 → turnY_0 j = turnY_1 j)) (hE_0_149_2 : ∀ j : Int, turnY_1 j = turnY_2 j) (hK_0_149 : ∀ j : Int, 0 ≤ j → j < 26 → (-300000003) ≤ turnY_0 j ∧ turnY_0 j ≤ 2005999) (kz_0_146 : (-3999999) ≤ wide_0 ∧ wide_0 ≤ 600000023) (kz_0_147 : (-3999999) ≤ tall_0 ∧ tall_0 ≤ 600000007) (ex2 : gx = (-1) + (1 * x13 + 0)) (ex3 : (-2) ≤ gx ∧ gx ≤ 1000000) : BB2 (wide_0) (tall_0) (barredPoint_0) (costOf_0) (x25) (x10) (x11) := by
  subst fe_0_146_1
  subst fe_0_147_1
  subst fe_0_146_2
  subst fe_0_147_2
  have e_hE_0_140_1 := funext hE_0_140_1; subst e_hE_0_140_1
  have e_hE_0_140_2 := funext hE_0_140_2; subst e_hE_0_140_2
  have e_hE_0_143_1 := funext hE_0_143_1; subst e_hE_0_143_1
  have e_hE_0_143_2 := funext hE_0_143_2; subst e_hE_0_143_2
  have e_hE_0_148_1 := funext hE_0_148_1; subst e_hE_0_148_1
  have e_hE_0_149_2 := funext hE_0_149_2; subst e_hE_0_149_2
  first
    | exact bb2_start ‹RTV _ _ _ _ _› ‹BB1 _ _ _ _ _ _ _ _› (by omega) ‹STQ _ _ _ _ _ _› (by omega)
    | exact bb2_next ‹RTV _ _ _ _ _› ‹BB2 _ _ _ _ _ _ _› ‹BB3 _ _ _ _ _ _ _ _ _ _› (by omega) (by omega) ‹STQ _ _ _ _ _ _›
  
set_option maxHeartbeats 4000000 in
theorem vc_Mo_bendsBecome_16_4 (x3 : Int) (x5 : Int) (x6 : Int) (x7 : Int) (x9 : Int) (x10 : Int) (x11 : Int) (x12 : Int) (x13 : Int) (x14 : Int) (x17 : Int) (x18 : Int) (x22 : Int) (x24 : Int) (x25 : Int) (barredPoint_0 : Int → Int) (wide_0 : Int) (tall_0 : Int) (costOf_0 : Int → Int) (wide_1 : Int) (tall_1 : Int) (barredPoint_1 : Int → Int) (costOf_1 : Int → Int) (wide_2 : Int) (tall_2 : Int) (barredPoint_2 : Int → Int) (costOf_2 : Int → Int) (turnX_0 : Int → Int) (turnX_1 : Int → Int) (turnX_2 : Int → Int) (x19 : Int) (turnY_0 : Int → Int) (turnY_1 : Int → Int) (x23 : Int) (turnY_2 : Int → Int) (gx : Int) (k3 : 0 ≤ x3 ∧ x3 ≤ 5999) (k5 : 0 ≤ x5 ∧ x5 ≤ 24) (k6 : 0 ≤ x6 ∧ x6 ≤ 5999) (k7 : 0 ≤ x7 ∧ x7 ≤ 3) (k9 : 0 ≤ x9 ∧ x9 ≤ 1000000) (k10 : 0 ≤ x10 ∧ x10 ≤ 3) (k11 : 0 ≤ x11 ∧ x11 ≤ 999999) (k12 : (-1) ≤ x12 ∧ x12 ≤ (-1)) (k13 : (-2) ≤ x13 ∧ x13 ≤ 1000000) (k14 : 25 ≤ x14 ∧ x14 ≤ 25) (k17 : 1 ≤ x17 ∧ x17 ≤ 6000) (k18 : 0 ≤ x18 ∧ x18 ≤ 5999) (k22 : 0 ≤ x22 ∧ x22 ≤ 5999) (k24 : 1 ≤ x24 ∧ x24 ≤ 25) (k25 : 0 ≤ x25 ∧ x25 ≤ 5999) (d0 : x5 + 1 ≤ x24 ∧ x24 ≤ x5 + 1) (d1 : x17 + (-4294967295) ≤ x18 ∧ x18 ≤ x17 + (-1)) (d2 : x9 + (-4294967296) ≤ x10 ∧ x10 ≤ x9 + 2) (d3 : x9 + (-4294967296) ≤ x11 ∧ x11 ≤ x9 + 0) (f0 : STQ (wide_0) (tall_0) (barredPoint_0) (x6) (x10) (x25)) (f1 : ((-1) ≤ x25) ∧ ((x25 + 1) ≤ (wide_0 * tall_0))) (f2 : x24 = x5 + 1) (f3 : GRX (wide_0) (tall_0)) (f4 : RTV (wide_0) (tall_0) (barredPoint_0) (costOf_0) (x3)) (f5 : (0 ≤ x3) ∧ ((x3 + 1) ≤ (wide_0 * tall_0))) (f6 : BB2 (wide_0) (tall_0) (barredPoint_0) (costOf_0) (x6) (x7) (x9)) (f7 : (0 ≤ x6) ∧ ((x6 + 1) ≤ (wide_0 * tall_0))) (f8 : (x5 + x9) ≤ 1000000) (f9 : 0 ≤ x5) (f10 : x6 ≠ x3) (f11 : BB3 (wide_0) (tall_0) (barredPoint_0) (costOf_0) (x6) (x7) (x9) (x10) (x11) (x12)) (f12 : (0 ≤ x9) ∧ (x9 ≤ x13)) (f13 : (-1) * x13 + 0 ≤ (-1)) (f15 : x22 = Int.tdiv (x6) (x17)) (g16 : x17 = wide_1) (f18 : GRX (wide_1) (tall_1)) (f19 : RTV (wide_1) (tall_1) (barredPoint_1) (costOf_1) (x3)) (f20 : (0 ≤ x3) ∧ ((x3 + 1) ≤ (wide_1 * tall_1))) (f21 : BB2 (wide_1) (tall_1) (barredPoint_1) (costOf_1) (x6) (x7) (x9)) (f22 : (0 ≤ x6) ∧ ((x6 + 1) ≤ (wide_1 * tall_1))) (f23 : (x5 + x9) ≤ 1000000) (f24 : 0 ≤ x5) (f25 : x6 ≠ x3) (f26 : BB3 (wide_1) (tall_1) (barredPoint_1) (costOf_1) (x6) (x7) (x9) (x10) (x11) (x12)) (f27 : (0 ≤ x9) ∧ (x9 ≤ x13)) (f28 : (-1) * x13 + 0 ≤ (-1)) (f30 : x18 = Int.tmod (x6) (x17)) (f32 : x5 < x14) (f33 : x10 ≠ x7) (f34 : x12 < 0) (f35 : GRX (wide_2) (tall_2)) (f36 : RTV (wide_2) (tall_2) (barredPoint_2) (costOf_2) (x3)) (f37 : (0 ≤ x3) ∧ ((x3 + 1) ≤ (wide_2 * tall_2))) (f38 : BB2 (wide_2) (tall_2) (barredPoint_2) (costOf_2) (x6) (x7) (x9)) (f39 : (0 ≤ x6) ∧ ((x6 + 1) ≤ (wide_2 * tall_2))) (f40 : (x5 + x9) ≤ 1000000) (f41 : 0 ≤ x5) (f42 : x6 ≠ x3) (f43 : BB3 (wide_2) (tall_2) (barredPoint_2) (costOf_2) (x6) (x7) (x9) (x10) (x11) (x12)) (f44 : (0 ≤ x9) ∧ (x9 ≤ x13)) (f45 : (-1) * x13 + 0 ≤ (-1)) (fe_0_146_1 : wide_0 = wide_1) (fe_0_147_1 : tall_0 = tall_1) (fe_0_146_2 : wide_1 = wide_2) (fe_0_147_2 : tall_1 = tall_2) (hE_0_140_1 : ∀ j : Int, costOf_0 j = costOf_1 j) (hE_0_140_2 : ∀ j : Int, costOf_1 j = costOf_2 j) (hK_0_140 : ∀ j : Int, 0 ≤ j → j < 24000 → 0 ≤ costOf_0 j ∧ costOf_0 j ≤ 1000000) (hE_0_143_1 : ∀ j : Int, barredPoint_0 j = barredPoint_1 j) (hE_0_143_2 : ∀ j : Int, barredPoint_1 j = barredPoint_2 j) (hK_0_143 : ∀ j : Int, 0 ≤ j → j < 6000 → 0 ≤ barredPoint_0 j ∧ barredPoint_0 j ≤ 1) (hE_0_148_1 : ∀ j : Int, turnX_0 j = turnX_1 j) (hE_0_148_2 : ∀ j : Int, 0 ≤ j → (j = x5 → turnX_1 j = x19) ∧ (j ≠ x5 → turnX_1 j = turnX_2 j)) (hK_0_148 : ∀ j : Int, 0 ≤ j → j < 26 → (-300000011) ≤ turnX_0 j ∧ turnX_0 j ≤ 2005999) (hE_0_149_1 : ∀ j : Int, 0 ≤ j → (j = x5 → turnY_0 j = x23) ∧ (j ≠ x5 → turnY_0 j = turnY_1 j)) (hE_0_149_2 : ∀ j : Int, turnY_1 j = turnY_2 j) (hK_0_149 : ∀ j : Int, 0 ≤ j → j < 26 → (-300000003) ≤ turnY_0 j ∧ turnY_0 j ≤ 2005999) (kz_0_146 : (-3999999) ≤ wide_0 ∧ wide_0 ≤ 600000023) (kz_0_147 : (-3999999) ≤ tall_0 ∧ tall_0 ≤ 600000007) (ex2 : gx = (-1) + (1 * x13 + 0)) (ex3 : (-2) ≤ gx ∧ gx ≤ 1000000) : (0 ≤ x25) ∧ ((x25 + 1) ≤ (wide_0 * tall_0)) := by
  subst fe_0_146_1
  subst fe_0_147_1
  subst fe_0_146_2
  subst fe_0_147_2
  have e_hE_0_140_1 := funext hE_0_140_1; subst e_hE_0_140_1
  have e_hE_0_140_2 := funext hE_0_140_2; subst e_hE_0_140_2
  have e_hE_0_143_1 := funext hE_0_143_1; subst e_hE_0_143_1
  have e_hE_0_143_2 := funext hE_0_143_2; subst e_hE_0_143_2
  have e_hE_0_148_1 := funext hE_0_148_1; subst e_hE_0_148_1
  have e_hE_0_149_2 := funext hE_0_149_2; subst e_hE_0_149_2
  first
    | omega
    | (have h := bb2_start (t := x13) ‹RTV _ _ _ _ _› ‹BB1 _ _ _ _ _ _ _ _› (by omega) ‹STQ _ _ _ _ _ _› (by omega)
       have h1 := h.1
       have h2 := h.2.2.2.2
       omega)
    | (have h := bb_next ‹RTV _ _ _ _ _› ‹BB2 _ _ _ _ _ _ _› ‹BB3 _ _ _ _ _ _ _ _ _ _› (by omega) (by omega)
       have h1 := h.1.1
       have h2 := h.2
       omega)
set_option maxHeartbeats 4000000 in
theorem vc_Mo_bendsBecome_16_5 (x3 : Int) (x5 : Int) (x6 : Int) (x7 : Int) (x9 : Int) (x10 : Int) (x11 : Int) (x12 : Int) (x13 : Int) (x14 : Int) (x17 : Int) (x18 : Int) (x22 : Int) (x24 : Int) (x25 : Int) (barredPoint_0 : Int → Int) (wide_0 : Int) (tall_0 : Int) (costOf_0 : Int → Int) (wide_1 : Int) (tall_1 : Int) (barredPoint_1 : Int → Int) (costOf_1 : Int → Int) (wide_2 : Int) (tall_2 : Int) (barredPoint_2 : Int → Int) (costOf_2 : Int → Int) (turnX_0 : Int → Int) (turnX_1 : Int → Int) (turnX_2 : Int → Int) (x19 : Int) (turnY_0 : Int → Int) (turnY_1 : Int → Int) (x23 : Int) (turnY_2 : Int → Int) (gx : Int) (k3 : 0 ≤ x3 ∧ x3 ≤ 5999) (k5 : 0 ≤ x5 ∧ x5 ≤ 24) (k6 : 0 ≤ x6 ∧ x6 ≤ 5999) (k7 : 0 ≤ x7 ∧ x7 ≤ 3) (k9 : 0 ≤ x9 ∧ x9 ≤ 1000000) (k10 : 0 ≤ x10 ∧ x10 ≤ 3) (k11 : 0 ≤ x11 ∧ x11 ≤ 999999) (k12 : (-1) ≤ x12 ∧ x12 ≤ (-1)) (k13 : (-2) ≤ x13 ∧ x13 ≤ 1000000) (k14 : 25 ≤ x14 ∧ x14 ≤ 25) (k17 : 1 ≤ x17 ∧ x17 ≤ 6000) (k18 : 0 ≤ x18 ∧ x18 ≤ 5999) (k22 : 0 ≤ x22 ∧ x22 ≤ 5999) (k24 : 1 ≤ x24 ∧ x24 ≤ 25) (k25 : 0 ≤ x25 ∧ x25 ≤ 5999) (d0 : x5 + 1 ≤ x24 ∧ x24 ≤ x5 + 1) (d1 : x17 + (-4294967295) ≤ x18 ∧ x18 ≤ x17 + (-1)) (d2 : x9 + (-4294967296) ≤ x10 ∧ x10 ≤ x9 + 2) (d3 : x9 + (-4294967296) ≤ x11 ∧ x11 ≤ x9 + 0) (f0 : STQ (wide_0) (tall_0) (barredPoint_0) (x6) (x10) (x25)) (f1 : ((-1) ≤ x25) ∧ ((x25 + 1) ≤ (wide_0 * tall_0))) (f2 : x24 = x5 + 1) (f3 : GRX (wide_0) (tall_0)) (f4 : RTV (wide_0) (tall_0) (barredPoint_0) (costOf_0) (x3)) (f5 : (0 ≤ x3) ∧ ((x3 + 1) ≤ (wide_0 * tall_0))) (f6 : BB2 (wide_0) (tall_0) (barredPoint_0) (costOf_0) (x6) (x7) (x9)) (f7 : (0 ≤ x6) ∧ ((x6 + 1) ≤ (wide_0 * tall_0))) (f8 : (x5 + x9) ≤ 1000000) (f9 : 0 ≤ x5) (f10 : x6 ≠ x3) (f11 : BB3 (wide_0) (tall_0) (barredPoint_0) (costOf_0) (x6) (x7) (x9) (x10) (x11) (x12)) (f12 : (0 ≤ x9) ∧ (x9 ≤ x13)) (f13 : (-1) * x13 + 0 ≤ (-1)) (f15 : x22 = Int.tdiv (x6) (x17)) (g16 : x17 = wide_1) (f18 : GRX (wide_1) (tall_1)) (f19 : RTV (wide_1) (tall_1) (barredPoint_1) (costOf_1) (x3)) (f20 : (0 ≤ x3) ∧ ((x3 + 1) ≤ (wide_1 * tall_1))) (f21 : BB2 (wide_1) (tall_1) (barredPoint_1) (costOf_1) (x6) (x7) (x9)) (f22 : (0 ≤ x6) ∧ ((x6 + 1) ≤ (wide_1 * tall_1))) (f23 : (x5 + x9) ≤ 1000000) (f24 : 0 ≤ x5) (f25 : x6 ≠ x3) (f26 : BB3 (wide_1) (tall_1) (barredPoint_1) (costOf_1) (x6) (x7) (x9) (x10) (x11) (x12)) (f27 : (0 ≤ x9) ∧ (x9 ≤ x13)) (f28 : (-1) * x13 + 0 ≤ (-1)) (f30 : x18 = Int.tmod (x6) (x17)) (f32 : x5 < x14) (f33 : x10 ≠ x7) (f34 : x12 < 0) (f35 : GRX (wide_2) (tall_2)) (f36 : RTV (wide_2) (tall_2) (barredPoint_2) (costOf_2) (x3)) (f37 : (0 ≤ x3) ∧ ((x3 + 1) ≤ (wide_2 * tall_2))) (f38 : BB2 (wide_2) (tall_2) (barredPoint_2) (costOf_2) (x6) (x7) (x9)) (f39 : (0 ≤ x6) ∧ ((x6 + 1) ≤ (wide_2 * tall_2))) (f40 : (x5 + x9) ≤ 1000000) (f41 : 0 ≤ x5) (f42 : x6 ≠ x3) (f43 : BB3 (wide_2) (tall_2) (barredPoint_2) (costOf_2) (x6) (x7) (x9) (x10) (x11) (x12)) (f44 : (0 ≤ x9) ∧ (x9 ≤ x13)) (f45 : (-1) * x13 + 0 ≤ (-1)) (fe_0_146_1 : wide_0 = wide_1) (fe_0_147_1 : tall_0 = tall_1) (fe_0_146_2 : wide_1 = wide_2) (fe_0_147_2 : tall_1 = tall_2) (hE_0_140_1 : ∀ j : Int, costOf_0 j = costOf_1 j) (hE_0_140_2 : ∀ j : Int, costOf_1 j = costOf_2 j) (hK_0_140 : ∀ j : Int, 0 ≤ j → j < 24000 → 0 ≤ costOf_0 j ∧ costOf_0 j ≤ 1000000) (hE_0_143_1 : ∀ j : Int, barredPoint_0 j = barredPoint_1 j) (hE_0_143_2 : ∀ j : Int, barredPoint_1 j = barredPoint_2 j) (hK_0_143 : ∀ j : Int, 0 ≤ j → j < 6000 → 0 ≤ barredPoint_0 j ∧ barredPoint_0 j ≤ 1) (hE_0_148_1 : ∀ j : Int, turnX_0 j = turnX_1 j) (hE_0_148_2 : ∀ j : Int, 0 ≤ j → (j = x5 → turnX_1 j = x19) ∧ (j ≠ x5 → turnX_1 j = turnX_2 j)) (hK_0_148 : ∀ j : Int, 0 ≤ j → j < 26 → (-300000011) ≤ turnX_0 j ∧ turnX_0 j ≤ 2005999) (hE_0_149_1 : ∀ j : Int, 0 ≤ j → (j = x5 → turnY_0 j = x23) ∧ (j ≠ x5 → turnY_0 j = turnY_1 j)) (hE_0_149_2 : ∀ j : Int, turnY_1 j = turnY_2 j) (hK_0_149 : ∀ j : Int, 0 ≤ j → j < 26 → (-300000003) ≤ turnY_0 j ∧ turnY_0 j ≤ 2005999) (kz_0_146 : (-3999999) ≤ wide_0 ∧ wide_0 ≤ 600000023) (kz_0_147 : (-3999999) ≤ tall_0 ∧ tall_0 ≤ 600000007) (ex2 : gx = (-1) + (1 * x13 + 0)) (ex3 : (-2) ≤ gx ∧ gx ≤ 1000000) : (x24 + x11) ≤ 1000000 := by
  subst fe_0_146_1
  subst fe_0_147_1
  subst fe_0_146_2
  subst fe_0_147_2
  have e_hE_0_140_1 := funext hE_0_140_1; subst e_hE_0_140_1
  have e_hE_0_140_2 := funext hE_0_140_2; subst e_hE_0_140_2
  have e_hE_0_143_1 := funext hE_0_143_1; subst e_hE_0_143_1
  have e_hE_0_143_2 := funext hE_0_143_2; subst e_hE_0_143_2
  have e_hE_0_148_1 := funext hE_0_148_1; subst e_hE_0_148_1
  have e_hE_0_149_2 := funext hE_0_149_2; subst e_hE_0_149_2
  first
    | omega
    | (have h := bb2_start (t := x13) ‹RTV _ _ _ _ _› ‹BB1 _ _ _ _ _ _ _ _› (by omega) ‹STQ _ _ _ _ _ _› (by omega)
       have h1 := h.1
       have h2 := h.2.2.2.2
       omega)
    | (have h := bb_next ‹RTV _ _ _ _ _› ‹BB2 _ _ _ _ _ _ _› ‹BB3 _ _ _ _ _ _ _ _ _ _› (by omega) (by omega)
       have h1 := h.1.1
       have h2 := h.2
       omega)
set_option maxHeartbeats 4000000 in
theorem vc_Mo_bendsBecome_16_6 (x3 : Int) (x5 : Int) (x6 : Int) (x7 : Int) (x9 : Int) (x10 : Int) (x11 : Int) (x12 : Int) (x13 : Int) (x14 : Int) (x17 : Int) (x18 : Int) (x22 : Int) (x24 : Int) (x25 : Int) (barredPoint_0 : Int → Int) (wide_0 : Int) (tall_0 : Int) (costOf_0 : Int → Int) (wide_1 : Int) (tall_1 : Int) (barredPoint_1 : Int → Int) (costOf_1 : Int → Int) (wide_2 : Int) (tall_2 : Int) (barredPoint_2 : Int → Int) (costOf_2 : Int → Int) (turnX_0 : Int → Int) (turnX_1 : Int → Int) (turnX_2 : Int → Int) (x19 : Int) (turnY_0 : Int → Int) (turnY_1 : Int → Int) (x23 : Int) (turnY_2 : Int → Int) (gx : Int) (k3 : 0 ≤ x3 ∧ x3 ≤ 5999) (k5 : 0 ≤ x5 ∧ x5 ≤ 24) (k6 : 0 ≤ x6 ∧ x6 ≤ 5999) (k7 : 0 ≤ x7 ∧ x7 ≤ 3) (k9 : 0 ≤ x9 ∧ x9 ≤ 1000000) (k10 : 0 ≤ x10 ∧ x10 ≤ 3) (k11 : 0 ≤ x11 ∧ x11 ≤ 999999) (k12 : (-1) ≤ x12 ∧ x12 ≤ (-1)) (k13 : (-2) ≤ x13 ∧ x13 ≤ 1000000) (k14 : 25 ≤ x14 ∧ x14 ≤ 25) (k17 : 1 ≤ x17 ∧ x17 ≤ 6000) (k18 : 0 ≤ x18 ∧ x18 ≤ 5999) (k22 : 0 ≤ x22 ∧ x22 ≤ 5999) (k24 : 1 ≤ x24 ∧ x24 ≤ 25) (k25 : 0 ≤ x25 ∧ x25 ≤ 5999) (d0 : x5 + 1 ≤ x24 ∧ x24 ≤ x5 + 1) (d1 : x17 + (-4294967295) ≤ x18 ∧ x18 ≤ x17 + (-1)) (d2 : x9 + (-4294967296) ≤ x10 ∧ x10 ≤ x9 + 2) (d3 : x9 + (-4294967296) ≤ x11 ∧ x11 ≤ x9 + 0) (f0 : STQ (wide_0) (tall_0) (barredPoint_0) (x6) (x10) (x25)) (f1 : ((-1) ≤ x25) ∧ ((x25 + 1) ≤ (wide_0 * tall_0))) (f2 : x24 = x5 + 1) (f3 : GRX (wide_0) (tall_0)) (f4 : RTV (wide_0) (tall_0) (barredPoint_0) (costOf_0) (x3)) (f5 : (0 ≤ x3) ∧ ((x3 + 1) ≤ (wide_0 * tall_0))) (f6 : BB2 (wide_0) (tall_0) (barredPoint_0) (costOf_0) (x6) (x7) (x9)) (f7 : (0 ≤ x6) ∧ ((x6 + 1) ≤ (wide_0 * tall_0))) (f8 : (x5 + x9) ≤ 1000000) (f9 : 0 ≤ x5) (f10 : x6 ≠ x3) (f11 : BB3 (wide_0) (tall_0) (barredPoint_0) (costOf_0) (x6) (x7) (x9) (x10) (x11) (x12)) (f12 : (0 ≤ x9) ∧ (x9 ≤ x13)) (f13 : (-1) * x13 + 0 ≤ (-1)) (f15 : x22 = Int.tdiv (x6) (x17)) (g16 : x17 = wide_1) (f18 : GRX (wide_1) (tall_1)) (f19 : RTV (wide_1) (tall_1) (barredPoint_1) (costOf_1) (x3)) (f20 : (0 ≤ x3) ∧ ((x3 + 1) ≤ (wide_1 * tall_1))) (f21 : BB2 (wide_1) (tall_1) (barredPoint_1) (costOf_1) (x6) (x7) (x9)) (f22 : (0 ≤ x6) ∧ ((x6 + 1) ≤ (wide_1 * tall_1))) (f23 : (x5 + x9) ≤ 1000000) (f24 : 0 ≤ x5) (f25 : x6 ≠ x3) (f26 : BB3 (wide_1) (tall_1) (barredPoint_1) (costOf_1) (x6) (x7) (x9) (x10) (x11) (x12)) (f27 : (0 ≤ x9) ∧ (x9 ≤ x13)) (f28 : (-1) * x13 + 0 ≤ (-1)) (f30 : x18 = Int.tmod (x6) (x17)) (f32 : x5 < x14) (f33 : x10 ≠ x7) (f34 : x12 < 0) (f35 : GRX (wide_2) (tall_2)) (f36 : RTV (wide_2) (tall_2) (barredPoint_2) (costOf_2) (x3)) (f37 : (0 ≤ x3) ∧ ((x3 + 1) ≤ (wide_2 * tall_2))) (f38 : BB2 (wide_2) (tall_2) (barredPoint_2) (costOf_2) (x6) (x7) (x9)) (f39 : (0 ≤ x6) ∧ ((x6 + 1) ≤ (wide_2 * tall_2))) (f40 : (x5 + x9) ≤ 1000000) (f41 : 0 ≤ x5) (f42 : x6 ≠ x3) (f43 : BB3 (wide_2) (tall_2) (barredPoint_2) (costOf_2) (x6) (x7) (x9) (x10) (x11) (x12)) (f44 : (0 ≤ x9) ∧ (x9 ≤ x13)) (f45 : (-1) * x13 + 0 ≤ (-1)) (fe_0_146_1 : wide_0 = wide_1) (fe_0_147_1 : tall_0 = tall_1) (fe_0_146_2 : wide_1 = wide_2) (fe_0_147_2 : tall_1 = tall_2) (hE_0_140_1 : ∀ j : Int, costOf_0 j = costOf_1 j) (hE_0_140_2 : ∀ j : Int, costOf_1 j = costOf_2 j) (hK_0_140 : ∀ j : Int, 0 ≤ j → j < 24000 → 0 ≤ costOf_0 j ∧ costOf_0 j ≤ 1000000) (hE_0_143_1 : ∀ j : Int, barredPoint_0 j = barredPoint_1 j) (hE_0_143_2 : ∀ j : Int, barredPoint_1 j = barredPoint_2 j) (hK_0_143 : ∀ j : Int, 0 ≤ j → j < 6000 → 0 ≤ barredPoint_0 j ∧ barredPoint_0 j ≤ 1) (hE_0_148_1 : ∀ j : Int, turnX_0 j = turnX_1 j) (hE_0_148_2 : ∀ j : Int, 0 ≤ j → (j = x5 → turnX_1 j = x19) ∧ (j ≠ x5 → turnX_1 j = turnX_2 j)) (hK_0_148 : ∀ j : Int, 0 ≤ j → j < 26 → (-300000011) ≤ turnX_0 j ∧ turnX_0 j ≤ 2005999) (hE_0_149_1 : ∀ j : Int, 0 ≤ j → (j = x5 → turnY_0 j = x23) ∧ (j ≠ x5 → turnY_0 j = turnY_1 j)) (hE_0_149_2 : ∀ j : Int, turnY_1 j = turnY_2 j) (hK_0_149 : ∀ j : Int, 0 ≤ j → j < 26 → (-300000003) ≤ turnY_0 j ∧ turnY_0 j ≤ 2005999) (kz_0_146 : (-3999999) ≤ wide_0 ∧ wide_0 ≤ 600000023) (kz_0_147 : (-3999999) ≤ tall_0 ∧ tall_0 ≤ 600000007) (ex2 : gx = (-1) + (1 * x13 + 0)) (ex3 : (-2) ≤ gx ∧ gx ≤ 1000000) : 0 ≤ x24 := by
  subst fe_0_146_1
  subst fe_0_147_1
  subst fe_0_146_2
  subst fe_0_147_2
  have e_hE_0_140_1 := funext hE_0_140_1; subst e_hE_0_140_1
  have e_hE_0_140_2 := funext hE_0_140_2; subst e_hE_0_140_2
  have e_hE_0_143_1 := funext hE_0_143_1; subst e_hE_0_143_1
  have e_hE_0_143_2 := funext hE_0_143_2; subst e_hE_0_143_2
  have e_hE_0_148_1 := funext hE_0_148_1; subst e_hE_0_148_1
  have e_hE_0_149_2 := funext hE_0_149_2; subst e_hE_0_149_2
  first
    | omega
    | (have h := bb2_start (t := x13) ‹RTV _ _ _ _ _› ‹BB1 _ _ _ _ _ _ _ _› (by omega) ‹STQ _ _ _ _ _ _› (by omega)
       have h1 := h.1
       have h2 := h.2.2.2.2
       omega)
    | (have h := bb_next ‹RTV _ _ _ _ _› ‹BB2 _ _ _ _ _ _ _› ‹BB3 _ _ _ _ _ _ _ _ _ _› (by omega) (by omega)
       have h1 := h.1.1
       have h2 := h.2
       omega)
set_option maxHeartbeats 4000000 in
theorem vc_Mo_bendsBecome_16_7 (x3 : Int) (x5 : Int) (x6 : Int) (x7 : Int) (x9 : Int) (x10 : Int) (x11 : Int) (x12 : Int) (x13 : Int) (x14 : Int) (x17 : Int) (x18 : Int) (x22 : Int) (x24 : Int) (x25 : Int) (barredPoint_0 : Int → Int) (wide_0 : Int) (tall_0 : Int) (costOf_0 : Int → Int) (wide_1 : Int) (tall_1 : Int) (barredPoint_1 : Int → Int) (costOf_1 : Int → Int) (wide_2 : Int) (tall_2 : Int) (barredPoint_2 : Int → Int) (costOf_2 : Int → Int) (turnX_0 : Int → Int) (turnX_1 : Int → Int) (turnX_2 : Int → Int) (x19 : Int) (turnY_0 : Int → Int) (turnY_1 : Int → Int) (x23 : Int) (turnY_2 : Int → Int) (gx : Int) (k3 : 0 ≤ x3 ∧ x3 ≤ 5999) (k5 : 0 ≤ x5 ∧ x5 ≤ 24) (k6 : 0 ≤ x6 ∧ x6 ≤ 5999) (k7 : 0 ≤ x7 ∧ x7 ≤ 3) (k9 : 0 ≤ x9 ∧ x9 ≤ 1000000) (k10 : 0 ≤ x10 ∧ x10 ≤ 3) (k11 : 0 ≤ x11 ∧ x11 ≤ 999999) (k12 : (-1) ≤ x12 ∧ x12 ≤ (-1)) (k13 : (-2) ≤ x13 ∧ x13 ≤ 1000000) (k14 : 25 ≤ x14 ∧ x14 ≤ 25) (k17 : 1 ≤ x17 ∧ x17 ≤ 6000) (k18 : 0 ≤ x18 ∧ x18 ≤ 5999) (k22 : 0 ≤ x22 ∧ x22 ≤ 5999) (k24 : 1 ≤ x24 ∧ x24 ≤ 25) (k25 : 0 ≤ x25 ∧ x25 ≤ 5999) (d0 : x5 + 1 ≤ x24 ∧ x24 ≤ x5 + 1) (d1 : x17 + (-4294967295) ≤ x18 ∧ x18 ≤ x17 + (-1)) (d2 : x9 + (-4294967296) ≤ x10 ∧ x10 ≤ x9 + 2) (d3 : x9 + (-4294967296) ≤ x11 ∧ x11 ≤ x9 + 0) (f0 : STQ (wide_0) (tall_0) (barredPoint_0) (x6) (x10) (x25)) (f1 : ((-1) ≤ x25) ∧ ((x25 + 1) ≤ (wide_0 * tall_0))) (f2 : x24 = x5 + 1) (f3 : GRX (wide_0) (tall_0)) (f4 : RTV (wide_0) (tall_0) (barredPoint_0) (costOf_0) (x3)) (f5 : (0 ≤ x3) ∧ ((x3 + 1) ≤ (wide_0 * tall_0))) (f6 : BB2 (wide_0) (tall_0) (barredPoint_0) (costOf_0) (x6) (x7) (x9)) (f7 : (0 ≤ x6) ∧ ((x6 + 1) ≤ (wide_0 * tall_0))) (f8 : (x5 + x9) ≤ 1000000) (f9 : 0 ≤ x5) (f10 : x6 ≠ x3) (f11 : BB3 (wide_0) (tall_0) (barredPoint_0) (costOf_0) (x6) (x7) (x9) (x10) (x11) (x12)) (f12 : (0 ≤ x9) ∧ (x9 ≤ x13)) (f13 : (-1) * x13 + 0 ≤ (-1)) (f15 : x22 = Int.tdiv (x6) (x17)) (g16 : x17 = wide_1) (f18 : GRX (wide_1) (tall_1)) (f19 : RTV (wide_1) (tall_1) (barredPoint_1) (costOf_1) (x3)) (f20 : (0 ≤ x3) ∧ ((x3 + 1) ≤ (wide_1 * tall_1))) (f21 : BB2 (wide_1) (tall_1) (barredPoint_1) (costOf_1) (x6) (x7) (x9)) (f22 : (0 ≤ x6) ∧ ((x6 + 1) ≤ (wide_1 * tall_1))) (f23 : (x5 + x9) ≤ 1000000) (f24 : 0 ≤ x5) (f25 : x6 ≠ x3) (f26 : BB3 (wide_1) (tall_1) (barredPoint_1) (costOf_1) (x6) (x7) (x9) (x10) (x11) (x12)) (f27 : (0 ≤ x9) ∧ (x9 ≤ x13)) (f28 : (-1) * x13 + 0 ≤ (-1)) (f30 : x18 = Int.tmod (x6) (x17)) (f32 : x5 < x14) (f33 : x10 ≠ x7) (f34 : x12 < 0) (f35 : GRX (wide_2) (tall_2)) (f36 : RTV (wide_2) (tall_2) (barredPoint_2) (costOf_2) (x3)) (f37 : (0 ≤ x3) ∧ ((x3 + 1) ≤ (wide_2 * tall_2))) (f38 : BB2 (wide_2) (tall_2) (barredPoint_2) (costOf_2) (x6) (x7) (x9)) (f39 : (0 ≤ x6) ∧ ((x6 + 1) ≤ (wide_2 * tall_2))) (f40 : (x5 + x9) ≤ 1000000) (f41 : 0 ≤ x5) (f42 : x6 ≠ x3) (f43 : BB3 (wide_2) (tall_2) (barredPoint_2) (costOf_2) (x6) (x7) (x9) (x10) (x11) (x12)) (f44 : (0 ≤ x9) ∧ (x9 ≤ x13)) (f45 : (-1) * x13 + 0 ≤ (-1)) (fe_0_146_1 : wide_0 = wide_1) (fe_0_147_1 : tall_0 = tall_1) (fe_0_146_2 : wide_1 = wide_2) (fe_0_147_2 : tall_1 = tall_2) (hE_0_140_1 : ∀ j : Int, costOf_0 j = costOf_1 j) (hE_0_140_2 : ∀ j : Int, costOf_1 j = costOf_2 j) (hK_0_140 : ∀ j : Int, 0 ≤ j → j < 24000 → 0 ≤ costOf_0 j ∧ costOf_0 j ≤ 1000000) (hE_0_143_1 : ∀ j : Int, barredPoint_0 j = barredPoint_1 j) (hE_0_143_2 : ∀ j : Int, barredPoint_1 j = barredPoint_2 j) (hK_0_143 : ∀ j : Int, 0 ≤ j → j < 6000 → 0 ≤ barredPoint_0 j ∧ barredPoint_0 j ≤ 1) (hE_0_148_1 : ∀ j : Int, turnX_0 j = turnX_1 j) (hE_0_148_2 : ∀ j : Int, 0 ≤ j → (j = x5 → turnX_1 j = x19) ∧ (j ≠ x5 → turnX_1 j = turnX_2 j)) (hK_0_148 : ∀ j : Int, 0 ≤ j → j < 26 → (-300000011) ≤ turnX_0 j ∧ turnX_0 j ≤ 2005999) (hE_0_149_1 : ∀ j : Int, 0 ≤ j → (j = x5 → turnY_0 j = x23) ∧ (j ≠ x5 → turnY_0 j = turnY_1 j)) (hE_0_149_2 : ∀ j : Int, turnY_1 j = turnY_2 j) (hK_0_149 : ∀ j : Int, 0 ≤ j → j < 26 → (-300000003) ≤ turnY_0 j ∧ turnY_0 j ≤ 2005999) (kz_0_146 : (-3999999) ≤ wide_0 ∧ wide_0 ≤ 600000023) (kz_0_147 : (-3999999) ≤ tall_0 ∧ tall_0 ≤ 600000007) (ex2 : gx = (-1) + (1 * x13 + 0)) (ex3 : (-2) ≤ gx ∧ gx ≤ 1000000) : (0 ≤ x11) ∧ (x11 ≤ gx) := by
  subst fe_0_146_1
  subst fe_0_147_1
  subst fe_0_146_2
  subst fe_0_147_2
  have e_hE_0_140_1 := funext hE_0_140_1; subst e_hE_0_140_1
  have e_hE_0_140_2 := funext hE_0_140_2; subst e_hE_0_140_2
  have e_hE_0_143_1 := funext hE_0_143_1; subst e_hE_0_143_1
  have e_hE_0_143_2 := funext hE_0_143_2; subst e_hE_0_143_2
  have e_hE_0_148_1 := funext hE_0_148_1; subst e_hE_0_148_1
  have e_hE_0_149_2 := funext hE_0_149_2; subst e_hE_0_149_2
  first
    | omega
    | (have h := bb2_start (t := x13) ‹RTV _ _ _ _ _› ‹BB1 _ _ _ _ _ _ _ _› (by omega) ‹STQ _ _ _ _ _ _› (by omega)
       have h1 := h.1
       have h2 := h.2.2.2.2
       omega)
    | (have h := bb_next ‹RTV _ _ _ _ _› ‹BB2 _ _ _ _ _ _ _› ‹BB3 _ _ _ _ _ _ _ _ _ _› (by omega) (by omega)
       have h1 := h.1.1
       have h2 := h.2
       omega)
def o_Mo_bendsBecome_16 : or_T := (112, 26, [(0, (2, 0, 0, [165])), (3, (0, 0, 5999, [])), (5, (0, 0, 24, [])), (6, (0, 0, 5999, [])), (7, (0, 0, 3, [])), (9, (0, 0, 1000000, [])), (10, (0, 0, 3, [])), (11, (0, 0, 999999, [])), (12, (0, -1, -1, [])), (13, (0, -2, 1000000, [])), (14, (0, 25, 25, [])), (15, (2, 0, 0, [270])), (17, (0, 1, 6000, [])), (18, (0, 0, 5999, [])), (20, (2, 0, 0, [271])), (22, (0, 0, 5999, [])), (24, (0, 1, 25, [])), (25, (0, 0, 5999, []))], [(20, [0, 6, 10, 25], [60, 2, 1, 505, 146, 147, 143]), (20, [25, 0], [50, 2, 0, 1146, 1147, 2, 6, 0, 2, 0, -1, 1, 0, 0, 6, 4, 2, 1, 0, 0, 1, 6, 3, 2, 1, 146, 2, 1, 147]), (6, [24, 5], [1]), (20, [0], [60, 2, 0, 494, 146, 147]), (20, [0, 3], [60, 2, 2, 504, 146, 147, 143, 140]), (20, [3, 0], [50, 2, 0, 1146, 1147, 2, 6, 0, 2, 0, 0, 1, 0, 0, 6, 4, 2, 1, 0, 0, 1, 6, 3, 2, 1, 146, 2, 1, 147]), (20, [0, 6, 7, 9], [60, 2, 2, 507, 146, 147, 143, 140]), (20, [6, 0], [50, 2, 0, 1146, 1147, 2, 6, 0, 2, 0, 0, 1, 0, 0, 6, 4, 2, 1, 0, 0, 1, 6, 3, 2, 1, 146, 2, 1, 147]), (20, [5, 9], [50, 0, 0, 0, 6, 4, 2, 1, 0, 1, 1, 0, 1000000]), (20, [5], [50, 0, 0, 0, 2, 0, 0, 1, 0]), (20, [6, 3], [50, 0, 0, 7, 2, 1, 0, 1, 1]), (20, [0, 6, 7, 9, 10, 11, 12], [60, 2, 2, 508, 146, 147, 143, 140]), (20, [9, 13], [50, 0, 0, 2, 6, 0, 2, 0, 0, 1, 0, 0, 2, 1, 0, 1, 1]), (23, [13], [-1, -1]), (100, [20, 5, 23], []), (4, [22, 6, 17], []), (9, [17, 0], [146]), (9, [20, 0], [149]), (20, [0], [60, 2, 0, 494, 146, 147]), (20, [0, 3], [60, 2, 2, 504, 146, 147, 143, 140]), (20, [3, 0], [50, 2, 0, 1146, 1147, 2, 6, 0, 2, 0, 0, 1, 0, 0, 6, 4, 2, 1, 0, 0, 1, 6, 3, 2, 1, 146, 2, 1, 147]), (20, [0, 6, 7, 9], [60, 2, 2, 507, 146, 147, 143, 140]), (20, [6, 0], [50, 2, 0, 1146, 1147, 2, 6, 0, 2, 0, 0, 1, 0, 0, 6, 4, 2, 1, 0, 0, 1, 6, 3, 2, 1, 146, 2, 1, 147]), (20, [5, 9], [50, 0, 0, 0, 6, 4, 2, 1, 0, 1, 1, 0, 1000000]), (20, [5], [50, 0, 0, 0, 2, 0, 0, 1, 0]), (20, [6, 3], [50, 0, 0, 7, 2, 1, 0, 1, 1]), (20, [0, 6, 7, 9, 10, 11, 12], [60, 2, 2, 508, 146, 147, 143, 140]), (20, [9, 13], [50, 0, 0, 2, 6, 0, 2, 0, 0, 1, 0, 0, 2, 1, 0, 1, 1]), (23, [13], [-1, -1]), (100, [15, 5, 19], []), (5, [18, 6, 17], []), (9, [15, 0], [148]), (7, [5, 14], [2]), (7, [10, 7], [1]), (8, [12], [2]), (20, [0], [60, 2, 0, 494, 146, 147]), (20, [0, 3], [60, 2, 2, 504, 146, 147, 143, 140]), (20, [3, 0], [50, 2, 0, 1146, 1147, 2, 6, 0, 2, 0, 0, 1, 0, 0, 6, 4, 2, 1, 0, 0, 1, 6, 3, 2, 1, 146, 2, 1, 147]), (20, [0, 6, 7, 9], [60, 2, 2, 507, 146, 147, 143, 140]), (20, [6, 0], [50, 2, 0, 1146, 1147, 2, 6, 0, 2, 0, 0, 1, 0, 0, 6, 4, 2, 1, 0, 0, 1, 6, 3, 2, 1, 146, 2, 1, 147]), (20, [5, 9], [50, 0, 0, 0, 6, 4, 2, 1, 0, 1, 1, 0, 1000000]), (20, [5], [50, 0, 0, 0, 2, 0, 0, 1, 0]), (20, [6, 3], [50, 0, 0, 7, 2, 1, 0, 1, 1]), (20, [0, 6, 7, 9, 10, 11, 12], [60, 2, 2, 508, 146, 147, 143, 140]), (20, [9, 13], [50, 0, 0, 2, 6, 0, 2, 0, 0, 1, 0, 0, 2, 1, 0, 1, 1]), (23, [13], [-1, -1])], [], [(0, -2, 1000000, [])], [(20, [0], [60, 2, 0, 494, 146, 147]), (20, [0, 3], [60, 2, 2, 504, 146, 147, 143, 140]), (20, [3, 0], [50, 2, 0, 1146, 1147, 2, 6, 0, 2, 0, 0, 1, 0, 0, 6, 4, 2, 1, 0, 0, 1, 6, 3, 2, 1, 146, 2, 1, 147]), (20, [0, 25, 10, 11], [60, 2, 2, 507, 146, 147, 143, 140]), (20, [25, 0], [50, 2, 0, 1146, 1147, 2, 6, 0, 2, 0, 0, 1, 0, 0, 6, 4, 2, 1, 0, 0, 1, 6, 3, 2, 1, 146, 2, 1, 147]), (20, [24, 11], [50, 0, 0, 0, 6, 4, 2, 1, 0, 1, 1, 0, 1000000]), (20, [24], [50, 0, 0, 0, 2, 0, 0, 1, 0]), (20, [11, 26], [50, 0, 0, 2, 6, 0, 2, 0, 0, 1, 0, 0, 2, 1, 0, 1, 1])], [(26, 13, -1000000000000, -1)], [(24, 5, 1, 1), (18, 17, -4294967295, -1), (10, 9, -4294967296, 2), (11, 9, -4294967296, 0)])
theorem oo_Mo_bendsBecome_16 {kA : Nat → ClassId} : or_ok PRD kA GG o_Mo_bendsBecome_16 := by
  refine or_mk fun A ta ws vs hD hth hl => ?_
  intro t0 r0 t3 k3 t5 k5 t6 k6 t7 k7 t9 k9 t10 k10 t11 k11 t12 k12 t13 k13 t14 k14 t15 r15 t17 k17 t18 k18 t20 r20 t22 k22 t24 k24 t25 k25 d0 d1 d2 d3 f0 f1 f2 f3 f4 f5 f6 f7 f8 f9 f10 f11 f12 f13 ta1 w1 le1 s1 f15 f16 f17 f18 f19 f20 f21 f22 f23 f24 f25 f26 f27 f28 ta2 w2 le2 s2 f30 f31 f32 f33 f34 f35 f36 f37 f38 f39 f40 f41 f42 f43 f44 f45
  replace f0 := shm_1291 f0
  replace f1 := shm_1292 f1
  replace f2 := shm_4 f2
  replace f3 := shm_1289 f3
  replace f4 := shm_1411 f4
  replace f5 := shm_1290 f5
  replace f6 := shm_1413 f6
  replace f7 := shm_1290 f7
  replace f8 := shm_1414 f8
  replace f9 := shm_722 f9
  replace f10 := shm_406 f10
  replace f11 := shm_1415 f11
  replace f12 := shm_366 f12
  replace f13 := shm_626 f13
  have s1 : (∀ b j, w_el ws b j = if b = v_ad (n_v vs 20) ∧ j = (v_iv (n_v vs 5)).toNat then v_iv (n_v vs 23) else w_el w1 b j) ∧ ∀ b k, w_fd ws b k = w_fd w1 b k := s1.2
  replace f15 := shm_34 f15
  have fq15 : 10 ≤ v_iv (n_v vs 22) → 10 * v_iv (n_v vs 17) ≤ v_iv (n_v vs 6) := dv_ten f15 (by omega) (by omega)
  replace f16 := shm_1288 f16
  replace f17 := shm_1416 f17
  replace f18 := shm_1289 f18
  replace f19 := shm_1411 f19
  replace f20 := shm_1290 f20
  replace f21 := shm_1413 f21
  replace f22 := shm_1290 f22
  replace f23 := shm_1414 f23
  replace f24 := shm_722 f24
  replace f25 := shm_406 f25
  replace f26 := shm_1415 f26
  replace f27 := shm_366 f27
  replace f28 := shm_626 f28
  have s2 : (∀ b j, w_el w1 b j = if b = v_ad (n_v vs 15) ∧ j = (v_iv (n_v vs 5)).toNat then v_iv (n_v vs 19) else w_el w2 b j) ∧ ∀ b k, w_fd w1 b k = w_fd w2 b k := s2.2
  replace f30 := shm_468 f30
  replace f31 := shm_1417 f31
  replace f32 := shm_6 f32
  replace f33 := shm_40 f33
  replace f34 := shm_39 f34
  replace f35 := shm_1289 f35
  replace f36 := shm_1411 f36
  replace f37 := shm_1290 f37
  replace f38 := shm_1413 f38
  replace f39 := shm_1290 f39
  replace f40 := shm_1414 f40
  replace f41 := shm_722 f41
  replace f42 := shm_406 f42
  replace f43 := shm_1415 f43
  replace f44 := shm_366 f44
  replace f45 := shm_626 f45
  have ar_0_140_1 : w_ar w1 (n_v vs 0) 140 = w_ar ws (n_v vs 0) 140 := congrArg v_ad (s1.2 _ _).symm
  have ar_0_140_2 : w_ar w2 (n_v vs 0) 140 = w_ar ws (n_v vs 0) 140 := by rw [← ar_0_140_1]; show v_ad (w_fd w2 _ _) = v_ad (w_fd w1 _ _); rw [s2.2]
  have cr_0_140 := fdq_175 hD hth r0
  have ar_0_143_1 : w_ar w1 (n_v vs 0) 143 = w_ar ws (n_v vs 0) 143 := congrArg v_ad (s1.2 _ _).symm
  have ar_0_143_2 : w_ar w2 (n_v vs 0) 143 = w_ar ws (n_v vs 0) 143 := by rw [← ar_0_143_1]; show v_ad (w_fd w2 _ _) = v_ad (w_fd w1 _ _); rw [s2.2]
  have cr_0_143 := fdq_178 hD hth r0
  have ar_0_148_1 : w_ar w1 (n_v vs 0) 148 = w_ar ws (n_v vs 0) 148 := congrArg v_ad (s1.2 _ _).symm
  have ar_0_148_2 : w_ar w2 (n_v vs 0) 148 = w_ar ws (n_v vs 0) 148 := by rw [← ar_0_148_1]; show v_ad (w_fd w2 _ _) = v_ad (w_fd w1 _ _); rw [s2.2]
  have cr_0_148 := fdq_290 hD hth r0
  have ar_0_149_1 : w_ar w1 (n_v vs 0) 149 = w_ar ws (n_v vs 0) 149 := congrArg v_ad (s1.2 _ _).symm
  have ar_0_149_2 : w_ar w2 (n_v vs 0) 149 = w_ar ws (n_v vs 0) 149 := by rw [← ar_0_149_1]; show v_ad (w_fd w2 _ _) = v_ad (w_fd w1 _ _); rw [s2.2]
  have cr_0_149 := fdq_291 hD hth r0
  have ad_20 : v_ad (n_v vs 20) = w_ar ws (n_v vs 0) 149 := (congrArg v_ad f17).trans ar_0_149_1
  have ad_15 : v_ad (n_v vs 15) = w_ar ws (n_v vs 0) 148 := (congrArg v_ad f31).trans ar_0_148_2
  have g16 : v_iv (n_v vs 17) = w_fi w1 (n_v vs 0) 146 := congrArg v_iv f16
  simp only [ar_0_140_1, ar_0_143_1, ar_0_140_2, ar_0_143_2] at f19 f21 f26 f36 f38 f43
  have fe_0_146_1 : w_fi ws (n_v vs 0) 146 = w_fi w1 (n_v vs 0) 146 := congrArg v_iv (s1.2 _ _)
  have fe_0_147_1 : w_fi ws (n_v vs 0) 147 = w_fi w1 (n_v vs 0) 147 := congrArg v_iv (s1.2 _ _)
  have fe_0_146_2 : w_fi w1 (n_v vs 0) 146 = w_fi w2 (n_v vs 0) 146 := congrArg v_iv (s2.2 _ _)
  have fe_0_147_2 : w_fi w1 (n_v vs 0) 147 = w_fi w2 (n_v vs 0) 147 := congrArg v_iv (s2.2 _ _)
  have hE_0_140_1 : ∀ j : Int, w_ei ws (w_ar ws (n_v vs 0) 140) j = w_ei w1 (w_ar ws (n_v vs 0) 140) j := el_kp s1.1 r20 cr_0_140 (by decide)
  have hE_0_140_2 : ∀ j : Int, w_ei w1 (w_ar ws (n_v vs 0) 140) j = w_ei w2 (w_ar ws (n_v vs 0) 140) j := el_kp s2.1 r15 cr_0_140 (by decide)
  have hK_0_140 := elq_104 hD hth cr_0_140
  have hE_0_143_1 : ∀ j : Int, w_ei ws (w_ar ws (n_v vs 0) 143) j = w_ei w1 (w_ar ws (n_v vs 0) 143) j := el_kp s1.1 r20 cr_0_143 (by decide)
  have hE_0_143_2 : ∀ j : Int, w_ei w1 (w_ar ws (n_v vs 0) 143) j = w_ei w2 (w_ar ws (n_v vs 0) 143) j := el_kp s2.1 r15 cr_0_143 (by decide)
  have hK_0_143 := elq_107 hD hth cr_0_143
  have hE_0_148_1 : ∀ j : Int, w_ei ws (w_ar ws (n_v vs 0) 148) j = w_ei w1 (w_ar ws (n_v vs 0) 148) j := el_kp s1.1 r20 cr_0_148 (by decide)
  have hE_0_148_2 : ∀ j : Int, 0 ≤ j → (j = v_iv (n_v vs 5) → w_ei w1 (w_ar ws (n_v vs 0) 148) j = v_iv (n_v vs 19)) ∧ (j ≠ v_iv (n_v vs 5) → w_ei w1 (w_ar ws (n_v vs 0) 148) j = w_ei w2 (w_ar ws (n_v vs 0) 148) j) := fun j hj => ⟨fun h => by unfold w_ei; rw [s2.1, if_pos ⟨ad_15.symm, by rw [h]⟩], fun h => by unfold w_ei; rw [s2.1, if_neg (fun e => h (by have := e.2; omega))]⟩
  have hK_0_148 := elq_182 hD hth cr_0_148
  have hE_0_149_1 : ∀ j : Int, 0 ≤ j → (j = v_iv (n_v vs 5) → w_ei ws (w_ar ws (n_v vs 0) 149) j = v_iv (n_v vs 23)) ∧ (j ≠ v_iv (n_v vs 5) → w_ei ws (w_ar ws (n_v vs 0) 149) j = w_ei w1 (w_ar ws (n_v vs 0) 149) j) := fun j hj => ⟨fun h => by unfold w_ei; rw [s1.1, if_pos ⟨ad_20.symm, by rw [h]⟩], fun h => by unfold w_ei; rw [s1.1, if_neg (fun e => h (by have := e.2; omega))]⟩
  have hE_0_149_2 : ∀ j : Int, w_ei w1 (w_ar ws (n_v vs 0) 149) j = w_ei w2 (w_ar ws (n_v vs 0) 149) j := el_kp s2.1 r15 cr_0_149 (by decide)
  have hK_0_149 := elq_183 hD hth cr_0_149
  have pe_0_146_147_1 : w_fi ws (n_v vs 0) 146 * w_fi ws (n_v vs 0) 147 = w_fi w1 (n_v vs 0) 146 * w_fi w1 (n_v vs 0) 147 := by rw [fe_0_146_1, fe_0_147_1]
  have pe_0_146_147_2 : w_fi w1 (n_v vs 0) 146 * w_fi w1 (n_v vs 0) 147 = w_fi w2 (n_v vs 0) 146 * w_fi w2 (n_v vs 0) 147 := by rw [fe_0_146_2, fe_0_147_2]
  have kz_0_146 := fdq_179 hD hth r0
  have kz_0_147 := fdq_180 hD hth r0
  obtain ⟨x, ex, hx⟩ := iv_ex (ta := ta) (lo := (-2)) (hi := 1000000) (z := (-1) + (1 * v_iv (n_v vs 13) + 0)) (by omega) (by omega) (by omega) (by omega)
  have ex2 : v_iv (Value.int x) = (-1) + (1 * v_iv (n_v vs 13) + 0) := ex
  have ex3 : (-2) ≤ v_iv (Value.int x) ∧ v_iv (Value.int x) ≤ 1000000 := tv_rng hx
  have e_0 : n_v (vs ++ [Value.int x]) 0 = n_v vs 0 := n_v_old (by rw [hl]; decide)
  have e_3 : n_v (vs ++ [Value.int x]) 3 = n_v vs 3 := n_v_old (by rw [hl]; decide)
  have e_10 : n_v (vs ++ [Value.int x]) 10 = n_v vs 10 := n_v_old (by rw [hl]; decide)
  have e_11 : n_v (vs ++ [Value.int x]) 11 = n_v vs 11 := n_v_old (by rw [hl]; decide)
  have e_24 : n_v (vs ++ [Value.int x]) 24 = n_v vs 24 := n_v_old (by rw [hl]; decide)
  have e_25 : n_v (vs ++ [Value.int x]) 25 = n_v vs 25 := n_v_old (by rw [hl]; decide)
  have e_26 : n_v (vs ++ [Value.int x]) 26 = Value.int x := n_v_new hl
  have nf0 : fc_1 PRD (20, [0], [60, 2, 0, 494, 146, 147]) ws (vs ++ [Value.int x]) := by
    refine ⟨nf_inA hl rfl, sgq_1289 ?_⟩
    · show GRX (w_fi ws (n_v (vs ++ [Value.int x]) 0) 146) (w_fi ws (n_v (vs ++ [Value.int x]) 0) 147)
      rw [e_0]
      exact vc_Mo_bendsBecome_16_0 (v_iv (n_v vs 3)) (v_iv (n_v vs 5)) (v_iv (n_v vs 6)) (v_iv (n_v vs 7)) (v_iv (n_v vs 9)) (v_iv (n_v vs 10)) (v_iv (n_v vs 11)) (v_iv (n_v vs 12)) (v_iv (n_v vs 13)) (v_iv (n_v vs 14)) (v_iv (n_v vs 17)) (v_iv (n_v vs 18)) (v_iv (n_v vs 22)) (v_iv (n_v vs 24)) (v_iv (n_v vs 25)) (w_ei ws (w_ar ws (n_v vs 0) 143)) (w_fi ws (n_v vs 0) 146) (w_fi ws (n_v vs 0) 147) (w_ei ws (w_ar ws (n_v vs 0) 140)) (w_fi w1 (n_v vs 0) 146) (w_fi w1 (n_v vs 0) 147) (w_ei w1 (w_ar ws (n_v vs 0) 143)) (w_ei w1 (w_ar ws (n_v vs 0) 140)) (w_fi w2 (n_v vs 0) 146) (w_fi w2 (n_v vs 0) 147) (w_ei w2 (w_ar ws (n_v vs 0) 143)) (w_ei w2 (w_ar ws (n_v vs 0) 140)) (w_ei ws (w_ar ws (n_v vs 0) 148)) (w_ei w1 (w_ar ws (n_v vs 0) 148)) (w_ei w2 (w_ar ws (n_v vs 0) 148)) (v_iv (n_v vs 19)) (w_ei ws (w_ar ws (n_v vs 0) 149)) (w_ei w1 (w_ar ws (n_v vs 0) 149)) (v_iv (n_v vs 23)) (w_ei w2 (w_ar ws (n_v vs 0) 149)) (v_iv (Value.int x)) k3 k5 k6 k7 k9 k10 k11 k12 k13 k14 k17 k18 k22 k24 k25 d0 d1 d2 d3 f0 f1 f2 f3 f4 f5 f6 f7 f8 f9 f10 f11 f12 f13 f15 g16 f18 f19 f20 f21 f22 f23 f24 f25 f26 f27 f28 f30 f32 f33 f34 f35 f36 f37 f38 f39 f40 f41 f42 f43 f44 f45 fe_0_146_1 fe_0_147_1 fe_0_146_2 fe_0_147_2 hE_0_140_1 hE_0_140_2 hK_0_140 hE_0_143_1 hE_0_143_2 hK_0_143 hE_0_148_1 hE_0_148_2 hK_0_148 hE_0_149_1 hE_0_149_2 hK_0_149 kz_0_146 kz_0_147 ex2 ex3
  have nf1 : fc_1 PRD (20, [0, 3], [60, 2, 2, 504, 146, 147, 143, 140]) ws (vs ++ [Value.int x]) := by
    refine ⟨nf_inA hl rfl, sgq_1411 ?_⟩
    · show RTV (w_fi ws (n_v (vs ++ [Value.int x]) 0) 146) (w_fi ws (n_v (vs ++ [Value.int x]) 0) 147) (w_ei ws (w_ar ws (n_v (vs ++ [Value.int x]) 0) 143)) (w_ei ws (w_ar ws (n_v (vs ++ [Value.int x]) 0) 140)) (v_iv (n_v (vs ++ [Value.int x]) 3))
      simp only [e_0, e_3]
      exact vc_Mo_bendsBecome_16_1 (v_iv (n_v vs 3)) (v_iv (n_v vs 5)) (v_iv (n_v vs 6)) (v_iv (n_v vs 7)) (v_iv (n_v vs 9)) (v_iv (n_v vs 10)) (v_iv (n_v vs 11)) (v_iv (n_v vs 12)) (v_iv (n_v vs 13)) (v_iv (n_v vs 14)) (v_iv (n_v vs 17)) (v_iv (n_v vs 18)) (v_iv (n_v vs 22)) (v_iv (n_v vs 24)) (v_iv (n_v vs 25)) (w_ei ws (w_ar ws (n_v vs 0) 143)) (w_fi ws (n_v vs 0) 146) (w_fi ws (n_v vs 0) 147) (w_ei ws (w_ar ws (n_v vs 0) 140)) (w_fi w1 (n_v vs 0) 146) (w_fi w1 (n_v vs 0) 147) (w_ei w1 (w_ar ws (n_v vs 0) 143)) (w_ei w1 (w_ar ws (n_v vs 0) 140)) (w_fi w2 (n_v vs 0) 146) (w_fi w2 (n_v vs 0) 147) (w_ei w2 (w_ar ws (n_v vs 0) 143)) (w_ei w2 (w_ar ws (n_v vs 0) 140)) (w_ei ws (w_ar ws (n_v vs 0) 148)) (w_ei w1 (w_ar ws (n_v vs 0) 148)) (w_ei w2 (w_ar ws (n_v vs 0) 148)) (v_iv (n_v vs 19)) (w_ei ws (w_ar ws (n_v vs 0) 149)) (w_ei w1 (w_ar ws (n_v vs 0) 149)) (v_iv (n_v vs 23)) (w_ei w2 (w_ar ws (n_v vs 0) 149)) (v_iv (Value.int x)) k3 k5 k6 k7 k9 k10 k11 k12 k13 k14 k17 k18 k22 k24 k25 d0 d1 d2 d3 f0 f1 f2 f3 f4 f5 f6 f7 f8 f9 f10 f11 f12 f13 f15 g16 f18 f19 f20 f21 f22 f23 f24 f25 f26 f27 f28 f30 f32 f33 f34 f35 f36 f37 f38 f39 f40 f41 f42 f43 f44 f45 fe_0_146_1 fe_0_147_1 fe_0_146_2 fe_0_147_2 hE_0_140_1 hE_0_140_2 hK_0_140 hE_0_143_1 hE_0_143_2 hK_0_143 hE_0_148_1 hE_0_148_2 hK_0_148 hE_0_149_1 hE_0_149_2 hK_0_149 kz_0_146 kz_0_147 ex2 ex3
  have nf2 : fc_1 PRD (20, [3, 0], [50, 2, 0, 1146, 1147, 2, 6, 0, 2, 0, 0, 1, 0, 0, 6, 4, 2, 1, 0, 0, 1, 6, 3, 2, 1, 146, 2, 1, 147]) ws (vs ++ [Value.int x]) := by
    refine ⟨nf_inA hl rfl, sgq_1290 ?_⟩
    · show (0 ≤ v_iv (n_v (vs ++ [Value.int x]) 3)) ∧ ((v_iv (n_v (vs ++ [Value.int x]) 3) + 1) ≤ (w_fi ws (n_v (vs ++ [Value.int x]) 0) 146 * w_fi ws (n_v (vs ++ [Value.int x]) 0) 147))
      simp only [e_0, e_3]
      exact vc_Mo_bendsBecome_16_2 (v_iv (n_v vs 3)) (v_iv (n_v vs 5)) (v_iv (n_v vs 6)) (v_iv (n_v vs 7)) (v_iv (n_v vs 9)) (v_iv (n_v vs 10)) (v_iv (n_v vs 11)) (v_iv (n_v vs 12)) (v_iv (n_v vs 13)) (v_iv (n_v vs 14)) (v_iv (n_v vs 17)) (v_iv (n_v vs 18)) (v_iv (n_v vs 22)) (v_iv (n_v vs 24)) (v_iv (n_v vs 25)) (w_ei ws (w_ar ws (n_v vs 0) 143)) (w_fi ws (n_v vs 0) 146) (w_fi ws (n_v vs 0) 147) (w_ei ws (w_ar ws (n_v vs 0) 140)) (w_fi w1 (n_v vs 0) 146) (w_fi w1 (n_v vs 0) 147) (w_ei w1 (w_ar ws (n_v vs 0) 143)) (w_ei w1 (w_ar ws (n_v vs 0) 140)) (w_fi w2 (n_v vs 0) 146) (w_fi w2 (n_v vs 0) 147) (w_ei w2 (w_ar ws (n_v vs 0) 143)) (w_ei w2 (w_ar ws (n_v vs 0) 140)) (w_ei ws (w_ar ws (n_v vs 0) 148)) (w_ei w1 (w_ar ws (n_v vs 0) 148)) (w_ei w2 (w_ar ws (n_v vs 0) 148)) (v_iv (n_v vs 19)) (w_ei ws (w_ar ws (n_v vs 0) 149)) (w_ei w1 (w_ar ws (n_v vs 0) 149)) (v_iv (n_v vs 23)) (w_ei w2 (w_ar ws (n_v vs 0) 149)) (v_iv (Value.int x)) k3 k5 k6 k7 k9 k10 k11 k12 k13 k14 k17 k18 k22 k24 k25 d0 d1 d2 d3 f0 f1 f2 f3 f4 f5 f6 f7 f8 f9 f10 f11 f12 f13 f15 g16 f18 f19 f20 f21 f22 f23 f24 f25 f26 f27 f28 f30 f32 f33 f34 f35 f36 f37 f38 f39 f40 f41 f42 f43 f44 f45 fe_0_146_1 fe_0_147_1 fe_0_146_2 fe_0_147_2 hE_0_140_1 hE_0_140_2 hK_0_140 hE_0_143_1 hE_0_143_2 hK_0_143 hE_0_148_1 hE_0_148_2 hK_0_148 hE_0_149_1 hE_0_149_2 hK_0_149 kz_0_146 kz_0_147 ex2 ex3
  have nf3 : fc_1 PRD (20, [0, 25, 10, 11], [60, 2, 2, 507, 146, 147, 143, 140]) ws (vs ++ [Value.int x]) := by
    refine ⟨nf_inA hl rfl, sgq_1413 ?_⟩
    · show BB2 (w_fi ws (n_v (vs ++ [Value.int x]) 0) 146) (w_fi ws (n_v (vs ++ [Value.int x]) 0) 147) (w_ei ws (w_ar ws (n_v (vs ++ [Value.int x]) 0) 143)) (w_ei ws (w_ar ws (n_v (vs ++ [Value.int x]) 0) 140)) (v_iv (n_v (vs ++ [Value.int x]) 25)) (v_iv (n_v (vs ++ [Value.int x]) 10)) (v_iv (n_v (vs ++ [Value.int x]) 11))
      simp only [e_0, e_10, e_11, e_25]
      exact vc_Mo_bendsBecome_16_3 (v_iv (n_v vs 3)) (v_iv (n_v vs 5)) (v_iv (n_v vs 6)) (v_iv (n_v vs 7)) (v_iv (n_v vs 9)) (v_iv (n_v vs 10)) (v_iv (n_v vs 11)) (v_iv (n_v vs 12)) (v_iv (n_v vs 13)) (v_iv (n_v vs 14)) (v_iv (n_v vs 17)) (v_iv (n_v vs 18)) (v_iv (n_v vs 22)) (v_iv (n_v vs 24)) (v_iv (n_v vs 25)) (w_ei ws (w_ar ws (n_v vs 0) 143)) (w_fi ws (n_v vs 0) 146) (w_fi ws (n_v vs 0) 147) (w_ei ws (w_ar ws (n_v vs 0) 140)) (w_fi w1 (n_v vs 0) 146) (w_fi w1 (n_v vs 0) 147) (w_ei w1 (w_ar ws (n_v vs 0) 143)) (w_ei w1 (w_ar ws (n_v vs 0) 140)) (w_fi w2 (n_v vs 0) 146) (w_fi w2 (n_v vs 0) 147) (w_ei w2 (w_ar ws (n_v vs 0) 143)) (w_ei w2 (w_ar ws (n_v vs 0) 140)) (w_ei ws (w_ar ws (n_v vs 0) 148)) (w_ei w1 (w_ar ws (n_v vs 0) 148)) (w_ei w2 (w_ar ws (n_v vs 0) 148)) (v_iv (n_v vs 19)) (w_ei ws (w_ar ws (n_v vs 0) 149)) (w_ei w1 (w_ar ws (n_v vs 0) 149)) (v_iv (n_v vs 23)) (w_ei w2 (w_ar ws (n_v vs 0) 149)) (v_iv (Value.int x)) k3 k5 k6 k7 k9 k10 k11 k12 k13 k14 k17 k18 k22 k24 k25 d0 d1 d2 d3 f0 f1 f2 f3 f4 f5 f6 f7 f8 f9 f10 f11 f12 f13 f15 g16 f18 f19 f20 f21 f22 f23 f24 f25 f26 f27 f28 f30 f32 f33 f34 f35 f36 f37 f38 f39 f40 f41 f42 f43 f44 f45 fe_0_146_1 fe_0_147_1 fe_0_146_2 fe_0_147_2 hE_0_140_1 hE_0_140_2 hK_0_140 hE_0_143_1 hE_0_143_2 hK_0_143 hE_0_148_1 hE_0_148_2 hK_0_148 hE_0_149_1 hE_0_149_2 hK_0_149 kz_0_146 kz_0_147 ex2 ex3
  have nf4 : fc_1 PRD (20, [25, 0], [50, 2, 0, 1146, 1147, 2, 6, 0, 2, 0, 0, 1, 0, 0, 6, 4, 2, 1, 0, 0, 1, 6, 3, 2, 1, 146, 2, 1, 147]) ws (vs ++ [Value.int x]) := by
    refine ⟨nf_inA hl rfl, sgq_1290 ?_⟩
    · show (0 ≤ v_iv (n_v (vs ++ [Value.int x]) 25)) ∧ ((v_iv (n_v (vs ++ [Value.int x]) 25) + 1) ≤ (w_fi ws (n_v (vs ++ [Value.int x]) 0) 146 * w_fi ws (n_v (vs ++ [Value.int x]) 0) 147))
      simp only [e_0, e_25]
      exact vc_Mo_bendsBecome_16_4 (v_iv (n_v vs 3)) (v_iv (n_v vs 5)) (v_iv (n_v vs 6)) (v_iv (n_v vs 7)) (v_iv (n_v vs 9)) (v_iv (n_v vs 10)) (v_iv (n_v vs 11)) (v_iv (n_v vs 12)) (v_iv (n_v vs 13)) (v_iv (n_v vs 14)) (v_iv (n_v vs 17)) (v_iv (n_v vs 18)) (v_iv (n_v vs 22)) (v_iv (n_v vs 24)) (v_iv (n_v vs 25)) (w_ei ws (w_ar ws (n_v vs 0) 143)) (w_fi ws (n_v vs 0) 146) (w_fi ws (n_v vs 0) 147) (w_ei ws (w_ar ws (n_v vs 0) 140)) (w_fi w1 (n_v vs 0) 146) (w_fi w1 (n_v vs 0) 147) (w_ei w1 (w_ar ws (n_v vs 0) 143)) (w_ei w1 (w_ar ws (n_v vs 0) 140)) (w_fi w2 (n_v vs 0) 146) (w_fi w2 (n_v vs 0) 147) (w_ei w2 (w_ar ws (n_v vs 0) 143)) (w_ei w2 (w_ar ws (n_v vs 0) 140)) (w_ei ws (w_ar ws (n_v vs 0) 148)) (w_ei w1 (w_ar ws (n_v vs 0) 148)) (w_ei w2 (w_ar ws (n_v vs 0) 148)) (v_iv (n_v vs 19)) (w_ei ws (w_ar ws (n_v vs 0) 149)) (w_ei w1 (w_ar ws (n_v vs 0) 149)) (v_iv (n_v vs 23)) (w_ei w2 (w_ar ws (n_v vs 0) 149)) (v_iv (Value.int x)) k3 k5 k6 k7 k9 k10 k11 k12 k13 k14 k17 k18 k22 k24 k25 d0 d1 d2 d3 f0 f1 f2 f3 f4 f5 f6 f7 f8 f9 f10 f11 f12 f13 f15 g16 f18 f19 f20 f21 f22 f23 f24 f25 f26 f27 f28 f30 f32 f33 f34 f35 f36 f37 f38 f39 f40 f41 f42 f43 f44 f45 fe_0_146_1 fe_0_147_1 fe_0_146_2 fe_0_147_2 hE_0_140_1 hE_0_140_2 hK_0_140 hE_0_143_1 hE_0_143_2 hK_0_143 hE_0_148_1 hE_0_148_2 hK_0_148 hE_0_149_1 hE_0_149_2 hK_0_149 kz_0_146 kz_0_147 ex2 ex3
  have nf5 : fc_1 PRD (20, [24, 11], [50, 0, 0, 0, 6, 4, 2, 1, 0, 1, 1, 0, 1000000]) ws (vs ++ [Value.int x]) := by
    refine ⟨nf_inA hl rfl, sgq_1414 ?_⟩
    · show (v_iv (n_v (vs ++ [Value.int x]) 24) + v_iv (n_v (vs ++ [Value.int x]) 11)) ≤ 1000000
      simp only [e_11, e_24]
      exact vc_Mo_bendsBecome_16_5 (v_iv (n_v vs 3)) (v_iv (n_v vs 5)) (v_iv (n_v vs 6)) (v_iv (n_v vs 7)) (v_iv (n_v vs 9)) (v_iv (n_v vs 10)) (v_iv (n_v vs 11)) (v_iv (n_v vs 12)) (v_iv (n_v vs 13)) (v_iv (n_v vs 14)) (v_iv (n_v vs 17)) (v_iv (n_v vs 18)) (v_iv (n_v vs 22)) (v_iv (n_v vs 24)) (v_iv (n_v vs 25)) (w_ei ws (w_ar ws (n_v vs 0) 143)) (w_fi ws (n_v vs 0) 146) (w_fi ws (n_v vs 0) 147) (w_ei ws (w_ar ws (n_v vs 0) 140)) (w_fi w1 (n_v vs 0) 146) (w_fi w1 (n_v vs 0) 147) (w_ei w1 (w_ar ws (n_v vs 0) 143)) (w_ei w1 (w_ar ws (n_v vs 0) 140)) (w_fi w2 (n_v vs 0) 146) (w_fi w2 (n_v vs 0) 147) (w_ei w2 (w_ar ws (n_v vs 0) 143)) (w_ei w2 (w_ar ws (n_v vs 0) 140)) (w_ei ws (w_ar ws (n_v vs 0) 148)) (w_ei w1 (w_ar ws (n_v vs 0) 148)) (w_ei w2 (w_ar ws (n_v vs 0) 148)) (v_iv (n_v vs 19)) (w_ei ws (w_ar ws (n_v vs 0) 149)) (w_ei w1 (w_ar ws (n_v vs 0) 149)) (v_iv (n_v vs 23)) (w_ei w2 (w_ar ws (n_v vs 0) 149)) (v_iv (Value.int x)) k3 k5 k6 k7 k9 k10 k11 k12 k13 k14 k17 k18 k22 k24 k25 d0 d1 d2 d3 f0 f1 f2 f3 f4 f5 f6 f7 f8 f9 f10 f11 f12 f13 f15 g16 f18 f19 f20 f21 f22 f23 f24 f25 f26 f27 f28 f30 f32 f33 f34 f35 f36 f37 f38 f39 f40 f41 f42 f43 f44 f45 fe_0_146_1 fe_0_147_1 fe_0_146_2 fe_0_147_2 hE_0_140_1 hE_0_140_2 hK_0_140 hE_0_143_1 hE_0_143_2 hK_0_143 hE_0_148_1 hE_0_148_2 hK_0_148 hE_0_149_1 hE_0_149_2 hK_0_149 kz_0_146 kz_0_147 ex2 ex3
  have nf6 : fc_1 PRD (20, [24], [50, 0, 0, 0, 2, 0, 0, 1, 0]) ws (vs ++ [Value.int x]) := by
    refine ⟨nf_inA hl rfl, sgq_722 ?_⟩
    · show 0 ≤ v_iv (n_v (vs ++ [Value.int x]) 24)
      rw [e_24]
      exact vc_Mo_bendsBecome_16_6 (v_iv (n_v vs 3)) (v_iv (n_v vs 5)) (v_iv (n_v vs 6)) (v_iv (n_v vs 7)) (v_iv (n_v vs 9)) (v_iv (n_v vs 10)) (v_iv (n_v vs 11)) (v_iv (n_v vs 12)) (v_iv (n_v vs 13)) (v_iv (n_v vs 14)) (v_iv (n_v vs 17)) (v_iv (n_v vs 18)) (v_iv (n_v vs 22)) (v_iv (n_v vs 24)) (v_iv (n_v vs 25)) (w_ei ws (w_ar ws (n_v vs 0) 143)) (w_fi ws (n_v vs 0) 146) (w_fi ws (n_v vs 0) 147) (w_ei ws (w_ar ws (n_v vs 0) 140)) (w_fi w1 (n_v vs 0) 146) (w_fi w1 (n_v vs 0) 147) (w_ei w1 (w_ar ws (n_v vs 0) 143)) (w_ei w1 (w_ar ws (n_v vs 0) 140)) (w_fi w2 (n_v vs 0) 146) (w_fi w2 (n_v vs 0) 147) (w_ei w2 (w_ar ws (n_v vs 0) 143)) (w_ei w2 (w_ar ws (n_v vs 0) 140)) (w_ei ws (w_ar ws (n_v vs 0) 148)) (w_ei w1 (w_ar ws (n_v vs 0) 148)) (w_ei w2 (w_ar ws (n_v vs 0) 148)) (v_iv (n_v vs 19)) (w_ei ws (w_ar ws (n_v vs 0) 149)) (w_ei w1 (w_ar ws (n_v vs 0) 149)) (v_iv (n_v vs 23)) (w_ei w2 (w_ar ws (n_v vs 0) 149)) (v_iv (Value.int x)) k3 k5 k6 k7 k9 k10 k11 k12 k13 k14 k17 k18 k22 k24 k25 d0 d1 d2 d3 f0 f1 f2 f3 f4 f5 f6 f7 f8 f9 f10 f11 f12 f13 f15 g16 f18 f19 f20 f21 f22 f23 f24 f25 f26 f27 f28 f30 f32 f33 f34 f35 f36 f37 f38 f39 f40 f41 f42 f43 f44 f45 fe_0_146_1 fe_0_147_1 fe_0_146_2 fe_0_147_2 hE_0_140_1 hE_0_140_2 hK_0_140 hE_0_143_1 hE_0_143_2 hK_0_143 hE_0_148_1 hE_0_148_2 hK_0_148 hE_0_149_1 hE_0_149_2 hK_0_149 kz_0_146 kz_0_147 ex2 ex3
  have nf7 : fc_1 PRD (20, [11, 26], [50, 0, 0, 2, 6, 0, 2, 0, 0, 1, 0, 0, 2, 1, 0, 1, 1]) ws (vs ++ [Value.int x]) := by
    refine ⟨nf_inA hl rfl, sgq_366 ?_⟩
    · show (0 ≤ v_iv (n_v (vs ++ [Value.int x]) 11)) ∧ (v_iv (n_v (vs ++ [Value.int x]) 11) ≤ v_iv (n_v (vs ++ [Value.int x]) 26))
      simp only [e_11, e_26]
      exact vc_Mo_bendsBecome_16_7 (v_iv (n_v vs 3)) (v_iv (n_v vs 5)) (v_iv (n_v vs 6)) (v_iv (n_v vs 7)) (v_iv (n_v vs 9)) (v_iv (n_v vs 10)) (v_iv (n_v vs 11)) (v_iv (n_v vs 12)) (v_iv (n_v vs 13)) (v_iv (n_v vs 14)) (v_iv (n_v vs 17)) (v_iv (n_v vs 18)) (v_iv (n_v vs 22)) (v_iv (n_v vs 24)) (v_iv (n_v vs 25)) (w_ei ws (w_ar ws (n_v vs 0) 143)) (w_fi ws (n_v vs 0) 146) (w_fi ws (n_v vs 0) 147) (w_ei ws (w_ar ws (n_v vs 0) 140)) (w_fi w1 (n_v vs 0) 146) (w_fi w1 (n_v vs 0) 147) (w_ei w1 (w_ar ws (n_v vs 0) 143)) (w_ei w1 (w_ar ws (n_v vs 0) 140)) (w_fi w2 (n_v vs 0) 146) (w_fi w2 (n_v vs 0) 147) (w_ei w2 (w_ar ws (n_v vs 0) 143)) (w_ei w2 (w_ar ws (n_v vs 0) 140)) (w_ei ws (w_ar ws (n_v vs 0) 148)) (w_ei w1 (w_ar ws (n_v vs 0) 148)) (w_ei w2 (w_ar ws (n_v vs 0) 148)) (v_iv (n_v vs 19)) (w_ei ws (w_ar ws (n_v vs 0) 149)) (w_ei w1 (w_ar ws (n_v vs 0) 149)) (v_iv (n_v vs 23)) (w_ei w2 (w_ar ws (n_v vs 0) 149)) (v_iv (Value.int x)) k3 k5 k6 k7 k9 k10 k11 k12 k13 k14 k17 k18 k22 k24 k25 d0 d1 d2 d3 f0 f1 f2 f3 f4 f5 f6 f7 f8 f9 f10 f11 f12 f13 f15 g16 f18 f19 f20 f21 f22 f23 f24 f25 f26 f27 f28 f30 f32 f33 f34 f35 f36 f37 f38 f39 f40 f41 f42 f43 f44 f45 fe_0_146_1 fe_0_147_1 fe_0_146_2 fe_0_147_2 hE_0_140_1 hE_0_140_2 hK_0_140 hE_0_143_1 hE_0_143_2 hK_0_143 hE_0_148_1 hE_0_148_2 hK_0_148 hE_0_149_1 hE_0_149_2 hK_0_149 kz_0_146 kz_0_147 ex2 ex3
  obtain ⟨x0, e0, _, _⟩ := tv_int t13 rfl
  have e1 : v_iv (n_v vs 13) = x0.toInt := by rw [e0]; rfl
  have ho : sy_ofs (vs ++ [Value.int x]) (26, 13, -1000000000000, -1) := by
    refine ⟨x, x0, by rw [List.getElem?_append_right (by rw [hl]; decide), hl]; rfl, ?_, ?_, ?_⟩
    · rw [List.getElem?_append_left (by rw [hl]; decide)]; exact n_v_some (by rw [hl]; decide) e0
    · show x0.toInt + (-1000000000000) ≤ x.toInt; omega
    · show x.toInt ≤ x0.toInt + (-1); omega
  exact ⟨(fun _ h => (by cases h)), [Value.int x], ag_one hx, List.forall_mem_cons.mpr ⟨⟨show (20 : Nat) < 100 from by decide, nf0⟩, List.forall_mem_cons.mpr ⟨⟨show (20 : Nat) < 100 from by decide, nf1⟩, List.forall_mem_cons.mpr ⟨⟨show (20 : Nat) < 100 from by decide, nf2⟩, List.forall_mem_cons.mpr ⟨⟨show (20 : Nat) < 100 from by decide, nf3⟩, List.forall_mem_cons.mpr ⟨⟨show (20 : Nat) < 100 from by decide, nf4⟩, List.forall_mem_cons.mpr ⟨⟨show (20 : Nat) < 100 from by decide, nf5⟩, List.forall_mem_cons.mpr ⟨⟨show (20 : Nat) < 100 from by decide, nf6⟩, List.forall_mem_cons.mpr ⟨⟨show (20 : Nat) < 100 from by decide, nf7⟩, (fun _ h => (by cases h))⟩⟩⟩⟩⟩⟩⟩⟩, List.forall_mem_cons.mpr ⟨ho, (fun _ h => (by cases h))⟩⟩
set_option maxHeartbeats 4000000 in
theorem vc_Mo_bendsBecome_17_0 (x3 : Int) (x5 : Int) (x6 : Int) (x7 : Int) (x9 : Int) (x10 : Int) (x11 : Int) (x12 : Int) (x13 : Int) (x14 : Int) (x16 : Int) (barredPoint_0 : Int → Int) (wide_0 : Int) (tall_0 : Int) (costOf_0 : Int → Int) (k3 : 0 ≤ x3 ∧ x3 ≤ 5999) (k5 : 0 ≤ x5 ∧ x5 ≤ 2147483647) (k6 : 0 ≤ x6 ∧ x6 ≤ 5999) (k7 : 0 ≤ x7 ∧ x7 ≤ 3) (k9 : 0 ≤ x9 ∧ x9 ≤ 1000000) (k10 : (-1) ≤ x10 ∧ x10 ≤ 3) (k11 : 0 ≤ x11 ∧ x11 ≤ 999999) (k12 : 0 ≤ x12 ∧ x12 ≤ 3) (k13 : (-2) ≤ x13 ∧ x13 ≤ 1000000) (k14 : (-1) ≤ x14 ∧ x14 ≤ (-1)) (k16 : (-1) ≤ x16 ∧ x16 ≤ 2) (d0 : x12 + (-1) ≤ x16 ∧ x16 ≤ x12 + (-1)) (d1 : x9 + (-4294967296) ≤ x10 ∧ x10 ≤ x9 + 2) (d2 : x9 + (-4294967296) ≤ x11 ∧ x11 ≤ x9 + 0) (f0 : x16 = x12 + (-1)) (f1 : x14 < 0) (f2 : x12 ≠ x7) (f3 : STQ (wide_0) (tall_0) (barredPoint_0) (x6) (x12) (x14)) (f4 : ((-1) ≤ x14) ∧ ((x14 + 1) ≤ (wide_0 * tall_0))) (f5 : 0 ≤ x12) (f6 : GRX (wide_0) (tall_0)) (f7 : RTV (wide_0) (tall_0) (barredPoint_0) (costOf_0) (x3)) (f8 : (0 ≤ x3) ∧ ((x3 + 1) ≤ (wide_0 * tall_0))) (f9 : BB2 (wide_0) (tall_0) (barredPoint_0) (costOf_0) (x6) (x7) (x9)) (f10 : (0 ≤ x6) ∧ ((x6 + 1) ≤ (wide_0 * tall_0))) (f11 : (x5 + x9) ≤ 1000000) (f12 : 0 ≤ x5) (f13 : x6 ≠ x3) (f14 : BB3 (wide_0) (tall_0) (barredPoint_0) (costOf_0) (x6) (x7) (x9) (x10) (x11) (x12)) (f15 : (0 ≤ x9) ∧ (x9 ≤ x13)) (f16 : (-1) * x13 + 0 ≤ (-1)) (hK_0_140 : ∀ j : Int, 0 ≤ j → j < 24000 → 0 ≤ costOf_0 j ∧ costOf_0 j ≤ 1000000) (hK_0_143 : ∀ j : Int, 0 ≤ j → j < 6000 → 0 ≤ barredPoint_0 j ∧ barredPoint_0 j ≤ 1) (kz_0_146 : (-3999999) ≤ wide_0 ∧ wide_0 ≤ 600000023) (kz_0_147 : (-3999999) ≤ tall_0 ∧ tall_0 ≤ 600000007) : BB3 (wide_0) (tall_0) (barredPoint_0) (costOf_0) (x6) (x7) (x9) (x10) (x11) (x16) := by
  first
    | exact bb3_start (by omega) (by omega)
    | exact bb3_skip (w := x15) (x := x14) (v := x14) ‹BB3 _ _ _ _ _ _ _ _ _ _› (by omega) ‹STQ _ _ _ _ _ _› (by omega) (Or.inl (by omega))
    | exact bb3_skip (w := 1) (x := x14) (v := x14) ‹BB3 _ _ _ _ _ _ _ _ _ _› (by omega) ‹STQ _ _ _ _ _ _› (Or.inl ⟨by omega, rfl⟩) (Or.inl (by omega))
    | exact bb3_skip (w := 3) (x := x14) (v := x14) ‹BB3 _ _ _ _ _ _ _ _ _ _› (by omega) ‹STQ _ _ _ _ _ _› (Or.inr ⟨by omega, rfl⟩) (Or.inl (by omega))
    | exact bb3_skip (w := x15) (x := x19) (v := x20) ‹BB3 _ _ _ _ _ _ _ _ _ _› (by omega) ‹STQ _ _ _ _ _ _› (by omega) (Or.inr ⟨by omega, by assumption, by omega⟩)
    | exact bb3_take (q := x14) (x := x19) (v := x20) (w := x15) ‹STQ _ _ _ _ _ _› (by omega) (by omega) (by omega) (by omega) (by assumption) (by omega) (by omega) (by omega) (by omega)
  
def o_Mo_bendsBecome_17 : or_T := (127, 17, [(0, (2, 0, 0, [165])), (3, (0, 0, 5999, [])), (5, (0, 0, 2147483647, [])), (6, (0, 0, 5999, [])), (7, (0, 0, 3, [])), (9, (0, 0, 1000000, [])), (10, (0, -1, 3, [])), (11, (0, 0, 999999, [])), (12, (0, 0, 3, [])), (13, (0, -2, 1000000, [])), (14, (0, -1, -1, [])), (16, (0, -1, 2, []))], [(6, [16, 12], [-1]), (8, [14], [2]), (7, [12, 7], [1]), (20, [0, 6, 12, 14], [60, 2, 1, 505, 146, 147, 143]), (20, [14, 0], [50, 2, 0, 1146, 1147, 2, 6, 0, 2, 0, -1, 1, 0, 0, 6, 4, 2, 1, 0, 0, 1, 6, 3, 2, 1, 146, 2, 1, 147]), (8, [12], [3]), (20, [0], [60, 2, 0, 494, 146, 147]), (20, [0, 3], [60, 2, 2, 504, 146, 147, 143, 140]), (20, [3, 0], [50, 2, 0, 1146, 1147, 2, 6, 0, 2, 0, 0, 1, 0, 0, 6, 4, 2, 1, 0, 0, 1, 6, 3, 2, 1, 146, 2, 1, 147]), (20, [0, 6, 7, 9], [60, 2, 2, 507, 146, 147, 143, 140]), (20, [6, 0], [50, 2, 0, 1146, 1147, 2, 6, 0, 2, 0, 0, 1, 0, 0, 6, 4, 2, 1, 0, 0, 1, 6, 3, 2, 1, 146, 2, 1, 147]), (20, [5, 9], [50, 0, 0, 0, 6, 4, 2, 1, 0, 1, 1, 0, 1000000]), (20, [5], [50, 0, 0, 0, 2, 0, 0, 1, 0]), (20, [6, 3], [50, 0, 0, 7, 2, 1, 0, 1, 1]), (20, [0, 6, 7, 9, 10, 11, 12], [60, 2, 2, 508, 146, 147, 143, 140]), (20, [9, 13], [50, 0, 0, 2, 6, 0, 2, 0, 0, 1, 0, 0, 2, 1, 0, 1, 1]), (23, [13], [-1, -1])], [], [], [(20, [0, 6, 7, 9, 10, 11, 16], [60, 2, 2, 508, 146, 147, 143, 140])], [], [(16, 12, -1, -1), (10, 9, -4294967296, 2), (11, 9, -4294967296, 0)])
theorem oo_Mo_bendsBecome_17 {kA : Nat → ClassId} : or_ok PRD kA GG o_Mo_bendsBecome_17 := by
  refine or_mk fun A ta ws vs hD hth hl => ?_
  intro t0 r0 t3 k3 t5 k5 t6 k6 t7 k7 t9 k9 t10 k10 t11 k11 t12 k12 t13 k13 t14 k14 t16 k16 d0 d1 d2 f0 f1 f2 f3 f4 f5 f6 f7 f8 f9 f10 f11 f12 f13 f14 f15 f16
  have cr_0_140 := fdq_175 hD hth r0
  have cr_0_143 := fdq_178 hD hth r0
  have hK_0_140 := elq_104 hD hth cr_0_140
  have hK_0_143 := elq_107 hD hth cr_0_143
  have kz_0_146 := fdq_179 hD hth r0
  have kz_0_147 := fdq_180 hD hth r0
  have nf0 : fc_1 PRD (20, [0, 6, 7, 9, 10, 11, 16], [60, 2, 2, 508, 146, 147, 143, 140]) ws (vs) := ⟨nf_in hl rfl, sgq_1415 (vc_Mo_bendsBecome_17_0 (v_iv (n_v vs 3)) (v_iv (n_v vs 5)) (v_iv (n_v vs 6)) (v_iv (n_v vs 7)) (v_iv (n_v vs 9)) (v_iv (n_v vs 10)) (v_iv (n_v vs 11)) (v_iv (n_v vs 12)) (v_iv (n_v vs 13)) (v_iv (n_v vs 14)) (v_iv (n_v vs 16)) (w_ei ws (w_ar ws (n_v vs 0) 143)) (w_fi ws (n_v vs 0) 146) (w_fi ws (n_v vs 0) 147) (w_ei ws (w_ar ws (n_v vs 0) 140)) k3 k5 k6 k7 k9 k10 k11 k12 k13 k14 k16 d0 d1 d2 (shm_186 f0) (shm_39 f1) (shm_40 f2) (shm_1291 f3) (shm_1292 f4) (shm_32 f5) (shm_1289 f6) (shm_1411 f7) (shm_1290 f8) (shm_1413 f9) (shm_1290 f10) (shm_1414 f11) (shm_722 f12) (shm_406 f13) (shm_1415 f14) (shm_366 f15) (shm_626 f16) hK_0_140 hK_0_143 kz_0_146 kz_0_147)⟩
  refine ⟨(fun _ h => (by cases h)), [], trivial, ?_, (fun _ h => (by cases h))⟩
  rw [List.append_nil]
  exact List.forall_mem_cons.mpr ⟨⟨show (20 : Nat) < 100 from by decide, nf0⟩, (fun _ h => (by cases h))⟩
set_option maxHeartbeats 4000000 in
theorem vc_Mo_bendsBecome_18_0 (x3 : Int) (x5 : Int) (x6 : Int) (x7 : Int) (x9 : Int) (x10 : Int) (x11 : Int) (x12 : Int) (x13 : Int) (x14 : Int) (x15 : Int) (x17 : Int) (x18 : Int) (x19 : Int) (x20 : Int) (x21 : Int) (x22 : Int) (x23 : Int) (costOf_0 : Int → Int) (barredPoint_0 : Int → Int) (wide_0 : Int) (tall_0 : Int) (k3 : 0 ≤ x3 ∧ x3 ≤ 5999) (k5 : 0 ≤ x5 ∧ x5 ≤ 2147483647) (k6 : 0 ≤ x6 ∧ x6 ≤ 5999) (k7 : 0 ≤ x7 ∧ x7 ≤ 3) (k9 : 3 ≤ x9 ∧ x9 ≤ 1000000) (k10 : (-1) ≤ x10 ∧ x10 ≤ 3) (k11 : 0 ≤ x11 ∧ x11 ≤ 999999) (k12 : 0 ≤ x12 ∧ x12 ≤ 3) (k13 : (-2) ≤ x13 ∧ x13 ≤ 1000000) (k14 : 0 ≤ x14 ∧ x14 ≤ 5999) (k15 : 3 ≤ x15 ∧ x15 ≤ 3) (k17 : 4 ≤ x17 ∧ x17 ≤ 4) (k18 : 0 ≤ x18 ∧ x18 ≤ 23996) (k19 : 0 ≤ x19 ∧ x19 ≤ 23999) (k20 : 0 ≤ x20 ∧ x20 ≤ 999997) (k21 : 0 ≤ x21 ∧ x21 ≤ 999997) (k22 : 0 ≤ x22 ∧ x22 ≤ 999997) (k23 : (-1) ≤ x23 ∧ x23 ≤ 2) (d0 : x12 + (-1) ≤ x23 ∧ x23 ≤ x12 + (-1)) (d1 : x9 + (-3) ≤ x22 ∧ x22 ≤ x9 + (-3)) (d2 : x21 + 0 ≤ x20 ∧ x20 ≤ x21 + 0) (d3 : x9 + (-3) ≤ x21 ∧ x21 ≤ x9 + (-3)) (d4 : x12 + 0 ≤ x19 ∧ x19 ≤ x12 + 23996) (d5 : x18 + 0 ≤ x19 ∧ x19 ≤ x18 + 3) (d6 : x9 + (-4294967296) ≤ x11 ∧ x11 ≤ x9 + 0) (f0 : x23 = x12 + (-1)) (f1 : x22 = x9 - x15) (f2 : x20 = x21) (f3 : x21 = x9 - x15) (h4 : x20 = costOf_0 (x19)) (f5 : x19 = x18 + x12) (f6 : x18 = 4 * x14) (f8 : 0 ≤ x14) (f9 : x12 ≠ x7) (f10 : STQ (wide_0) (tall_0) (barredPoint_0) (x6) (x12) (x14)) (f11 : ((-1) ≤ x14) ∧ ((x14 + 1) ≤ (wide_0 * tall_0))) (f12 : 0 ≤ x12) (f13 : GRX (wide_0) (tall_0)) (f14 : RTV (wide_0) (tall_0) (barredPoint_0) (costOf_0) (x3)) (f15 : (0 ≤ x3) ∧ ((x3 + 1) ≤ (wide_0 * tall_0))) (f16 : BB2 (wide_0) (tall_0) (barredPoint_0) (costOf_0) (x6) (x7) (x9)) (f17 : (0 ≤ x6) ∧ ((x6 + 1) ≤ (wide_0 * tall_0))) (f18 : (x5 + x9) ≤ 1000000) (f19 : 0 ≤ x5) (f20 : x6 ≠ x3) (f21 : BB3 (wide_0) (tall_0) (barredPoint_0) (costOf_0) (x6) (x7) (x9) (x10) (x11) (x12)) (f22 : (0 ≤ x9) ∧ (x9 ≤ x13)) (f23 : (-1) * x13 + 0 ≤ (-1)) (hK_0_140 : ∀ j : Int, 0 ≤ j → j < 24000 → 0 ≤ costOf_0 j ∧ costOf_0 j ≤ 1000000) (hK_0_143 : ∀ j : Int, 0 ≤ j → j < 6000 → 0 ≤ barredPoint_0 j ∧ barredPoint_0 j ≤ 1) (kz_0_146 : (-3999999) ≤ wide_0 ∧ wide_0 ≤ 600000023) (kz_0_147 : (-3999999) ≤ tall_0 ∧ tall_0 ≤ 600000007) : BB3 (wide_0) (tall_0) (barredPoint_0) (costOf_0) (x6) (x7) (x9) (x12) (x22) (x23) := by
  first
    | exact bb3_start (by omega) (by omega)
    | exact bb3_skip (w := x15) (x := x14) (v := x14) ‹BB3 _ _ _ _ _ _ _ _ _ _› (by omega) ‹STQ _ _ _ _ _ _› (by omega) (Or.inl (by omega))
    | exact bb3_skip (w := 1) (x := x14) (v := x14) ‹BB3 _ _ _ _ _ _ _ _ _ _› (by omega) ‹STQ _ _ _ _ _ _› (Or.inl ⟨by omega, rfl⟩) (Or.inl (by omega))
    | exact bb3_skip (w := 3) (x := x14) (v := x14) ‹BB3 _ _ _ _ _ _ _ _ _ _› (by omega) ‹STQ _ _ _ _ _ _› (Or.inr ⟨by omega, rfl⟩) (Or.inl (by omega))
    | exact bb3_skip (w := x15) (x := x19) (v := x20) ‹BB3 _ _ _ _ _ _ _ _ _ _› (by omega) ‹STQ _ _ _ _ _ _› (by omega) (Or.inr ⟨by omega, by assumption, by omega⟩)
    | exact bb3_take (q := x14) (x := x19) (v := x20) (w := x15) ‹STQ _ _ _ _ _ _› (by omega) (by omega) (by omega) (by omega) (by assumption) (by omega) (by omega) (by omega) (by omega)
  
def o_Mo_bendsBecome_18 : or_T := (127, 24, [(0, (2, 0, 0, [165])), (3, (0, 0, 5999, [])), (5, (0, 0, 2147483647, [])), (6, (0, 0, 5999, [])), (7, (0, 0, 3, [])), (9, (0, 3, 1000000, [])), (10, (0, -1, 3, [])), (11, (0, 0, 999999, [])), (12, (0, 0, 3, [])), (13, (0, -2, 1000000, [])), (14, (0, 0, 5999, [])), (15, (0, 3, 3, [])), (16, (2, 0, 0, [266])), (17, (0, 4, 4, [])), (18, (0, 0, 23996, [])), (19, (0, 0, 23999, [])), (20, (0, 0, 999997, [])), (21, (0, 0, 999997, [])), (22, (0, 0, 999997, [])), (23, (0, -1, 2, []))], [(6, [23, 12], [-1]), (2, [22, 9, 15], []), (7, [20, 21], [0]), (2, [21, 9, 15], []), (10, [20, 16, 19], []), (1, [19, 18, 12], []), (3, [18, 17, 14], []), (9, [16, 0], [140]), (8, [14], [3]), (7, [12, 7], [1]), (20, [0, 6, 12, 14], [60, 2, 1, 505, 146, 147, 143]), (20, [14, 0], [50, 2, 0, 1146, 1147, 2, 6, 0, 2, 0, -1, 1, 0, 0, 6, 4, 2, 1, 0, 0, 1, 6, 3, 2, 1, 146, 2, 1, 147]), (8, [12], [3]), (20, [0], [60, 2, 0, 494, 146, 147]), (20, [0, 3], [60, 2, 2, 504, 146, 147, 143, 140]), (20, [3, 0], [50, 2, 0, 1146, 1147, 2, 6, 0, 2, 0, 0, 1, 0, 0, 6, 4, 2, 1, 0, 0, 1, 6, 3, 2, 1, 146, 2, 1, 147]), (20, [0, 6, 7, 9], [60, 2, 2, 507, 146, 147, 143, 140]), (20, [6, 0], [50, 2, 0, 1146, 1147, 2, 6, 0, 2, 0, 0, 1, 0, 0, 6, 4, 2, 1, 0, 0, 1, 6, 3, 2, 1, 146, 2, 1, 147]), (20, [5, 9], [50, 0, 0, 0, 6, 4, 2, 1, 0, 1, 1, 0, 1000000]), (20, [5], [50, 0, 0, 0, 2, 0, 0, 1, 0]), (20, [6, 3], [50, 0, 0, 7, 2, 1, 0, 1, 1]), (20, [0, 6, 7, 9, 10, 11, 12], [60, 2, 2, 508, 146, 147, 143, 140]), (20, [9, 13], [50, 0, 0, 2, 6, 0, 2, 0, 0, 1, 0, 0, 2, 1, 0, 1, 1]), (23, [13], [-1, -1])], [], [], [(20, [0, 6, 7, 9, 12, 22, 23], [60, 2, 2, 508, 146, 147, 143, 140])], [], [(23, 12, -1, -1), (22, 9, -3, -3), (20, 21, 0, 0), (21, 9, -3, -3), (19, 12, 0, 23996), (19, 18, 0, 3), (11, 9, -4294967296, 0)])
theorem oo_Mo_bendsBecome_18 {kA : Nat → ClassId} : or_ok PRD kA GG o_Mo_bendsBecome_18 := by
  refine or_mk fun A ta ws vs hD hth hl => ?_
  intro t0 r0 t3 k3 t5 k5 t6 k6 t7 k7 t9 k9 t10 k10 t11 k11 t12 k12 t13 k13 t14 k14 t15 k15 t16 r16 t17 k17 t18 k18 t19 k19 t20 k20 t21 k21 t22 k22 t23 k23 d0 d1 d2 d3 d4 d5 d6 f0 f1 f2 f3 f4 f5 f6 f7 f8 f9 f10 f11 f12 f13 f14 f15 f16 f17 f18 f19 f20 f21 f22 f23
  replace f4 := shm_107 f4
  replace f6 := shm_38 f6
  rw [show v_iv (n_v vs 17) = 4 from by omega] at f6
  replace f7 := shm_703 f7
  have cr_0_140 := fdq_175 hD hth r0
  have cr_0_143 := fdq_178 hD hth r0
  have ad_16 : v_ad (n_v vs 16) = w_ar ws (n_v vs 0) 140 := congrArg v_ad f7
  simp only [ad_16] at f4
  have h4 : v_iv (n_v vs 20) = w_ei ws (w_ar ws (n_v vs 0) 140) (v_iv (n_v vs 19)) := f4
  have hK_0_140 := elq_104 hD hth cr_0_140
  have hK_0_143 := elq_107 hD hth cr_0_143
  have kz_0_146 := fdq_179 hD hth r0
  have kz_0_147 := fdq_180 hD hth r0
  have nf0 : fc_1 PRD (20, [0, 6, 7, 9, 12, 22, 23], [60, 2, 2, 508, 146, 147, 143, 140]) ws (vs) := ⟨nf_in hl rfl, sgq_1415 (vc_Mo_bendsBecome_18_0 (v_iv (n_v vs 3)) (v_iv (n_v vs 5)) (v_iv (n_v vs 6)) (v_iv (n_v vs 7)) (v_iv (n_v vs 9)) (v_iv (n_v vs 10)) (v_iv (n_v vs 11)) (v_iv (n_v vs 12)) (v_iv (n_v vs 13)) (v_iv (n_v vs 14)) (v_iv (n_v vs 15)) (v_iv (n_v vs 17)) (v_iv (n_v vs 18)) (v_iv (n_v vs 19)) (v_iv (n_v vs 20)) (v_iv (n_v vs 21)) (v_iv (n_v vs 22)) (v_iv (n_v vs 23)) (w_ei ws (w_ar ws (n_v vs 0) 140)) (w_ei ws (w_ar ws (n_v vs 0) 143)) (w_fi ws (n_v vs 0) 146) (w_fi ws (n_v vs 0) 147) k3 k5 k6 k7 k9 k10 k11 k12 k13 k14 k15 k17 k18 k19 k20 k21 k22 k23 d0 d1 d2 d3 d4 d5 d6 (shm_186 f0) (shm_14 f1) (shm_37 f2) (shm_14 f3) h4 (shm_12 f5) f6 (shm_32 f8) (shm_40 f9) (shm_1291 f10) (shm_1292 f11) (shm_32 f12) (shm_1289 f13) (shm_1411 f14) (shm_1290 f15) (shm_1413 f16) (shm_1290 f17) (shm_1414 f18) (shm_722 f19) (shm_406 f20) (shm_1415 f21) (shm_366 f22) (shm_626 f23) hK_0_140 hK_0_143 kz_0_146 kz_0_147)⟩
  refine ⟨(fun _ h => (by cases h)), [], trivial, ?_, (fun _ h => (by cases h))⟩
  rw [List.append_nil]
  exact List.forall_mem_cons.mpr ⟨⟨show (20 : Nat) < 100 from by decide, nf0⟩, (fun _ h => (by cases h))⟩
set_option maxHeartbeats 4000000 in
theorem vc_Mo_bendsBecome_19_0 (x3 : Int) (x5 : Int) (x6 : Int) (x7 : Int) (x9 : Int) (x10 : Int) (x11 : Int) (x12 : Int) (x13 : Int) (x14 : Int) (x15 : Int) (x17 : Int) (x18 : Int) (x19 : Int) (x20 : Int) (x21 : Int) (x22 : Int) (costOf_0 : Int → Int) (barredPoint_0 : Int → Int) (wide_0 : Int) (tall_0 : Int) (k3 : 0 ≤ x3 ∧ x3 ≤ 5999) (k5 : 0 ≤ x5 ∧ x5 ≤ 2147483647) (k6 : 0 ≤ x6 ∧ x6 ≤ 5999) (k7 : 0 ≤ x7 ∧ x7 ≤ 3) (k9 : 0 ≤ x9 ∧ x9 ≤ 1000000) (k10 : (-1) ≤ x10 ∧ x10 ≤ 3) (k11 : 0 ≤ x11 ∧ x11 ≤ 999999) (k12 : 0 ≤ x12 ∧ x12 ≤ 3) (k13 : (-2) ≤ x13 ∧ x13 ≤ 1000000) (k14 : 0 ≤ x14 ∧ x14 ≤ 5999) (k15 : 3 ≤ x15 ∧ x15 ≤ 3) (k17 : 4 ≤ x17 ∧ x17 ≤ 4) (k18 : 0 ≤ x18 ∧ x18 ≤ 23996) (k19 : 0 ≤ x19 ∧ x19 ≤ 23999) (k20 : 0 ≤ x20 ∧ x20 ≤ 1000000) (k21 : (-3) ≤ x21 ∧ x21 ≤ 999997) (k22 : (-1) ≤ x22 ∧ x22 ≤ 2) (d0 : x12 + (-1) ≤ x22 ∧ x22 ≤ x12 + (-1)) (d1 : x9 + (-3) ≤ x21 ∧ x21 ≤ x9 + (-3)) (d2 : x12 + 0 ≤ x19 ∧ x19 ≤ x12 + 23996) (d3 : x18 + 0 ≤ x19 ∧ x19 ≤ x18 + 3) (d4 : x9 + (-4294967296) ≤ x10 ∧ x10 ≤ x9 + 2) (d5 : x9 + (-4294967296) ≤ x11 ∧ x11 ≤ x9 + 0) (f0 : x22 = x12 + (-1)) (f1 : x20 ≠ x21) (f2 : x21 = x9 - x15) (h3 : x20 = costOf_0 (x19)) (f4 : x19 = x18 + x12) (f5 : x18 = 4 * x14) (f7 : 0 ≤ x14) (f8 : x12 ≠ x7) (f9 : STQ (wide_0) (tall_0) (barredPoint_0) (x6) (x12) (x14)) (f10 : ((-1) ≤ x14) ∧ ((x14 + 1) ≤ (wide_0 * tall_0))) (f11 : 0 ≤ x12) (f12 : GRX (wide_0) (tall_0)) (f13 : RTV (wide_0) (tall_0) (barredPoint_0) (costOf_0) (x3)) (f14 : (0 ≤ x3) ∧ ((x3 + 1) ≤ (wide_0 * tall_0))) (f15 : BB2 (wide_0) (tall_0) (barredPoint_0) (costOf_0) (x6) (x7) (x9)) (f16 : (0 ≤ x6) ∧ ((x6 + 1) ≤ (wide_0 * tall_0))) (f17 : (x5 + x9) ≤ 1000000) (f18 : 0 ≤ x5) (f19 : x6 ≠ x3) (f20 : BB3 (wide_0) (tall_0) (barredPoint_0) (costOf_0) (x6) (x7) (x9) (x10) (x11) (x12)) (f21 : (0 ≤ x9) ∧ (x9 ≤ x13)) (f22 : (-1) * x13 + 0 ≤ (-1)) (hK_0_140 : ∀ j : Int, 0 ≤ j → j < 24000 → 0 ≤ costOf_0 j ∧ costOf_0 j ≤ 1000000) (hK_0_143 : ∀ j : Int, 0 ≤ j → j < 6000 → 0 ≤ barredPoint_0 j ∧ barredPoint_0 j ≤ 1) (kz_0_146 : (-3999999) ≤ wide_0 ∧ wide_0 ≤ 600000023) (kz_0_147 : (-3999999) ≤ tall_0 ∧ tall_0 ≤ 600000007) : BB3 (wide_0) (tall_0) (barredPoint_0) (costOf_0) (x6) (x7) (x9) (x10) (x11) (x22) := by
  first
    | exact bb3_start (by omega) (by omega)
    | exact bb3_skip (w := x15) (x := x14) (v := x14) ‹BB3 _ _ _ _ _ _ _ _ _ _› (by omega) ‹STQ _ _ _ _ _ _› (by omega) (Or.inl (by omega))
    | exact bb3_skip (w := 1) (x := x14) (v := x14) ‹BB3 _ _ _ _ _ _ _ _ _ _› (by omega) ‹STQ _ _ _ _ _ _› (Or.inl ⟨by omega, rfl⟩) (Or.inl (by omega))
    | exact bb3_skip (w := 3) (x := x14) (v := x14) ‹BB3 _ _ _ _ _ _ _ _ _ _› (by omega) ‹STQ _ _ _ _ _ _› (Or.inr ⟨by omega, rfl⟩) (Or.inl (by omega))
    | exact bb3_skip (w := x15) (x := x19) (v := x20) ‹BB3 _ _ _ _ _ _ _ _ _ _› (by omega) ‹STQ _ _ _ _ _ _› (by omega) (Or.inr ⟨by omega, by assumption, by omega⟩)
    | exact bb3_take (q := x14) (x := x19) (v := x20) (w := x15) ‹STQ _ _ _ _ _ _› (by omega) (by omega) (by omega) (by omega) (by assumption) (by omega) (by omega) (by omega) (by omega)
  
def o_Mo_bendsBecome_19 : or_T := (127, 23, [(0, (2, 0, 0, [165])), (3, (0, 0, 5999, [])), (5, (0, 0, 2147483647, [])), (6, (0, 0, 5999, [])), (7, (0, 0, 3, [])), (9, (0, 0, 1000000, [])), (10, (0, -1, 3, [])), (11, (0, 0, 999999, [])), (12, (0, 0, 3, [])), (13, (0, -2, 1000000, [])), (14, (0, 0, 5999, [])), (15, (0, 3, 3, [])), (16, (2, 0, 0, [266])), (17, (0, 4, 4, [])), (18, (0, 0, 23996, [])), (19, (0, 0, 23999, [])), (20, (0, 0, 1000000, [])), (21, (0, -3, 999997, [])), (22, (0, -1, 2, []))], [(6, [22, 12], [-1]), (7, [20, 21], [1]), (2, [21, 9, 15], []), (10, [20, 16, 19], []), (1, [19, 18, 12], []), (3, [18, 17, 14], []), (9, [16, 0], [140]), (8, [14], [3]), (7, [12, 7], [1]), (20, [0, 6, 12, 14], [60, 2, 1, 505, 146, 147, 143]), (20, [14, 0], [50, 2, 0, 1146, 1147, 2, 6, 0, 2, 0, -1, 1, 0, 0, 6, 4, 2, 1, 0, 0, 1, 6, 3, 2, 1, 146, 2, 1, 147]), (8, [12], [3]), (20, [0], [60, 2, 0, 494, 146, 147]), (20, [0, 3], [60, 2, 2, 504, 146, 147, 143, 140]), (20, [3, 0], [50, 2, 0, 1146, 1147, 2, 6, 0, 2, 0, 0, 1, 0, 0, 6, 4, 2, 1, 0, 0, 1, 6, 3, 2, 1, 146, 2, 1, 147]), (20, [0, 6, 7, 9], [60, 2, 2, 507, 146, 147, 143, 140]), (20, [6, 0], [50, 2, 0, 1146, 1147, 2, 6, 0, 2, 0, 0, 1, 0, 0, 6, 4, 2, 1, 0, 0, 1, 6, 3, 2, 1, 146, 2, 1, 147]), (20, [5, 9], [50, 0, 0, 0, 6, 4, 2, 1, 0, 1, 1, 0, 1000000]), (20, [5], [50, 0, 0, 0, 2, 0, 0, 1, 0]), (20, [6, 3], [50, 0, 0, 7, 2, 1, 0, 1, 1]), (20, [0, 6, 7, 9, 10, 11, 12], [60, 2, 2, 508, 146, 147, 143, 140]), (20, [9, 13], [50, 0, 0, 2, 6, 0, 2, 0, 0, 1, 0, 0, 2, 1, 0, 1, 1]), (23, [13], [-1, -1])], [], [], [(20, [0, 6, 7, 9, 10, 11, 22], [60, 2, 2, 508, 146, 147, 143, 140])], [], [(22, 12, -1, -1), (21, 9, -3, -3), (19, 12, 0, 23996), (19, 18, 0, 3), (10, 9, -4294967296, 2), (11, 9, -4294967296, 0)])
theorem oo_Mo_bendsBecome_19 {kA : Nat → ClassId} : or_ok PRD kA GG o_Mo_bendsBecome_19 := by
  refine or_mk fun A ta ws vs hD hth hl => ?_
  intro t0 r0 t3 k3 t5 k5 t6 k6 t7 k7 t9 k9 t10 k10 t11 k11 t12 k12 t13 k13 t14 k14 t15 k15 t16 r16 t17 k17 t18 k18 t19 k19 t20 k20 t21 k21 t22 k22 d0 d1 d2 d3 d4 d5 f0 f1 f2 f3 f4 f5 f6 f7 f8 f9 f10 f11 f12 f13 f14 f15 f16 f17 f18 f19 f20 f21 f22
  replace f3 := shm_107 f3
  replace f5 := shm_38 f5
  rw [show v_iv (n_v vs 17) = 4 from by omega] at f5
  replace f6 := shm_703 f6
  have cr_0_140 := fdq_175 hD hth r0
  have cr_0_143 := fdq_178 hD hth r0
  have ad_16 : v_ad (n_v vs 16) = w_ar ws (n_v vs 0) 140 := congrArg v_ad f6
  simp only [ad_16] at f3
  have h3 : v_iv (n_v vs 20) = w_ei ws (w_ar ws (n_v vs 0) 140) (v_iv (n_v vs 19)) := f3
  have hK_0_140 := elq_104 hD hth cr_0_140
  have hK_0_143 := elq_107 hD hth cr_0_143
  have kz_0_146 := fdq_179 hD hth r0
  have kz_0_147 := fdq_180 hD hth r0
  have nf0 : fc_1 PRD (20, [0, 6, 7, 9, 10, 11, 22], [60, 2, 2, 508, 146, 147, 143, 140]) ws (vs) := ⟨nf_in hl rfl, sgq_1415 (vc_Mo_bendsBecome_19_0 (v_iv (n_v vs 3)) (v_iv (n_v vs 5)) (v_iv (n_v vs 6)) (v_iv (n_v vs 7)) (v_iv (n_v vs 9)) (v_iv (n_v vs 10)) (v_iv (n_v vs 11)) (v_iv (n_v vs 12)) (v_iv (n_v vs 13)) (v_iv (n_v vs 14)) (v_iv (n_v vs 15)) (v_iv (n_v vs 17)) (v_iv (n_v vs 18)) (v_iv (n_v vs 19)) (v_iv (n_v vs 20)) (v_iv (n_v vs 21)) (v_iv (n_v vs 22)) (w_ei ws (w_ar ws (n_v vs 0) 140)) (w_ei ws (w_ar ws (n_v vs 0) 143)) (w_fi ws (n_v vs 0) 146) (w_fi ws (n_v vs 0) 147) k3 k5 k6 k7 k9 k10 k11 k12 k13 k14 k15 k17 k18 k19 k20 k21 k22 d0 d1 d2 d3 d4 d5 (shm_186 f0) (shm_40 f1) (shm_14 f2) h3 (shm_12 f4) f5 (shm_32 f7) (shm_40 f8) (shm_1291 f9) (shm_1292 f10) (shm_32 f11) (shm_1289 f12) (shm_1411 f13) (shm_1290 f14) (shm_1413 f15) (shm_1290 f16) (shm_1414 f17) (shm_722 f18) (shm_406 f19) (shm_1415 f20) (shm_366 f21) (shm_626 f22) hK_0_140 hK_0_143 kz_0_146 kz_0_147)⟩
  refine ⟨(fun _ h => (by cases h)), [], trivial, ?_, (fun _ h => (by cases h))⟩
  rw [List.append_nil]
  exact List.forall_mem_cons.mpr ⟨⟨show (20 : Nat) < 100 from by decide, nf0⟩, (fun _ h => (by cases h))⟩
set_option maxHeartbeats 4000000 in
theorem vc_Mo_bendsBecome_20_0 (x3 : Int) (x5 : Int) (x6 : Int) (x7 : Int) (x9 : Int) (x10 : Int) (x11 : Int) (x12 : Int) (x13 : Int) (x14 : Int) (x16 : Int) (barredPoint_0 : Int → Int) (wide_0 : Int) (tall_0 : Int) (costOf_0 : Int → Int) (k3 : 0 ≤ x3 ∧ x3 ≤ 5999) (k5 : 0 ≤ x5 ∧ x5 ≤ 2147483647) (k6 : 0 ≤ x6 ∧ x6 ≤ 5999) (k7 : 0 ≤ x7 ∧ x7 ≤ 3) (k9 : 0 ≤ x9 ∧ x9 ≤ 1000000) (k10 : (-1) ≤ x10 ∧ x10 ≤ 3) (k11 : 0 ≤ x11 ∧ x11 ≤ 999999) (k12 : 0 ≤ x12 ∧ x12 ≤ 3) (k13 : (-2) ≤ x13 ∧ x13 ≤ 1000000) (k14 : (-1) ≤ x14 ∧ x14 ≤ (-1)) (k16 : (-1) ≤ x16 ∧ x16 ≤ 2) (d0 : x12 + (-1) ≤ x16 ∧ x16 ≤ x12 + (-1)) (d1 : x7 + (-1) ≤ x16 ∧ x16 ≤ x7 + (-1)) (d2 : x7 + 0 ≤ x12 ∧ x12 ≤ x7 + 0) (d3 : x9 + (-4294967296) ≤ x10 ∧ x10 ≤ x9 + 2) (d4 : x9 + (-4294967296) ≤ x11 ∧ x11 ≤ x9 + 0) (f0 : x16 = x12 + (-1)) (f1 : x14 < 0) (f2 : x12 = x7) (f3 : STQ (wide_0) (tall_0) (barredPoint_0) (x6) (x12) (x14)) (f4 : ((-1) ≤ x14) ∧ ((x14 + 1) ≤ (wide_0 * tall_0))) (f5 : 0 ≤ x12) (f6 : GRX (wide_0) (tall_0)) (f7 : RTV (wide_0) (tall_0) (barredPoint_0) (costOf_0) (x3)) (f8 : (0 ≤ x3) ∧ ((x3 + 1) ≤ (wide_0 * tall_0))) (f9 : BB2 (wide_0) (tall_0) (barredPoint_0) (costOf_0) (x6) (x7) (x9)) (f10 : (0 ≤ x6) ∧ ((x6 + 1) ≤ (wide_0 * tall_0))) (f11 : (x5 + x9) ≤ 1000000) (f12 : 0 ≤ x5) (f13 : x6 ≠ x3) (f14 : BB3 (wide_0) (tall_0) (barredPoint_0) (costOf_0) (x6) (x7) (x9) (x10) (x11) (x12)) (f15 : (0 ≤ x9) ∧ (x9 ≤ x13)) (f16 : (-1) * x13 + 0 ≤ (-1)) (hK_0_140 : ∀ j : Int, 0 ≤ j → j < 24000 → 0 ≤ costOf_0 j ∧ costOf_0 j ≤ 1000000) (hK_0_143 : ∀ j : Int, 0 ≤ j → j < 6000 → 0 ≤ barredPoint_0 j ∧ barredPoint_0 j ≤ 1) (kz_0_146 : (-3999999) ≤ wide_0 ∧ wide_0 ≤ 600000023) (kz_0_147 : (-3999999) ≤ tall_0 ∧ tall_0 ≤ 600000007) : BB3 (wide_0) (tall_0) (barredPoint_0) (costOf_0) (x6) (x7) (x9) (x10) (x11) (x16) := by
  first
    | exact bb3_start (by omega) (by omega)
    | exact bb3_skip (w := x15) (x := x14) (v := x14) ‹BB3 _ _ _ _ _ _ _ _ _ _› (by omega) ‹STQ _ _ _ _ _ _› (by omega) (Or.inl (by omega))
    | exact bb3_skip (w := 1) (x := x14) (v := x14) ‹BB3 _ _ _ _ _ _ _ _ _ _› (by omega) ‹STQ _ _ _ _ _ _› (Or.inl ⟨by omega, rfl⟩) (Or.inl (by omega))
    | exact bb3_skip (w := 3) (x := x14) (v := x14) ‹BB3 _ _ _ _ _ _ _ _ _ _› (by omega) ‹STQ _ _ _ _ _ _› (Or.inr ⟨by omega, rfl⟩) (Or.inl (by omega))
    | exact bb3_skip (w := x15) (x := x19) (v := x20) ‹BB3 _ _ _ _ _ _ _ _ _ _› (by omega) ‹STQ _ _ _ _ _ _› (by omega) (Or.inr ⟨by omega, by assumption, by omega⟩)
    | exact bb3_take (q := x14) (x := x19) (v := x20) (w := x15) ‹STQ _ _ _ _ _ _› (by omega) (by omega) (by omega) (by omega) (by assumption) (by omega) (by omega) (by omega) (by omega)
  
def o_Mo_bendsBecome_20 : or_T := (127, 17, [(0, (2, 0, 0, [165])), (3, (0, 0, 5999, [])), (5, (0, 0, 2147483647, [])), (6, (0, 0, 5999, [])), (7, (0, 0, 3, [])), (9, (0, 0, 1000000, [])), (10, (0, -1, 3, [])), (11, (0, 0, 999999, [])), (12, (0, 0, 3, [])), (13, (0, -2, 1000000, [])), (14, (0, -1, -1, [])), (16, (0, -1, 2, []))], [(6, [16, 12], [-1]), (8, [14], [2]), (7, [12, 7], [0]), (20, [0, 6, 12, 14], [60, 2, 1, 505, 146, 147, 143]), (20, [14, 0], [50, 2, 0, 1146, 1147, 2, 6, 0, 2, 0, -1, 1, 0, 0, 6, 4, 2, 1, 0, 0, 1, 6, 3, 2, 1, 146, 2, 1, 147]), (8, [12], [3]), (20, [0], [60, 2, 0, 494, 146, 147]), (20, [0, 3], [60, 2, 2, 504, 146, 147, 143, 140]), (20, [3, 0], [50, 2, 0, 1146, 1147, 2, 6, 0, 2, 0, 0, 1, 0, 0, 6, 4, 2, 1, 0, 0, 1, 6, 3, 2, 1, 146, 2, 1, 147]), (20, [0, 6, 7, 9], [60, 2, 2, 507, 146, 147, 143, 140]), (20, [6, 0], [50, 2, 0, 1146, 1147, 2, 6, 0, 2, 0, 0, 1, 0, 0, 6, 4, 2, 1, 0, 0, 1, 6, 3, 2, 1, 146, 2, 1, 147]), (20, [5, 9], [50, 0, 0, 0, 6, 4, 2, 1, 0, 1, 1, 0, 1000000]), (20, [5], [50, 0, 0, 0, 2, 0, 0, 1, 0]), (20, [6, 3], [50, 0, 0, 7, 2, 1, 0, 1, 1]), (20, [0, 6, 7, 9, 10, 11, 12], [60, 2, 2, 508, 146, 147, 143, 140]), (20, [9, 13], [50, 0, 0, 2, 6, 0, 2, 0, 0, 1, 0, 0, 2, 1, 0, 1, 1]), (23, [13], [-1, -1])], [], [], [(20, [0, 6, 7, 9, 10, 11, 16], [60, 2, 2, 508, 146, 147, 143, 140])], [], [(16, 12, -1, -1), (16, 7, -1, -1), (12, 7, 0, 0), (10, 9, -4294967296, 2), (11, 9, -4294967296, 0)])
theorem oo_Mo_bendsBecome_20 {kA : Nat → ClassId} : or_ok PRD kA GG o_Mo_bendsBecome_20 := by
  refine or_mk fun A ta ws vs hD hth hl => ?_
  intro t0 r0 t3 k3 t5 k5 t6 k6 t7 k7 t9 k9 t10 k10 t11 k11 t12 k12 t13 k13 t14 k14 t16 k16 d0 d1 d2 d3 d4 f0 f1 f2 f3 f4 f5 f6 f7 f8 f9 f10 f11 f12 f13 f14 f15 f16
  have cr_0_140 := fdq_175 hD hth r0
  have cr_0_143 := fdq_178 hD hth r0
  have hK_0_140 := elq_104 hD hth cr_0_140
  have hK_0_143 := elq_107 hD hth cr_0_143
  have kz_0_146 := fdq_179 hD hth r0
  have kz_0_147 := fdq_180 hD hth r0
  have nf0 : fc_1 PRD (20, [0, 6, 7, 9, 10, 11, 16], [60, 2, 2, 508, 146, 147, 143, 140]) ws (vs) := ⟨nf_in hl rfl, sgq_1415 (vc_Mo_bendsBecome_20_0 (v_iv (n_v vs 3)) (v_iv (n_v vs 5)) (v_iv (n_v vs 6)) (v_iv (n_v vs 7)) (v_iv (n_v vs 9)) (v_iv (n_v vs 10)) (v_iv (n_v vs 11)) (v_iv (n_v vs 12)) (v_iv (n_v vs 13)) (v_iv (n_v vs 14)) (v_iv (n_v vs 16)) (w_ei ws (w_ar ws (n_v vs 0) 143)) (w_fi ws (n_v vs 0) 146) (w_fi ws (n_v vs 0) 147) (w_ei ws (w_ar ws (n_v vs 0) 140)) k3 k5 k6 k7 k9 k10 k11 k12 k13 k14 k16 d0 d1 d2 d3 d4 (shm_186 f0) (shm_39 f1) (shm_37 f2) (shm_1291 f3) (shm_1292 f4) (shm_32 f5) (shm_1289 f6) (shm_1411 f7) (shm_1290 f8) (shm_1413 f9) (shm_1290 f10) (shm_1414 f11) (shm_722 f12) (shm_406 f13) (shm_1415 f14) (shm_366 f15) (shm_626 f16) hK_0_140 hK_0_143 kz_0_146 kz_0_147)⟩
  refine ⟨(fun _ h => (by cases h)), [], trivial, ?_, (fun _ h => (by cases h))⟩
  rw [List.append_nil]
  exact List.forall_mem_cons.mpr ⟨⟨show (20 : Nat) < 100 from by decide, nf0⟩, (fun _ h => (by cases h))⟩
set_option maxHeartbeats 4000000 in
theorem vc_Mo_bendsBecome_21_0 (x3 : Int) (x5 : Int) (x6 : Int) (x7 : Int) (x9 : Int) (x10 : Int) (x11 : Int) (x12 : Int) (x13 : Int) (x14 : Int) (x15 : Int) (x17 : Int) (x18 : Int) (x19 : Int) (x20 : Int) (x21 : Int) (x22 : Int) (x23 : Int) (costOf_0 : Int → Int) (barredPoint_0 : Int → Int) (wide_0 : Int) (tall_0 : Int) (k3 : 0 ≤ x3 ∧ x3 ≤ 5999) (k5 : 0 ≤ x5 ∧ x5 ≤ 2147483647) (k6 : 0 ≤ x6 ∧ x6 ≤ 5999) (k7 : 0 ≤ x7 ∧ x7 ≤ 3) (k9 : 1 ≤ x9 ∧ x9 ≤ 1000000) (k10 : (-1) ≤ x10 ∧ x10 ≤ 3) (k11 : 0 ≤ x11 ∧ x11 ≤ 999999) (k12 : 0 ≤ x12 ∧ x12 ≤ 3) (k13 : (-2) ≤ x13 ∧ x13 ≤ 1000000) (k14 : 0 ≤ x14 ∧ x14 ≤ 5999) (k15 : 1 ≤ x15 ∧ x15 ≤ 1) (k17 : 4 ≤ x17 ∧ x17 ≤ 4) (k18 : 0 ≤ x18 ∧ x18 ≤ 23996) (k19 : 0 ≤ x19 ∧ x19 ≤ 23999) (k20 : 0 ≤ x20 ∧ x20 ≤ 999999) (k21 : 0 ≤ x21 ∧ x21 ≤ 999999) (k22 : 0 ≤ x22 ∧ x22 ≤ 999999) (k23 : (-1) ≤ x23 ∧ x23 ≤ 2) (d0 : x12 + (-1) ≤ x23 ∧ x23 ≤ x12 + (-1)) (d1 : x7 + (-1) ≤ x23 ∧ x23 ≤ x7 + (-1)) (d2 : x9 + (-1) ≤ x22 ∧ x22 ≤ x9 + (-1)) (d3 : x21 + 0 ≤ x20 ∧ x20 ≤ x21 + 0) (d4 : x9 + (-1) ≤ x21 ∧ x21 ≤ x9 + (-1)) (d5 : x12 + 0 ≤ x19 ∧ x19 ≤ x12 + 23996) (d6 : x7 + 0 ≤ x19 ∧ x19 ≤ x7 + 23996) (d7 : x18 + 0 ≤ x19 ∧ x19 ≤ x18 + 3) (d8 : x7 + 0 ≤ x12 ∧ x12 ≤ x7 + 0) (d9 : x9 + (-4294967296) ≤ x11 ∧ x11 ≤ x9 + 0) (f0 : x23 = x12 + (-1)) (f1 : x22 = x9 - x15) (f2 : x20 = x21) (f3 : x21 = x9 - x15) (h4 : x20 = costOf_0 (x19)) (f5 : x19 = x18 + x12) (f6 : x18 = 4 * x14) (f8 : 0 ≤ x14) (f9 : x12 = x7) (f10 : STQ (wide_0) (tall_0) (barredPoint_0) (x6) (x12) (x14)) (f11 : ((-1) ≤ x14) ∧ ((x14 + 1) ≤ (wide_0 * tall_0))) (f12 : 0 ≤ x12) (f13 : GRX (wide_0) (tall_0)) (f14 : RTV (wide_0) (tall_0) (barredPoint_0) (costOf_0) (x3)) (f15 : (0 ≤ x3) ∧ ((x3 + 1) ≤ (wide_0 * tall_0))) (f16 : BB2 (wide_0) (tall_0) (barredPoint_0) (costOf_0) (x6) (x7) (x9)) (f17 : (0 ≤ x6) ∧ ((x6 + 1) ≤ (wide_0 * tall_0))) (f18 : (x5 + x9) ≤ 1000000) (f19 : 0 ≤ x5) (f20 : x6 ≠ x3) (f21 : BB3 (wide_0) (tall_0) (barredPoint_0) (costOf_0) (x6) (x7) (x9) (x10) (x11) (x12)) (f22 : (0 ≤ x9) ∧ (x9 ≤ x13)) (f23 : (-1) * x13 + 0 ≤ (-1)) (hK_0_140 : ∀ j : Int, 0 ≤ j → j < 24000 → 0 ≤ costOf_0 j ∧ costOf_0 j ≤ 1000000) (hK_0_143 : ∀ j : Int, 0 ≤ j → j < 6000 → 0 ≤ barredPoint_0 j ∧ barredPoint_0 j ≤ 1) (kz_0_146 : (-3999999) ≤ wide_0 ∧ wide_0 ≤ 600000023) (kz_0_147 : (-3999999) ≤ tall_0 ∧ tall_0 ≤ 600000007) : BB3 (wide_0) (tall_0) (barredPoint_0) (costOf_0) (x6) (x7) (x9) (x12) (x22) (x23) := by
  first
    | exact bb3_start (by omega) (by omega)
    | exact bb3_skip (w := x15) (x := x14) (v := x14) ‹BB3 _ _ _ _ _ _ _ _ _ _› (by omega) ‹STQ _ _ _ _ _ _› (by omega) (Or.inl (by omega))
    | exact bb3_skip (w := 1) (x := x14) (v := x14) ‹BB3 _ _ _ _ _ _ _ _ _ _› (by omega) ‹STQ _ _ _ _ _ _› (Or.inl ⟨by omega, rfl⟩) (Or.inl (by omega))
    | exact bb3_skip (w := 3) (x := x14) (v := x14) ‹BB3 _ _ _ _ _ _ _ _ _ _› (by omega) ‹STQ _ _ _ _ _ _› (Or.inr ⟨by omega, rfl⟩) (Or.inl (by omega))
    | exact bb3_skip (w := x15) (x := x19) (v := x20) ‹BB3 _ _ _ _ _ _ _ _ _ _› (by omega) ‹STQ _ _ _ _ _ _› (by omega) (Or.inr ⟨by omega, by assumption, by omega⟩)
    | exact bb3_take (q := x14) (x := x19) (v := x20) (w := x15) ‹STQ _ _ _ _ _ _› (by omega) (by omega) (by omega) (by omega) (by assumption) (by omega) (by omega) (by omega) (by omega)
  
def o_Mo_bendsBecome_21 : or_T := (127, 24, [(0, (2, 0, 0, [165])), (3, (0, 0, 5999, [])), (5, (0, 0, 2147483647, [])), (6, (0, 0, 5999, [])), (7, (0, 0, 3, [])), (9, (0, 1, 1000000, [])), (10, (0, -1, 3, [])), (11, (0, 0, 999999, [])), (12, (0, 0, 3, [])), (13, (0, -2, 1000000, [])), (14, (0, 0, 5999, [])), (15, (0, 1, 1, [])), (16, (2, 0, 0, [266])), (17, (0, 4, 4, [])), (18, (0, 0, 23996, [])), (19, (0, 0, 23999, [])), (20, (0, 0, 999999, [])), (21, (0, 0, 999999, [])), (22, (0, 0, 999999, [])), (23, (0, -1, 2, []))], [(6, [23, 12], [-1]), (2, [22, 9, 15], []), (7, [20, 21], [0]), (2, [21, 9, 15], []), (10, [20, 16, 19], []), (1, [19, 18, 12], []), (3, [18, 17, 14], []), (9, [16, 0], [140]), (8, [14], [3]), (7, [12, 7], [0]), (20, [0, 6, 12, 14], [60, 2, 1, 505, 146, 147, 143]), (20, [14, 0], [50, 2, 0, 1146, 1147, 2, 6, 0, 2, 0, -1, 1, 0, 0, 6, 4, 2, 1, 0, 0, 1, 6, 3, 2, 1, 146, 2, 1, 147]), (8, [12], [3]), (20, [0], [60, 2, 0, 494, 146, 147]), (20, [0, 3], [60, 2, 2, 504, 146, 147, 143, 140]), (20, [3, 0], [50, 2, 0, 1146, 1147, 2, 6, 0, 2, 0, 0, 1, 0, 0, 6, 4, 2, 1, 0, 0, 1, 6, 3, 2, 1, 146, 2, 1, 147]), (20, [0, 6, 7, 9], [60, 2, 2, 507, 146, 147, 143, 140]), (20, [6, 0], [50, 2, 0, 1146, 1147, 2, 6, 0, 2, 0, 0, 1, 0, 0, 6, 4, 2, 1, 0, 0, 1, 6, 3, 2, 1, 146, 2, 1, 147]), (20, [5, 9], [50, 0, 0, 0, 6, 4, 2, 1, 0, 1, 1, 0, 1000000]), (20, [5], [50, 0, 0, 0, 2, 0, 0, 1, 0]), (20, [6, 3], [50, 0, 0, 7, 2, 1, 0, 1, 1]), (20, [0, 6, 7, 9, 10, 11, 12], [60, 2, 2, 508, 146, 147, 143, 140]), (20, [9, 13], [50, 0, 0, 2, 6, 0, 2, 0, 0, 1, 0, 0, 2, 1, 0, 1, 1]), (23, [13], [-1, -1])], [], [], [(20, [0, 6, 7, 9, 12, 22, 23], [60, 2, 2, 508, 146, 147, 143, 140])], [], [(23, 12, -1, -1), (23, 7, -1, -1), (22, 9, -1, -1), (20, 21, 0, 0), (21, 9, -1, -1), (19, 12, 0, 23996), (19, 7, 0, 23996), (19, 18, 0, 3), (12, 7, 0, 0), (11, 9, -4294967296, 0)])
theorem oo_Mo_bendsBecome_21 {kA : Nat → ClassId} : or_ok PRD kA GG o_Mo_bendsBecome_21 := by
  refine or_mk fun A ta ws vs hD hth hl => ?_
  intro t0 r0 t3 k3 t5 k5 t6 k6 t7 k7 t9 k9 t10 k10 t11 k11 t12 k12 t13 k13 t14 k14 t15 k15 t16 r16 t17 k17 t18 k18 t19 k19 t20 k20 t21 k21 t22 k22 t23 k23 d0 d1 d2 d3 d4 d5 d6 d7 d8 d9 f0 f1 f2 f3 f4 f5 f6 f7 f8 f9 f10 f11 f12 f13 f14 f15 f16 f17 f18 f19 f20 f21 f22 f23
  replace f4 := shm_107 f4
  replace f6 := shm_38 f6
  rw [show v_iv (n_v vs 17) = 4 from by omega] at f6
  replace f7 := shm_703 f7
  have cr_0_140 := fdq_175 hD hth r0
  have cr_0_143 := fdq_178 hD hth r0
  have ad_16 : v_ad (n_v vs 16) = w_ar ws (n_v vs 0) 140 := congrArg v_ad f7
  simp only [ad_16] at f4
  have h4 : v_iv (n_v vs 20) = w_ei ws (w_ar ws (n_v vs 0) 140) (v_iv (n_v vs 19)) := f4
  have hK_0_140 := elq_104 hD hth cr_0_140
  have hK_0_143 := elq_107 hD hth cr_0_143
  have kz_0_146 := fdq_179 hD hth r0
  have kz_0_147 := fdq_180 hD hth r0
  have nf0 : fc_1 PRD (20, [0, 6, 7, 9, 12, 22, 23], [60, 2, 2, 508, 146, 147, 143, 140]) ws (vs) := ⟨nf_in hl rfl, sgq_1415 (vc_Mo_bendsBecome_21_0 (v_iv (n_v vs 3)) (v_iv (n_v vs 5)) (v_iv (n_v vs 6)) (v_iv (n_v vs 7)) (v_iv (n_v vs 9)) (v_iv (n_v vs 10)) (v_iv (n_v vs 11)) (v_iv (n_v vs 12)) (v_iv (n_v vs 13)) (v_iv (n_v vs 14)) (v_iv (n_v vs 15)) (v_iv (n_v vs 17)) (v_iv (n_v vs 18)) (v_iv (n_v vs 19)) (v_iv (n_v vs 20)) (v_iv (n_v vs 21)) (v_iv (n_v vs 22)) (v_iv (n_v vs 23)) (w_ei ws (w_ar ws (n_v vs 0) 140)) (w_ei ws (w_ar ws (n_v vs 0) 143)) (w_fi ws (n_v vs 0) 146) (w_fi ws (n_v vs 0) 147) k3 k5 k6 k7 k9 k10 k11 k12 k13 k14 k15 k17 k18 k19 k20 k21 k22 k23 d0 d1 d2 d3 d4 d5 d6 d7 d8 d9 (shm_186 f0) (shm_14 f1) (shm_37 f2) (shm_14 f3) h4 (shm_12 f5) f6 (shm_32 f8) (shm_37 f9) (shm_1291 f10) (shm_1292 f11) (shm_32 f12) (shm_1289 f13) (shm_1411 f14) (shm_1290 f15) (shm_1413 f16) (shm_1290 f17) (shm_1414 f18) (shm_722 f19) (shm_406 f20) (shm_1415 f21) (shm_366 f22) (shm_626 f23) hK_0_140 hK_0_143 kz_0_146 kz_0_147)⟩
  refine ⟨(fun _ h => (by cases h)), [], trivial, ?_, (fun _ h => (by cases h))⟩
  rw [List.append_nil]
  exact List.forall_mem_cons.mpr ⟨⟨show (20 : Nat) < 100 from by decide, nf0⟩, (fun _ h => (by cases h))⟩
