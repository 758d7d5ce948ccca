section

set_option maxHeartbeats 4000000 in
theorem vc_Mo_of_at_s5002_20_0 (x17 : Int) (fault_0 : Int) (kind_0 : Int) (from_0 : Int) (pos_0 : Int) (tape_0 : Int → Int) (gx : Int) (k17 : 0 ≤ x17 ∧ x17 ≤ 2000) (f27 : ((kind_0 = 1) → (pos_0 ≤ (from_0 + 8))) ∧ ((kind_0 = 0) ∨ ((from_0 + 1) ≤ pos_0))) (f29 : (1 ≤ fault_0) ∨ ((x17 + 1) ≤ pos_0)) (hK_0_1 : ∀ j : Int, 0 ≤ j → j < 2000 → (-128) ≤ tape_0 j ∧ tape_0 j ≤ 127) (kz_0_8 : 0 ≤ fault_0 ∧ fault_0 ≤ 5) (kz_0_11 : 0 ≤ pos_0 ∧ pos_0 ≤ 2000) (kz_0_12 : 0 ≤ kind_0 ∧ kind_0 ≤ 4) (kz_0_15 : 0 ≤ from_0 ∧ from_0 ≤ 2000) (ex2 : gx = pos_0) : 1 * gx + ((-1) * pos_0 + 0) ≤ 0 := by
  first | with_reducible assumption | ((have f27_c0 := f27.1); (have f27_c1 := f27.2); (try and_intros) <;> first | with_reducible assumption | (clear f27_c0 f27_c1 f27 f29 hK_0_1; omega)) | ((have f27_c0 := f27.1); (have f27_c1 := f27.2); (try and_intros) <;> first | with_reducible assumption | (clear f27_c0 f27_c1 f27 hK_0_1; omega)) | omega
set_option maxHeartbeats 4000000 in
theorem vc_Mo_of_at_s5002_20_1 (x17 : Int) (fault_0 : Int) (kind_0 : Int) (from_0 : Int) (pos_0 : Int) (tape_0 : Int → Int) (gx : Int) (k17 : 0 ≤ x17 ∧ x17 ≤ 2000) (f27 : ((kind_0 = 1) → (pos_0 ≤ (from_0 + 8))) ∧ ((kind_0 = 0) ∨ ((from_0 + 1) ≤ pos_0))) (f29 : (1 ≤ fault_0) ∨ ((x17 + 1) ≤ pos_0)) (hK_0_1 : ∀ j : Int, 0 ≤ j → j < 2000 → (-128) ≤ tape_0 j ∧ tape_0 j ≤ 127) (kz_0_8 : 0 ≤ fault_0 ∧ fault_0 ≤ 5) (kz_0_11 : 0 ≤ pos_0 ∧ pos_0 ≤ 2000) (kz_0_12 : 0 ≤ kind_0 ∧ kind_0 ≤ 4) (kz_0_15 : 0 ≤ from_0 ∧ from_0 ≤ 2000) (ex2 : gx = pos_0) : gx = pos_0 := by
  first | with_reducible assumption | ((have f27_c0 := f27.1); (have f27_c1 := f27.2); (try and_intros) <;> first | with_reducible assumption | (clear f27_c0 f27_c1 f27 f29 hK_0_1; omega)) | ((have f27_c0 := f27.1); (have f27_c1 := f27.2); (try and_intros) <;> first | with_reducible assumption | (clear f27_c0 f27_c1 f27 hK_0_1; omega)) | omega
set_option maxHeartbeats 4000000 in
theorem vc_Mo_of_at_s5002_20_2 (x4 : Int) (x5 : Int) (x6 : Int) (x15 : Int) (x17 : Int) (x18 : Int) (x19 : Int) (x20 : Int) (x21 : Int) (x22 : Int) (x24 : Int) (value_0 : Int) (fault_0 : Int) (kind_0 : Int) (from_0 : Int) (pos_0 : Int) (tape_0 : Int → Int) (all_0 : Int → Int) (limit_0 : Int) (place_0 : Int) (faultPlace_0 : Int) (r_0 : Int) (gx : Int) (k4 : (-1) ≤ x4 ∧ x4 ≤ 48) (k5 : 0 ≤ x5 ∧ x5 ≤ 7) (k6 : 0 ≤ x6 ∧ x6 ≤ 4) (k15 : 0 ≤ x15 ∧ x15 ≤ 2000) (k17 : 0 ≤ x17 ∧ x17 ≤ 2000) (k18 : (-1) ≤ x18 ∧ x18 ≤ 48) (k19 : 0 ≤ x19 ∧ x19 ≤ 7) (k20 : 0 ≤ x20 ∧ x20 ≤ 4) (k21 : 0 ≤ x21 ∧ x21 ≤ 0) (k22 : 2 ≤ x22 ∧ x22 ≤ 2) (k24 : 1 ≤ x24 ∧ x24 ≤ 99) (g2 : x24 = value_0) (g4 : x21 = fault_0) (g7 : x22 = kind_0) (f8 : x21 = 0) (f9 : 1 * x17 + ((-1) * x15 + 0) ≤ 0) (f10 : (-1) * x17 + (1 * x15 + 0) ≤ 0) (f11 : 1 * x18 + ((-1) * x4 + 0) ≤ 0) (f12 : (-1) * x18 + (1 * x4 + 0) ≤ 0) (f13 : 1 * x19 + ((-1) * x5 + 0) ≤ 0) (f14 : (-1) * x19 + (1 * x5 + 0) ≤ 0) (f15 : 1 * x20 + ((-1) * x6 + 0) ≤ 0) (f16 : (-1) * x20 + (1 * x6 + 0) ≤ 0) (f30 : zO11s (limit_0) (pos_0) (kind_0) (place_0) (value_0) (from_0) (fault_0) (faultPlace_0) (r_0) (tape_0) (all_0) (x18) (x19) (x20)) (kz_0_8 : 0 ≤ fault_0 ∧ fault_0 ≤ 5) (kz_0_9 : 0 ≤ faultPlace_0 ∧ faultPlace_0 ≤ 2000) (kz_0_10 : 0 ≤ limit_0 ∧ limit_0 ≤ 2000) (kz_0_11 : 0 ≤ pos_0 ∧ pos_0 ≤ 2000) (kz_0_12 : 0 ≤ kind_0 ∧ kind_0 ≤ 4) (kz_0_13 : 0 ≤ place_0 ∧ place_0 ≤ 2000) (kz_0_14 : (-49) ≤ value_0 ∧ value_0 ≤ 1048575) (kz_0_15 : 0 ≤ from_0 ∧ from_0 ≤ 2000) (ex2 : gx = pos_0) : ZLM (limit_0) (pos_0) := by
  first | (have el_x17 : x17 = x15 := by omega); subst el_x17 | skip
  first | (have el_x18 : x18 = x4 := by omega); subst el_x18 | skip
  first | (have el_x19 : x19 = x5 := by omega); subst el_x19 | skip
  first | (have el_x20 : x20 = x6 := by omega); subst el_x20 | skip
  first | subst g2 | skip
  first | subst g4 | skip
  first | subst g7 | skip
  first | subst ex2 | skip
  first
    | exact ob_0_s ‹zOBs _ _ _ _ _ _ _ _ _ _ _ _ _ _› (sgq_t (C := 91) ‹SGQ _ _ _ _ _› (by omega) (by omega)).1
    | exact ob_0_w ‹zOBw _ _ _ _ _ _ _ _ _ _ _ _ _ _› (sgq_t (C := 91) ‹SGQ _ _ _ _ _› (by omega) (by omega)).1
    | exact (oi_0_s ‹zOIs _ _ _ _ _ _ _ _ _ _ _ _ _ _›).2
    | exact (oi_0_w ‹zOIw _ _ _ _ _ _ _ _ _ _ _ _ _ _›).2
    | exact o11_0_s ‹zO11s _ _ _ _ _ _ _ _ _ _ _ _ _ _› (by omega)
    | exact o11_0_w ‹zO11w _ _ _ _ _ _ _ _ _ _ _ _ _ _› (by omega)
    | (exfalso; omega)
set_option maxHeartbeats 4000000 in
theorem vc_Mo_of_at_s5002_20_3 (x3 : Int) (x17 : Int) (fault_0 : Int) (kind_0 : Int) (from_0 : Int) (pos_0 : Int) (tape_0 : Int → Int) (gx : Int) (k3 : 0 ≤ x3 ∧ x3 ≤ 2000) (k17 : 0 ≤ x17 ∧ x17 ≤ 2000) (f17 : 1 * x3 + ((-1) * x17 + 0) ≤ (-1)) (f27 : ((kind_0 = 1) → (pos_0 ≤ (from_0 + 8))) ∧ ((kind_0 = 0) ∨ ((from_0 + 1) ≤ pos_0))) (f28 : 1 * x17 + ((-1) * pos_0 + 0) ≤ 0) (f29 : (1 ≤ fault_0) ∨ ((x17 + 1) ≤ pos_0)) (hK_0_1 : ∀ j : Int, 0 ≤ j → j < 2000 → (-128) ≤ tape_0 j ∧ tape_0 j ≤ 127) (kz_0_8 : 0 ≤ fault_0 ∧ fault_0 ≤ 5) (kz_0_11 : 0 ≤ pos_0 ∧ pos_0 ≤ 2000) (kz_0_12 : 0 ≤ kind_0 ∧ kind_0 ≤ 4) (kz_0_15 : 0 ≤ from_0 ∧ from_0 ≤ 2000) (ex2 : gx = pos_0) : 1 * x3 + ((-1) * gx + 0) ≤ (-1) := by
  first | with_reducible assumption | ((have f27_c0 := f27.1); (have f27_c1 := f27.2); (try and_intros) <;> first | with_reducible assumption | (clear f27_c0 f27_c1 f27 f29 hK_0_1; omega)) | ((have f27_c0 := f27.1); (have f27_c1 := f27.2); (try and_intros) <;> first | with_reducible assumption | (clear f27_c0 f27_c1 f27 hK_0_1; omega)) | omega
set_option maxHeartbeats 4000000 in
theorem vc_Mo_of_at_s5002_20_4 (x11 : Int) (x17 : Int) (x21 : Int) (fault_0 : Int) (kind_0 : Int) (from_0 : Int) (pos_0 : Int) (tape_0 : Int → Int) (gx : Int) (k11 : 0 ≤ x11 ∧ x11 ≤ 2000) (k17 : 0 ≤ x17 ∧ x17 ≤ 2000) (k21 : 0 ≤ x21 ∧ x21 ≤ 0) (g4 : x21 = fault_0) (f18 : (-1) * x11 + ((-1) * x17 + 0) ≤ (-2000)) (f27 : ((kind_0 = 1) → (pos_0 ≤ (from_0 + 8))) ∧ ((kind_0 = 0) ∨ ((from_0 + 1) ≤ pos_0))) (f29 : (1 ≤ fault_0) ∨ ((x17 + 1) ≤ pos_0)) (hK_0_1 : ∀ j : Int, 0 ≤ j → j < 2000 → (-128) ≤ tape_0 j ∧ tape_0 j ≤ 127) (kz_0_8 : 0 ≤ fault_0 ∧ fault_0 ≤ 5) (kz_0_11 : 0 ≤ pos_0 ∧ pos_0 ≤ 2000) (kz_0_12 : 0 ≤ kind_0 ∧ kind_0 ≤ 4) (kz_0_15 : 0 ≤ from_0 ∧ from_0 ≤ 2000) (ex2 : gx = pos_0) : (-1) * x11 + ((-1) * gx + 0) ≤ (-2001) := by
  first | with_reducible assumption | ((have f27_c0 := f27.1); (have f27_c1 := f27.2); (try and_intros) <;> first | with_reducible assumption | (clear f27_c0 f27_c1 f27 f29 hK_0_1; omega)) | ((have f27_c0 := f27.1); (have f27_c1 := f27.2); (try and_intros) <;> first | with_reducible assumption | (clear f27_c0 f27_c1 f27 hK_0_1; omega)) | omega
set_option maxHeartbeats 4000000 in
theorem vc_Mo_of_at_s5002_20_5 (x4 : Int) (x5 : Int) (x6 : Int) (x15 : Int) (x17 : Int) (x18 : Int) (x19 : Int) (x20 : Int) (x21 : Int) (x22 : Int) (x24 : Int) (value_0 : Int) (fault_0 : Int) (kind_0 : Int) (from_0 : Int) (pos_0 : Int) (tape_0 : Int → Int) (all_0 : Int → Int) (limit_0 : Int) (place_0 : Int) (faultPlace_0 : Int) (r_0 : Int) (gx : Int) (k4 : (-1) ≤ x4 ∧ x4 ≤ 48) (k5 : 0 ≤ x5 ∧ x5 ≤ 7) (k6 : 0 ≤ x6 ∧ x6 ≤ 4) (k15 : 0 ≤ x15 ∧ x15 ≤ 2000) (k17 : 0 ≤ x17 ∧ x17 ≤ 2000) (k18 : (-1) ≤ x18 ∧ x18 ≤ 48) (k19 : 0 ≤ x19 ∧ x19 ≤ 7) (k20 : 0 ≤ x20 ∧ x20 ≤ 4) (k21 : 0 ≤ x21 ∧ x21 ≤ 0) (k22 : 2 ≤ x22 ∧ x22 ≤ 2) (k24 : 1 ≤ x24 ∧ x24 ≤ 99) (g2 : x24 = value_0) (g4 : x21 = fault_0) (g7 : x22 = kind_0) (f8 : x21 = 0) (f9 : 1 * x17 + ((-1) * x15 + 0) ≤ 0) (f10 : (-1) * x17 + (1 * x15 + 0) ≤ 0) (f11 : 1 * x18 + ((-1) * x4 + 0) ≤ 0) (f12 : (-1) * x18 + (1 * x4 + 0) ≤ 0) (f13 : 1 * x19 + ((-1) * x5 + 0) ≤ 0) (f14 : (-1) * x19 + (1 * x5 + 0) ≤ 0) (f15 : 1 * x20 + ((-1) * x6 + 0) ≤ 0) (f16 : (-1) * x20 + (1 * x6 + 0) ≤ 0) (f30 : zO11s (limit_0) (pos_0) (kind_0) (place_0) (value_0) (from_0) (fault_0) (faultPlace_0) (r_0) (tape_0) (all_0) (x18) (x19) (x20)) (kz_0_8 : 0 ≤ fault_0 ∧ fault_0 ≤ 5) (kz_0_9 : 0 ≤ faultPlace_0 ∧ faultPlace_0 ≤ 2000) (kz_0_10 : 0 ≤ limit_0 ∧ limit_0 ≤ 2000) (kz_0_11 : 0 ≤ pos_0 ∧ pos_0 ≤ 2000) (kz_0_12 : 0 ≤ kind_0 ∧ kind_0 ≤ 4) (kz_0_13 : 0 ≤ place_0 ∧ place_0 ≤ 2000) (kz_0_14 : (-49) ≤ value_0 ∧ value_0 ≤ 1048575) (kz_0_15 : 0 ≤ from_0 ∧ from_0 ≤ 2000) (ex2 : gx = pos_0) : zU12s (limit_0) (fault_0) (r_0) (tape_0) (all_0) (x4) (x24) (x5) (x6) (gx) := by
  first | (have el_x17 : x17 = x15 := by omega); subst el_x17 | skip
  first | (have el_x18 : x18 = x4 := by omega); subst el_x18 | skip
  first | (have el_x19 : x19 = x5 := by omega); subst el_x19 | skip
  first | (have el_x20 : x20 = x6 := by omega); subst el_x20 | skip
  first | subst g2 | skip
  first | subst g4 | skip
  first | subst g7 | skip
  first | subst ex2 | skip
  first
    | exact of_val_s ‹zO11s _ _ _ _ _ _ _ _ _ _ _ _ _ _› (by omega) (by omega) (by omega) (by omega) (by omega)
    | (exfalso; omega)
def o_Mo_of_at_s5002_20 : or_T := (136, 27, [(0, (2, 0, 0, [165])), (3, (0, 0, 2000, [])), (4, (0, -1, 48, [])), (5, (0, 0, 7, [])), (6, (0, 0, 4, [])), (11, (0, 0, 2000, [])), (15, (0, 0, 2000, [])), (17, (0, 0, 2000, [])), (18, (0, -1, 48, [])), (19, (0, 0, 7, [])), (20, (0, 0, 4, [])), (21, (0, 0, 0, [])), (22, (0, 2, 2, [])), (24, (0, 1, 99, []))], [(9, [24, 7], [14]), (9, [21, 7], [8]), (9, [22, 7], [12]), (8, [21], [0]), (23, [17, 15], [0, 1, -1]), (23, [17, 15], [0, -1, 1]), (23, [18, 4], [0, 1, -1]), (23, [18, 4], [0, -1, 1]), (23, [19, 5], [0, 1, -1]), (23, [19, 5], [0, -1, 1]), (23, [20, 6], [0, 1, -1]), (23, [20, 6], [0, -1, 1]), (23, [3, 17], [-1, 1, -1]), (23, [11, 17], [-2000, -1, -1]), (24, [0, 7], []), (20, [7], [50, 3, 0, 12, 11, 15, 2, 21, 4, 7, 1, 3, 2, 0, 12, 0, 1, 0, 3, 2, 0, 11, 4, 3, 2, 0, 15, 0, 8, 3, 7, 1, 3, 2, 0, 12, 0, 0, 0, 7, 4, 3, 2, 0, 15, 0, 1, 2, 0, 11]), (20, [17, 7], [30, 0, 1, 0, 0, -1, 1, 11]), (20, [7, 17], [50, 2, 0, 8, 11, 3, 7, 0, 2, 0, 1, 2, 0, 8, 0, 6, 4, 2, 1, 1, 0, 1, 2, 0, 11]), (20, [7, 18, 19, 20], [60, 9, 2, 1024, 10, 11, 12, 13, 14, 15, 8, 9, 5, 1, 2])], [], [(0, 0, 2000, [])], [(20, [27, 7], [30, 0, 1, 0, 0, -1, 1, 11]), (20, [27, 7], [50, 1, 0, 1011, 1, 2, 1, 0, 2, 1, 11]), (20, [7], [60, 2, 0, 947, 10, 11]), (23, [3, 27], [-1, 1, -1]), (23, [11, 27], [-2001, -1, -1]), (20, [7, 4, 24, 5, 6, 27], [60, 3, 2, 986, 10, 8, 5, 1, 2])], [], [])
theorem oo_Mo_of_at_s5002_20 {kA : Nat → ClassId} : or_ok PRD kA GG o_Mo_of_at_s5002_20 := by
  refine or_mk fun A ta ws vs hD hth hl => ?_
  intro t0 r0 t3 k3 t4 k4 t5 k5 t6 k6 t11 k11 t15 k15 t17 k17 t18 k18 t19 k19 t20 k20 t21 k21 t22 k22 t24 k24 f2 f4 f7 f8 f9 f10 f11 f12 f13 f14 f15 f16 f17 f18 f24 f27 f28 f29 f30
  replace f2 := shm_115 f2
  replace f4 := shm_293 f4
  replace f7 := shm_103 f7
  replace f8 := shm_192 f8
  replace f9 := shm_7 f9
  replace f10 := shm_22 f10
  replace f11 := shm_7 f11
  replace f12 := shm_22 f12
  replace f13 := shm_7 f13
  replace f14 := shm_22 f14
  replace f15 := shm_7 f15
  replace f16 := shm_22 f16
  replace f17 := shm_193 f17
  replace f18 := shm_2009 f18
  replace f24 := shm_5 f24
  replace f27 := shm_1438 f27
  replace f28 := shm_1431 f28
  replace f29 := shm_1726 f29
  replace f30 := shm_1738 f30
  have q7 : n_v vs 7 = n_v vs 0 := f24.symm
  simp only [q7] at f2 f4 f7 f27 f28 f29 f30
  have cr_0_1 := fdq_39 hD hth r0
  have g2 : v_iv (n_v vs 24) = w_fi ws (n_v vs 0) 14 := congrArg v_iv f2
  have g4 : v_iv (n_v vs 21) = w_fi ws (n_v vs 0) 8 := congrArg v_iv f4
  have g7 : v_iv (n_v vs 22) = w_fi ws (n_v vs 0) 12 := congrArg v_iv f7
  have hK_0_1 := elq_7 hD hth cr_0_1
  have kz_0_8 := fdq_34 hD hth r0
  have kz_0_9 := fdq_44 hD hth r0
  have kz_0_10 := fdq_43 hD hth r0
  have kz_0_11 := fdq_237 hD hth r0
  have kz_0_12 := fdq_187 hD hth r0
  have kz_0_13 := fdq_238 hD hth r0
  have kz_0_14 := fdq_188 hD hth r0
  have kz_0_15 := fdq_239 hD hth r0
  obtain ⟨x, ex, hx⟩ := iv_ex (ta := ta) (lo := 0) (hi := 2000) (z := w_fi ws (n_v vs 0) 11) (by omega) (by omega) (by omega) (by omega)
  have ex2 : v_iv (Value.int x) = w_fi ws (n_v vs 0) 11 := ex
  have ex3 : 0 ≤ v_iv (Value.int x) ∧ v_iv (Value.int x) ≤ 2000 := tv_rng hx
  have e_3 : n_v (vs ++ [Value.int x]) 3 = n_v vs 3 := n_v_old (by rw [hl]; decide)
  have e_4 : n_v (vs ++ [Value.int x]) 4 = n_v vs 4 := n_v_old (by rw [hl]; decide)
  have e_5 : n_v (vs ++ [Value.int x]) 5 = n_v vs 5 := n_v_old (by rw [hl]; decide)
  have e_6 : n_v (vs ++ [Value.int x]) 6 = n_v vs 6 := n_v_old (by rw [hl]; decide)
  have e_7 : n_v (vs ++ [Value.int x]) 7 = n_v vs 7 := n_v_old (by rw [hl]; decide)
  have e_11 : n_v (vs ++ [Value.int x]) 11 = n_v vs 11 := n_v_old (by rw [hl]; decide)
  have e_24 : n_v (vs ++ [Value.int x]) 24 = n_v vs 24 := n_v_old (by rw [hl]; decide)
  have e_27 : n_v (vs ++ [Value.int x]) 27 = Value.int x := n_v_new hl
  have nf0 : fc_1 PRD (20, [27, 7], [30, 0, 1, 0, 0, -1, 1, 11]) ws (vs ++ [Value.int x]) := by
    refine ⟨nf_inA hl rfl, sgq_1431 ?_⟩
    · show 1 * v_iv (n_v (vs ++ [Value.int x]) 27) + ((-1) * w_fi ws (n_v (vs ++ [Value.int x]) 7) 11 + 0) ≤ 0
      simp only [e_7, e_27, q7]
      exact vc_Mo_of_at_s5002_20_0 (v_iv (n_v vs 17)) (w_fi ws (n_v vs 0) 8) (w_fi ws (n_v vs 0) 12) (w_fi ws (n_v vs 0) 15) (w_fi ws (n_v vs 0) 11) (w_ei ws (w_ar ws (n_v vs 0) 1)) (v_iv (Value.int x)) k17 f27 f29 hK_0_1 kz_0_8 kz_0_11 kz_0_12 kz_0_15 ex2
  have nf1 : fc_1 PRD (20, [27, 7], [50, 1, 0, 1011, 1, 2, 1, 0, 2, 1, 11]) ws (vs ++ [Value.int x]) := by
    refine ⟨nf_inA hl rfl, sgq_1432 ?_⟩
    · show v_iv (n_v (vs ++ [Value.int x]) 27) = w_fi ws (n_v (vs ++ [Value.int x]) 7) 11
      simp only [e_7, e_27, q7]
      exact vc_Mo_of_at_s5002_20_1 (v_iv (n_v vs 17)) (w_fi ws (n_v vs 0) 8) (w_fi ws (n_v vs 0) 12) (w_fi ws (n_v vs 0) 15) (w_fi ws (n_v vs 0) 11) (w_ei ws (w_ar ws (n_v vs 0) 1)) (v_iv (Value.int x)) k17 f27 f29 hK_0_1 kz_0_8 kz_0_11 kz_0_12 kz_0_15 ex2
  have nf2 : fc_1 PRD (20, [7], [60, 2, 0, 947, 10, 11]) ws (vs ++ [Value.int x]) := by
    refine ⟨nf_inA hl rfl, sgq_1433 ?_⟩
    · show ZLM (w_fi ws (n_v (vs ++ [Value.int x]) 7) 10) (w_fi ws (n_v (vs ++ [Value.int x]) 7) 11)
      simp only [e_7, q7]
      exact vc_Mo_of_at_s5002_20_2 (v_iv (n_v vs 4)) (v_iv (n_v vs 5)) (v_iv (n_v vs 6)) (v_iv (n_v vs 15)) (v_iv (n_v vs 17)) (v_iv (n_v vs 18)) (v_iv (n_v vs 19)) (v_iv (n_v vs 20)) (v_iv (n_v vs 21)) (v_iv (n_v vs 22)) (v_iv (n_v vs 24)) (w_fi ws (n_v vs 0) 14) (w_fi ws (n_v vs 0) 8) (w_fi ws (n_v vs 0) 12) (w_fi ws (n_v vs 0) 15) (w_fi ws (n_v vs 0) 11) (w_ei ws (w_ar ws (n_v vs 0) 1)) (w_ei ws (w_ar ws (n_v vs 0) 2)) (w_fi ws (n_v vs 0) 10) (w_fi ws (n_v vs 0) 13) (w_fi ws (n_v vs 0) 9) (w_fi ws (n_v vs 0) 5) (v_iv (Value.int x)) k4 k5 k6 k15 k17 k18 k19 k20 k21 k22 k24 g2 g4 g7 f8 f9 f10 f11 f12 f13 f14 f15 f16 f30 kz_0_8 kz_0_9 kz_0_10 kz_0_11 kz_0_12 kz_0_13 kz_0_14 kz_0_15 ex2
  have nf3 : fc_1 PRD (23, [3, 27], [-1, 1, -1]) ws (vs ++ [Value.int x]) := by
    refine ⟨nf_inA hl rfl, sgq_193 ?_⟩
    · show 1 * v_iv (n_v (vs ++ [Value.int x]) 3) + ((-1) * v_iv (n_v (vs ++ [Value.int x]) 27) + 0) ≤ (-1)
      simp only [e_3, e_27]
      exact vc_Mo_of_at_s5002_20_3 (v_iv (n_v vs 3)) (v_iv (n_v vs 17)) (w_fi ws (n_v vs 0) 8) (w_fi ws (n_v vs 0) 12) (w_fi ws (n_v vs 0) 15) (w_fi ws (n_v vs 0) 11) (w_ei ws (w_ar ws (n_v vs 0) 1)) (v_iv (Value.int x)) k3 k17 f17 f27 f28 f29 hK_0_1 kz_0_8 kz_0_11 kz_0_12 kz_0_15 ex2
  have nf4 : fc_1 PRD (23, [11, 27], [-2001, -1, -1]) ws (vs ++ [Value.int x]) := by
    refine ⟨nf_inA hl rfl, sgq_2011 ?_⟩
    · show (-1) * v_iv (n_v (vs ++ [Value.int x]) 11) + ((-1) * v_iv (n_v (vs ++ [Value.int x]) 27) + 0) ≤ (-2001)
      simp only [e_11, e_27]
      exact vc_Mo_of_at_s5002_20_4 (v_iv (n_v vs 11)) (v_iv (n_v vs 17)) (v_iv (n_v vs 21)) (w_fi ws (n_v vs 0) 8) (w_fi ws (n_v vs 0) 12) (w_fi ws (n_v vs 0) 15) (w_fi ws (n_v vs 0) 11) (w_ei ws (w_ar ws (n_v vs 0) 1)) (v_iv (Value.int x)) k11 k17 k21 g4 f18 f27 f29 hK_0_1 kz_0_8 kz_0_11 kz_0_12 kz_0_15 ex2
  have nf5 : fc_1 PRD (20, [7, 4, 24, 5, 6, 27], [60, 3, 2, 986, 10, 8, 5, 1, 2]) ws (vs ++ [Value.int x]) := by
    refine ⟨nf_inA hl rfl, sgq_2012 ?_⟩
    · show zU12s (w_fi ws (n_v (vs ++ [Value.int x]) 7) 10) (w_fi ws (n_v (vs ++ [Value.int x]) 7) 8) (w_fi ws (n_v (vs ++ [Value.int x]) 7) 5) (w_ei ws (w_ar ws (n_v (vs ++ [Value.int x]) 7) 1)) (w_ei ws (w_ar ws (n_v (vs ++ [Value.int x]) 7) 2)) (v_iv (n_v (vs ++ [Value.int x]) 4)) (v_iv (n_v (vs ++ [Value.int x]) 24)) (v_iv (n_v (vs ++ [Value.int x]) 5)) (v_iv (n_v (vs ++ [Value.int x]) 6)) (v_iv (n_v (vs ++ [Value.int x]) 27))
      simp only [e_4, e_5, e_6, e_7, e_24, e_27, q7]
      exact vc_Mo_of_at_s5002_20_5 (v_iv (n_v vs 4)) (v_iv (n_v vs 5)) (v_iv (n_v vs 6)) (v_iv (n_v vs 15)) (v_iv (n_v vs 17)) (v_iv (n_v vs 18)) (v_iv (n_v vs 19)) (v_iv (n_v vs 20)) (v_iv (n_v vs 21)) (v_iv (n_v vs 22)) (v_iv (n_v vs 24)) (w_fi ws (n_v vs 0) 14) (w_fi ws (n_v vs 0) 8) (w_fi ws (n_v vs 0) 12) (w_fi ws (n_v vs 0) 15) (w_fi ws (n_v vs 0) 11) (w_ei ws (w_ar ws (n_v vs 0) 1)) (w_ei ws (w_ar ws (n_v vs 0) 2)) (w_fi ws (n_v vs 0) 10) (w_fi ws (n_v vs 0) 13) (w_fi ws (n_v vs 0) 9) (w_fi ws (n_v vs 0) 5) (v_iv (Value.int x)) k4 k5 k6 k15 k17 k18 k19 k20 k21 k22 k24 g2 g4 g7 f8 f9 f10 f11 f12 f13 f14 f15 f16 f30 kz_0_8 kz_0_9 kz_0_10 kz_0_11 kz_0_12 kz_0_13 kz_0_14 kz_0_15 ex2
  exact ⟨(fun _ h => (by cases h)), [Value.int x], ag_one hx, List.forall_mem_cons.mpr ⟨⟨show (20 : Nat) < 100 from by decide, nf0⟩, List.forall_mem_cons.mpr ⟨⟨show (20 : Nat) < 100 from by decide, nf1⟩, List.forall_mem_cons.mpr ⟨⟨show (20 : Nat) < 100 from by decide, nf2⟩, List.forall_mem_cons.mpr ⟨⟨show (23 : Nat) < 100 from by decide, nf3⟩, List.forall_mem_cons.mpr ⟨⟨show (23 : Nat) < 100 from by decide, nf4⟩, List.forall_mem_cons.mpr ⟨⟨show (20 : Nat) < 100 from by decide, nf5⟩, (fun _ h => (by cases h))⟩⟩⟩⟩⟩⟩, (fun _ h => (by cases h))⟩
set_option maxHeartbeats 4000000 in
theorem vc_Mo_of_at_s5002_21_0 (tape_0 : Int → Int) (from_0 : Int) (pos_0 : Int) (kind_0 : Int) (f23 : 1 * from_0 + ((-1) * pos_0 + 0) ≤ 0) (f24 : ((kind_0 = 1) → (pos_0 ≤ (from_0 + 8))) ∧ ((kind_0 = 0) ∨ ((from_0 + 1) ≤ pos_0))) (hK_0_1 : ∀ j : Int, 0 ≤ j → j < 2000 → (-128) ≤ tape_0 j ∧ tape_0 j ≤ 127) (kz_0_11 : 0 ≤ pos_0 ∧ pos_0 ≤ 2000) (kz_0_12 : 0 ≤ kind_0 ∧ kind_0 ≤ 4) (kz_0_15 : 0 ≤ from_0 ∧ from_0 ≤ 2000) : 1 * from_0 + ((-1) * pos_0 + 0) ≤ 0 := by
  first | with_reducible assumption | ((have f24_c0 := f24.1); (have f24_c1 := f24.2); (try and_intros) <;> first | with_reducible assumption | (clear f24_c0 f24_c1 f24 hK_0_1; omega)) | omega
set_option maxHeartbeats 4000000 in
theorem vc_Mo_of_at_s5002_21_1 (tape_0 : Int → Int) (from_0 : Int) (pos_0 : Int) (kind_0 : Int) (f24 : ((kind_0 = 1) → (pos_0 ≤ (from_0 + 8))) ∧ ((kind_0 = 0) ∨ ((from_0 + 1) ≤ pos_0))) (hK_0_1 : ∀ j : Int, 0 ≤ j → j < 2000 → (-128) ≤ tape_0 j ∧ tape_0 j ≤ 127) (kz_0_11 : 0 ≤ pos_0 ∧ pos_0 ≤ 2000) (kz_0_12 : 0 ≤ kind_0 ∧ kind_0 ≤ 4) (kz_0_15 : 0 ≤ from_0 ∧ from_0 ≤ 2000) : ((kind_0 = 1) → (pos_0 ≤ (from_0 + 8))) ∧ ((kind_0 = 0) ∨ ((from_0 + 1) ≤ pos_0)) := by
  first | with_reducible assumption | ((have f24_c0 := f24.1); (have f24_c1 := f24.2); (try and_intros) <;> first | with_reducible assumption | (clear f24_c0 f24_c1 f24 hK_0_1; omega)) | omega
set_option maxHeartbeats 4000000 in
theorem vc_Mo_of_at_s5002_21_2 (x3 : Int) (x27 : Int) (tape_0 : Int → Int) (from_0 : Int) (pos_0 : Int) (kind_0 : Int) (k3 : 0 ≤ x3 ∧ x3 ≤ 2000) (k27 : 0 ≤ x27 ∧ x27 ≤ 2000) (f1 : 1 * x3 + ((-1) * x27 + 0) ≤ (-1)) (f23 : 1 * from_0 + ((-1) * pos_0 + 0) ≤ 0) (f24 : ((kind_0 = 1) → (pos_0 ≤ (from_0 + 8))) ∧ ((kind_0 = 0) ∨ ((from_0 + 1) ≤ pos_0))) (f25 : 1 * x27 + ((-1) * from_0 + 0) ≤ 0) (hK_0_1 : ∀ j : Int, 0 ≤ j → j < 2000 → (-128) ≤ tape_0 j ∧ tape_0 j ≤ 127) (kz_0_11 : 0 ≤ pos_0 ∧ pos_0 ≤ 2000) (kz_0_12 : 0 ≤ kind_0 ∧ kind_0 ≤ 4) (kz_0_15 : 0 ≤ from_0 ∧ from_0 ≤ 2000) : 1 * x3 + ((-1) * pos_0 + 0) ≤ (-1) := by
  first | with_reducible assumption | ((have f24_c0 := f24.1); (have f24_c1 := f24.2); (try and_intros) <;> first | with_reducible assumption | (clear f24_c0 f24_c1 f24 hK_0_1; omega)) | omega
set_option maxHeartbeats 4000000 in
theorem vc_Mo_of_at_s5002_21_3 (x2 : Int) (x24 : Int) (tape_0 : Int → Int) (from_0 : Int) (pos_0 : Int) (kind_0 : Int) (k2 : 99 ≤ x2 ∧ x2 ≤ 99) (k24 : 1 ≤ x24 ∧ x24 ≤ 99) (f24 : ((kind_0 = 1) → (pos_0 ≤ (from_0 + 8))) ∧ ((kind_0 = 0) ∨ ((from_0 + 1) ≤ pos_0))) (f30 : 1 * x24 + ((-1) * x2 + 0) ≤ 0) (hK_0_1 : ∀ j : Int, 0 ≤ j → j < 2000 → (-128) ≤ tape_0 j ∧ tape_0 j ≤ 127) (kz_0_11 : 0 ≤ pos_0 ∧ pos_0 ≤ 2000) (kz_0_12 : 0 ≤ kind_0 ∧ kind_0 ≤ 4) (kz_0_15 : 0 ≤ from_0 ∧ from_0 ≤ 2000) : 1 * x24 + ((-1) * x2 + 0) ≤ 0 := by
  first | with_reducible assumption | ((have f24_c0 := f24.1); (have f24_c1 := f24.2); (try and_intros) <;> first | with_reducible assumption | (clear f24_c0 f24_c1 f24 hK_0_1; omega)) | omega
set_option maxHeartbeats 4000000 in
theorem vc_Mo_of_at_s5002_21_4 (x24 : Int) (tape_0 : Int → Int) (from_0 : Int) (pos_0 : Int) (kind_0 : Int) (k24 : 1 ≤ x24 ∧ x24 ≤ 99) (f24 : ((kind_0 = 1) → (pos_0 ≤ (from_0 + 8))) ∧ ((kind_0 = 0) ∨ ((from_0 + 1) ≤ pos_0))) (f31 : (-1) * x24 + 0 ≤ 0) (hK_0_1 : ∀ j : Int, 0 ≤ j → j < 2000 → (-128) ≤ tape_0 j ∧ tape_0 j ≤ 127) (kz_0_11 : 0 ≤ pos_0 ∧ pos_0 ≤ 2000) (kz_0_12 : 0 ≤ kind_0 ∧ kind_0 ≤ 4) (kz_0_15 : 0 ≤ from_0 ∧ from_0 ≤ 2000) : (-1) * x24 + 0 ≤ 0 := by
  first | with_reducible assumption | ((have f24_c0 := f24.1); (have f24_c1 := f24.2); (try and_intros) <;> first | with_reducible assumption | (clear f24_c0 f24_c1 f24 hK_0_1; omega)) | omega
set_option maxHeartbeats 4000000 in
theorem vc_Mo_of_at_s5002_21_5 (x4 : Int) (tape_0 : Int → Int) (from_0 : Int) (pos_0 : Int) (kind_0 : Int) (k4 : (-1) ≤ x4 ∧ x4 ≤ 48) (f24 : ((kind_0 = 1) → (pos_0 ≤ (from_0 + 8))) ∧ ((kind_0 = 0) ∨ ((from_0 + 1) ≤ pos_0))) (f76 : (-1) * x4 + 0 ≤ 0) (hK_0_1 : ∀ j : Int, 0 ≤ j → j < 2000 → (-128) ≤ tape_0 j ∧ tape_0 j ≤ 127) (kz_0_11 : 0 ≤ pos_0 ∧ pos_0 ≤ 2000) (kz_0_12 : 0 ≤ kind_0 ∧ kind_0 ≤ 4) (kz_0_15 : 0 ≤ from_0 ∧ from_0 ≤ 2000) : (-1) * x4 + 0 ≤ 0 := by
  first | with_reducible assumption | ((have f24_c0 := f24.1); (have f24_c1 := f24.2); (try and_intros) <;> first | with_reducible assumption | (clear f24_c0 f24_c1 f24 hK_0_1; omega)) | omega
set_option maxHeartbeats 4000000 in
theorem vc_Mo_of_at_s5002_21_6 (x11 : Int) (x27 : Int) (tape_0 : Int → Int) (from_0 : Int) (pos_0 : Int) (kind_0 : Int) (gx : Int) (k11 : 0 ≤ x11 ∧ x11 ≤ 2000) (k27 : 0 ≤ x27 ∧ x27 ≤ 2000) (f2 : (-1) * x11 + ((-1) * x27 + 0) ≤ (-2001)) (f23 : 1 * from_0 + ((-1) * pos_0 + 0) ≤ 0) (f24 : ((kind_0 = 1) → (pos_0 ≤ (from_0 + 8))) ∧ ((kind_0 = 0) ∨ ((from_0 + 1) ≤ pos_0))) (f25 : 1 * x27 + ((-1) * from_0 + 0) ≤ 0) (hK_0_1 : ∀ j : Int, 0 ≤ j → j < 2000 → (-128) ≤ tape_0 j ∧ tape_0 j ≤ 127) (kz_0_11 : 0 ≤ pos_0 ∧ pos_0 ≤ 2000) (kz_0_12 : 0 ≤ kind_0 ∧ kind_0 ≤ 4) (kz_0_15 : 0 ≤ from_0 ∧ from_0 ≤ 2000) (ex2 : gx = 0 + (1 * x11 + 0)) : (-1) * gx + ((-1) * pos_0 + 0) ≤ (-2001) := by
  first | with_reducible assumption | ((have f24_c0 := f24.1); (have f24_c1 := f24.2); (try and_intros) <;> first | with_reducible assumption | (clear f24_c0 f24_c1 f24 hK_0_1; omega)) | omega
set_option maxHeartbeats 4000000 in
theorem vc_Mo_of_at_s5002_21_7 (x4 : Int) (x5 : Int) (x6 : Int) (x15 : Int) (x17 : Int) (x18 : Int) (x19 : Int) (x20 : Int) (x21 : Int) (x24 : Int) (x27 : Int) (fault_0 : Int) (tape_0 : Int → Int) (all_0 : Int → Int) (limit_0 : Int) (r_0 : Int) (from_0 : Int) (pos_0 : Int) (kind_0 : Int) (place_0 : Int) (value_0 : Int) (k4 : (-1) ≤ x4 ∧ x4 ≤ 48) (k5 : 0 ≤ x5 ∧ x5 ≤ 7) (k6 : 0 ≤ x6 ∧ x6 ≤ 4) (k15 : 0 ≤ x15 ∧ x15 ≤ 2000) (k17 : 0 ≤ x17 ∧ x17 ≤ 2000) (k18 : (-1) ≤ x18 ∧ x18 ≤ 48) (k19 : 0 ≤ x19 ∧ x19 ≤ 7) (k20 : 0 ≤ x20 ∧ x20 ≤ 4) (k21 : 0 ≤ x21 ∧ x21 ≤ 0) (k24 : 1 ≤ x24 ∧ x24 ≤ 99) (k27 : 0 ≤ x27 ∧ x27 ≤ 2000) (g0 : x21 = fault_0) (f3 : zU12s (limit_0) (fault_0) (r_0) (tape_0) (all_0) (x4) (x24) (x5) (x6) (x27)) (f6 : 1 * x17 + ((-1) * x15 + 0) ≤ 0) (f7 : (-1) * x17 + (1 * x15 + 0) ≤ 0) (f8 : 1 * x18 + ((-1) * x4 + 0) ≤ 0) (f9 : (-1) * x18 + (1 * x4 + 0) ≤ 0) (f10 : 1 * x19 + ((-1) * x5 + 0) ≤ 0) (f11 : (-1) * x19 + (1 * x5 + 0) ≤ 0) (f12 : 1 * x20 + ((-1) * x6 + 0) ≤ 0) (f13 : (-1) * x20 + (1 * x6 + 0) ≤ 0) (f26 : TKR (limit_0) (pos_0) (kind_0) (place_0) (value_0) (from_0) (tape_0) (x27)) (kz_0_8 : 0 ≤ fault_0 ∧ fault_0 ≤ 5) (kz_0_10 : 0 ≤ limit_0 ∧ limit_0 ≤ 2000) (kz_0_11 : 0 ≤ pos_0 ∧ pos_0 ≤ 2000) (kz_0_12 : 0 ≤ kind_0 ∧ kind_0 ≤ 4) (kz_0_13 : 0 ≤ place_0 ∧ place_0 ≤ 2000) (kz_0_14 : (-49) ≤ value_0 ∧ value_0 ≤ 1048575) (kz_0_15 : 0 ≤ from_0 ∧ from_0 ≤ 2000) : zO12s (limit_0) (pos_0) (kind_0) (place_0) (value_0) (from_0) (fault_0) (r_0) (tape_0) (all_0) (x4) (x24) (x5) (x6) := by
  first | (have el_x17 : x17 = x15 := by omega); subst el_x17 | skip
  first | (have el_x18 : x18 = x4 := by omega); subst el_x18 | skip
  first | (have el_x19 : x19 = x5 := by omega); subst el_x19 | skip
  first | (have el_x20 : x20 = x6 := by omega); subst el_x20 | skip
  first | subst g0 | skip
  first
    | exact of_12_s ‹zU12s _ _ _ _ _ _ _ _ _ _› ‹TKR _ _ _ _ _ _ _ _›
    | (exfalso; omega)
def o_Mo_of_at_s5002_21 : or_T := (139, 28, [(0, (2, 0, 0, [165])), (2, (0, 99, 99, [])), (3, (0, 0, 2000, [])), (4, (0, -1, 48, [])), (5, (0, 0, 7, [])), (6, (0, 0, 4, [])), (7, (2, 0, 0, [165])), (9, (0, 99, 99, [])), (10, (0, -49, 0, [])), (11, (0, 0, 2000, [])), (15, (0, 0, 2000, [])), (17, (0, 0, 2000, [])), (18, (0, -1, 48, [])), (19, (0, 0, 7, [])), (20, (0, 0, 4, [])), (21, (0, 0, 0, [])), (24, (0, 1, 99, [])), (27, (0, 0, 2000, []))], [(9, [21, 7], [8]), (23, [3, 27], [-1, 1, -1]), (23, [11, 27], [-2001, -1, -1]), (20, [7, 4, 24, 5, 6, 27], [60, 3, 2, 986, 10, 8, 5, 1, 2]), (23, [24, 9], [0, 1, -1]), (23, [24], [0, -1]), (23, [17, 15], [0, 1, -1]), (23, [17, 15], [0, -1, 1]), (23, [18, 4], [0, 1, -1]), (23, [18, 4], [0, -1, 1]), (23, [19, 5], [0, 1, -1]), (23, [19, 5], [0, -1, 1]), (23, [20, 6], [0, 1, -1]), (23, [20, 6], [0, -1, 1]), (23, [3, 17], [-1, 1, -1]), (23, [11, 17], [-2000, -1, -1]), (23, [3, 15], [-1, 1, -1]), (23, [11, 15], [-2000, -1, -1]), (23, [10, 9], [0, 1, -1]), (23, [10], [0, -1]), (23, [4], [0, -1]), (24, [0, 7], []), (24, [2, 9], []), (20, [7, 7], [30, 0, 1, 1, 15, -1, 1, 11]), (20, [7], [50, 3, 0, 12, 11, 15, 2, 21, 4, 7, 1, 3, 2, 0, 12, 0, 1, 0, 3, 2, 0, 11, 4, 3, 2, 0, 15, 0, 8, 3, 7, 1, 3, 2, 0, 12, 0, 0, 0, 7, 4, 3, 2, 0, 15, 0, 1, 2, 0, 11]), (20, [27, 7], [30, 0, 1, 0, 0, -1, 1, 15]), (20, [7, 27], [60, 6, 1, 948, 10, 11, 12, 13, 14, 15, 1]), (102, [27], [0, 165011, 165012, 165013, 165014, 165015]), (23, [3, 27], [-1, 1, -1]), (23, [11, 27], [-2001, -1, -1]), (23, [24, 9], [0, 1, -1]), (23, [24], [0, -1]), (8, [21], [5]), (8, [21], [0]), (8, [21], [0]), (23, [17, 15], [0, 1, -1]), (23, [17, 15], [0, -1, 1]), (23, [18, 4], [0, 1, -1]), (23, [18, 4], [0, -1, 1]), (23, [19, 5], [0, 1, -1]), (23, [19, 5], [0, -1, 1]), (23, [20, 6], [0, 1, -1]), (23, [20, 6], [0, -1, 1]), (23, [3, 17], [-1, 1, -1]), (23, [11, 17], [-2000, -1, -1]), (23, [3, 15], [-1, 1, -1]), (23, [11, 15], [-2000, -1, -1]), (23, [10, 9], [0, 1, -1]), (23, [10], [0, -1]), (23, [4], [0, -1]), (102, [20], [0, 165008, 165009, 165011, 165012, 165013, 165014, 165015]), (23, [17, 15], [0, 1, -1]), (23, [17, 15], [0, -1, 1]), (23, [18, 4], [0, 1, -1]), (23, [18, 4], [0, -1, 1]), (23, [19, 5], [0, 1, -1]), (23, [19, 5], [0, -1, 1]), (23, [20, 6], [0, 1, -1]), (23, [20, 6], [0, -1, 1]), (23, [3, 17], [-1, 1, -1]), (23, [11, 17], [-2000, -1, -1]), (23, [3, 15], [-1, 1, -1]), (23, [11, 15], [-2000, -1, -1]), (23, [10, 9], [0, 1, -1]), (23, [10], [0, -1]), (23, [4], [0, -1]), (102, [15], [0, 165011, 165012, 165013, 165014, 165015]), (23, [3, 15], [-1, 1, -1]), (23, [11, 15], [-2000, -1, -1]), (8, [10], [5]), (23, [10, 9], [0, 1, -1]), (23, [10], [0, -1]), (23, [4], [0, -1]), (102, [13], [0]), (23, [10, 9], [0, 1, -1]), (23, [10], [0, -1]), (23, [4], [0, -1])], [], [(0, 0, 2000, [])], [(20, [7, 7], [30, 0, 1, 1, 15, -1, 1, 11]), (20, [7], [50, 3, 0, 12, 11, 15, 2, 21, 4, 7, 1, 3, 2, 0, 12, 0, 1, 0, 3, 2, 0, 11, 4, 3, 2, 0, 15, 0, 8, 3, 7, 1, 3, 2, 0, 12, 0, 0, 0, 7, 4, 3, 2, 0, 15, 0, 1, 2, 0, 11]), (20, [3, 7], [30, -1, 1, 0, 0, -1, 1, 11]), (23, [24, 9], [0, 1, -1]), (23, [24], [0, -1]), (23, [4], [0, -1]), (20, [28, 7], [30, -2001, -1, 0, 0, -1, 1, 11]), (20, [7, 4, 24, 5, 6], [60, 8, 2, 999, 10, 11, 12, 13, 14, 15, 8, 5, 1, 2]), (24, [0, 7], []), (24, [2, 9], [])], [(28, 11, 0, 0)], [])
theorem oo_Mo_of_at_s5002_21 {kA : Nat → ClassId} : or_ok PRD kA GG o_Mo_of_at_s5002_21 := by
  refine or_mk fun A ta ws vs hD hth hl => ?_
  intro t0 r0 t2 k2 t3 k3 t4 k4 t5 k5 t6 k6 t7 r7 t9 k9 t10 k10 t11 k11 t15 k15 t17 k17 t18 k18 t19 k19 t20 k20 t21 k21 t24 k24 t27 k27 f0 f1 f2 f3 f4 f5 f6 f7 f8 f9 f10 f11 f12 f13 f14 f15 f16 f17 f18 f19 f20 f21 f22 f23 f24 f25 f26 ta1 w1 le1 s1 f28 f29 f30 f31 f32 f33 f34 f35 f36 f37 f38 f39 f40 f41 f42 f43 f44 f45 f46 f47 f48 f49 ta2 w2 le2 s2 f51 f52 f53 f54 f55 f56 f57 f58 f59 f60 f61 f62 f63 f64 f65 ta3 w3 le3 s3 f67 f68 f69 f70 f71 f72 ta4 w4 le4 s4 f74 f75 f76
  replace f0 := shm_293 f0
  replace f1 := shm_193 f1
  replace f2 := shm_2011 f2
  replace f3 := shm_2012 f3
  replace f4 := shm_7 f4
  replace f5 := shm_1043 f5
  replace f6 := shm_7 f6
  replace f7 := shm_22 f7
  replace f8 := shm_7 f8
  replace f9 := shm_22 f9
  replace f10 := shm_7 f10
  replace f11 := shm_22 f11
  replace f12 := shm_7 f12
  replace f13 := shm_22 f13
  replace f14 := shm_193 f14
  replace f15 := shm_2009 f15
  replace f16 := shm_193 f16
  replace f17 := shm_2009 f17
  replace f18 := shm_7 f18
  replace f19 := shm_1043 f19
  replace f20 := shm_1043 f20
  replace f21 := shm_5 f21
  replace f22 := shm_5 f22
  replace f23 := shm_1437 f23
  replace f24 := shm_1438 f24
  replace f25 := shm_1436 f25
  replace f26 := shm_1439 f26
  replace f28 := shm_193 f28
  replace f29 := shm_2011 f29
  replace f30 := shm_7 f30
  replace f31 := shm_1043 f31
  replace f32 := shm_295 f32
  replace f33 := shm_192 f33
  replace f34 := shm_192 f34
  replace f35 := shm_7 f35
  replace f36 := shm_22 f36
  replace f37 := shm_7 f37
  replace f38 := shm_22 f38
  replace f39 := shm_7 f39
  replace f40 := shm_22 f40
  replace f41 := shm_7 f41
  replace f42 := shm_22 f42
  replace f43 := shm_193 f43
  replace f44 := shm_2009 f44
  replace f45 := shm_193 f45
  replace f46 := shm_2009 f46
  replace f47 := shm_7 f47
  replace f48 := shm_1043 f48
  replace f49 := shm_1043 f49
  replace f51 := shm_7 f51
  replace f52 := shm_22 f52
  replace f53 := shm_7 f53
  replace f54 := shm_22 f54
  replace f55 := shm_7 f55
  replace f56 := shm_22 f56
  replace f57 := shm_7 f57
  replace f58 := shm_22 f58
  replace f59 := shm_193 f59
  replace f60 := shm_2009 f60
  replace f61 := shm_193 f61
  replace f62 := shm_2009 f62
  replace f63 := shm_7 f63
  replace f64 := shm_1043 f64
  replace f65 := shm_1043 f65
  replace f67 := shm_193 f67
  replace f68 := shm_2009 f68
  replace f69 := shm_295 f69
  replace f70 := shm_7 f70
  replace f71 := shm_1043 f71
  replace f72 := shm_1043 f72
  replace f74 := shm_7 f74
  replace f75 := shm_1043 f75
  replace f76 := shm_1043 f76
  have q7 : n_v vs 7 = n_v vs 0 := f21.symm
  have q9 : n_v vs 9 = n_v vs 2 := f22.symm
  simp only [q7, q9] at f0 f3 f4 f18 f23 f24 f25 f26 f30 f47 f63 f70 f74
  have cr_0_1 := fdq_39 hD hth r0
  have cr_0_2 := fdq_10 hD hth r0
  have g0 : v_iv (n_v vs 21) = w_fi ws (n_v vs 0) 8 := congrArg v_iv f0
  have hK_0_1 := elq_7 hD hth cr_0_1
  have kz_0_8 := fdq_34 hD hth r0
  have kz_0_10 := fdq_43 hD hth r0
  have kz_0_11 := fdq_237 hD hth r0
  have kz_0_12 := fdq_187 hD hth r0
  have kz_0_13 := fdq_238 hD hth r0
  have kz_0_14 := fdq_188 hD hth r0
  have kz_0_15 := fdq_239 hD hth r0
  obtain ⟨x, ex, hx⟩ := iv_ex (ta := ta) (lo := 0) (hi := 2000) (z := 0 + (1 * v_iv (n_v vs 11) + 0)) (by omega) (by omega) (by omega) (by omega)
  have ex2 : v_iv (Value.int x) = 0 + (1 * v_iv (n_v vs 11) + 0) := ex
  have ex3 : 0 ≤ v_iv (Value.int x) ∧ v_iv (Value.int x) ≤ 2000 := tv_rng hx
  have e_0 : n_v (vs ++ [Value.int x]) 0 = n_v vs 0 := n_v_old (by rw [hl]; decide)
  have e_2 : n_v (vs ++ [Value.int x]) 2 = n_v vs 2 := n_v_old (by rw [hl]; decide)
  have e_3 : n_v (vs ++ [Value.int x]) 3 = n_v vs 3 := n_v_old (by rw [hl]; decide)
  have e_4 : n_v (vs ++ [Value.int x]) 4 = n_v vs 4 := n_v_old (by rw [hl]; decide)
  have e_5 : n_v (vs ++ [Value.int x]) 5 = n_v vs 5 := n_v_old (by rw [hl]; decide)
  have e_6 : n_v (vs ++ [Value.int x]) 6 = n_v vs 6 := n_v_old (by rw [hl]; decide)
  have e_7 : n_v (vs ++ [Value.int x]) 7 = n_v vs 7 := n_v_old (by rw [hl]; decide)
  have e_9 : n_v (vs ++ [Value.int x]) 9 = n_v vs 9 := n_v_old (by rw [hl]; decide)
  have e_24 : n_v (vs ++ [Value.int x]) 24 = n_v vs 24 := n_v_old (by rw [hl]; decide)
  have e_28 : n_v (vs ++ [Value.int x]) 28 = Value.int x := n_v_new hl
  have nf0 : fc_1 PRD (20, [7, 7], [30, 0, 1, 1, 15, -1, 1, 11]) ws (vs ++ [Value.int x]) := by
    refine ⟨nf_inA hl rfl, sgq_1437 ?_⟩
    · show 1 * w_fi ws (n_v (vs ++ [Value.int x]) 7) 15 + ((-1) * w_fi ws (n_v (vs ++ [Value.int x]) 7) 11 + 0) ≤ 0
      simp only [e_7, q7]
      exact vc_Mo_of_at_s5002_21_0 (w_ei ws (w_ar ws (n_v vs 0) 1)) (w_fi ws (n_v vs 0) 15) (w_fi ws (n_v vs 0) 11) (w_fi ws (n_v vs 0) 12) f23 f24 hK_0_1 kz_0_11 kz_0_12 kz_0_15
  have nf1 : fc_1 PRD (20, [7], [50, 3, 0, 12, 11, 15, 2, 21, 4, 7, 1, 3, 2, 0, 12, 0, 1, 0, 3, 2, 0, 11, 4, 3, 2, 0, 15, 0, 8, 3, 7, 1, 3, 2, 0, 12, 0, 0, 0, 7, 4, 3, 2, 0, 15, 0, 1, 2, 0, 11]) ws (vs ++ [Value.int x]) := by
    refine ⟨nf_inA hl rfl, sgq_1438 ?_⟩
    · show ((w_fi ws (n_v (vs ++ [Value.int x]) 7) 12 = 1) → (w_fi ws (n_v (vs ++ [Value.int x]) 7) 11 ≤ (w_fi ws (n_v (vs ++ [Value.int x]) 7) 15 + 8))) ∧ ((w_fi ws (n_v (vs ++ [Value.int x]) 7) 12 = 0) ∨ ((w_fi ws (n_v (vs ++ [Value.int x]) 7) 15 + 1) ≤ w_fi ws (n_v (vs ++ [Value.int x]) 7) 11))
      simp only [e_7, q7]
      exact vc_Mo_of_at_s5002_21_1 (w_ei ws (w_ar ws (n_v vs 0) 1)) (w_fi ws (n_v vs 0) 15) (w_fi ws (n_v vs 0) 11) (w_fi ws (n_v vs 0) 12) f24 hK_0_1 kz_0_11 kz_0_12 kz_0_15
  have nf2 : fc_1 PRD (20, [3, 7], [30, -1, 1, 0, 0, -1, 1, 11]) ws (vs ++ [Value.int x]) := by
    refine ⟨nf_inA hl rfl, sgq_2005 ?_⟩
    · show 1 * v_iv (n_v (vs ++ [Value.int x]) 3) + ((-1) * w_fi ws (n_v (vs ++ [Value.int x]) 7) 11 + 0) ≤ (-1)
      simp only [e_3, e_7, q7]
      exact vc_Mo_of_at_s5002_21_2 (v_iv (n_v vs 3)) (v_iv (n_v vs 27)) (w_ei ws (w_ar ws (n_v vs 0) 1)) (w_fi ws (n_v vs 0) 15) (w_fi ws (n_v vs 0) 11) (w_fi ws (n_v vs 0) 12) k3 k27 f1 f23 f24 f25 hK_0_1 kz_0_11 kz_0_12 kz_0_15
  have nf3 : fc_1 PRD (23, [24, 9], [0, 1, -1]) ws (vs ++ [Value.int x]) := by
    refine ⟨nf_inA hl rfl, sgq_7 ?_⟩
    · show 1 * v_iv (n_v (vs ++ [Value.int x]) 24) + ((-1) * v_iv (n_v (vs ++ [Value.int x]) 9) + 0) ≤ 0
      simp only [e_9, e_24, q9]
      exact vc_Mo_of_at_s5002_21_3 (v_iv (n_v vs 2)) (v_iv (n_v vs 24)) (w_ei ws (w_ar ws (n_v vs 0) 1)) (w_fi ws (n_v vs 0) 15) (w_fi ws (n_v vs 0) 11) (w_fi ws (n_v vs 0) 12) k2 k24 f24 f30 hK_0_1 kz_0_11 kz_0_12 kz_0_15
  have nf4 : fc_1 PRD (23, [24], [0, -1]) ws (vs ++ [Value.int x]) := by
    refine ⟨nf_inA hl rfl, sgq_1043 ?_⟩
    · show (-1) * v_iv (n_v (vs ++ [Value.int x]) 24) + 0 ≤ 0
      rw [e_24]
      exact vc_Mo_of_at_s5002_21_4 (v_iv (n_v vs 24)) (w_ei ws (w_ar ws (n_v vs 0) 1)) (w_fi ws (n_v vs 0) 15) (w_fi ws (n_v vs 0) 11) (w_fi ws (n_v vs 0) 12) k24 f24 f31 hK_0_1 kz_0_11 kz_0_12 kz_0_15
  have nf5 : fc_1 PRD (23, [4], [0, -1]) ws (vs ++ [Value.int x]) := by
    refine ⟨nf_inA hl rfl, sgq_1043 ?_⟩
    · show (-1) * v_iv (n_v (vs ++ [Value.int x]) 4) + 0 ≤ 0
      rw [e_4]
      exact vc_Mo_of_at_s5002_21_5 (v_iv (n_v vs 4)) (w_ei ws (w_ar ws (n_v vs 0) 1)) (w_fi ws (n_v vs 0) 15) (w_fi ws (n_v vs 0) 11) (w_fi ws (n_v vs 0) 12) k4 f24 f76 hK_0_1 kz_0_11 kz_0_12 kz_0_15
  have nf6 : fc_1 PRD (20, [28, 7], [30, -2001, -1, 0, 0, -1, 1, 11]) ws (vs ++ [Value.int x]) := by
    refine ⟨nf_inA hl rfl, sgq_2013 ?_⟩
    · show (-1) * v_iv (n_v (vs ++ [Value.int x]) 28) + ((-1) * w_fi ws (n_v (vs ++ [Value.int x]) 7) 11 + 0) ≤ (-2001)
      simp only [e_7, e_28, q7]
      exact vc_Mo_of_at_s5002_21_6 (v_iv (n_v vs 11)) (v_iv (n_v vs 27)) (w_ei ws (w_ar ws (n_v vs 0) 1)) (w_fi ws (n_v vs 0) 15) (w_fi ws (n_v vs 0) 11) (w_fi ws (n_v vs 0) 12) (v_iv (Value.int x)) k11 k27 f2 f23 f24 f25 hK_0_1 kz_0_11 kz_0_12 kz_0_15 ex2
  have nf7 : fc_1 PRD (20, [7, 4, 24, 5, 6], [60, 8, 2, 999, 10, 11, 12, 13, 14, 15, 8, 5, 1, 2]) ws (vs ++ [Value.int x]) := by
    refine ⟨nf_inA hl rfl, sgq_2014 ?_⟩
    · show zO12s (w_fi ws (n_v (vs ++ [Value.int x]) 7) 10) (w_fi ws (n_v (vs ++ [Value.int x]) 7) 11) (w_fi ws (n_v (vs ++ [Value.int x]) 7) 12) (w_fi ws (n_v (vs ++ [Value.int x]) 7) 13) (w_fi ws (n_v (vs ++ [Value.int x]) 7) 14) (w_fi ws (n_v (vs ++ [Value.int x]) 7) 15) (w_fi ws (n_v (vs ++ [Value.int x]) 7) 8) (w_fi ws (n_v (vs ++ [Value.int x]) 7) 5) (w_ei ws (w_ar ws (n_v (vs ++ [Value.int x]) 7) 1)) (w_ei ws (w_ar ws (n_v (vs ++ [Value.int x]) 7) 2)) (v_iv (n_v (vs ++ [Value.int x]) 4)) (v_iv (n_v (vs ++ [Value.int x]) 24)) (v_iv (n_v (vs ++ [Value.int x]) 5)) (v_iv (n_v (vs ++ [Value.int x]) 6))
      simp only [e_4, e_5, e_6, e_7, e_24, q7]
      exact vc_Mo_of_at_s5002_21_7 (v_iv (n_v vs 4)) (v_iv (n_v vs 5)) (v_iv (n_v vs 6)) (v_iv (n_v vs 15)) (v_iv (n_v vs 17)) (v_iv (n_v vs 18)) (v_iv (n_v vs 19)) (v_iv (n_v vs 20)) (v_iv (n_v vs 21)) (v_iv (n_v vs 24)) (v_iv (n_v vs 27)) (w_fi ws (n_v vs 0) 8) (w_ei ws (w_ar ws (n_v vs 0) 1)) (w_ei ws (w_ar ws (n_v vs 0) 2)) (w_fi ws (n_v vs 0) 10) (w_fi ws (n_v vs 0) 5) (w_fi ws (n_v vs 0) 15) (w_fi ws (n_v vs 0) 11) (w_fi ws (n_v vs 0) 12) (w_fi ws (n_v vs 0) 13) (w_fi ws (n_v vs 0) 14) k4 k5 k6 k15 k17 k18 k19 k20 k21 k24 k27 g0 f3 f6 f7 f8 f9 f10 f11 f12 f13 f26 kz_0_8 kz_0_10 kz_0_11 kz_0_12 kz_0_13 kz_0_14 kz_0_15
  have nf8 : fc_1 PRD (24, [0, 7], []) ws (vs ++ [Value.int x]) := by
    refine ⟨nf_inA hl rfl, sgq_5 ?_⟩
    · show n_v (vs ++ [Value.int x]) 0 = n_v (vs ++ [Value.int x]) 7
      first | rfl | simp only [e_0, e_7, q7, q9]
  have nf9 : fc_1 PRD (24, [2, 9], []) ws (vs ++ [Value.int x]) := by
    refine ⟨nf_inA hl rfl, sgq_5 ?_⟩
    · show n_v (vs ++ [Value.int x]) 2 = n_v (vs ++ [Value.int x]) 9
      first | rfl | simp only [e_2, e_9, q7, q9]
  obtain ⟨x0, e0, _, _⟩ := tv_int t11 rfl
  have e1 : v_iv (n_v vs 11) = x0.toInt := by rw [e0]; rfl
  have ho : sy_ofs (vs ++ [Value.int x]) (28, 11, 0, 0) := by
    refine ⟨x, x0, by rw [List.getElem?_append_right (by rw [hl]; decide), hl]; rfl, ?_, ?_, ?_⟩
    · rw [List.getElem?_append_left (by rw [hl]; decide)]; exact n_v_some (by rw [hl]; decide) e0
    · show x0.toInt + 0 ≤ x.toInt; omega
    · show x.toInt ≤ x0.toInt + 0; omega
  exact ⟨(fun _ h => (by cases h)), [Value.int x], ag_one hx, List.forall_mem_cons.mpr ⟨⟨show (20 : Nat) < 100 from by decide, nf0⟩, List.forall_mem_cons.mpr ⟨⟨show (20 : Nat) < 100 from by decide, nf1⟩, List.forall_mem_cons.mpr ⟨⟨show (20 : Nat) < 100 from by decide, nf2⟩, List.forall_mem_cons.mpr ⟨⟨show (23 : Nat) < 100 from by decide, nf3⟩, List.forall_mem_cons.mpr ⟨⟨show (23 : Nat) < 100 from by decide, nf4⟩, List.forall_mem_cons.mpr ⟨⟨show (23 : Nat) < 100 from by decide, nf5⟩, List.forall_mem_cons.mpr ⟨⟨show (20 : Nat) < 100 from by decide, nf6⟩, List.forall_mem_cons.mpr ⟨⟨show (20 : Nat) < 100 from by decide, nf7⟩, List.forall_mem_cons.mpr ⟨⟨show (24 : Nat) < 100 from by decide, nf8⟩, List.forall_mem_cons.mpr ⟨⟨show (24 : Nat) < 100 from by decide, nf9⟩, (fun _ h => (by cases h))⟩⟩⟩⟩⟩⟩⟩⟩⟩⟩, List.forall_mem_cons.mpr ⟨ho, (fun _ h => (by cases h))⟩⟩
set_option maxHeartbeats 4000000 in
theorem vc_Mo_of_at_s5002_22_0 (x4 : Int) (x5 : Int) (x6 : Int) (x15 : Int) (x17 : Int) (x18 : Int) (x19 : Int) (x20 : Int) (x21 : Int) (x22 : Int) (x23 : Int) (x24 : Int) (x25 : Int) (place_0 : Int) (kind_0 : Int) (fault_0 : Int) (from_0 : Int) (pos_0 : Int) (tape_0 : Int → Int) (all_0 : Int → Int) (limit_0 : Int) (value_0 : Int) (faultPlace_0 : Int) (r_0 : Int) (gx : Int) (k4 : (-1) ≤ x4 ∧ x4 ≤ 48) (k5 : 0 ≤ x5 ∧ x5 ≤ 7) (k6 : 0 ≤ x6 ∧ x6 ≤ 4) (k15 : 0 ≤ x15 ∧ x15 ≤ 2000) (k17 : 0 ≤ x17 ∧ x17 ≤ 2000) (k18 : (-1) ≤ x18 ∧ x18 ≤ 48) (k19 : 0 ≤ x19 ∧ x19 ≤ 7) (k20 : 0 ≤ x20 ∧ x20 ≤ 4) (k21 : 0 ≤ x21 ∧ x21 ≤ 0) (k22 : 0 ≤ x22 ∧ x22 ≤ 4) (k23 : 2 ≤ x23 ∧ x23 ≤ 2) (k24 : 1 ≤ x24 ∧ x24 ≤ 1) (k25 : 0 ≤ x25 ∧ x25 ≤ 2000) (g0 : x25 = place_0) (f1 : x22 ≠ x23) (g2 : x22 = kind_0) (f3 : x21 = 0) (g4 : x21 = fault_0) (f5 : 1 * x17 + ((-1) * x15 + 0) ≤ 0) (f6 : (-1) * x17 + (1 * x15 + 0) ≤ 0) (f7 : 1 * x18 + ((-1) * x4 + 0) ≤ 0) (f8 : (-1) * x18 + (1 * x4 + 0) ≤ 0) (f9 : 1 * x19 + ((-1) * x5 + 0) ≤ 0) (f10 : (-1) * x19 + (1 * x5 + 0) ≤ 0) (f11 : 1 * x20 + ((-1) * x6 + 0) ≤ 0) (f12 : (-1) * x20 + (1 * x6 + 0) ≤ 0) (f21 : ((kind_0 = 1) → (pos_0 ≤ (from_0 + 8))) ∧ ((kind_0 = 0) ∨ ((from_0 + 1) ≤ pos_0))) (f23 : (1 ≤ fault_0) ∨ ((x17 + 1) ≤ pos_0)) (f24 : zO11s (limit_0) (pos_0) (kind_0) (place_0) (value_0) (from_0) (fault_0) (faultPlace_0) (r_0) (tape_0) (all_0) (x18) (x19) (x20)) (kz_0_8 : 0 ≤ fault_0 ∧ fault_0 ≤ 5) (kz_0_9 : 0 ≤ faultPlace_0 ∧ faultPlace_0 ≤ 2000) (kz_0_10 : 0 ≤ limit_0 ∧ limit_0 ≤ 2000) (kz_0_11 : 0 ≤ pos_0 ∧ pos_0 ≤ 2000) (kz_0_12 : 0 ≤ kind_0 ∧ kind_0 ≤ 4) (kz_0_13 : 0 ≤ place_0 ∧ place_0 ≤ 2000) (kz_0_14 : (-49) ≤ value_0 ∧ value_0 ≤ 1048575) (kz_0_15 : 0 ≤ from_0 ∧ from_0 ≤ 2000) (ex2 : gx = fault_0) (ex3 : 0 ≤ gx ∧ gx ≤ 5) : FSX (limit_0) (tape_0) (x24) (x25) := by
  first | (have el_x17 : x17 = x15 := by omega); subst el_x17 | skip
  first | (have el_x18 : x18 = x4 := by omega); subst el_x18 | skip
  first | (have el_x19 : x19 = x5 := by omega); subst el_x19 | skip
  first | (have el_x20 : x20 = x6 := by omega); subst el_x20 | skip
  first | subst g0 | skip
  first | subst g2 | skip
  first | subst g4 | skip
  first | subst ex2 | skip
  first
    | exact fsx_cg (of_nk_s ‹zO11s _ _ _ _ _ _ _ _ _ _ _ _ _ _› (by omega) (by omega)) (by omega) (by omega)
    | exact fsx_cg (of_nk_w ‹zO11w _ _ _ _ _ _ _ _ _ _ _ _ _ _› (by omega) (by omega)) (by omega) (by omega)
    | (exfalso; omega)
set_option maxHeartbeats 4000000 in
theorem vc_Mo_of_at_s5002_22_1 (x17 : Int) (x21 : Int) (kind_0 : Int) (fault_0 : Int) (from_0 : Int) (pos_0 : Int) (tape_0 : Int → Int) (gx : Int) (k17 : 0 ≤ x17 ∧ x17 ≤ 2000) (k21 : 0 ≤ x21 ∧ x21 ≤ 0) (g4 : x21 = fault_0) (f21 : ((kind_0 = 1) → (pos_0 ≤ (from_0 + 8))) ∧ ((kind_0 = 0) ∨ ((from_0 + 1) ≤ pos_0))) (f23 : (1 ≤ fault_0) ∨ ((x17 + 1) ≤ pos_0)) (hK_0_1 : ∀ j : Int, 0 ≤ j → j < 2000 → (-128) ≤ tape_0 j ∧ tape_0 j ≤ 127) (kz_0_8 : 0 ≤ fault_0 ∧ fault_0 ≤ 5) (kz_0_11 : 0 ≤ pos_0 ∧ pos_0 ≤ 2000) (kz_0_12 : 0 ≤ kind_0 ∧ kind_0 ≤ 4) (kz_0_15 : 0 ≤ from_0 ∧ from_0 ≤ 2000) (ex2 : gx = fault_0) : 1 * fault_0 + ((-1) * gx + 0) ≤ 0 := by
  first | with_reducible assumption | ((have f21_c0 := f21.1); (have f21_c1 := f21.2); (try and_intros) <;> first | with_reducible assumption | (clear f21_c0 f21_c1 f21 f23 hK_0_1; omega)) | ((have f21_c0 := f21.1); (have f21_c1 := f21.2); (try and_intros) <;> first | with_reducible assumption | (clear f21_c0 f21_c1 f21 hK_0_1; omega)) | omega
set_option maxHeartbeats 4000000 in
theorem vc_Mo_of_at_s5002_22_2 (x17 : Int) (x21 : Int) (kind_0 : Int) (fault_0 : Int) (from_0 : Int) (pos_0 : Int) (tape_0 : Int → Int) (gx : Int) (k17 : 0 ≤ x17 ∧ x17 ≤ 2000) (k21 : 0 ≤ x21 ∧ x21 ≤ 0) (g4 : x21 = fault_0) (f21 : ((kind_0 = 1) → (pos_0 ≤ (from_0 + 8))) ∧ ((kind_0 = 0) ∨ ((from_0 + 1) ≤ pos_0))) (f23 : (1 ≤ fault_0) ∨ ((x17 + 1) ≤ pos_0)) (hK_0_1 : ∀ j : Int, 0 ≤ j → j < 2000 → (-128) ≤ tape_0 j ∧ tape_0 j ≤ 127) (kz_0_8 : 0 ≤ fault_0 ∧ fault_0 ≤ 5) (kz_0_11 : 0 ≤ pos_0 ∧ pos_0 ≤ 2000) (kz_0_12 : 0 ≤ kind_0 ∧ kind_0 ≤ 4) (kz_0_15 : 0 ≤ from_0 ∧ from_0 ≤ 2000) (ex2 : gx = fault_0) : (-1) * fault_0 + (1 * gx + 0) ≤ 0 := by
  first | with_reducible assumption | ((have f21_c0 := f21.1); (have f21_c1 := f21.2); (try and_intros) <;> first | with_reducible assumption | (clear f21_c0 f21_c1 f21 f23 hK_0_1; omega)) | ((have f21_c0 := f21.1); (have f21_c1 := f21.2); (try and_intros) <;> first | with_reducible assumption | (clear f21_c0 f21_c1 f21 hK_0_1; omega)) | omega
set_option maxHeartbeats 4000000 in
theorem vc_Mo_of_at_s5002_22_3 (x21 : Int) (fault_0 : Int) (gx : Int) (k21 : 0 ≤ x21 ∧ x21 ≤ 0) (g4 : x21 = fault_0) (kz_0_8 : 0 ≤ fault_0 ∧ fault_0 ≤ 5) (ex2 : gx = fault_0) : ZH0 (gx) := by
  first
    | exact ⟨by omega, by omega, trivial⟩
    | (have h := (oi_0_s ‹zOIs _ _ _ _ _ _ _ _ _ _ _ _ _ _›).1; exact ⟨by omega, by omega, trivial⟩)
    | (have h := (oi_0_w ‹zOIw _ _ _ _ _ _ _ _ _ _ _ _ _ _›).1; exact ⟨by omega, by omega, trivial⟩)
    | (exfalso; omega)
def o_Mo_of_at_s5002_22 : or_T := (90, 26, [(0, (2, 0, 0, [165])), (4, (0, -1, 48, [])), (5, (0, 0, 7, [])), (6, (0, 0, 4, [])), (15, (0, 0, 2000, [])), (17, (0, 0, 2000, [])), (18, (0, -1, 48, [])), (19, (0, 0, 7, [])), (20, (0, 0, 4, [])), (21, (0, 0, 0, [])), (22, (0, 0, 4, [])), (23, (0, 2, 2, [])), (24, (0, 1, 1, [])), (25, (0, 0, 2000, []))], [(9, [25, 7], [13]), (7, [22, 23], [1]), (9, [22, 7], [12]), (8, [21], [0]), (9, [21, 7], [8]), (23, [17, 15], [0, 1, -1]), (23, [17, 15], [0, -1, 1]), (23, [18, 4], [0, 1, -1]), (23, [18, 4], [0, -1, 1]), (23, [19, 5], [0, 1, -1]), (23, [19, 5], [0, -1, 1]), (23, [20, 6], [0, 1, -1]), (23, [20, 6], [0, -1, 1]), (24, [0, 7], []), (20, [7], [50, 3, 0, 12, 11, 15, 2, 21, 4, 7, 1, 3, 2, 0, 12, 0, 1, 0, 3, 2, 0, 11, 4, 3, 2, 0, 15, 0, 8, 3, 7, 1, 3, 2, 0, 12, 0, 0, 0, 7, 4, 3, 2, 0, 15, 0, 1, 2, 0, 11]), (20, [7, 17], [50, 2, 0, 8, 11, 3, 7, 0, 2, 0, 1, 2, 0, 8, 0, 6, 4, 2, 1, 1, 0, 1, 2, 0, 11]), (20, [7, 18, 19, 20], [60, 9, 2, 1024, 10, 11, 12, 13, 14, 15, 8, 9, 5, 1, 2])], [], [(0, 0, 5, [])], [(20, [7, 24, 25], [60, 1, 1, 1026, 10, 1]), (20, [7, 26], [30, 0, 1, 1, 8, -1, 0, 0]), (20, [7, 26], [30, 0, -1, 1, 8, 1, 0, 0]), (20, [26], [61, 0, 1029])], [], [])
theorem oo_Mo_of_at_s5002_22 {kA : Nat → ClassId} : or_ok PRD kA GG o_Mo_of_at_s5002_22 := by
  refine or_mk fun A ta ws vs hD hth hl => ?_
  intro t0 r0 t4 k4 t5 k5 t6 k6 t15 k15 t17 k17 t18 k18 t19 k19 t20 k20 t21 k21 t22 k22 t23 k23 t24 k24 t25 k25 f0 f1 f2 f3 f4 f5 f6 f7 f8 f9 f10 f11 f12 f18 f21 f23 f24
  replace f0 := shm_361 f0
  replace f1 := shm_40 f1
  replace f2 := shm_103 f2
  replace f3 := shm_192 f3
  replace f4 := shm_293 f4
  replace f5 := shm_7 f5
  replace f6 := shm_22 f6
  replace f7 := shm_7 f7
  replace f8 := shm_22 f8
  replace f9 := shm_7 f9
  replace f10 := shm_22 f10
  replace f11 := shm_7 f11
  replace f12 := shm_22 f12
  replace f18 := shm_5 f18
  replace f21 := shm_1438 f21
  replace f23 := shm_1726 f23
  replace f24 := shm_1738 f24
  have q7 : n_v vs 7 = n_v vs 0 := f18.symm
  simp only [q7] at f0 f2 f4 f21 f23 f24
  have cr_0_1 := fdq_39 hD hth r0
  have g0 : v_iv (n_v vs 25) = w_fi ws (n_v vs 0) 13 := congrArg v_iv f0
  have g2 : v_iv (n_v vs 22) = w_fi ws (n_v vs 0) 12 := congrArg v_iv f2
  have g4 : v_iv (n_v vs 21) = w_fi ws (n_v vs 0) 8 := congrArg v_iv f4
  have hK_0_1 := elq_7 hD hth cr_0_1
  have kz_0_8 := fdq_34 hD hth r0
  have kz_0_9 := fdq_44 hD hth r0
  have kz_0_10 := fdq_43 hD hth r0
  have kz_0_11 := fdq_237 hD hth r0
  have kz_0_12 := fdq_187 hD hth r0
  have kz_0_13 := fdq_238 hD hth r0
  have kz_0_14 := fdq_188 hD hth r0
  have kz_0_15 := fdq_239 hD hth r0
  obtain ⟨x, ex, hx⟩ := iv_ex (ta := ta) (lo := 0) (hi := 5) (z := w_fi ws (n_v vs 0) 8) (by omega) (by omega) (by omega) (by omega)
  have ex2 : v_iv (Value.int x) = w_fi ws (n_v vs 0) 8 := ex
  have ex3 : 0 ≤ v_iv (Value.int x) ∧ v_iv (Value.int x) ≤ 5 := tv_rng hx
  have e_7 : n_v (vs ++ [Value.int x]) 7 = n_v vs 7 := n_v_old (by rw [hl]; decide)
  have e_24 : n_v (vs ++ [Value.int x]) 24 = n_v vs 24 := n_v_old (by rw [hl]; decide)
  have e_25 : n_v (vs ++ [Value.int x]) 25 = n_v vs 25 := n_v_old (by rw [hl]; decide)
  have e_26 : n_v (vs ++ [Value.int x]) 26 = Value.int x := n_v_new hl
  have nf0 : fc_1 PRD (20, [7, 24, 25], [60, 1, 1, 1026, 10, 1]) ws (vs ++ [Value.int x]) := by
    refine ⟨nf_inA hl rfl, sgq_1724 ?_⟩
    · show FSX (w_fi ws (n_v (vs ++ [Value.int x]) 7) 10) (w_ei ws (w_ar ws (n_v (vs ++ [Value.int x]) 7) 1)) (v_iv (n_v (vs ++ [Value.int x]) 24)) (v_iv (n_v (vs ++ [Value.int x]) 25))
      simp only [e_7, e_24, e_25, q7]
      exact vc_Mo_of_at_s5002_22_0 (v_iv (n_v vs 4)) (v_iv (n_v vs 5)) (v_iv (n_v vs 6)) (v_iv (n_v vs 15)) (v_iv (n_v vs 17)) (v_iv (n_v vs 18)) (v_iv (n_v vs 19)) (v_iv (n_v vs 20)) (v_iv (n_v vs 21)) (v_iv (n_v vs 22)) (v_iv (n_v vs 23)) (v_iv (n_v vs 24)) (v_iv (n_v vs 25)) (w_fi ws (n_v vs 0) 13) (w_fi ws (n_v vs 0) 12) (w_fi ws (n_v vs 0) 8) (w_fi ws (n_v vs 0) 15) (w_fi ws (n_v vs 0) 11) (w_ei ws (w_ar ws (n_v vs 0) 1)) (w_ei ws (w_ar ws (n_v vs 0) 2)) (w_fi ws (n_v vs 0) 10) (w_fi ws (n_v vs 0) 14) (w_fi ws (n_v vs 0) 9) (w_fi ws (n_v vs 0) 5) (v_iv (Value.int x)) k4 k5 k6 k15 k17 k18 k19 k20 k21 k22 k23 k24 k25 g0 f1 g2 f3 g4 f5 f6 f7 f8 f9 f10 f11 f12 f21 f23 f24 kz_0_8 kz_0_9 kz_0_10 kz_0_11 kz_0_12 kz_0_13 kz_0_14 kz_0_15 ex2 ex3
  have nf1 : fc_1 PRD (20, [7, 26], [30, 0, 1, 1, 8, -1, 0, 0]) ws (vs ++ [Value.int x]) := by
    refine ⟨nf_inA hl rfl, sgq_303 ?_⟩
    · show 1 * w_fi ws (n_v (vs ++ [Value.int x]) 7) 8 + ((-1) * v_iv (n_v (vs ++ [Value.int x]) 26) + 0) ≤ 0
      simp only [e_7, e_26, q7]
      exact vc_Mo_of_at_s5002_22_1 (v_iv (n_v vs 17)) (v_iv (n_v vs 21)) (w_fi ws (n_v vs 0) 12) (w_fi ws (n_v vs 0) 8) (w_fi ws (n_v vs 0) 15) (w_fi ws (n_v vs 0) 11) (w_ei ws (w_ar ws (n_v vs 0) 1)) (v_iv (Value.int x)) k17 k21 g4 f21 f23 hK_0_1 kz_0_8 kz_0_11 kz_0_12 kz_0_15 ex2
  have nf2 : fc_1 PRD (20, [7, 26], [30, 0, -1, 1, 8, 1, 0, 0]) ws (vs ++ [Value.int x]) := by
    refine ⟨nf_inA hl rfl, sgq_304 ?_⟩
    · show (-1) * w_fi ws (n_v (vs ++ [Value.int x]) 7) 8 + (1 * v_iv (n_v (vs ++ [Value.int x]) 26) + 0) ≤ 0
      simp only [e_7, e_26, q7]
      exact vc_Mo_of_at_s5002_22_2 (v_iv (n_v vs 17)) (v_iv (n_v vs 21)) (w_fi ws (n_v vs 0) 12) (w_fi ws (n_v vs 0) 8) (w_fi ws (n_v vs 0) 15) (w_fi ws (n_v vs 0) 11) (w_ei ws (w_ar ws (n_v vs 0) 1)) (v_iv (Value.int x)) k17 k21 g4 f21 f23 hK_0_1 kz_0_8 kz_0_11 kz_0_12 kz_0_15 ex2
  have nf3 : fc_1 PRD (20, [26], [61, 0, 1029]) ws (vs ++ [Value.int x]) := by
    refine ⟨nf_inA hl rfl, sgq_1725 ?_⟩
    · show ZH0 (v_iv (n_v (vs ++ [Value.int x]) 26))
      rw [e_26]
      exact vc_Mo_of_at_s5002_22_3 (v_iv (n_v vs 21)) (w_fi ws (n_v vs 0) 8) (v_iv (Value.int x)) k21 g4 kz_0_8 ex2
  exact ⟨(fun _ h => (by cases h)), [Value.int x], ag_one hx, List.forall_mem_cons.mpr ⟨⟨show (20 : Nat) < 100 from by decide, nf0⟩, List.forall_mem_cons.mpr ⟨⟨show (20 : Nat) < 100 from by decide, nf1⟩, List.forall_mem_cons.mpr ⟨⟨show (20 : Nat) < 100 from by decide, nf2⟩, List.forall_mem_cons.mpr ⟨⟨show (20 : Nat) < 100 from by decide, nf3⟩, (fun _ h => (by cases h))⟩⟩⟩⟩, (fun _ h => (by cases h))⟩
set_option maxHeartbeats 4000000 in
theorem vc_Mo_of_at_s5002_23_0 (x24 : Int) (x25 : Int) (x26 : Int) (kind_0 : Int) (fault_0 : Int) (tape_0 : Int → Int) (from_0 : Int) (pos_0 : Int) (faultPlace_0 : Int) (k24 : 1 ≤ x24 ∧ x24 ≤ 1) (k25 : 0 ≤ x25 ∧ x25 ≤ 2000) (k26 : 0 ≤ x26 ∧ x26 ≤ 5) (f22 : 1 * from_0 + ((-1) * pos_0 + 0) ≤ 0) (f23 : ((kind_0 = 1) → (pos_0 ≤ (from_0 + 8))) ∧ ((kind_0 = 0) ∨ ((from_0 + 1) ≤ pos_0))) (f26 : ((1 ≤ x26) ∧ (fault_0 = x26)) ∨ ((x26 = 0) ∧ ((fault_0 = x24) ∧ (faultPlace_0 = x25)))) (hK_0_1 : ∀ j : Int, 0 ≤ j → j < 2000 → (-128) ≤ tape_0 j ∧ tape_0 j ≤ 127) (kz_0_8 : 0 ≤ fault_0 ∧ fault_0 ≤ 5) (kz_0_9 : 0 ≤ faultPlace_0 ∧ faultPlace_0 ≤ 2000) (kz_0_11 : 0 ≤ pos_0 ∧ pos_0 ≤ 2000) (kz_0_12 : 0 ≤ kind_0 ∧ kind_0 ≤ 4) (kz_0_15 : 0 ≤ from_0 ∧ from_0 ≤ 2000) : 1 * from_0 + ((-1) * pos_0 + 0) ≤ 0 := by
  first | with_reducible assumption | ((have f23_c0 := f23.1); (have f23_c1 := f23.2); (try and_intros) <;> first | with_reducible assumption | (clear f23_c0 f23_c1 f23 f26 hK_0_1; omega)) | ((have f23_c0 := f23.1); (have f23_c1 := f23.2); (try and_intros) <;> first | with_reducible assumption | (clear f23_c0 f23_c1 f23 hK_0_1; omega)) | omega
set_option maxHeartbeats 4000000 in
theorem vc_Mo_of_at_s5002_23_1 (x24 : Int) (x25 : Int) (x26 : Int) (kind_0 : Int) (fault_0 : Int) (tape_0 : Int → Int) (from_0 : Int) (pos_0 : Int) (faultPlace_0 : Int) (k24 : 1 ≤ x24 ∧ x24 ≤ 1) (k25 : 0 ≤ x25 ∧ x25 ≤ 2000) (k26 : 0 ≤ x26 ∧ x26 ≤ 5) (f23 : ((kind_0 = 1) → (pos_0 ≤ (from_0 + 8))) ∧ ((kind_0 = 0) ∨ ((from_0 + 1) ≤ pos_0))) (f26 : ((1 ≤ x26) ∧ (fault_0 = x26)) ∨ ((x26 = 0) ∧ ((fault_0 = x24) ∧ (faultPlace_0 = x25)))) (hK_0_1 : ∀ j : Int, 0 ≤ j → j < 2000 → (-128) ≤ tape_0 j ∧ tape_0 j ≤ 127) (kz_0_8 : 0 ≤ fault_0 ∧ fault_0 ≤ 5) (kz_0_9 : 0 ≤ faultPlace_0 ∧ faultPlace_0 ≤ 2000) (kz_0_11 : 0 ≤ pos_0 ∧ pos_0 ≤ 2000) (kz_0_12 : 0 ≤ kind_0 ∧ kind_0 ≤ 4) (kz_0_15 : 0 ≤ from_0 ∧ from_0 ≤ 2000) : ((kind_0 = 1) → (pos_0 ≤ (from_0 + 8))) ∧ ((kind_0 = 0) ∨ ((from_0 + 1) ≤ pos_0)) := by
  first | with_reducible assumption | ((have f23_c0 := f23.1); (have f23_c1 := f23.2); (try and_intros) <;> first | with_reducible assumption | (clear f23_c0 f23_c1 f23 f26 hK_0_1; omega)) | ((have f23_c0 := f23.1); (have f23_c1 := f23.2); (try and_intros) <;> first | with_reducible assumption | (clear f23_c0 f23_c1 f23 hK_0_1; omega)) | omega
set_option maxHeartbeats 4000000 in
theorem vc_Mo_of_at_s5002_23_2 (x3 : Int) (x17 : Int) (x24 : Int) (x25 : Int) (x26 : Int) (kind_0 : Int) (fault_0 : Int) (tape_0 : Int → Int) (from_0 : Int) (pos_0 : Int) (faultPlace_0 : Int) (k3 : 0 ≤ x3 ∧ x3 ≤ 2000) (k17 : 0 ≤ x17 ∧ x17 ≤ 2000) (k24 : 1 ≤ x24 ∧ x24 ≤ 1) (k25 : 0 ≤ x25 ∧ x25 ≤ 2000) (k26 : 0 ≤ x26 ∧ x26 ≤ 5) (f15 : 1 * x3 + ((-1) * x17 + 0) ≤ (-1)) (f23 : ((kind_0 = 1) → (pos_0 ≤ (from_0 + 8))) ∧ ((kind_0 = 0) ∨ ((from_0 + 1) ≤ pos_0))) (f24 : 1 * x17 + ((-1) * pos_0 + 0) ≤ 0) (f26 : ((1 ≤ x26) ∧ (fault_0 = x26)) ∨ ((x26 = 0) ∧ ((fault_0 = x24) ∧ (faultPlace_0 = x25)))) (hK_0_1 : ∀ j : Int, 0 ≤ j → j < 2000 → (-128) ≤ tape_0 j ∧ tape_0 j ≤ 127) (kz_0_8 : 0 ≤ fault_0 ∧ fault_0 ≤ 5) (kz_0_9 : 0 ≤ faultPlace_0 ∧ faultPlace_0 ≤ 2000) (kz_0_11 : 0 ≤ pos_0 ∧ pos_0 ≤ 2000) (kz_0_12 : 0 ≤ kind_0 ∧ kind_0 ≤ 4) (kz_0_15 : 0 ≤ from_0 ∧ from_0 ≤ 2000) : 1 * x3 + ((-1) * pos_0 + 0) ≤ 0 := by
  first | with_reducible assumption | ((have f23_c0 := f23.1); (have f23_c1 := f23.2); (try and_intros) <;> first | with_reducible assumption | (clear f23_c0 f23_c1 f23 f26 hK_0_1; omega)) | ((have f23_c0 := f23.1); (have f23_c1 := f23.2); (try and_intros) <;> first | with_reducible assumption | (clear f23_c0 f23_c1 f23 hK_0_1; omega)) | omega
set_option maxHeartbeats 4000000 in
theorem vc_Mo_of_at_s5002_23_3 (x3 : Int) (x24 : Int) (x25 : Int) (x26 : Int) (x27 : Int) (kind_0 : Int) (fault_0 : Int) (tape_0 : Int → Int) (from_0 : Int) (pos_0 : Int) (faultPlace_0 : Int) (k3 : 0 ≤ x3 ∧ x3 ≤ 2000) (k24 : 1 ≤ x24 ∧ x24 ≤ 1) (k25 : 0 ≤ x25 ∧ x25 ≤ 2000) (k26 : 0 ≤ x26 ∧ x26 ≤ 5) (k27 : 1 ≤ x27 ∧ x27 ≤ 5) (g3 : x27 = fault_0) (f23 : ((kind_0 = 1) → (pos_0 ≤ (from_0 + 8))) ∧ ((kind_0 = 0) ∨ ((from_0 + 1) ≤ pos_0))) (f26 : ((1 ≤ x26) ∧ (fault_0 = x26)) ∨ ((x26 = 0) ∧ ((fault_0 = x24) ∧ (faultPlace_0 = x25)))) (hK_0_1 : ∀ j : Int, 0 ≤ j → j < 2000 → (-128) ≤ tape_0 j ∧ tape_0 j ≤ 127) (kz_0_8 : 0 ≤ fault_0 ∧ fault_0 ≤ 5) (kz_0_9 : 0 ≤ faultPlace_0 ∧ faultPlace_0 ≤ 2000) (kz_0_11 : 0 ≤ pos_0 ∧ pos_0 ≤ 2000) (kz_0_12 : 0 ≤ kind_0 ∧ kind_0 ≤ 4) (kz_0_15 : 0 ≤ from_0 ∧ from_0 ≤ 2000) : (1 ≤ fault_0) ∨ ((kind_0 = 0) ∨ ((x3 + 1) ≤ pos_0)) := by
  first | with_reducible assumption | ((have f23_c0 := f23.1); (have f23_c1 := f23.2); (try and_intros) <;> first | with_reducible assumption | (clear f23_c0 f23_c1 f23 f26 hK_0_1; omega)) | ((have f23_c0 := f23.1); (have f23_c1 := f23.2); (try and_intros) <;> first | with_reducible assumption | (clear f23_c0 f23_c1 f23 hK_0_1; omega)) | omega
set_option maxHeartbeats 4000000 in
theorem vc_Mo_of_at_s5002_23_4 (x4 : Int) (x24 : Int) (x25 : Int) (x26 : Int) (x27 : Int) (kind_0 : Int) (fault_0 : Int) (tape_0 : Int → Int) (from_0 : Int) (pos_0 : Int) (faultPlace_0 : Int) (k4 : (-1) ≤ x4 ∧ x4 ≤ 48) (k24 : 1 ≤ x24 ∧ x24 ≤ 1) (k25 : 0 ≤ x25 ∧ x25 ≤ 2000) (k26 : 0 ≤ x26 ∧ x26 ≤ 5) (k27 : 1 ≤ x27 ∧ x27 ≤ 5) (g3 : x27 = fault_0) (f23 : ((kind_0 = 1) → (pos_0 ≤ (from_0 + 8))) ∧ ((kind_0 = 0) ∨ ((from_0 + 1) ≤ pos_0))) (f26 : ((1 ≤ x26) ∧ (fault_0 = x26)) ∨ ((x26 = 0) ∧ ((fault_0 = x24) ∧ (faultPlace_0 = x25)))) (hK_0_1 : ∀ j : Int, 0 ≤ j → j < 2000 → (-128) ≤ tape_0 j ∧ tape_0 j ≤ 127) (kz_0_8 : 0 ≤ fault_0 ∧ fault_0 ≤ 5) (kz_0_9 : 0 ≤ faultPlace_0 ∧ faultPlace_0 ≤ 2000) (kz_0_11 : 0 ≤ pos_0 ∧ pos_0 ≤ 2000) (kz_0_12 : 0 ≤ kind_0 ∧ kind_0 ≤ 4) (kz_0_15 : 0 ≤ from_0 ∧ from_0 ≤ 2000) : (1 ≤ fault_0) ∨ (0 ≤ x4) := by
  first | with_reducible assumption | ((have f23_c0 := f23.1); (have f23_c1 := f23.2); (try and_intros) <;> first | with_reducible assumption | (clear f23_c0 f23_c1 f23 f26 hK_0_1; omega)) | ((have f23_c0 := f23.1); (have f23_c1 := f23.2); (try and_intros) <;> first | with_reducible assumption | (clear f23_c0 f23_c1 f23 hK_0_1; omega)) | omega
set_option maxHeartbeats 4000000 in
theorem vc_Mo_of_at_s5002_23_5 (x2 : Int) (x24 : Int) (x25 : Int) (x26 : Int) (x28 : Int) (kind_0 : Int) (fault_0 : Int) (tape_0 : Int → Int) (from_0 : Int) (pos_0 : Int) (faultPlace_0 : Int) (k2 : 99 ≤ x2 ∧ x2 ≤ 99) (k24 : 1 ≤ x24 ∧ x24 ≤ 1) (k25 : 0 ≤ x25 ∧ x25 ≤ 2000) (k26 : 0 ≤ x26 ∧ x26 ≤ 5) (k28 : 0 ≤ x28 ∧ x28 ≤ 0) (f23 : ((kind_0 = 1) → (pos_0 ≤ (from_0 + 8))) ∧ ((kind_0 = 0) ∨ ((from_0 + 1) ≤ pos_0))) (f26 : ((1 ≤ x26) ∧ (fault_0 = x26)) ∨ ((x26 = 0) ∧ ((fault_0 = x24) ∧ (faultPlace_0 = x25)))) (hK_0_1 : ∀ j : Int, 0 ≤ j → j < 2000 → (-128) ≤ tape_0 j ∧ tape_0 j ≤ 127) (kz_0_8 : 0 ≤ fault_0 ∧ fault_0 ≤ 5) (kz_0_9 : 0 ≤ faultPlace_0 ∧ faultPlace_0 ≤ 2000) (kz_0_11 : 0 ≤ pos_0 ∧ pos_0 ≤ 2000) (kz_0_12 : 0 ≤ kind_0 ∧ kind_0 ≤ 4) (kz_0_15 : 0 ≤ from_0 ∧ from_0 ≤ 2000) : 1 * x28 + ((-1) * x2 + 0) ≤ 0 := by
  first | with_reducible assumption | ((have f23_c0 := f23.1); (have f23_c1 := f23.2); (try and_intros) <;> first | with_reducible assumption | (clear f23_c0 f23_c1 f23 f26 hK_0_1; omega)) | ((have f23_c0 := f23.1); (have f23_c1 := f23.2); (try and_intros) <;> first | with_reducible assumption | (clear f23_c0 f23_c1 f23 hK_0_1; omega)) | omega
set_option maxHeartbeats 4000000 in
theorem vc_Mo_of_at_s5002_23_6 (x24 : Int) (x25 : Int) (x26 : Int) (x28 : Int) (kind_0 : Int) (fault_0 : Int) (tape_0 : Int → Int) (from_0 : Int) (pos_0 : Int) (faultPlace_0 : Int) (k24 : 1 ≤ x24 ∧ x24 ≤ 1) (k25 : 0 ≤ x25 ∧ x25 ≤ 2000) (k26 : 0 ≤ x26 ∧ x26 ≤ 5) (k28 : 0 ≤ x28 ∧ x28 ≤ 0) (f23 : ((kind_0 = 1) → (pos_0 ≤ (from_0 + 8))) ∧ ((kind_0 = 0) ∨ ((from_0 + 1) ≤ pos_0))) (f26 : ((1 ≤ x26) ∧ (fault_0 = x26)) ∨ ((x26 = 0) ∧ ((fault_0 = x24) ∧ (faultPlace_0 = x25)))) (hK_0_1 : ∀ j : Int, 0 ≤ j → j < 2000 → (-128) ≤ tape_0 j ∧ tape_0 j ≤ 127) (kz_0_8 : 0 ≤ fault_0 ∧ fault_0 ≤ 5) (kz_0_9 : 0 ≤ faultPlace_0 ∧ faultPlace_0 ≤ 2000) (kz_0_11 : 0 ≤ pos_0 ∧ pos_0 ≤ 2000) (kz_0_12 : 0 ≤ kind_0 ∧ kind_0 ≤ 4) (kz_0_15 : 0 ≤ from_0 ∧ from_0 ≤ 2000) : (-1) * x28 + 0 ≤ 0 := by
  first | with_reducible assumption | ((have f23_c0 := f23.1); (have f23_c1 := f23.2); (try and_intros) <;> first | with_reducible assumption | (clear f23_c0 f23_c1 f23 f26 hK_0_1; omega)) | ((have f23_c0 := f23.1); (have f23_c1 := f23.2); (try and_intros) <;> first | with_reducible assumption | (clear f23_c0 f23_c1 f23 hK_0_1; omega)) | omega
set_option maxHeartbeats 4000000 in
theorem vc_Mo_of_at_s5002_23_7 (x4 : Int) (x5 : Int) (x6 : Int) (x15 : Int) (x17 : Int) (x18 : Int) (x19 : Int) (x20 : Int) (x22 : Int) (x24 : Int) (x25 : Int) (x26 : Int) (x27 : Int) (x28 : Int) (place_0 : Int) (kind_0 : Int) (fault_0 : Int) (tape_0 : Int → Int) (limit_0 : Int) (from_0 : Int) (pos_0 : Int) (faultPlace_0 : Int) (value_0 : Int) (all_0 : Int → Int) (r_0 : Int) (k4 : (-1) ≤ x4 ∧ x4 ≤ 48) (k5 : 0 ≤ x5 ∧ x5 ≤ 7) (k6 : 0 ≤ x6 ∧ x6 ≤ 4) (k15 : 0 ≤ x15 ∧ x15 ≤ 2000) (k17 : 0 ≤ x17 ∧ x17 ≤ 2000) (k18 : (-1) ≤ x18 ∧ x18 ≤ 48) (k19 : 0 ≤ x19 ∧ x19 ≤ 7) (k20 : 0 ≤ x20 ∧ x20 ≤ 4) (k22 : 0 ≤ x22 ∧ x22 ≤ 4) (k24 : 1 ≤ x24 ∧ x24 ≤ 1) (k25 : 0 ≤ x25 ∧ x25 ≤ 2000) (k26 : 0 ≤ x26 ∧ x26 ≤ 5) (k27 : 1 ≤ x27 ∧ x27 ≤ 5) (k28 : 0 ≤ x28 ∧ x28 ≤ 0) (g0 : x25 = place_0) (g1 : x22 = kind_0) (g3 : x27 = fault_0) (f5 : FSX (limit_0) (tape_0) (x24) (x25)) (f6 : ZH0 (x26)) (f7 : 1 * x17 + ((-1) * x15 + 0) ≤ 0) (f8 : (-1) * x17 + (1 * x15 + 0) ≤ 0) (f9 : 1 * x18 + ((-1) * x4 + 0) ≤ 0) (f10 : (-1) * x18 + (1 * x4 + 0) ≤ 0) (f11 : 1 * x19 + ((-1) * x5 + 0) ≤ 0) (f12 : (-1) * x19 + (1 * x5 + 0) ≤ 0) (f13 : 1 * x20 + ((-1) * x6 + 0) ≤ 0) (f14 : (-1) * x20 + (1 * x6 + 0) ≤ 0) (f26 : ((1 ≤ x26) ∧ (fault_0 = x26)) ∨ ((x26 = 0) ∧ ((fault_0 = x24) ∧ (faultPlace_0 = x25)))) (kz_0_8 : 0 ≤ fault_0 ∧ fault_0 ≤ 5) (kz_0_9 : 0 ≤ faultPlace_0 ∧ faultPlace_0 ≤ 2000) (kz_0_10 : 0 ≤ limit_0 ∧ limit_0 ≤ 2000) (kz_0_11 : 0 ≤ pos_0 ∧ pos_0 ≤ 2000) (kz_0_12 : 0 ≤ kind_0 ∧ kind_0 ≤ 4) (kz_0_13 : 0 ≤ place_0 ∧ place_0 ≤ 2000) (kz_0_14 : (-49) ≤ value_0 ∧ value_0 ≤ 1048575) (kz_0_15 : 0 ≤ from_0 ∧ from_0 ≤ 2000) : zOFs (limit_0) (pos_0) (kind_0) (place_0) (value_0) (from_0) (fault_0) (faultPlace_0) (r_0) (tape_0) (all_0) (x4) (x28) (x5) (x6) := by
  first | (have el_x17 : x17 = x15 := by omega); subst el_x17 | skip
  first | (have el_x18 : x18 = x4 := by omega); subst el_x18 | skip
  first | (have el_x19 : x19 = x5 := by omega); subst el_x19 | skip
  first | (have el_x20 : x20 = x6 := by omega); subst el_x20 | skip
  first | subst g0 | skip
  first | subst g1 | skip
  first | subst g3 | skip
  first
    | exact of_no_s ‹zOBs _ _ _ _ _ _ _ _ _ _ _ _ _ _› ‹SGQ _ _ _ _ _› (by omega) (by omega) (by omega)
    | exact Or.inl ⟨by omega, fs_w ‹FSX _ _ _ _› ‹ZH0 _› (by assumption)⟩
    | (refine Or.inl ⟨by omega, fs_w ?_ ?_ (by assumption)⟩ <;> assumption)
    | exact Or.inl ⟨by omega, or_l ‹zO11s _ _ _ _ _ _ _ _ _ _ _ _ _ _› (fun q => by have := q.2.1; omega)⟩
    | exact Or.inr (Or.inr ⟨by omega, ‹zRP13s _ _ _ _ _ _ _ _ _ _ _ _ _ _›⟩)
    | (exfalso; omega)
def o_Mo_of_at_s5002_23 : or_T := (129, 29, [(0, (2, 0, 0, [165])), (2, (0, 99, 99, [])), (3, (0, 0, 2000, [])), (4, (0, -1, 48, [])), (5, (0, 0, 7, [])), (6, (0, 0, 4, [])), (15, (0, 0, 2000, [])), (17, (0, 0, 2000, [])), (18, (0, -1, 48, [])), (19, (0, 0, 7, [])), (20, (0, 0, 4, [])), (22, (0, 0, 4, [])), (24, (0, 1, 1, [])), (25, (0, 0, 2000, [])), (26, (0, 0, 5, [])), (27, (0, 1, 5, [])), (28, (0, 0, 0, []))], [(9, [25, 7], [13]), (9, [22, 7], [12]), (9, [27, 7], [8]), (20, [7, 24, 25], [60, 1, 1, 1026, 10, 1]), (20, [26], [61, 0, 1029]), (23, [17, 15], [0, 1, -1]), (23, [17, 15], [0, -1, 1]), (23, [18, 4], [0, 1, -1]), (23, [18, 4], [0, -1, 1]), (23, [19, 5], [0, 1, -1]), (23, [19, 5], [0, -1, 1]), (23, [20, 6], [0, 1, -1]), (23, [20, 6], [0, -1, 1]), (23, [3, 17], [-1, 1, -1]), (24, [0, 7], []), (20, [7, 7], [30, 0, 1, 1, 15, -1, 1, 11]), (20, [7], [50, 3, 0, 12, 11, 15, 2, 21, 4, 7, 1, 3, 2, 0, 12, 0, 1, 0, 3, 2, 0, 11, 4, 3, 2, 0, 15, 0, 8, 3, 7, 1, 3, 2, 0, 12, 0, 0, 0, 7, 4, 3, 2, 0, 15, 0, 1, 2, 0, 11]), (20, [17, 7], [30, 0, 1, 0, 0, -1, 1, 11]), (20, [26, 7, 24, 25], [50, 2, 0, 1008, 1009, 3, 15, 2, 6, 0, 2, 0, 1, 1, 0, 1, 3, 2, 1, 8, 1, 0, 2, 6, 1, 2, 1, 0, 0, 0, 2, 7, 1, 3, 2, 1, 8, 1, 2, 1, 3, 2, 1, 9, 1, 3])], [], [], [(20, [0, 0], [30, 0, 1, 1, 15, -1, 1, 11]), (20, [0], [50, 3, 0, 12, 11, 15, 2, 21, 4, 7, 1, 3, 2, 0, 12, 0, 1, 0, 3, 2, 0, 11, 4, 3, 2, 0, 15, 0, 8, 3, 7, 1, 3, 2, 0, 12, 0, 0, 0, 7, 4, 3, 2, 0, 15, 0, 1, 2, 0, 11]), (20, [3, 0], [30, 0, 1, 0, 0, -1, 1, 11]), (20, [0, 3], [50, 3, 0, 8, 12, 11, 3, 7, 0, 2, 0, 1, 2, 0, 8, 3, 7, 1, 3, 2, 0, 12, 0, 0, 0, 6, 4, 2, 1, 1, 0, 1, 2, 0, 11]), (20, [0, 4], [50, 1, 0, 8, 3, 7, 0, 2, 0, 1, 2, 0, 8, 0, 2, 0, 0, 1, 1]), (20, [28, 2], [30, 0, 1, 0, 0, -1, 0, 0]), (20, [28], [30, 0, -1, 0, 0]), (20, [0, 4, 28, 5, 6], [60, 9, 2, 1013, 10, 11, 12, 13, 14, 15, 8, 9, 5, 1, 2])], [], [])
theorem oo_Mo_of_at_s5002_23 {kA : Nat → ClassId} : or_ok PRD kA GG o_Mo_of_at_s5002_23 := by
  refine or_mk fun A ta ws vs hD hth hl => ?_
  intro t0 r0 t2 k2 t3 k3 t4 k4 t5 k5 t6 k6 t15 k15 t17 k17 t18 k18 t19 k19 t20 k20 t22 k22 t24 k24 t25 k25 t26 k26 t27 k27 t28 k28 f0 f1 f3 f5 f6 f7 f8 f9 f10 f11 f12 f13 f14 f15 f20 f22 f23 f24 f26
  replace f0 := shm_361 f0
  replace f1 := shm_103 f1
  replace f3 := shm_293 f3
  replace f5 := shm_1724 f5
  replace f20 := shm_5 f20
  replace f22 := shm_1437 f22
  replace f23 := shm_1438 f23
  replace f24 := shm_1431 f24
  replace f26 := shm_306 f26
  have q7 : n_v vs 7 = n_v vs 0 := f20.symm
  simp only [q7] at f0 f1 f3 f5 f22 f23 f24 f26
  have cr_0_1 := fdq_39 hD hth r0
  have g0 : v_iv (n_v vs 25) = w_fi ws (n_v vs 0) 13 := congrArg v_iv f0
  have g1 : v_iv (n_v vs 22) = w_fi ws (n_v vs 0) 12 := congrArg v_iv f1
  have g3 : v_iv (n_v vs 27) = w_fi ws (n_v vs 0) 8 := congrArg v_iv f3
  have hK_0_1 := elq_7 hD hth cr_0_1
  have kz_0_8 := fdq_34 hD hth r0
  have kz_0_9 := fdq_44 hD hth r0
  have kz_0_10 := fdq_43 hD hth r0
  have kz_0_11 := fdq_237 hD hth r0
  have kz_0_12 := fdq_187 hD hth r0
  have kz_0_13 := fdq_238 hD hth r0
  have kz_0_14 := fdq_188 hD hth r0
  have kz_0_15 := fdq_239 hD hth r0
  have nf0 : fc_1 PRD (20, [0, 0], [30, 0, 1, 1, 15, -1, 1, 11]) ws (vs) := ⟨nf_in hl rfl, sgq_1437 (vc_Mo_of_at_s5002_23_0 (v_iv (n_v vs 24)) (v_iv (n_v vs 25)) (v_iv (n_v vs 26)) (w_fi ws (n_v vs 0) 12) (w_fi ws (n_v vs 0) 8) (w_ei ws (w_ar ws (n_v vs 0) 1)) (w_fi ws (n_v vs 0) 15) (w_fi ws (n_v vs 0) 11) (w_fi ws (n_v vs 0) 9) k24 k25 k26 f22 f23 f26 hK_0_1 kz_0_8 kz_0_9 kz_0_11 kz_0_12 kz_0_15)⟩
  have nf1 : fc_1 PRD (20, [0], [50, 3, 0, 12, 11, 15, 2, 21, 4, 7, 1, 3, 2, 0, 12, 0, 1, 0, 3, 2, 0, 11, 4, 3, 2, 0, 15, 0, 8, 3, 7, 1, 3, 2, 0, 12, 0, 0, 0, 7, 4, 3, 2, 0, 15, 0, 1, 2, 0, 11]) ws (vs) := ⟨nf_in hl rfl, sgq_1438 (vc_Mo_of_at_s5002_23_1 (v_iv (n_v vs 24)) (v_iv (n_v vs 25)) (v_iv (n_v vs 26)) (w_fi ws (n_v vs 0) 12) (w_fi ws (n_v vs 0) 8) (w_ei ws (w_ar ws (n_v vs 0) 1)) (w_fi ws (n_v vs 0) 15) (w_fi ws (n_v vs 0) 11) (w_fi ws (n_v vs 0) 9) k24 k25 k26 f23 f26 hK_0_1 kz_0_8 kz_0_9 kz_0_11 kz_0_12 kz_0_15)⟩
  have nf2 : fc_1 PRD (20, [3, 0], [30, 0, 1, 0, 0, -1, 1, 11]) ws (vs) := ⟨nf_in hl rfl, sgq_1431 (vc_Mo_of_at_s5002_23_2 (v_iv (n_v vs 3)) (v_iv (n_v vs 17)) (v_iv (n_v vs 24)) (v_iv (n_v vs 25)) (v_iv (n_v vs 26)) (w_fi ws (n_v vs 0) 12) (w_fi ws (n_v vs 0) 8) (w_ei ws (w_ar ws (n_v vs 0) 1)) (w_fi ws (n_v vs 0) 15) (w_fi ws (n_v vs 0) 11) (w_fi ws (n_v vs 0) 9) k3 k17 k24 k25 k26 (shm_193 f15) f23 f24 f26 hK_0_1 kz_0_8 kz_0_9 kz_0_11 kz_0_12 kz_0_15)⟩
  have nf3 : fc_1 PRD (20, [0, 3], [50, 3, 0, 8, 12, 11, 3, 7, 0, 2, 0, 1, 2, 0, 8, 3, 7, 1, 3, 2, 0, 12, 0, 0, 0, 6, 4, 2, 1, 1, 0, 1, 2, 0, 11]) ws (vs) := ⟨nf_in hl rfl, sgq_1722 (vc_Mo_of_at_s5002_23_3 (v_iv (n_v vs 3)) (v_iv (n_v vs 24)) (v_iv (n_v vs 25)) (v_iv (n_v vs 26)) (v_iv (n_v vs 27)) (w_fi ws (n_v vs 0) 12) (w_fi ws (n_v vs 0) 8) (w_ei ws (w_ar ws (n_v vs 0) 1)) (w_fi ws (n_v vs 0) 15) (w_fi ws (n_v vs 0) 11) (w_fi ws (n_v vs 0) 9) k3 k24 k25 k26 k27 g3 f23 f26 hK_0_1 kz_0_8 kz_0_9 kz_0_11 kz_0_12 kz_0_15)⟩
  have nf4 : fc_1 PRD (20, [0, 4], [50, 1, 0, 8, 3, 7, 0, 2, 0, 1, 2, 0, 8, 0, 2, 0, 0, 1, 1]) ws (vs) := ⟨nf_in hl rfl, sgq_2000 (vc_Mo_of_at_s5002_23_4 (v_iv (n_v vs 4)) (v_iv (n_v vs 24)) (v_iv (n_v vs 25)) (v_iv (n_v vs 26)) (v_iv (n_v vs 27)) (w_fi ws (n_v vs 0) 12) (w_fi ws (n_v vs 0) 8) (w_ei ws (w_ar ws (n_v vs 0) 1)) (w_fi ws (n_v vs 0) 15) (w_fi ws (n_v vs 0) 11) (w_fi ws (n_v vs 0) 9) k4 k24 k25 k26 k27 g3 f23 f26 hK_0_1 kz_0_8 kz_0_9 kz_0_11 kz_0_12 kz_0_15)⟩
  have nf5 : fc_1 PRD (20, [28, 2], [30, 0, 1, 0, 0, -1, 0, 0]) ws (vs) := ⟨nf_in hl rfl, sgq_201 (vc_Mo_of_at_s5002_23_5 (v_iv (n_v vs 2)) (v_iv (n_v vs 24)) (v_iv (n_v vs 25)) (v_iv (n_v vs 26)) (v_iv (n_v vs 28)) (w_fi ws (n_v vs 0) 12) (w_fi ws (n_v vs 0) 8) (w_ei ws (w_ar ws (n_v vs 0) 1)) (w_fi ws (n_v vs 0) 15) (w_fi ws (n_v vs 0) 11) (w_fi ws (n_v vs 0) 9) k2 k24 k25 k26 k28 f23 f26 hK_0_1 kz_0_8 kz_0_9 kz_0_11 kz_0_12 kz_0_15)⟩
  have nf6 : fc_1 PRD (20, [28], [30, 0, -1, 0, 0]) ws (vs) := ⟨nf_in hl rfl, sgq_2002 (vc_Mo_of_at_s5002_23_6 (v_iv (n_v vs 24)) (v_iv (n_v vs 25)) (v_iv (n_v vs 26)) (v_iv (n_v vs 28)) (w_fi ws (n_v vs 0) 12) (w_fi ws (n_v vs 0) 8) (w_ei ws (w_ar ws (n_v vs 0) 1)) (w_fi ws (n_v vs 0) 15) (w_fi ws (n_v vs 0) 11) (w_fi ws (n_v vs 0) 9) k24 k25 k26 k28 f23 f26 hK_0_1 kz_0_8 kz_0_9 kz_0_11 kz_0_12 kz_0_15)⟩
  have nf7 : fc_1 PRD (20, [0, 4, 28, 5, 6], [60, 9, 2, 1013, 10, 11, 12, 13, 14, 15, 8, 9, 5, 1, 2]) ws (vs) := ⟨nf_in hl rfl, sgq_2003 (vc_Mo_of_at_s5002_23_7 (v_iv (n_v vs 4)) (v_iv (n_v vs 5)) (v_iv (n_v vs 6)) (v_iv (n_v vs 15)) (v_iv (n_v vs 17)) (v_iv (n_v vs 18)) (v_iv (n_v vs 19)) (v_iv (n_v vs 20)) (v_iv (n_v vs 22)) (v_iv (n_v vs 24)) (v_iv (n_v vs 25)) (v_iv (n_v vs 26)) (v_iv (n_v vs 27)) (v_iv (n_v vs 28)) (w_fi ws (n_v vs 0) 13) (w_fi ws (n_v vs 0) 12) (w_fi ws (n_v vs 0) 8) (w_ei ws (w_ar ws (n_v vs 0) 1)) (w_fi ws (n_v vs 0) 10) (w_fi ws (n_v vs 0) 15) (w_fi ws (n_v vs 0) 11) (w_fi ws (n_v vs 0) 9) (w_fi ws (n_v vs 0) 14) (w_ei ws (w_ar ws (n_v vs 0) 2)) (w_fi ws (n_v vs 0) 5) k4 k5 k6 k15 k17 k18 k19 k20 k22 k24 k25 k26 k27 k28 g0 g1 g3 f5 (shm_1725 f6) (shm_7 f7) (shm_22 f8) (shm_7 f9) (shm_22 f10) (shm_7 f11) (shm_22 f12) (shm_7 f13) (shm_22 f14) f26 kz_0_8 kz_0_9 kz_0_10 kz_0_11 kz_0_12 kz_0_13 kz_0_14 kz_0_15)⟩
  refine ⟨(fun _ h => (by cases h)), [], trivial, ?_, (fun _ h => (by cases h))⟩
  rw [List.append_nil]
  exact List.forall_mem_cons.mpr ⟨⟨show (20 : Nat) < 100 from by decide, nf0⟩, List.forall_mem_cons.mpr ⟨⟨show (20 : Nat) < 100 from by decide, nf1⟩, List.forall_mem_cons.mpr ⟨⟨show (20 : Nat) < 100 from by decide, nf2⟩, List.forall_mem_cons.mpr ⟨⟨show (20 : Nat) < 100 from by decide, nf3⟩, List.forall_mem_cons.mpr ⟨⟨show (20 : Nat) < 100 from by decide, nf4⟩, List.forall_mem_cons.mpr ⟨⟨show (20 : Nat) < 100 from by decide, nf5⟩, List.forall_mem_cons.mpr ⟨⟨show (20 : Nat) < 100 from by decide, nf6⟩, List.forall_mem_cons.mpr ⟨⟨show (20 : Nat) < 100 from by decide, nf7⟩, (fun _ h => (by cases h))⟩⟩⟩⟩⟩⟩⟩⟩
set_option maxHeartbeats 4000000 in
theorem vc_Mo_of_at_s5002_24_0 (x15 : Int) (x17 : Int) (x22 : Int) (x25 : Int) (x27 : Int) (x31 : Int) (kind_0 : Int) (place_0 : Int) (fault_0 : Int) (tape_0 : Int → Int) (limit_0 : Int) (gx : Int) (k22 : 0 ≤ x22 ∧ x22 ≤ 4) (k25 : 0 ≤ x25 ∧ x25 ≤ 2000) (k27 : 0 ≤ x27 ∧ x27 ≤ 0) (k31 : 5 ≤ x31 ∧ x31 ≤ 5) (g0 : x22 = kind_0) (g1 : x25 = place_0) (g3 : x27 = fault_0) (f17 : (-1) * fault_0 + 0 ≤ (-1)) (kz_0_8 : 0 ≤ fault_0 ∧ fault_0 ≤ 5) (kz_0_10 : 0 ≤ limit_0 ∧ limit_0 ≤ 2000) (kz_0_12 : 0 ≤ kind_0 ∧ kind_0 ≤ 4) (kz_0_13 : 0 ≤ place_0 ∧ place_0 ≤ 2000) (ex2 : gx = fault_0) (ex3 : 0 ≤ gx ∧ gx ≤ 5) : FSX (limit_0) (tape_0) (x31) (x25) := by
  first | (have el_x17 : x17 = x15 := by omega); subst el_x17 | skip
  first | subst g0 | skip
  first | subst g1 | skip
  first | subst g3 | skip
  first | subst ex2 | skip
  first
    | exact fsx_cg (of_nv_s ‹zO11s _ _ _ _ _ _ _ _ _ _ _ _ _ _› (by omega) (by omega) (by omega)) (by omega) (by omega)
    | exact fsx_cg (of_nv_w ‹zO11w _ _ _ _ _ _ _ _ _ _ _ _ _ _› (by omega) (by omega) (by omega)) (by omega) (by omega)
    | (exfalso; omega)
set_option maxHeartbeats 4000000 in
theorem vc_Mo_of_at_s5002_24_1 (x24 : Int) (x25 : Int) (x26 : Int) (x27 : Int) (kind_0 : Int) (fault_0 : Int) (tape_0 : Int → Int) (from_0 : Int) (pos_0 : Int) (faultPlace_0 : Int) (gx : Int) (k24 : 1 ≤ x24 ∧ x24 ≤ 1) (k25 : 0 ≤ x25 ∧ x25 ≤ 2000) (k26 : 0 ≤ x26 ∧ x26 ≤ 5) (k27 : 0 ≤ x27 ∧ x27 ≤ 0) (g3 : x27 = fault_0) (f15 : ((kind_0 = 1) → (pos_0 ≤ (from_0 + 8))) ∧ ((kind_0 = 0) ∨ ((from_0 + 1) ≤ pos_0))) (f17 : (-1) * fault_0 + 0 ≤ (-1)) (f18 : ((1 ≤ x26) ∧ (fault_0 = x26)) ∨ ((x26 = 0) ∧ ((fault_0 = x24) ∧ (faultPlace_0 = x25)))) (hK_0_1 : ∀ j : Int, 0 ≤ j → j < 2000 → (-128) ≤ tape_0 j ∧ tape_0 j ≤ 127) (kz_0_8 : 0 ≤ fault_0 ∧ fault_0 ≤ 5) (kz_0_9 : 0 ≤ faultPlace_0 ∧ faultPlace_0 ≤ 2000) (kz_0_11 : 0 ≤ pos_0 ∧ pos_0 ≤ 2000) (kz_0_12 : 0 ≤ kind_0 ∧ kind_0 ≤ 4) (kz_0_15 : 0 ≤ from_0 ∧ from_0 ≤ 2000) : 1 * fault_0 + ((-1) * gx + 0) ≤ 0 := by
  first | with_reducible assumption | ((have f15_c0 := f15.1); (have f15_c1 := f15.2); (try and_intros) <;> first | with_reducible assumption | (clear f15_c0 f15_c1 f15 f18 hK_0_1; omega)) | ((have f15_c0 := f15.1); (have f15_c1 := f15.2); (try and_intros) <;> first | with_reducible assumption | (clear f15_c0 f15_c1 f15 hK_0_1; omega)) | omega
set_option maxHeartbeats 4000000 in
theorem vc_Mo_of_at_s5002_24_2 (x24 : Int) (x25 : Int) (x26 : Int) (x27 : Int) (kind_0 : Int) (fault_0 : Int) (tape_0 : Int → Int) (from_0 : Int) (pos_0 : Int) (faultPlace_0 : Int) (gx : Int) (k24 : 1 ≤ x24 ∧ x24 ≤ 1) (k25 : 0 ≤ x25 ∧ x25 ≤ 2000) (k26 : 0 ≤ x26 ∧ x26 ≤ 5) (k27 : 0 ≤ x27 ∧ x27 ≤ 0) (g3 : x27 = fault_0) (f15 : ((kind_0 = 1) → (pos_0 ≤ (from_0 + 8))) ∧ ((kind_0 = 0) ∨ ((from_0 + 1) ≤ pos_0))) (f17 : (-1) * fault_0 + 0 ≤ (-1)) (f18 : ((1 ≤ x26) ∧ (fault_0 = x26)) ∨ ((x26 = 0) ∧ ((fault_0 = x24) ∧ (faultPlace_0 = x25)))) (hK_0_1 : ∀ j : Int, 0 ≤ j → j < 2000 → (-128) ≤ tape_0 j ∧ tape_0 j ≤ 127) (kz_0_8 : 0 ≤ fault_0 ∧ fault_0 ≤ 5) (kz_0_9 : 0 ≤ faultPlace_0 ∧ faultPlace_0 ≤ 2000) (kz_0_11 : 0 ≤ pos_0 ∧ pos_0 ≤ 2000) (kz_0_12 : 0 ≤ kind_0 ∧ kind_0 ≤ 4) (kz_0_15 : 0 ≤ from_0 ∧ from_0 ≤ 2000) : (-1) * fault_0 + (1 * gx + 0) ≤ 0 := by
  first | with_reducible assumption | ((have f15_c0 := f15.1); (have f15_c1 := f15.2); (try and_intros) <;> first | with_reducible assumption | (clear f15_c0 f15_c1 f15 f18 hK_0_1; omega)) | ((have f15_c0 := f15.1); (have f15_c1 := f15.2); (try and_intros) <;> first | with_reducible assumption | (clear f15_c0 f15_c1 f15 hK_0_1; omega)) | omega
set_option maxHeartbeats 4000000 in
theorem vc_Mo_of_at_s5002_24_3 (x27 : Int) (fault_0 : Int) (gx : Int) (k27 : 0 ≤ x27 ∧ x27 ≤ 0) (g3 : x27 = fault_0) (f17 : (-1) * fault_0 + 0 ≤ (-1)) (kz_0_8 : 0 ≤ fault_0 ∧ fault_0 ≤ 5) : ZH0 (gx) := by
  first
    | exact ⟨by omega, by omega, trivial⟩
    | (have h := (oi_0_s ‹zOIs _ _ _ _ _ _ _ _ _ _ _ _ _ _›).1; exact ⟨by omega, by omega, trivial⟩)
    | (have h := (oi_0_w ‹zOIw _ _ _ _ _ _ _ _ _ _ _ _ _ _›).1; exact ⟨by omega, by omega, trivial⟩)
    | (exfalso; omega)
def o_Mo_of_at_s5002_24 : or_T := (118, 32, [(0, (2, 0, 0, [165])), (22, (0, 0, 4, [])), (24, (0, 1, 1, [])), (25, (0, 0, 2000, [])), (26, (0, 0, 5, [])), (27, (0, 0, 0, [])), (31, (0, 5, 5, []))], [(9, [22, 7], [12]), (9, [25, 7], [13]), (9, [27, 7], [8]), (24, [0, 7], []), (20, [7], [50, 3, 0, 12, 11, 15, 2, 21, 4, 7, 1, 3, 2, 0, 12, 0, 1, 0, 3, 2, 0, 11, 4, 3, 2, 0, 15, 0, 8, 3, 7, 1, 3, 2, 0, 12, 0, 0, 0, 7, 4, 3, 2, 0, 15, 0, 1, 2, 0, 11]), (20, [7], [30, -1, -1, 1, 8]), (20, [26, 7, 24, 25], [50, 2, 0, 1008, 1009, 3, 15, 2, 6, 0, 2, 0, 1, 1, 0, 1, 3, 2, 1, 8, 1, 0, 2, 6, 1, 2, 1, 0, 0, 0, 2, 7, 1, 3, 2, 1, 8, 1, 2, 1, 3, 2, 1, 9, 1, 3])], [], [(0, 0, 5, [])], [(20, [7, 31, 25], [60, 1, 1, 1026, 10, 1]), (20, [7, 32], [30, 0, 1, 1, 8, -1, 0, 0]), (20, [7, 32], [30, 0, -1, 1, 8, 1, 0, 0]), (20, [32], [61, 0, 1029])], [], [])
theorem oo_Mo_of_at_s5002_24 {kA : Nat → ClassId} : or_ok PRD kA GG o_Mo_of_at_s5002_24 := by
  refine or_mk fun A ta ws vs hD hth hl => ?_
  intro t0 r0 t22 k22 t24 k24 t25 k25 t26 k26 t27 k27 t31 k31 f0 f1 f3 f12 f15 f17 f18
  replace f0 := shm_103 f0
  replace f1 := shm_361 f1
  replace f3 := shm_293 f3
  replace f12 := shm_5 f12
  replace f15 := shm_1438 f15
  replace f17 := shm_305 f17
  replace f18 := shm_306 f18
  have q7 : n_v vs 7 = n_v vs 0 := f12.symm
  simp only [q7] at f0 f1 f3 f15 f17 f18
  have cr_0_1 := fdq_39 hD hth r0
  have g0 : v_iv (n_v vs 22) = w_fi ws (n_v vs 0) 12 := congrArg v_iv f0
  have g1 : v_iv (n_v vs 25) = w_fi ws (n_v vs 0) 13 := congrArg v_iv f1
  have g3 : v_iv (n_v vs 27) = w_fi ws (n_v vs 0) 8 := congrArg v_iv f3
  have hK_0_1 := elq_7 hD hth cr_0_1
  have kz_0_8 := fdq_34 hD hth r0
  have kz_0_9 := fdq_44 hD hth r0
  have kz_0_10 := fdq_43 hD hth r0
  have kz_0_11 := fdq_237 hD hth r0
  have kz_0_12 := fdq_187 hD hth r0
  have kz_0_13 := fdq_238 hD hth r0
  have kz_0_15 := fdq_239 hD hth r0
  obtain ⟨x, ex, hx⟩ := iv_ex (ta := ta) (lo := 0) (hi := 5) (z := w_fi ws (n_v vs 0) 8) (by omega) (by omega) (by omega) (by omega)
  have ex2 : v_iv (Value.int x) = w_fi ws (n_v vs 0) 8 := ex
  have ex3 : 0 ≤ v_iv (Value.int x) ∧ v_iv (Value.int x) ≤ 5 := tv_rng hx
  have e_7 : n_v (vs ++ [Value.int x]) 7 = n_v vs 7 := n_v_old (by rw [hl]; decide)
  have e_25 : n_v (vs ++ [Value.int x]) 25 = n_v vs 25 := n_v_old (by rw [hl]; decide)
  have e_31 : n_v (vs ++ [Value.int x]) 31 = n_v vs 31 := n_v_old (by rw [hl]; decide)
  have e_32 : n_v (vs ++ [Value.int x]) 32 = Value.int x := n_v_new hl
  have nf0 : fc_1 PRD (20, [7, 31, 25], [60, 1, 1, 1026, 10, 1]) ws (vs ++ [Value.int x]) := by
    refine ⟨nf_inA hl rfl, sgq_1724 ?_⟩
    · show FSX (w_fi ws (n_v (vs ++ [Value.int x]) 7) 10) (w_ei ws (w_ar ws (n_v (vs ++ [Value.int x]) 7) 1)) (v_iv (n_v (vs ++ [Value.int x]) 31)) (v_iv (n_v (vs ++ [Value.int x]) 25))
      simp only [e_7, e_25, e_31, q7]
      exact vc_Mo_of_at_s5002_24_0 (v_iv (n_v vs 15)) (v_iv (n_v vs 17)) (v_iv (n_v vs 22)) (v_iv (n_v vs 25)) (v_iv (n_v vs 27)) (v_iv (n_v vs 31)) (w_fi ws (n_v vs 0) 12) (w_fi ws (n_v vs 0) 13) (w_fi ws (n_v vs 0) 8) (w_ei ws (w_ar ws (n_v vs 0) 1)) (w_fi ws (n_v vs 0) 10) (v_iv (Value.int x)) k22 k25 k27 k31 g0 g1 g3 f17 kz_0_8 kz_0_10 kz_0_12 kz_0_13 ex2 ex3
  have nf1 : fc_1 PRD (20, [7, 32], [30, 0, 1, 1, 8, -1, 0, 0]) ws (vs ++ [Value.int x]) := by
    refine ⟨nf_inA hl rfl, sgq_303 ?_⟩
    · show 1 * w_fi ws (n_v (vs ++ [Value.int x]) 7) 8 + ((-1) * v_iv (n_v (vs ++ [Value.int x]) 32) + 0) ≤ 0
      simp only [e_7, e_32, q7]
      exact vc_Mo_of_at_s5002_24_1 (v_iv (n_v vs 24)) (v_iv (n_v vs 25)) (v_iv (n_v vs 26)) (v_iv (n_v vs 27)) (w_fi ws (n_v vs 0) 12) (w_fi ws (n_v vs 0) 8) (w_ei ws (w_ar ws (n_v vs 0) 1)) (w_fi ws (n_v vs 0) 15) (w_fi ws (n_v vs 0) 11) (w_fi ws (n_v vs 0) 9) (v_iv (Value.int x)) k24 k25 k26 k27 g3 f15 f17 f18 hK_0_1 kz_0_8 kz_0_9 kz_0_11 kz_0_12 kz_0_15
  have nf2 : fc_1 PRD (20, [7, 32], [30, 0, -1, 1, 8, 1, 0, 0]) ws (vs ++ [Value.int x]) := by
    refine ⟨nf_inA hl rfl, sgq_304 ?_⟩
    · show (-1) * w_fi ws (n_v (vs ++ [Value.int x]) 7) 8 + (1 * v_iv (n_v (vs ++ [Value.int x]) 32) + 0) ≤ 0
      simp only [e_7, e_32, q7]
      exact vc_Mo_of_at_s5002_24_2 (v_iv (n_v vs 24)) (v_iv (n_v vs 25)) (v_iv (n_v vs 26)) (v_iv (n_v vs 27)) (w_fi ws (n_v vs 0) 12) (w_fi ws (n_v vs 0) 8) (w_ei ws (w_ar ws (n_v vs 0) 1)) (w_fi ws (n_v vs 0) 15) (w_fi ws (n_v vs 0) 11) (w_fi ws (n_v vs 0) 9) (v_iv (Value.int x)) k24 k25 k26 k27 g3 f15 f17 f18 hK_0_1 kz_0_8 kz_0_9 kz_0_11 kz_0_12 kz_0_15
  have nf3 : fc_1 PRD (20, [32], [61, 0, 1029]) ws (vs ++ [Value.int x]) := by
    refine ⟨nf_inA hl rfl, sgq_1725 ?_⟩
    · show ZH0 (v_iv (n_v (vs ++ [Value.int x]) 32))
      rw [e_32]
      exact vc_Mo_of_at_s5002_24_3 (v_iv (n_v vs 27)) (w_fi ws (n_v vs 0) 8) (v_iv (Value.int x)) k27 g3 f17 kz_0_8
  exact ⟨(fun _ h => (by cases h)), [Value.int x], ag_one hx, List.forall_mem_cons.mpr ⟨⟨show (20 : Nat) < 100 from by decide, nf0⟩, List.forall_mem_cons.mpr ⟨⟨show (20 : Nat) < 100 from by decide, nf1⟩, List.forall_mem_cons.mpr ⟨⟨show (20 : Nat) < 100 from by decide, nf2⟩, List.forall_mem_cons.mpr ⟨⟨show (20 : Nat) < 100 from by decide, nf3⟩, (fun _ h => (by cases h))⟩⟩⟩⟩, (fun _ h => (by cases h))⟩
set_option maxHeartbeats 4000000 in
theorem vc_Mo_of_at_s5002_25_0 (x2 : Int) (x25 : Int) (x28 : Int) (x31 : Int) (x32 : Int) (x33 : Int) (kind_0 : Int) (fault_0 : Int) (tape_0 : Int → Int) (from_0 : Int) (pos_0 : Int) (faultPlace_0 : Int) (k2 : 99 ≤ x2 ∧ x2 ≤ 99) (k25 : 0 ≤ x25 ∧ x25 ≤ 2000) (k28 : (-49) ≤ x28 ∧ x28 ≤ 0) (k31 : 5 ≤ x31 ∧ x31 ≤ 5) (k32 : 0 ≤ x32 ∧ x32 ≤ 5) (k33 : 0 ≤ x33 ∧ x33 ≤ 0) (g4 : x33 = fault_0) (f20 : ((kind_0 = 1) → (pos_0 ≤ (from_0 + 8))) ∧ ((kind_0 = 0) ∨ ((from_0 + 1) ≤ pos_0))) (f22 : (-1) * fault_0 + 0 ≤ (-1)) (f23 : ((1 ≤ x32) ∧ (fault_0 = x32)) ∨ ((x32 = 0) ∧ ((fault_0 = x31) ∧ (faultPlace_0 = x25)))) (hK_0_1 : ∀ j : Int, 0 ≤ j → j < 2000 → (-128) ≤ tape_0 j ∧ tape_0 j ≤ 127) (kz_0_8 : 0 ≤ fault_0 ∧ fault_0 ≤ 5) (kz_0_9 : 0 ≤ faultPlace_0 ∧ faultPlace_0 ≤ 2000) (kz_0_11 : 0 ≤ pos_0 ∧ pos_0 ≤ 2000) (kz_0_12 : 0 ≤ kind_0 ∧ kind_0 ≤ 4) (kz_0_15 : 0 ≤ from_0 ∧ from_0 ≤ 2000) : 1 * x28 + ((-1) * x2 + 0) ≤ 0 := by
  first | with_reducible assumption | ((have f20_c0 := f20.1); (have f20_c1 := f20.2); (try and_intros) <;> first | with_reducible assumption | (clear f20_c0 f20_c1 f20 f23 hK_0_1; omega)) | ((have f20_c0 := f20.1); (have f20_c1 := f20.2); (try and_intros) <;> first | with_reducible assumption | (clear f20_c0 f20_c1 f20 hK_0_1; omega)) | omega
set_option maxHeartbeats 4000000 in
theorem vc_Mo_of_at_s5002_25_1 (x25 : Int) (x28 : Int) (x31 : Int) (x32 : Int) (x33 : Int) (kind_0 : Int) (fault_0 : Int) (tape_0 : Int → Int) (from_0 : Int) (pos_0 : Int) (faultPlace_0 : Int) (k25 : 0 ≤ x25 ∧ x25 ≤ 2000) (k28 : (-49) ≤ x28 ∧ x28 ≤ 0) (k31 : 5 ≤ x31 ∧ x31 ≤ 5) (k32 : 0 ≤ x32 ∧ x32 ≤ 5) (k33 : 0 ≤ x33 ∧ x33 ≤ 0) (g4 : x33 = fault_0) (f20 : ((kind_0 = 1) → (pos_0 ≤ (from_0 + 8))) ∧ ((kind_0 = 0) ∨ ((from_0 + 1) ≤ pos_0))) (f22 : (-1) * fault_0 + 0 ≤ (-1)) (f23 : ((1 ≤ x32) ∧ (fault_0 = x32)) ∨ ((x32 = 0) ∧ ((fault_0 = x31) ∧ (faultPlace_0 = x25)))) (hK_0_1 : ∀ j : Int, 0 ≤ j → j < 2000 → (-128) ≤ tape_0 j ∧ tape_0 j ≤ 127) (kz_0_8 : 0 ≤ fault_0 ∧ fault_0 ≤ 5) (kz_0_9 : 0 ≤ faultPlace_0 ∧ faultPlace_0 ≤ 2000) (kz_0_11 : 0 ≤ pos_0 ∧ pos_0 ≤ 2000) (kz_0_12 : 0 ≤ kind_0 ∧ kind_0 ≤ 4) (kz_0_15 : 0 ≤ from_0 ∧ from_0 ≤ 2000) : (-1) * x28 + 0 ≤ 0 := by
  first | with_reducible assumption | ((have f20_c0 := f20.1); (have f20_c1 := f20.2); (try and_intros) <;> first | with_reducible assumption | (clear f20_c0 f20_c1 f20 f23 hK_0_1; omega)) | ((have f20_c0 := f20.1); (have f20_c1 := f20.2); (try and_intros) <;> first | with_reducible assumption | (clear f20_c0 f20_c1 f20 hK_0_1; omega)) | omega
def o_Mo_of_at_s5002_25 : or_T := (135, 34, [(0, (2, 0, 0, [165])), (2, (0, 99, 99, [])), (3, (0, 0, 2000, [])), (7, (2, 0, 0, [165])), (9, (0, 99, 99, [])), (10, (0, -49, 0, [])), (11, (0, 0, 2000, [])), (15, (0, 0, 2000, [])), (17, (0, 0, 2000, [])), (22, (0, 0, 4, [])), (23, (0, 2, 2, [])), (24, (0, 1, 1, [])), (25, (0, 0, 2000, [])), (26, (0, 0, 5, [])), (28, (0, -49, 0, [])), (31, (0, 5, 5, [])), (32, (0, 0, 5, [])), (33, (0, 0, 0, []))], [(9, [25, 7], [13]), (9, [22, 7], [12]), (9, [28, 7], [14]), (8, [33], [5]), (9, [33, 7], [8]), (20, [7, 31, 25], [60, 1, 1, 1026, 10, 1]), (20, [32], [61, 0, 1029]), (20, [7, 24, 25], [60, 1, 1, 1026, 10, 1]), (20, [26], [61, 0, 1029]), (23, [17, 15], [0, 1, -1]), (23, [17, 15], [0, -1, 1]), (23, [3, 17], [-1, 1, -1]), (23, [11, 17], [-2000, -1, -1]), (23, [3, 15], [-1, 1, -1]), (23, [11, 15], [-2000, -1, -1]), (23, [10, 9], [0, 1, -1]), (23, [10], [0, -1]), (24, [0, 7], []), (24, [2, 9], []), (20, [7, 7], [30, 0, 1, 1, 15, -1, 1, 11]), (20, [7], [50, 3, 0, 12, 11, 15, 2, 21, 4, 7, 1, 3, 2, 0, 12, 0, 1, 0, 3, 2, 0, 11, 4, 3, 2, 0, 15, 0, 8, 3, 7, 1, 3, 2, 0, 12, 0, 0, 0, 7, 4, 3, 2, 0, 15, 0, 1, 2, 0, 11]), (20, [17, 7], [30, 0, 1, 0, 0, -1, 1, 11]), (20, [7], [30, -1, -1, 1, 8]), (20, [32, 7, 31, 25], [50, 2, 0, 1008, 1009, 3, 15, 2, 6, 0, 2, 0, 1, 1, 0, 1, 3, 2, 1, 8, 1, 0, 2, 6, 1, 2, 1, 0, 0, 0, 2, 7, 1, 3, 2, 1, 8, 1, 2, 1, 3, 2, 1, 9, 1, 3]), (102, [32], [0, 165008, 165009]), (23, [17, 15], [0, 1, -1]), (23, [17, 15], [0, -1, 1]), (23, [3, 17], [-1, 1, -1]), (23, [11, 17], [-2000, -1, -1]), (23, [3, 15], [-1, 1, -1]), (23, [11, 15], [-2000, -1, -1]), (23, [10, 9], [0, 1, -1]), (23, [10], [0, -1]), (102, [26], [0, 165008, 165009]), (7, [22, 23], [1]), (23, [17, 15], [0, 1, -1]), (23, [17, 15], [0, -1, 1]), (23, [3, 17], [-1, 1, -1]), (23, [11, 17], [-2000, -1, -1]), (23, [3, 15], [-1, 1, -1]), (23, [11, 15], [-2000, -1, -1]), (23, [10, 9], [0, 1, -1]), (23, [10], [0, -1]), (102, [20], [0, 165008, 165009, 165011, 165012, 165013, 165014, 165015]), (23, [17, 15], [0, 1, -1]), (23, [17, 15], [0, -1, 1]), (23, [3, 17], [-1, 1, -1]), (23, [11, 17], [-2000, -1, -1]), (23, [3, 15], [-1, 1, -1]), (23, [11, 15], [-2000, -1, -1]), (23, [10, 9], [0, 1, -1]), (23, [10], [0, -1]), (102, [15], [0, 165011, 165012, 165013, 165014, 165015]), (23, [3, 15], [-1, 1, -1]), (23, [11, 15], [-2000, -1, -1]), (8, [10], [5]), (23, [10, 9], [0, 1, -1]), (23, [10], [0, -1]), (102, [13], [0]), (23, [10, 9], [0, 1, -1]), (23, [10], [0, -1])], [], [], [(23, [28, 9], [0, 1, -1]), (23, [28], [0, -1])], [], [])
theorem oo_Mo_of_at_s5002_25 {kA : Nat → ClassId} : or_ok PRD kA GG o_Mo_of_at_s5002_25 := by
  refine or_mk fun A ta ws vs hD hth hl => ?_
  intro t0 r0 t2 k2 t3 k3 t7 r7 t9 k9 t10 k10 t11 k11 t15 k15 t17 k17 t22 k22 t23 k23 t24 k24 t25 k25 t26 k26 t28 k28 t31 k31 t32 k32 t33 k33 f0 f1 f2 f3 f4 f5 f6 f7 f8 f9 f10 f11 f12 f13 f14 f15 f16 f17 f18 f19 f20 f21 f22 f23 ta1 w1 le1 s1 f25 f26 f27 f28 f29 f30 f31 f32 ta2 w2 le2 s2 f34 f35 f36 f37 f38 f39 f40 f41 f42 ta3 w3 le3 s3 f44 f45 f46 f47 f48 f49 f50 f51 ta4 w4 le4 s4 f53 f54 f55 f56 f57 ta5 w5 le5 s5 f59 f60
  replace f4 := shm_293 f4
  replace f17 := shm_5 f17
  replace f18 := shm_5 f18
  replace f20 := shm_1438 f20
  replace f22 := shm_305 f22
  replace f23 := shm_306 f23
  have q7 : n_v vs 7 = n_v vs 0 := f17.symm
  have q9 : n_v vs 9 = n_v vs 2 := f18.symm
  simp only [q7] at f4 f20 f22 f23
  have cr_0_1 := fdq_39 hD hth r0
  have g4 : v_iv (n_v vs 33) = w_fi ws (n_v vs 0) 8 := congrArg v_iv f4
  have hK_0_1 := elq_7 hD hth cr_0_1
  have kz_0_8 := fdq_34 hD hth r0
  have kz_0_9 := fdq_44 hD hth r0
  have kz_0_11 := fdq_237 hD hth r0
  have kz_0_12 := fdq_187 hD hth r0
  have kz_0_15 := fdq_239 hD hth r0
  have nf0 : fc_1 PRD (23, [28, 9], [0, 1, -1]) ws (vs) := by
    refine ⟨nf_in hl rfl, sgq_7 ?_⟩
    · show 1 * v_iv (n_v vs 28) + ((-1) * v_iv (n_v vs 9) + 0) ≤ 0
      rw [q9]
      exact vc_Mo_of_at_s5002_25_0 (v_iv (n_v vs 2)) (v_iv (n_v vs 25)) (v_iv (n_v vs 28)) (v_iv (n_v vs 31)) (v_iv (n_v vs 32)) (v_iv (n_v vs 33)) (w_fi ws (n_v vs 0) 12) (w_fi ws (n_v vs 0) 8) (w_ei ws (w_ar ws (n_v vs 0) 1)) (w_fi ws (n_v vs 0) 15) (w_fi ws (n_v vs 0) 11) (w_fi ws (n_v vs 0) 9) k2 k25 k28 k31 k32 k33 g4 f20 f22 f23 hK_0_1 kz_0_8 kz_0_9 kz_0_11 kz_0_12 kz_0_15
  have nf1 : fc_1 PRD (23, [28], [0, -1]) ws (vs) := ⟨nf_in hl rfl, sgq_1043 (vc_Mo_of_at_s5002_25_1 (v_iv (n_v vs 25)) (v_iv (n_v vs 28)) (v_iv (n_v vs 31)) (v_iv (n_v vs 32)) (v_iv (n_v vs 33)) (w_fi ws (n_v vs 0) 12) (w_fi ws (n_v vs 0) 8) (w_ei ws (w_ar ws (n_v vs 0) 1)) (w_fi ws (n_v vs 0) 15) (w_fi ws (n_v vs 0) 11) (w_fi ws (n_v vs 0) 9) k25 k28 k31 k32 k33 g4 f20 f22 f23 hK_0_1 kz_0_8 kz_0_9 kz_0_11 kz_0_12 kz_0_15)⟩
  refine ⟨(fun _ h => (by cases h)), [], trivial, ?_, (fun _ h => (by cases h))⟩
  rw [List.append_nil]
  exact List.forall_mem_cons.mpr ⟨⟨show (23 : Nat) < 100 from by decide, nf0⟩, List.forall_mem_cons.mpr ⟨⟨show (23 : Nat) < 100 from by decide, nf1⟩, (fun _ h => (by cases h))⟩⟩
set_option maxHeartbeats 4000000 in
theorem vc_Mo_of_at_s5002_26_0 (x25 : Int) (x31 : Int) (x32 : Int) (x33 : Int) (kind_0 : Int) (fault_0 : Int) (tape_0 : Int → Int) (from_0 : Int) (pos_0 : Int) (faultPlace_0 : Int) (gx : Int) (k25 : 0 ≤ x25 ∧ x25 ≤ 2000) (k31 : 5 ≤ x31 ∧ x31 ≤ 5) (k32 : 0 ≤ x32 ∧ x32 ≤ 5) (k33 : 0 ≤ x33 ∧ x33 ≤ 0) (g6 : x33 = fault_0) (f29 : ((kind_0 = 1) → (pos_0 ≤ (from_0 + 8))) ∧ ((kind_0 = 0) ∨ ((from_0 + 1) ≤ pos_0))) (f31 : (-1) * fault_0 + 0 ≤ (-1)) (f32 : ((1 ≤ x32) ∧ (fault_0 = x32)) ∨ ((x32 = 0) ∧ ((fault_0 = x31) ∧ (faultPlace_0 = x25)))) (hK_0_1 : ∀ j : Int, 0 ≤ j → j < 2000 → (-128) ≤ tape_0 j ∧ tape_0 j ≤ 127) (kz_0_8 : 0 ≤ fault_0 ∧ fault_0 ≤ 5) (kz_0_9 : 0 ≤ faultPlace_0 ∧ faultPlace_0 ≤ 2000) (kz_0_11 : 0 ≤ pos_0 ∧ pos_0 ≤ 2000) (kz_0_12 : 0 ≤ kind_0 ∧ kind_0 ≤ 4) (kz_0_15 : 0 ≤ from_0 ∧ from_0 ≤ 2000) : 1 * gx + ((-1) * pos_0 + 0) ≤ 0 := by
  first | with_reducible assumption | ((have f29_c0 := f29.1); (have f29_c1 := f29.2); (try and_intros) <;> first | with_reducible assumption | (clear f29_c0 f29_c1 f29 f32 hK_0_1; omega)) | ((have f29_c0 := f29.1); (have f29_c1 := f29.2); (try and_intros) <;> first | with_reducible assumption | (clear f29_c0 f29_c1 f29 hK_0_1; omega)) | omega
set_option maxHeartbeats 4000000 in
theorem vc_Mo_of_at_s5002_26_1 (x25 : Int) (x31 : Int) (x32 : Int) (kind_0 : Int) (fault_0 : Int) (tape_0 : Int → Int) (from_0 : Int) (pos_0 : Int) (faultPlace_0 : Int) (gx : Int) (k25 : 0 ≤ x25 ∧ x25 ≤ 2000) (k31 : 5 ≤ x31 ∧ x31 ≤ 5) (k32 : 0 ≤ x32 ∧ x32 ≤ 5) (f29 : ((kind_0 = 1) → (pos_0 ≤ (from_0 + 8))) ∧ ((kind_0 = 0) ∨ ((from_0 + 1) ≤ pos_0))) (f32 : ((1 ≤ x32) ∧ (fault_0 = x32)) ∨ ((x32 = 0) ∧ ((fault_0 = x31) ∧ (faultPlace_0 = x25)))) (hK_0_1 : ∀ j : Int, 0 ≤ j → j < 2000 → (-128) ≤ tape_0 j ∧ tape_0 j ≤ 127) (kz_0_8 : 0 ≤ fault_0 ∧ fault_0 ≤ 5) (kz_0_9 : 0 ≤ faultPlace_0 ∧ faultPlace_0 ≤ 2000) (kz_0_11 : 0 ≤ pos_0 ∧ pos_0 ≤ 2000) (kz_0_12 : 0 ≤ kind_0 ∧ kind_0 ≤ 4) (kz_0_15 : 0 ≤ from_0 ∧ from_0 ≤ 2000) (ex2 : gx = pos_0) : gx = pos_0 := by
  first | with_reducible assumption | ((have f29_c0 := f29.1); (have f29_c1 := f29.2); (try and_intros) <;> first | with_reducible assumption | (clear f29_c0 f29_c1 f29 f32 hK_0_1; omega)) | ((have f29_c0 := f29.1); (have f29_c1 := f29.2); (try and_intros) <;> first | with_reducible assumption | (clear f29_c0 f29_c1 f29 hK_0_1; omega)) | omega
set_option maxHeartbeats 4000000 in
theorem vc_Mo_of_at_s5002_26_2 (x4 : Int) (x5 : Int) (x6 : Int) (x15 : Int) (x17 : Int) (x18 : Int) (x19 : Int) (x20 : Int) (x22 : Int) (x25 : Int) (x28 : Int) (x33 : Int) (place_0 : Int) (kind_0 : Int) (value_0 : Int) (fault_0 : Int) (limit_0 : Int) (pos_0 : Int) (gx : Int) (k22 : 0 ≤ x22 ∧ x22 ≤ 4) (k25 : 0 ≤ x25 ∧ x25 ≤ 2000) (k28 : (-49) ≤ x28 ∧ x28 ≤ 0) (k33 : 0 ≤ x33 ∧ x33 ≤ 0) (g0 : x25 = place_0) (g1 : x22 = kind_0) (g4 : x28 = value_0) (g6 : x33 = fault_0) (f31 : (-1) * fault_0 + 0 ≤ (-1)) (kz_0_8 : 0 ≤ fault_0 ∧ fault_0 ≤ 5) (kz_0_10 : 0 ≤ limit_0 ∧ limit_0 ≤ 2000) (kz_0_11 : 0 ≤ pos_0 ∧ pos_0 ≤ 2000) (kz_0_12 : 0 ≤ kind_0 ∧ kind_0 ≤ 4) (kz_0_13 : 0 ≤ place_0 ∧ place_0 ≤ 2000) (kz_0_14 : (-49) ≤ value_0 ∧ value_0 ≤ 1048575) (ex2 : gx = pos_0) : ZLM (limit_0) (pos_0) := by
  first | (have el_x17 : x17 = x15 := by omega); subst el_x17 | skip
  first | (have el_x18 : x18 = x4 := by omega); subst el_x18 | skip
  first | (have el_x19 : x19 = x5 := by omega); subst el_x19 | skip
  first | (have el_x20 : x20 = x6 := by omega); subst el_x20 | skip
  first | subst g0 | skip
  first | subst g1 | skip
  first | subst g4 | skip
  first | subst g6 | skip
  first | subst ex2 | skip
  first
    | exact ob_0_s ‹zOBs _ _ _ _ _ _ _ _ _ _ _ _ _ _› (sgq_t (C := 91) ‹SGQ _ _ _ _ _› (by omega) (by omega)).1
    | exact ob_0_w ‹zOBw _ _ _ _ _ _ _ _ _ _ _ _ _ _› (sgq_t (C := 91) ‹SGQ _ _ _ _ _› (by omega) (by omega)).1
    | exact (oi_0_s ‹zOIs _ _ _ _ _ _ _ _ _ _ _ _ _ _›).2
    | exact (oi_0_w ‹zOIw _ _ _ _ _ _ _ _ _ _ _ _ _ _›).2
    | exact o11_0_s ‹zO11s _ _ _ _ _ _ _ _ _ _ _ _ _ _› (by omega)
    | exact o11_0_w ‹zO11w _ _ _ _ _ _ _ _ _ _ _ _ _ _› (by omega)
    | (exfalso; omega)
set_option maxHeartbeats 4000000 in
theorem vc_Mo_of_at_s5002_26_3 (x3 : Int) (x25 : Int) (x31 : Int) (x32 : Int) (x33 : Int) (kind_0 : Int) (fault_0 : Int) (tape_0 : Int → Int) (from_0 : Int) (pos_0 : Int) (faultPlace_0 : Int) (gx : Int) (k3 : 0 ≤ x3 ∧ x3 ≤ 2000) (k25 : 0 ≤ x25 ∧ x25 ≤ 2000) (k31 : 5 ≤ x31 ∧ x31 ≤ 5) (k32 : 0 ≤ x32 ∧ x32 ≤ 5) (k33 : 0 ≤ x33 ∧ x33 ≤ 0) (g6 : x33 = fault_0) (f29 : ((kind_0 = 1) → (pos_0 ≤ (from_0 + 8))) ∧ ((kind_0 = 0) ∨ ((from_0 + 1) ≤ pos_0))) (f31 : (-1) * fault_0 + 0 ≤ (-1)) (f32 : ((1 ≤ x32) ∧ (fault_0 = x32)) ∨ ((x32 = 0) ∧ ((fault_0 = x31) ∧ (faultPlace_0 = x25)))) (hK_0_1 : ∀ j : Int, 0 ≤ j → j < 2000 → (-128) ≤ tape_0 j ∧ tape_0 j ≤ 127) (kz_0_8 : 0 ≤ fault_0 ∧ fault_0 ≤ 5) (kz_0_9 : 0 ≤ faultPlace_0 ∧ faultPlace_0 ≤ 2000) (kz_0_11 : 0 ≤ pos_0 ∧ pos_0 ≤ 2000) (kz_0_12 : 0 ≤ kind_0 ∧ kind_0 ≤ 4) (kz_0_15 : 0 ≤ from_0 ∧ from_0 ≤ 2000) : 1 * x3 + ((-1) * gx + 0) ≤ (-1) := by
  first | with_reducible assumption | ((have f29_c0 := f29.1); (have f29_c1 := f29.2); (try and_intros) <;> first | with_reducible assumption | (clear f29_c0 f29_c1 f29 f32 hK_0_1; omega)) | ((have f29_c0 := f29.1); (have f29_c1 := f29.2); (try and_intros) <;> first | with_reducible assumption | (clear f29_c0 f29_c1 f29 hK_0_1; omega)) | omega
set_option maxHeartbeats 4000000 in
theorem vc_Mo_of_at_s5002_26_4 (x11 : Int) (x25 : Int) (x31 : Int) (x32 : Int) (x33 : Int) (kind_0 : Int) (fault_0 : Int) (tape_0 : Int → Int) (from_0 : Int) (pos_0 : Int) (faultPlace_0 : Int) (gx : Int) (k11 : 0 ≤ x11 ∧ x11 ≤ 2000) (k25 : 0 ≤ x25 ∧ x25 ≤ 2000) (k31 : 5 ≤ x31 ∧ x31 ≤ 5) (k32 : 0 ≤ x32 ∧ x32 ≤ 5) (k33 : 0 ≤ x33 ∧ x33 ≤ 0) (g6 : x33 = fault_0) (f29 : ((kind_0 = 1) → (pos_0 ≤ (from_0 + 8))) ∧ ((kind_0 = 0) ∨ ((from_0 + 1) ≤ pos_0))) (f31 : (-1) * fault_0 + 0 ≤ (-1)) (f32 : ((1 ≤ x32) ∧ (fault_0 = x32)) ∨ ((x32 = 0) ∧ ((fault_0 = x31) ∧ (faultPlace_0 = x25)))) (hK_0_1 : ∀ j : Int, 0 ≤ j → j < 2000 → (-128) ≤ tape_0 j ∧ tape_0 j ≤ 127) (kz_0_8 : 0 ≤ fault_0 ∧ fault_0 ≤ 5) (kz_0_9 : 0 ≤ faultPlace_0 ∧ faultPlace_0 ≤ 2000) (kz_0_11 : 0 ≤ pos_0 ∧ pos_0 ≤ 2000) (kz_0_12 : 0 ≤ kind_0 ∧ kind_0 ≤ 4) (kz_0_15 : 0 ≤ from_0 ∧ from_0 ≤ 2000) : (-1) * x11 + ((-1) * gx + 0) ≤ (-2001) := by
  first | with_reducible assumption | ((have f29_c0 := f29.1); (have f29_c1 := f29.2); (try and_intros) <;> first | with_reducible assumption | (clear f29_c0 f29_c1 f29 f32 hK_0_1; omega)) | ((have f29_c0 := f29.1); (have f29_c1 := f29.2); (try and_intros) <;> first | with_reducible assumption | (clear f29_c0 f29_c1 f29 hK_0_1; omega)) | omega
set_option maxHeartbeats 4000000 in
theorem vc_Mo_of_at_s5002_26_5 (x4 : Int) (x5 : Int) (x6 : Int) (x15 : Int) (x17 : Int) (x18 : Int) (x19 : Int) (x20 : Int) (x22 : Int) (x25 : Int) (x28 : Int) (x33 : Int) (place_0 : Int) (kind_0 : Int) (value_0 : Int) (fault_0 : Int) (tape_0 : Int → Int) (limit_0 : Int) (pos_0 : Int) (gx : Int) (all_0 : Int → Int) (r_0 : Int) (k4 : (-1) ≤ x4 ∧ x4 ≤ 48) (k5 : 0 ≤ x5 ∧ x5 ≤ 7) (k6 : 0 ≤ x6 ∧ x6 ≤ 4) (k22 : 0 ≤ x22 ∧ x22 ≤ 4) (k25 : 0 ≤ x25 ∧ x25 ≤ 2000) (k28 : (-49) ≤ x28 ∧ x28 ≤ 0) (k33 : 0 ≤ x33 ∧ x33 ≤ 0) (g0 : x25 = place_0) (g1 : x22 = kind_0) (g4 : x28 = value_0) (g6 : x33 = fault_0) (f31 : (-1) * fault_0 + 0 ≤ (-1)) (kz_0_8 : 0 ≤ fault_0 ∧ fault_0 ≤ 5) (kz_0_10 : 0 ≤ limit_0 ∧ limit_0 ≤ 2000) (kz_0_11 : 0 ≤ pos_0 ∧ pos_0 ≤ 2000) (kz_0_12 : 0 ≤ kind_0 ∧ kind_0 ≤ 4) (kz_0_13 : 0 ≤ place_0 ∧ place_0 ≤ 2000) (kz_0_14 : (-49) ≤ value_0 ∧ value_0 ≤ 1048575) (ex2 : gx = pos_0) : zU12s (limit_0) (fault_0) (r_0) (tape_0) (all_0) (x4) (x28) (x5) (x6) (gx) := by
  first | (have el_x17 : x17 = x15 := by omega); subst el_x17 | skip
  first | (have el_x18 : x18 = x4 := by omega); subst el_x18 | skip
  first | (have el_x19 : x19 = x5 := by omega); subst el_x19 | skip
  first | (have el_x20 : x20 = x6 := by omega); subst el_x20 | skip
  first | subst g0 | skip
  first | subst g1 | skip
  first | subst g4 | skip
  first | subst g6 | skip
  first | subst ex2 | skip
  first
    | exact of_val_s ‹zO11s _ _ _ _ _ _ _ _ _ _ _ _ _ _› (by omega) (by omega) (by omega) (by omega) (by omega)
    | (exfalso; omega)
def o_Mo_of_at_s5002_26 : or_T := (136, 34, [(0, (2, 0, 0, [165])), (2, (0, 99, 99, [])), (3, (0, 0, 2000, [])), (4, (0, -1, 48, [])), (5, (0, 0, 7, [])), (6, (0, 0, 4, [])), (7, (2, 0, 0, [165])), (9, (0, 99, 99, [])), (10, (0, -49, 0, [])), (11, (0, 0, 2000, [])), (15, (0, 0, 2000, [])), (17, (0, 0, 2000, [])), (18, (0, -1, 48, [])), (19, (0, 0, 7, [])), (20, (0, 0, 4, [])), (22, (0, 0, 4, [])), (23, (0, 2, 2, [])), (24, (0, 1, 1, [])), (25, (0, 0, 2000, [])), (26, (0, 0, 5, [])), (28, (0, -49, 0, [])), (31, (0, 5, 5, [])), (32, (0, 0, 5, [])), (33, (0, 0, 0, []))], [(9, [25, 7], [13]), (9, [22, 7], [12]), (23, [28, 9], [0, 1, -1]), (23, [28], [0, -1]), (9, [28, 7], [14]), (8, [33], [5]), (9, [33, 7], [8]), (20, [7, 31, 25], [60, 1, 1, 1026, 10, 1]), (20, [32], [61, 0, 1029]), (20, [7, 24, 25], [60, 1, 1, 1026, 10, 1]), (20, [26], [61, 0, 1029]), (23, [17, 15], [0, 1, -1]), (23, [17, 15], [0, -1, 1]), (23, [18, 4], [0, 1, -1]), (23, [18, 4], [0, -1, 1]), (23, [19, 5], [0, 1, -1]), (23, [19, 5], [0, -1, 1]), (23, [20, 6], [0, 1, -1]), (23, [20, 6], [0, -1, 1]), (23, [3, 17], [-1, 1, -1]), (23, [11, 17], [-2000, -1, -1]), (23, [3, 15], [-1, 1, -1]), (23, [11, 15], [-2000, -1, -1]), (23, [10, 9], [0, 1, -1]), (23, [10], [0, -1]), (23, [4], [0, -1]), (24, [0, 7], []), (24, [2, 9], []), (20, [7, 7], [30, 0, 1, 1, 15, -1, 1, 11]), (20, [7], [50, 3, 0, 12, 11, 15, 2, 21, 4, 7, 1, 3, 2, 0, 12, 0, 1, 0, 3, 2, 0, 11, 4, 3, 2, 0, 15, 0, 8, 3, 7, 1, 3, 2, 0, 12, 0, 0, 0, 7, 4, 3, 2, 0, 15, 0, 1, 2, 0, 11]), (20, [17, 7], [30, 0, 1, 0, 0, -1, 1, 11]), (20, [7], [30, -1, -1, 1, 8]), (20, [32, 7, 31, 25], [50, 2, 0, 1008, 1009, 3, 15, 2, 6, 0, 2, 0, 1, 1, 0, 1, 3, 2, 1, 8, 1, 0, 2, 6, 1, 2, 1, 0, 0, 0, 2, 7, 1, 3, 2, 1, 8, 1, 2, 1, 3, 2, 1, 9, 1, 3]), (102, [32], [0, 165008, 165009]), (23, [17, 15], [0, 1, -1]), (23, [17, 15], [0, -1, 1]), (23, [18, 4], [0, 1, -1]), (23, [18, 4], [0, -1, 1]), (23, [19, 5], [0, 1, -1]), (23, [19, 5], [0, -1, 1]), (23, [20, 6], [0, 1, -1]), (23, [20, 6], [0, -1, 1]), (23, [3, 17], [-1, 1, -1]), (23, [11, 17], [-2000, -1, -1]), (23, [3, 15], [-1, 1, -1]), (23, [11, 15], [-2000, -1, -1]), (23, [10, 9], [0, 1, -1]), (23, [10], [0, -1]), (23, [4], [0, -1]), (102, [26], [0, 165008, 165009]), (7, [22, 23], [1]), (23, [17, 15], [0, 1, -1]), (23, [17, 15], [0, -1, 1]), (23, [18, 4], [0, 1, -1]), (23, [18, 4], [0, -1, 1]), (23, [19, 5], [0, 1, -1]), (23, [19, 5], [0, -1, 1]), (23, [20, 6], [0, 1, -1]), (23, [20, 6], [0, -1, 1]), (23, [3, 17], [-1, 1, -1]), (23, [11, 17], [-2000, -1, -1]), (23, [3, 15], [-1, 1, -1]), (23, [11, 15], [-2000, -1, -1]), (23, [10, 9], [0, 1, -1]), (23, [10], [0, -1]), (23, [4], [0, -1]), (102, [20], [0, 165008, 165009, 165011, 165012, 165013, 165014, 165015]), (23, [17, 15], [0, 1, -1]), (23, [17, 15], [0, -1, 1]), (23, [18, 4], [0, 1, -1]), (23, [18, 4], [0, -1, 1]), (23, [19, 5], [0, 1, -1]), (23, [19, 5], [0, -1, 1]), (23, [20, 6], [0, 1, -1]), (23, [20, 6], [0, -1, 1]), (23, [3, 17], [-1, 1, -1]), (23, [11, 17], [-2000, -1, -1]), (23, [3, 15], [-1, 1, -1]), (23, [11, 15], [-2000, -1, -1]), (23, [10, 9], [0, 1, -1]), (23, [10], [0, -1]), (23, [4], [0, -1]), (102, [15], [0, 165011, 165012, 165013, 165014, 165015]), (23, [3, 15], [-1, 1, -1]), (23, [11, 15], [-2000, -1, -1]), (8, [10], [5]), (23, [10, 9], [0, 1, -1]), (23, [10], [0, -1]), (23, [4], [0, -1]), (102, [13], [0]), (23, [10, 9], [0, 1, -1]), (23, [10], [0, -1]), (23, [4], [0, -1])], [], [(0, 0, 2000, [])], [(20, [34, 7], [30, 0, 1, 0, 0, -1, 1, 11]), (20, [34, 7], [50, 1, 0, 1011, 1, 2, 1, 0, 2, 1, 11]), (20, [7], [60, 2, 0, 947, 10, 11]), (23, [3, 34], [-1, 1, -1]), (23, [11, 34], [-2001, -1, -1]), (20, [7, 4, 28, 5, 6, 34], [60, 3, 2, 986, 10, 8, 5, 1, 2])], [], [])
theorem oo_Mo_of_at_s5002_26 {kA : Nat → ClassId} : or_ok PRD kA GG o_Mo_of_at_s5002_26 := by
  refine or_mk fun A ta ws vs hD hth hl => ?_
  intro t0 r0 t2 k2 t3 k3 t4 k4 t5 k5 t6 k6 t7 r7 t9 k9 t10 k10 t11 k11 t15 k15 t17 k17 t18 k18 t19 k19 t20 k20 t22 k22 t23 k23 t24 k24 t25 k25 t26 k26 t28 k28 t31 k31 t32 k32 t33 k33 f0 f1 f2 f3 f4 f5 f6 f7 f8 f9 f10 f11 f12 f13 f14 f15 f16 f17 f18 f19 f20 f21 f22 f23 f24 f25 f26 f27 f28 f29 f30 f31 f32 ta1 w1 le1 s1 f34 f35 f36 f37 f38 f39 f40 f41 f42 f43 f44 f45 f46 f47 f48 ta2 w2 le2 s2 f50 f51 f52 f53 f54 f55 f56 f57 f58 f59 f60 f61 f62 f63 f64 f65 ta3 w3 le3 s3 f67 f68 f69 f70 f71 f72 f73 f74 f75 f76 f77 f78 f79 f80 f81 ta4 w4 le4 s4 f83 f84 f85 f86 f87 f88 ta5 w5 le5 s5 f90 f91 f92
  replace f0 := shm_361 f0
  replace f1 := shm_103 f1
  replace f4 := shm_115 f4
  replace f6 := shm_293 f6
  replace f26 := shm_5 f26
  replace f29 := shm_1438 f29
  replace f31 := shm_305 f31
  replace f32 := shm_306 f32
  have q7 : n_v vs 7 = n_v vs 0 := f26.symm
  simp only [q7] at f0 f1 f4 f6 f29 f31 f32
  have cr_0_1 := fdq_39 hD hth r0
  have g0 : v_iv (n_v vs 25) = w_fi ws (n_v vs 0) 13 := congrArg v_iv f0
  have g1 : v_iv (n_v vs 22) = w_fi ws (n_v vs 0) 12 := congrArg v_iv f1
  have g4 : v_iv (n_v vs 28) = w_fi ws (n_v vs 0) 14 := congrArg v_iv f4
  have g6 : v_iv (n_v vs 33) = w_fi ws (n_v vs 0) 8 := congrArg v_iv f6
  have hK_0_1 := elq_7 hD hth cr_0_1
  have kz_0_8 := fdq_34 hD hth r0
  have kz_0_9 := fdq_44 hD hth r0
  have kz_0_10 := fdq_43 hD hth r0
  have kz_0_11 := fdq_237 hD hth r0
  have kz_0_12 := fdq_187 hD hth r0
  have kz_0_13 := fdq_238 hD hth r0
  have kz_0_14 := fdq_188 hD hth r0
  have kz_0_15 := fdq_239 hD hth r0
  obtain ⟨x, ex, hx⟩ := iv_ex (ta := ta) (lo := 0) (hi := 2000) (z := w_fi ws (n_v vs 0) 11) (by omega) (by omega) (by omega) (by omega)
  have ex2 : v_iv (Value.int x) = w_fi ws (n_v vs 0) 11 := ex
  have ex3 : 0 ≤ v_iv (Value.int x) ∧ v_iv (Value.int x) ≤ 2000 := tv_rng hx
  have e_3 : n_v (vs ++ [Value.int x]) 3 = n_v vs 3 := n_v_old (by rw [hl]; decide)
  have e_4 : n_v (vs ++ [Value.int x]) 4 = n_v vs 4 := n_v_old (by rw [hl]; decide)
  have e_5 : n_v (vs ++ [Value.int x]) 5 = n_v vs 5 := n_v_old (by rw [hl]; decide)
  have e_6 : n_v (vs ++ [Value.int x]) 6 = n_v vs 6 := n_v_old (by rw [hl]; decide)
  have e_7 : n_v (vs ++ [Value.int x]) 7 = n_v vs 7 := n_v_old (by rw [hl]; decide)
  have e_11 : n_v (vs ++ [Value.int x]) 11 = n_v vs 11 := n_v_old (by rw [hl]; decide)
  have e_28 : n_v (vs ++ [Value.int x]) 28 = n_v vs 28 := n_v_old (by rw [hl]; decide)
  have e_34 : n_v (vs ++ [Value.int x]) 34 = Value.int x := n_v_new hl
  have nf0 : fc_1 PRD (20, [34, 7], [30, 0, 1, 0, 0, -1, 1, 11]) ws (vs ++ [Value.int x]) := by
    refine ⟨nf_inA hl rfl, sgq_1431 ?_⟩
    · show 1 * v_iv (n_v (vs ++ [Value.int x]) 34) + ((-1) * w_fi ws (n_v (vs ++ [Value.int x]) 7) 11 + 0) ≤ 0
      simp only [e_7, e_34, q7]
      exact vc_Mo_of_at_s5002_26_0 (v_iv (n_v vs 25)) (v_iv (n_v vs 31)) (v_iv (n_v vs 32)) (v_iv (n_v vs 33)) (w_fi ws (n_v vs 0) 12) (w_fi ws (n_v vs 0) 8) (w_ei ws (w_ar ws (n_v vs 0) 1)) (w_fi ws (n_v vs 0) 15) (w_fi ws (n_v vs 0) 11) (w_fi ws (n_v vs 0) 9) (v_iv (Value.int x)) k25 k31 k32 k33 g6 f29 f31 f32 hK_0_1 kz_0_8 kz_0_9 kz_0_11 kz_0_12 kz_0_15
  have nf1 : fc_1 PRD (20, [34, 7], [50, 1, 0, 1011, 1, 2, 1, 0, 2, 1, 11]) ws (vs ++ [Value.int x]) := by
    refine ⟨nf_inA hl rfl, sgq_1432 ?_⟩
    · show v_iv (n_v (vs ++ [Value.int x]) 34) = w_fi ws (n_v (vs ++ [Value.int x]) 7) 11
      simp only [e_7, e_34, q7]
      exact vc_Mo_of_at_s5002_26_1 (v_iv (n_v vs 25)) (v_iv (n_v vs 31)) (v_iv (n_v vs 32)) (w_fi ws (n_v vs 0) 12) (w_fi ws (n_v vs 0) 8) (w_ei ws (w_ar ws (n_v vs 0) 1)) (w_fi ws (n_v vs 0) 15) (w_fi ws (n_v vs 0) 11) (w_fi ws (n_v vs 0) 9) (v_iv (Value.int x)) k25 k31 k32 f29 f32 hK_0_1 kz_0_8 kz_0_9 kz_0_11 kz_0_12 kz_0_15 ex2
  have nf2 : fc_1 PRD (20, [7], [60, 2, 0, 947, 10, 11]) ws (vs ++ [Value.int x]) := by
    refine ⟨nf_inA hl rfl, sgq_1433 ?_⟩
    · show ZLM (w_fi ws (n_v (vs ++ [Value.int x]) 7) 10) (w_fi ws (n_v (vs ++ [Value.int x]) 7) 11)
      simp only [e_7, q7]
      exact vc_Mo_of_at_s5002_26_2 (v_iv (n_v vs 4)) (v_iv (n_v vs 5)) (v_iv (n_v vs 6)) (v_iv (n_v vs 15)) (v_iv (n_v vs 17)) (v_iv (n_v vs 18)) (v_iv (n_v vs 19)) (v_iv (n_v vs 20)) (v_iv (n_v vs 22)) (v_iv (n_v vs 25)) (v_iv (n_v vs 28)) (v_iv (n_v vs 33)) (w_fi ws (n_v vs 0) 13) (w_fi ws (n_v vs 0) 12) (w_fi ws (n_v vs 0) 14) (w_fi ws (n_v vs 0) 8) (w_fi ws (n_v vs 0) 10) (w_fi ws (n_v vs 0) 11) (v_iv (Value.int x)) k22 k25 k28 k33 g0 g1 g4 g6 f31 kz_0_8 kz_0_10 kz_0_11 kz_0_12 kz_0_13 kz_0_14 ex2
  have nf3 : fc_1 PRD (23, [3, 34], [-1, 1, -1]) ws (vs ++ [Value.int x]) := by
    refine ⟨nf_inA hl rfl, sgq_193 ?_⟩
    · show 1 * v_iv (n_v (vs ++ [Value.int x]) 3) + ((-1) * v_iv (n_v (vs ++ [Value.int x]) 34) + 0) ≤ (-1)
      simp only [e_3, e_34]
      exact vc_Mo_of_at_s5002_26_3 (v_iv (n_v vs 3)) (v_iv (n_v vs 25)) (v_iv (n_v vs 31)) (v_iv (n_v vs 32)) (v_iv (n_v vs 33)) (w_fi ws (n_v vs 0) 12) (w_fi ws (n_v vs 0) 8) (w_ei ws (w_ar ws (n_v vs 0) 1)) (w_fi ws (n_v vs 0) 15) (w_fi ws (n_v vs 0) 11) (w_fi ws (n_v vs 0) 9) (v_iv (Value.int x)) k3 k25 k31 k32 k33 g6 f29 f31 f32 hK_0_1 kz_0_8 kz_0_9 kz_0_11 kz_0_12 kz_0_15
  have nf4 : fc_1 PRD (23, [11, 34], [-2001, -1, -1]) ws (vs ++ [Value.int x]) := by
    refine ⟨nf_inA hl rfl, sgq_2011 ?_⟩
    · show (-1) * v_iv (n_v (vs ++ [Value.int x]) 11) + ((-1) * v_iv (n_v (vs ++ [Value.int x]) 34) + 0) ≤ (-2001)
      simp only [e_11, e_34]
      exact vc_Mo_of_at_s5002_26_4 (v_iv (n_v vs 11)) (v_iv (n_v vs 25)) (v_iv (n_v vs 31)) (v_iv (n_v vs 32)) (v_iv (n_v vs 33)) (w_fi ws (n_v vs 0) 12) (w_fi ws (n_v vs 0) 8) (w_ei ws (w_ar ws (n_v vs 0) 1)) (w_fi ws (n_v vs 0) 15) (w_fi ws (n_v vs 0) 11) (w_fi ws (n_v vs 0) 9) (v_iv (Value.int x)) k11 k25 k31 k32 k33 g6 f29 f31 f32 hK_0_1 kz_0_8 kz_0_9 kz_0_11 kz_0_12 kz_0_15
  have nf5 : fc_1 PRD (20, [7, 4, 28, 5, 6, 34], [60, 3, 2, 986, 10, 8, 5, 1, 2]) ws (vs ++ [Value.int x]) := by
    refine ⟨nf_inA hl rfl, sgq_2012 ?_⟩
    · show zU12s (w_fi ws (n_v (vs ++ [Value.int x]) 7) 10) (w_fi ws (n_v (vs ++ [Value.int x]) 7) 8) (w_fi ws (n_v (vs ++ [Value.int x]) 7) 5) (w_ei ws (w_ar ws (n_v (vs ++ [Value.int x]) 7) 1)) (w_ei ws (w_ar ws (n_v (vs ++ [Value.int x]) 7) 2)) (v_iv (n_v (vs ++ [Value.int x]) 4)) (v_iv (n_v (vs ++ [Value.int x]) 28)) (v_iv (n_v (vs ++ [Value.int x]) 5)) (v_iv (n_v (vs ++ [Value.int x]) 6)) (v_iv (n_v (vs ++ [Value.int x]) 34))
      simp only [e_4, e_5, e_6, e_7, e_28, e_34, q7]
      exact vc_Mo_of_at_s5002_26_5 (v_iv (n_v vs 4)) (v_iv (n_v vs 5)) (v_iv (n_v vs 6)) (v_iv (n_v vs 15)) (v_iv (n_v vs 17)) (v_iv (n_v vs 18)) (v_iv (n_v vs 19)) (v_iv (n_v vs 20)) (v_iv (n_v vs 22)) (v_iv (n_v vs 25)) (v_iv (n_v vs 28)) (v_iv (n_v vs 33)) (w_fi ws (n_v vs 0) 13) (w_fi ws (n_v vs 0) 12) (w_fi ws (n_v vs 0) 14) (w_fi ws (n_v vs 0) 8) (w_ei ws (w_ar ws (n_v vs 0) 1)) (w_fi ws (n_v vs 0) 10) (w_fi ws (n_v vs 0) 11) (v_iv (Value.int x)) (w_ei ws (w_ar ws (n_v vs 0) 2)) (w_fi ws (n_v vs 0) 5) k4 k5 k6 k22 k25 k28 k33 g0 g1 g4 g6 f31 kz_0_8 kz_0_10 kz_0_11 kz_0_12 kz_0_13 kz_0_14 ex2
  exact ⟨(fun _ h => (by cases h)), [Value.int x], ag_one hx, List.forall_mem_cons.mpr ⟨⟨show (20 : Nat) < 100 from by decide, nf0⟩, List.forall_mem_cons.mpr ⟨⟨show (20 : Nat) < 100 from by decide, nf1⟩, List.forall_mem_cons.mpr ⟨⟨show (20 : Nat) < 100 from by decide, nf2⟩, List.forall_mem_cons.mpr ⟨⟨show (23 : Nat) < 100 from by decide, nf3⟩, List.forall_mem_cons.mpr ⟨⟨show (23 : Nat) < 100 from by decide, nf4⟩, List.forall_mem_cons.mpr ⟨⟨show (20 : Nat) < 100 from by decide, nf5⟩, (fun _ h => (by cases h))⟩⟩⟩⟩⟩⟩, (fun _ h => (by cases h))⟩
set_option maxHeartbeats 4000000 in
theorem vc_Mo_of_at_s5002_27_0 (x25 : Int) (x31 : Int) (x32 : Int) (fault_0 : Int) (tape_0 : Int → Int) (faultPlace_0 : Int) (from_0 : Int) (pos_0 : Int) (kind_0 : Int) (k25 : 0 ≤ x25 ∧ x25 ≤ 2000) (k31 : 5 ≤ x31 ∧ x31 ≤ 5) (k32 : 0 ≤ x32 ∧ x32 ≤ 5) (f28 : ((1 ≤ x32) ∧ (fault_0 = x32)) ∨ ((x32 = 0) ∧ ((fault_0 = x31) ∧ (faultPlace_0 = x25)))) (f29 : 1 * from_0 + ((-1) * pos_0 + 0) ≤ 0) (f30 : ((kind_0 = 1) → (pos_0 ≤ (from_0 + 8))) ∧ ((kind_0 = 0) ∨ ((from_0 + 1) ≤ pos_0))) (hK_0_1 : ∀ j : Int, 0 ≤ j → j < 2000 → (-128) ≤ tape_0 j ∧ tape_0 j ≤ 127) (kz_0_8 : 0 ≤ fault_0 ∧ fault_0 ≤ 5) (kz_0_9 : 0 ≤ faultPlace_0 ∧ faultPlace_0 ≤ 2000) (kz_0_11 : 0 ≤ pos_0 ∧ pos_0 ≤ 2000) (kz_0_12 : 0 ≤ kind_0 ∧ kind_0 ≤ 4) (kz_0_15 : 0 ≤ from_0 ∧ from_0 ≤ 2000) : 1 * from_0 + ((-1) * pos_0 + 0) ≤ 0 := by
  first | with_reducible assumption | ((have f30_c0 := f30.1); (have f30_c1 := f30.2); (try and_intros) <;> first | with_reducible assumption | (clear f28 f30_c0 f30_c1 f30 hK_0_1; omega)) | ((have f30_c0 := f30.1); (have f30_c1 := f30.2); (try and_intros) <;> first | with_reducible assumption | (clear f30_c0 f30_c1 f30 hK_0_1; omega)) | omega
set_option maxHeartbeats 4000000 in
theorem vc_Mo_of_at_s5002_27_1 (x25 : Int) (x31 : Int) (x32 : Int) (fault_0 : Int) (tape_0 : Int → Int) (faultPlace_0 : Int) (from_0 : Int) (pos_0 : Int) (kind_0 : Int) (k25 : 0 ≤ x25 ∧ x25 ≤ 2000) (k31 : 5 ≤ x31 ∧ x31 ≤ 5) (k32 : 0 ≤ x32 ∧ x32 ≤ 5) (f28 : ((1 ≤ x32) ∧ (fault_0 = x32)) ∨ ((x32 = 0) ∧ ((fault_0 = x31) ∧ (faultPlace_0 = x25)))) (f30 : ((kind_0 = 1) → (pos_0 ≤ (from_0 + 8))) ∧ ((kind_0 = 0) ∨ ((from_0 + 1) ≤ pos_0))) (hK_0_1 : ∀ j : Int, 0 ≤ j → j < 2000 → (-128) ≤ tape_0 j ∧ tape_0 j ≤ 127) (kz_0_8 : 0 ≤ fault_0 ∧ fault_0 ≤ 5) (kz_0_9 : 0 ≤ faultPlace_0 ∧ faultPlace_0 ≤ 2000) (kz_0_11 : 0 ≤ pos_0 ∧ pos_0 ≤ 2000) (kz_0_12 : 0 ≤ kind_0 ∧ kind_0 ≤ 4) (kz_0_15 : 0 ≤ from_0 ∧ from_0 ≤ 2000) : ((kind_0 = 1) → (pos_0 ≤ (from_0 + 8))) ∧ ((kind_0 = 0) ∨ ((from_0 + 1) ≤ pos_0)) := by
  first | with_reducible assumption | ((have f30_c0 := f30.1); (have f30_c1 := f30.2); (try and_intros) <;> first | with_reducible assumption | (clear f28 f30_c0 f30_c1 f30 hK_0_1; omega)) | ((have f30_c0 := f30.1); (have f30_c1 := f30.2); (try and_intros) <;> first | with_reducible assumption | (clear f30_c0 f30_c1 f30 hK_0_1; omega)) | omega
set_option maxHeartbeats 4000000 in
theorem vc_Mo_of_at_s5002_27_2 (x3 : Int) (x25 : Int) (x31 : Int) (x32 : Int) (x33 : Int) (fault_0 : Int) (tape_0 : Int → Int) (faultPlace_0 : Int) (from_0 : Int) (pos_0 : Int) (kind_0 : Int) (k3 : 0 ≤ x3 ∧ x3 ≤ 2000) (k25 : 0 ≤ x25 ∧ x25 ≤ 2000) (k31 : 5 ≤ x31 ∧ x31 ≤ 5) (k32 : 0 ≤ x32 ∧ x32 ≤ 5) (k33 : 0 ≤ x33 ∧ x33 ≤ 0) (g0 : x33 = fault_0) (f27 : (-1) * fault_0 + 0 ≤ (-1)) (f28 : ((1 ≤ x32) ∧ (fault_0 = x32)) ∨ ((x32 = 0) ∧ ((fault_0 = x31) ∧ (faultPlace_0 = x25)))) (f30 : ((kind_0 = 1) → (pos_0 ≤ (from_0 + 8))) ∧ ((kind_0 = 0) ∨ ((from_0 + 1) ≤ pos_0))) (hK_0_1 : ∀ j : Int, 0 ≤ j → j < 2000 → (-128) ≤ tape_0 j ∧ tape_0 j ≤ 127) (kz_0_8 : 0 ≤ fault_0 ∧ fault_0 ≤ 5) (kz_0_9 : 0 ≤ faultPlace_0 ∧ faultPlace_0 ≤ 2000) (kz_0_11 : 0 ≤ pos_0 ∧ pos_0 ≤ 2000) (kz_0_12 : 0 ≤ kind_0 ∧ kind_0 ≤ 4) (kz_0_15 : 0 ≤ from_0 ∧ from_0 ≤ 2000) : 1 * x3 + ((-1) * pos_0 + 0) ≤ (-1) := by
  first | with_reducible assumption | ((have f30_c0 := f30.1); (have f30_c1 := f30.2); (try and_intros) <;> first | with_reducible assumption | (clear f28 f30_c0 f30_c1 f30 hK_0_1; omega)) | ((have f30_c0 := f30.1); (have f30_c1 := f30.2); (try and_intros) <;> first | with_reducible assumption | (clear f30_c0 f30_c1 f30 hK_0_1; omega)) | omega
set_option maxHeartbeats 4000000 in
theorem vc_Mo_of_at_s5002_27_3 (x2 : Int) (x25 : Int) (x28 : Int) (x31 : Int) (x32 : Int) (fault_0 : Int) (tape_0 : Int → Int) (faultPlace_0 : Int) (from_0 : Int) (pos_0 : Int) (kind_0 : Int) (k2 : 99 ≤ x2 ∧ x2 ≤ 99) (k25 : 0 ≤ x25 ∧ x25 ≤ 2000) (k28 : (-49) ≤ x28 ∧ x28 ≤ 0) (k31 : 5 ≤ x31 ∧ x31 ≤ 5) (k32 : 0 ≤ x32 ∧ x32 ≤ 5) (f28 : ((1 ≤ x32) ∧ (fault_0 = x32)) ∨ ((x32 = 0) ∧ ((fault_0 = x31) ∧ (faultPlace_0 = x25)))) (f30 : ((kind_0 = 1) → (pos_0 ≤ (from_0 + 8))) ∧ ((kind_0 = 0) ∨ ((from_0 + 1) ≤ pos_0))) (f36 : 1 * x28 + ((-1) * x2 + 0) ≤ 0) (hK_0_1 : ∀ j : Int, 0 ≤ j → j < 2000 → (-128) ≤ tape_0 j ∧ tape_0 j ≤ 127) (kz_0_8 : 0 ≤ fault_0 ∧ fault_0 ≤ 5) (kz_0_9 : 0 ≤ faultPlace_0 ∧ faultPlace_0 ≤ 2000) (kz_0_11 : 0 ≤ pos_0 ∧ pos_0 ≤ 2000) (kz_0_12 : 0 ≤ kind_0 ∧ kind_0 ≤ 4) (kz_0_15 : 0 ≤ from_0 ∧ from_0 ≤ 2000) : 1 * x28 + ((-1) * x2 + 0) ≤ 0 := by
  first | with_reducible assumption | ((have f30_c0 := f30.1); (have f30_c1 := f30.2); (try and_intros) <;> first | with_reducible assumption | (clear f28 f30_c0 f30_c1 f30 hK_0_1; omega)) | ((have f30_c0 := f30.1); (have f30_c1 := f30.2); (try and_intros) <;> first | with_reducible assumption | (clear f30_c0 f30_c1 f30 hK_0_1; omega)) | omega
set_option maxHeartbeats 4000000 in
theorem vc_Mo_of_at_s5002_27_4 (x25 : Int) (x28 : Int) (x31 : Int) (x32 : Int) (fault_0 : Int) (tape_0 : Int → Int) (faultPlace_0 : Int) (from_0 : Int) (pos_0 : Int) (kind_0 : Int) (k25 : 0 ≤ x25 ∧ x25 ≤ 2000) (k28 : (-49) ≤ x28 ∧ x28 ≤ 0) (k31 : 5 ≤ x31 ∧ x31 ≤ 5) (k32 : 0 ≤ x32 ∧ x32 ≤ 5) (f28 : ((1 ≤ x32) ∧ (fault_0 = x32)) ∨ ((x32 = 0) ∧ ((fault_0 = x31) ∧ (faultPlace_0 = x25)))) (f30 : ((kind_0 = 1) → (pos_0 ≤ (from_0 + 8))) ∧ ((kind_0 = 0) ∨ ((from_0 + 1) ≤ pos_0))) (f37 : (-1) * x28 + 0 ≤ 0) (hK_0_1 : ∀ j : Int, 0 ≤ j → j < 2000 → (-128) ≤ tape_0 j ∧ tape_0 j ≤ 127) (kz_0_8 : 0 ≤ fault_0 ∧ fault_0 ≤ 5) (kz_0_9 : 0 ≤ faultPlace_0 ∧ faultPlace_0 ≤ 2000) (kz_0_11 : 0 ≤ pos_0 ∧ pos_0 ≤ 2000) (kz_0_12 : 0 ≤ kind_0 ∧ kind_0 ≤ 4) (kz_0_15 : 0 ≤ from_0 ∧ from_0 ≤ 2000) : (-1) * x28 + 0 ≤ 0 := by
  first | with_reducible assumption | ((have f30_c0 := f30.1); (have f30_c1 := f30.2); (try and_intros) <;> first | with_reducible assumption | (clear f28 f30_c0 f30_c1 f30 hK_0_1; omega)) | ((have f30_c0 := f30.1); (have f30_c1 := f30.2); (try and_intros) <;> first | with_reducible assumption | (clear f30_c0 f30_c1 f30 hK_0_1; omega)) | omega
set_option maxHeartbeats 4000000 in
theorem vc_Mo_of_at_s5002_27_5 (x4 : Int) (x25 : Int) (x31 : Int) (x32 : Int) (fault_0 : Int) (tape_0 : Int → Int) (faultPlace_0 : Int) (from_0 : Int) (pos_0 : Int) (kind_0 : Int) (k4 : (-1) ≤ x4 ∧ x4 ≤ 48) (k25 : 0 ≤ x25 ∧ x25 ≤ 2000) (k31 : 5 ≤ x31 ∧ x31 ≤ 5) (k32 : 0 ≤ x32 ∧ x32 ≤ 5) (f28 : ((1 ≤ x32) ∧ (fault_0 = x32)) ∨ ((x32 = 0) ∧ ((fault_0 = x31) ∧ (faultPlace_0 = x25)))) (f30 : ((kind_0 = 1) → (pos_0 ≤ (from_0 + 8))) ∧ ((kind_0 = 0) ∨ ((from_0 + 1) ≤ pos_0))) (f112 : (-1) * x4 + 0 ≤ 0) (hK_0_1 : ∀ j : Int, 0 ≤ j → j < 2000 → (-128) ≤ tape_0 j ∧ tape_0 j ≤ 127) (kz_0_8 : 0 ≤ fault_0 ∧ fault_0 ≤ 5) (kz_0_9 : 0 ≤ faultPlace_0 ∧ faultPlace_0 ≤ 2000) (kz_0_11 : 0 ≤ pos_0 ∧ pos_0 ≤ 2000) (kz_0_12 : 0 ≤ kind_0 ∧ kind_0 ≤ 4) (kz_0_15 : 0 ≤ from_0 ∧ from_0 ≤ 2000) : (-1) * x4 + 0 ≤ 0 := by
  first | with_reducible assumption | ((have f30_c0 := f30.1); (have f30_c1 := f30.2); (try and_intros) <;> first | with_reducible assumption | (clear f28 f30_c0 f30_c1 f30 hK_0_1; omega)) | ((have f30_c0 := f30.1); (have f30_c1 := f30.2); (try and_intros) <;> first | with_reducible assumption | (clear f30_c0 f30_c1 f30 hK_0_1; omega)) | omega
set_option maxHeartbeats 4000000 in
theorem vc_Mo_of_at_s5002_27_6 (x25 : Int) (x31 : Int) (x32 : Int) (x33 : Int) (fault_0 : Int) (tape_0 : Int → Int) (faultPlace_0 : Int) (from_0 : Int) (pos_0 : Int) (kind_0 : Int) (gx : Int) (k25 : 0 ≤ x25 ∧ x25 ≤ 2000) (k31 : 5 ≤ x31 ∧ x31 ≤ 5) (k32 : 0 ≤ x32 ∧ x32 ≤ 5) (k33 : 0 ≤ x33 ∧ x33 ≤ 0) (g0 : x33 = fault_0) (f27 : (-1) * fault_0 + 0 ≤ (-1)) (f28 : ((1 ≤ x32) ∧ (fault_0 = x32)) ∨ ((x32 = 0) ∧ ((fault_0 = x31) ∧ (faultPlace_0 = x25)))) (f30 : ((kind_0 = 1) → (pos_0 ≤ (from_0 + 8))) ∧ ((kind_0 = 0) ∨ ((from_0 + 1) ≤ pos_0))) (hK_0_1 : ∀ j : Int, 0 ≤ j → j < 2000 → (-128) ≤ tape_0 j ∧ tape_0 j ≤ 127) (kz_0_8 : 0 ≤ fault_0 ∧ fault_0 ≤ 5) (kz_0_9 : 0 ≤ faultPlace_0 ∧ faultPlace_0 ≤ 2000) (kz_0_11 : 0 ≤ pos_0 ∧ pos_0 ≤ 2000) (kz_0_12 : 0 ≤ kind_0 ∧ kind_0 ≤ 4) (kz_0_15 : 0 ≤ from_0 ∧ from_0 ≤ 2000) : (-1) * gx + ((-1) * pos_0 + 0) ≤ (-2001) := by
  first | with_reducible assumption | ((have f30_c0 := f30.1); (have f30_c1 := f30.2); (try and_intros) <;> first | with_reducible assumption | (clear f28 f30_c0 f30_c1 f30 hK_0_1; omega)) | ((have f30_c0 := f30.1); (have f30_c1 := f30.2); (try and_intros) <;> first | with_reducible assumption | (clear f30_c0 f30_c1 f30 hK_0_1; omega)) | omega
set_option maxHeartbeats 4000000 in
theorem vc_Mo_of_at_s5002_27_7 (x4 : Int) (x5 : Int) (x6 : Int) (x15 : Int) (x17 : Int) (x18 : Int) (x19 : Int) (x20 : Int) (x28 : Int) (x33 : Int) (x34 : Int) (fault_0 : Int) (tape_0 : Int → Int) (all_0 : Int → Int) (limit_0 : Int) (r_0 : Int) (from_0 : Int) (pos_0 : Int) (kind_0 : Int) (place_0 : Int) (value_0 : Int) (k4 : (-1) ≤ x4 ∧ x4 ≤ 48) (k5 : 0 ≤ x5 ∧ x5 ≤ 7) (k6 : 0 ≤ x6 ∧ x6 ≤ 4) (k28 : (-49) ≤ x28 ∧ x28 ≤ 0) (k33 : 0 ≤ x33 ∧ x33 ≤ 0) (k34 : 0 ≤ x34 ∧ x34 ≤ 2000) (g0 : x33 = fault_0) (f3 : zU12s (limit_0) (fault_0) (r_0) (tape_0) (all_0) (x4) (x28) (x5) (x6) (x34)) (f27 : (-1) * fault_0 + 0 ≤ (-1)) (f32 : TKR (limit_0) (pos_0) (kind_0) (place_0) (value_0) (from_0) (tape_0) (x34)) (kz_0_8 : 0 ≤ fault_0 ∧ fault_0 ≤ 5) (kz_0_10 : 0 ≤ limit_0 ∧ limit_0 ≤ 2000) (kz_0_11 : 0 ≤ pos_0 ∧ pos_0 ≤ 2000) (kz_0_12 : 0 ≤ kind_0 ∧ kind_0 ≤ 4) (kz_0_13 : 0 ≤ place_0 ∧ place_0 ≤ 2000) (kz_0_14 : (-49) ≤ value_0 ∧ value_0 ≤ 1048575) (kz_0_15 : 0 ≤ from_0 ∧ from_0 ≤ 2000) : zO12s (limit_0) (pos_0) (kind_0) (place_0) (value_0) (from_0) (fault_0) (r_0) (tape_0) (all_0) (x4) (x28) (x5) (x6) := by
  first | (have el_x17 : x17 = x15 := by omega); subst el_x17 | skip
  first | (have el_x18 : x18 = x4 := by omega); subst el_x18 | skip
  first | (have el_x19 : x19 = x5 := by omega); subst el_x19 | skip
  first | (have el_x20 : x20 = x6 := by omega); subst el_x20 | skip
  first | subst g0 | skip
  first
    | exact of_12_s ‹zU12s _ _ _ _ _ _ _ _ _ _› ‹TKR _ _ _ _ _ _ _ _›
    | (exfalso; omega)
def o_Mo_of_at_s5002_27 : or_T := (139, 35, [(0, (2, 0, 0, [165])), (2, (0, 99, 99, [])), (3, (0, 0, 2000, [])), (4, (0, -1, 48, [])), (5, (0, 0, 7, [])), (6, (0, 0, 4, [])), (7, (2, 0, 0, [165])), (9, (0, 99, 99, [])), (10, (0, -49, 0, [])), (11, (0, 0, 2000, [])), (15, (0, 0, 2000, [])), (17, (0, 0, 2000, [])), (18, (0, -1, 48, [])), (19, (0, 0, 7, [])), (20, (0, 0, 4, [])), (24, (0, 1, 1, [])), (25, (0, 0, 2000, [])), (26, (0, 0, 5, [])), (28, (0, -49, 0, [])), (31, (0, 5, 5, [])), (32, (0, 0, 5, [])), (33, (0, 0, 0, [])), (34, (0, 0, 2000, []))], [(9, [33, 7], [8]), (23, [3, 34], [-1, 1, -1]), (23, [11, 34], [-2001, -1, -1]), (20, [7, 4, 28, 5, 6, 34], [60, 3, 2, 986, 10, 8, 5, 1, 2]), (23, [28, 9], [0, 1, -1]), (23, [28], [0, -1]), (20, [7, 31, 25], [60, 1, 1, 1026, 10, 1]), (20, [32], [61, 0, 1029]), (20, [7, 24, 25], [60, 1, 1, 1026, 10, 1]), (20, [26], [61, 0, 1029]), (23, [17, 15], [0, 1, -1]), (23, [17, 15], [0, -1, 1]), (23, [18, 4], [0, 1, -1]), (23, [18, 4], [0, -1, 1]), (23, [19, 5], [0, 1, -1]), (23, [19, 5], [0, -1, 1]), (23, [20, 6], [0, 1, -1]), (23, [20, 6], [0, -1, 1]), (23, [3, 17], [-1, 1, -1]), (23, [11, 17], [-2000, -1, -1]), (23, [3, 15], [-1, 1, -1]), (23, [11, 15], [-2000, -1, -1]), (23, [10, 9], [0, 1, -1]), (23, [10], [0, -1]), (23, [4], [0, -1]), (24, [0, 7], []), (24, [2, 9], []), (20, [7], [30, -1, -1, 1, 8]), (20, [32, 7, 31, 25], [50, 2, 0, 1008, 1009, 3, 15, 2, 6, 0, 2, 0, 1, 1, 0, 1, 3, 2, 1, 8, 1, 0, 2, 6, 1, 2, 1, 0, 0, 0, 2, 7, 1, 3, 2, 1, 8, 1, 2, 1, 3, 2, 1, 9, 1, 3]), (20, [7, 7], [30, 0, 1, 1, 15, -1, 1, 11]), (20, [7], [50, 3, 0, 12, 11, 15, 2, 21, 4, 7, 1, 3, 2, 0, 12, 0, 1, 0, 3, 2, 0, 11, 4, 3, 2, 0, 15, 0, 8, 3, 7, 1, 3, 2, 0, 12, 0, 0, 0, 7, 4, 3, 2, 0, 15, 0, 1, 2, 0, 11]), (20, [34, 7], [30, 0, 1, 0, 0, -1, 1, 15]), (20, [7, 34], [60, 6, 1, 948, 10, 11, 12, 13, 14, 15, 1]), (102, [34], [0, 165011, 165012, 165013, 165014, 165015]), (23, [3, 34], [-1, 1, -1]), (23, [11, 34], [-2001, -1, -1]), (23, [28, 9], [0, 1, -1]), (23, [28], [0, -1]), (8, [33], [5]), (23, [17, 15], [0, 1, -1]), (23, [17, 15], [0, -1, 1]), (23, [18, 4], [0, 1, -1]), (23, [18, 4], [0, -1, 1]), (23, [19, 5], [0, 1, -1]), (23, [19, 5], [0, -1, 1]), (23, [20, 6], [0, 1, -1]), (23, [20, 6], [0, -1, 1]), (23, [3, 17], [-1, 1, -1]), (23, [11, 17], [-2000, -1, -1]), (23, [3, 15], [-1, 1, -1]), (23, [11, 15], [-2000, -1, -1]), (23, [10, 9], [0, 1, -1]), (23, [10], [0, -1]), (23, [4], [0, -1]), (102, [32], [0, 165008, 165009]), (23, [17, 15], [0, 1, -1]), (23, [17, 15], [0, -1, 1]), (23, [18, 4], [0, 1, -1]), (23, [18, 4], [0, -1, 1]), (23, [19, 5], [0, 1, -1]), (23, [19, 5], [0, -1, 1]), (23, [20, 6], [0, 1, -1]), (23, [20, 6], [0, -1, 1]), (23, [3, 17], [-1, 1, -1]), (23, [11, 17], [-2000, -1, -1]), (23, [3, 15], [-1, 1, -1]), (23, [11, 15], [-2000, -1, -1]), (23, [10, 9], [0, 1, -1]), (23, [10], [0, -1]), (23, [4], [0, -1]), (102, [26], [0, 165008, 165009]), (23, [17, 15], [0, 1, -1]), (23, [17, 15], [0, -1, 1]), (23, [18, 4], [0, 1, -1]), (23, [18, 4], [0, -1, 1]), (23, [19, 5], [0, 1, -1]), (23, [19, 5], [0, -1, 1]), (23, [20, 6], [0, 1, -1]), (23, [20, 6], [0, -1, 1]), (23, [3, 17], [-1, 1, -1]), (23, [11, 17], [-2000, -1, -1]), (23, [3, 15], [-1, 1, -1]), (23, [11, 15], [-2000, -1, -1]), (23, [10, 9], [0, 1, -1]), (23, [10], [0, -1]), (23, [4], [0, -1]), (102, [20], [0, 165008, 165009, 165011, 165012, 165013, 165014, 165015]), (23, [17, 15], [0, 1, -1]), (23, [17, 15], [0, -1, 1]), (23, [18, 4], [0, 1, -1]), (23, [18, 4], [0, -1, 1]), (23, [19, 5], [0, 1, -1]), (23, [19, 5], [0, -1, 1]), (23, [20, 6], [0, 1, -1]), (23, [20, 6], [0, -1, 1]), (23, [3, 17], [-1, 1, -1]), (23, [11, 17], [-2000, -1, -1]), (23, [3, 15], [-1, 1, -1]), (23, [11, 15], [-2000, -1, -1]), (23, [10, 9], [0, 1, -1]), (23, [10], [0, -1]), (23, [4], [0, -1]), (102, [15], [0, 165011, 165012, 165013, 165014, 165015]), (23, [3, 15], [-1, 1, -1]), (23, [11, 15], [-2000, -1, -1]), (8, [10], [5]), (23, [10, 9], [0, 1, -1]), (23, [10], [0, -1]), (23, [4], [0, -1]), (102, [13], [0]), (23, [10, 9], [0, 1, -1]), (23, [10], [0, -1]), (23, [4], [0, -1])], [], [(0, 0, 2000, [])], [(20, [7, 7], [30, 0, 1, 1, 15, -1, 1, 11]), (20, [7], [50, 3, 0, 12, 11, 15, 2, 21, 4, 7, 1, 3, 2, 0, 12, 0, 1, 0, 3, 2, 0, 11, 4, 3, 2, 0, 15, 0, 8, 3, 7, 1, 3, 2, 0, 12, 0, 0, 0, 7, 4, 3, 2, 0, 15, 0, 1, 2, 0, 11]), (20, [3, 7], [30, -1, 1, 0, 0, -1, 1, 11]), (23, [28, 9], [0, 1, -1]), (23, [28], [0, -1]), (23, [4], [0, -1]), (20, [35, 7], [30, -2001, -1, 0, 0, -1, 1, 11]), (20, [7, 4, 28, 5, 6], [60, 8, 2, 999, 10, 11, 12, 13, 14, 15, 8, 5, 1, 2]), (24, [0, 7], []), (24, [2, 9], [])], [(35, 11, 0, 0)], [])
theorem oo_Mo_of_at_s5002_27 {kA : Nat → ClassId} : or_ok PRD kA GG o_Mo_of_at_s5002_27 := by
  refine or_mk fun A ta ws vs hD hth hl => ?_
  intro t0 r0 t2 k2 t3 k3 t4 k4 t5 k5 t6 k6 t7 r7 t9 k9 t10 k10 t11 k11 t15 k15 t17 k17 t18 k18 t19 k19 t20 k20 t24 k24 t25 k25 t26 k26 t28 k28 t31 k31 t32 k32 t33 k33 t34 k34 f0 f1 f2 f3 f4 f5 f6 f7 f8 f9 f10 f11 f12 f13 f14 f15 f16 f17 f18 f19 f20 f21 f22 f23 f24 f25 f26 f27 f28 f29 f30 f31 f32 ta1 w1 le1 s1 f34 f35 f36 f37 f38 f39 f40 f41 f42 f43 f44 f45 f46 f47 f48 f49 f50 f51 f52 f53 ta2 w2 le2 s2 f55 f56 f57 f58 f59 f60 f61 f62 f63 f64 f65 f66 f67 f68 f69 ta3 w3 le3 s3 f71 f72 f73 f74 f75 f76 f77 f78 f79 f80 f81 f82 f83 f84 f85 ta4 w4 le4 s4 f87 f88 f89 f90 f91 f92 f93 f94 f95 f96 f97 f98 f99 f100 f101 ta5 w5 le5 s5 f103 f104 f105 f106 f107 f108 ta6 w6 le6 s6 f110 f111 f112
  replace f0 := shm_293 f0
  replace f1 := shm_193 f1
  replace f2 := shm_2011 f2
  replace f3 := shm_2012 f3
  replace f4 := shm_7 f4
  replace f5 := shm_1043 f5
  replace f6 := shm_1724 f6
  replace f7 := shm_1725 f7
  replace f8 := shm_1724 f8
  replace f9 := shm_1725 f9
  replace f10 := shm_7 f10
  replace f11 := shm_22 f11
  replace f12 := shm_7 f12
  replace f13 := shm_22 f13
  replace f14 := shm_7 f14
  replace f15 := shm_22 f15
  replace f16 := shm_7 f16
  replace f17 := shm_22 f17
  replace f18 := shm_193 f18
  replace f19 := shm_2009 f19
  replace f20 := shm_193 f20
  replace f21 := shm_2009 f21
  replace f22 := shm_7 f22
  replace f23 := shm_1043 f23
  replace f24 := shm_1043 f24
  replace f25 := shm_5 f25
  replace f26 := shm_5 f26
  replace f27 := shm_305 f27
  replace f28 := shm_306 f28
  replace f29 := shm_1437 f29
  replace f30 := shm_1438 f30
  replace f31 := shm_1436 f31
  replace f32 := shm_1439 f32
  replace f34 := shm_193 f34
  replace f35 := shm_2011 f35
  replace f36 := shm_7 f36
  replace f37 := shm_1043 f37
  replace f38 := shm_295 f38
  replace f39 := shm_7 f39
  replace f40 := shm_22 f40
  replace f41 := shm_7 f41
  replace f42 := shm_22 f42
  replace f43 := shm_7 f43
  replace f44 := shm_22 f44
  replace f45 := shm_7 f45
  replace f46 := shm_22 f46
  replace f47 := shm_193 f47
  replace f48 := shm_2009 f48
  replace f49 := shm_193 f49
  replace f50 := shm_2009 f50
  replace f51 := shm_7 f51
  replace f52 := shm_1043 f52
  replace f53 := shm_1043 f53
  replace f55 := shm_7 f55
  replace f56 := shm_22 f56
  replace f57 := shm_7 f57
  replace f58 := shm_22 f58
  replace f59 := shm_7 f59
  replace f60 := shm_22 f60
  replace f61 := shm_7 f61
  replace f62 := shm_22 f62
  replace f63 := shm_193 f63
  replace f64 := shm_2009 f64
  replace f65 := shm_193 f65
  replace f66 := shm_2009 f66
  replace f67 := shm_7 f67
  replace f68 := shm_1043 f68
  replace f69 := shm_1043 f69
  replace f71 := shm_7 f71
  replace f72 := shm_22 f72
  replace f73 := shm_7 f73
  replace f74 := shm_22 f74
  replace f75 := shm_7 f75
  replace f76 := shm_22 f76
  replace f77 := shm_7 f77
  replace f78 := shm_22 f78
  replace f79 := shm_193 f79
  replace f80 := shm_2009 f80
  replace f81 := shm_193 f81
  replace f82 := shm_2009 f82
  replace f83 := shm_7 f83
  replace f84 := shm_1043 f84
  replace f85 := shm_1043 f85
  replace f87 := shm_7 f87
  replace f88 := shm_22 f88
  replace f89 := shm_7 f89
  replace f90 := shm_22 f90
  replace f91 := shm_7 f91
  replace f92 := shm_22 f92
  replace f93 := shm_7 f93
  replace f94 := shm_22 f94
  replace f95 := shm_193 f95
  replace f96 := shm_2009 f96
  replace f97 := shm_193 f97
  replace f98 := shm_2009 f98
  replace f99 := shm_7 f99
  replace f100 := shm_1043 f100
  replace f101 := shm_1043 f101
  replace f103 := shm_193 f103
  replace f104 := shm_2009 f104
  replace f105 := shm_295 f105
  replace f106 := shm_7 f106
  replace f107 := shm_1043 f107
  replace f108 := shm_1043 f108
  replace f110 := shm_7 f110
  replace f111 := shm_1043 f111
  replace f112 := shm_1043 f112
  have q7 : n_v vs 7 = n_v vs 0 := f25.symm
  have q9 : n_v vs 9 = n_v vs 2 := f26.symm
  simp only [q7, q9] at f0 f3 f4 f6 f8 f22 f27 f28 f29 f30 f31 f32 f36 f51 f67 f83 f99 f106 f110
  have cr_0_1 := fdq_39 hD hth r0
  have cr_0_2 := fdq_10 hD hth r0
  have g0 : v_iv (n_v vs 33) = w_fi ws (n_v vs 0) 8 := congrArg v_iv f0
  have hK_0_1 := elq_7 hD hth cr_0_1
  have kz_0_8 := fdq_34 hD hth r0
  have kz_0_9 := fdq_44 hD hth r0
  have kz_0_10 := fdq_43 hD hth r0
  have kz_0_11 := fdq_237 hD hth r0
  have kz_0_12 := fdq_187 hD hth r0
  have kz_0_13 := fdq_238 hD hth r0
  have kz_0_14 := fdq_188 hD hth r0
  have kz_0_15 := fdq_239 hD hth r0
  obtain ⟨x, ex, hx⟩ := iv_ex (ta := ta) (lo := 0) (hi := 2000) (z := 0 + (1 * v_iv (n_v vs 11) + 0)) (by omega) (by omega) (by omega) (by omega)
  have ex2 : v_iv (Value.int x) = 0 + (1 * v_iv (n_v vs 11) + 0) := ex
  have ex3 : 0 ≤ v_iv (Value.int x) ∧ v_iv (Value.int x) ≤ 2000 := tv_rng hx
  have e_0 : n_v (vs ++ [Value.int x]) 0 = n_v vs 0 := n_v_old (by rw [hl]; decide)
  have e_2 : n_v (vs ++ [Value.int x]) 2 = n_v vs 2 := n_v_old (by rw [hl]; decide)
  have e_3 : n_v (vs ++ [Value.int x]) 3 = n_v vs 3 := n_v_old (by rw [hl]; decide)
  have e_4 : n_v (vs ++ [Value.int x]) 4 = n_v vs 4 := n_v_old (by rw [hl]; decide)
  have e_5 : n_v (vs ++ [Value.int x]) 5 = n_v vs 5 := n_v_old (by rw [hl]; decide)
  have e_6 : n_v (vs ++ [Value.int x]) 6 = n_v vs 6 := n_v_old (by rw [hl]; decide)
  have e_7 : n_v (vs ++ [Value.int x]) 7 = n_v vs 7 := n_v_old (by rw [hl]; decide)
  have e_9 : n_v (vs ++ [Value.int x]) 9 = n_v vs 9 := n_v_old (by rw [hl]; decide)
  have e_28 : n_v (vs ++ [Value.int x]) 28 = n_v vs 28 := n_v_old (by rw [hl]; decide)
  have e_35 : n_v (vs ++ [Value.int x]) 35 = Value.int x := n_v_new hl
  have nf0 : fc_1 PRD (20, [7, 7], [30, 0, 1, 1, 15, -1, 1, 11]) ws (vs ++ [Value.int x]) := by
    refine ⟨nf_inA hl rfl, sgq_1437 ?_⟩
    · show 1 * w_fi ws (n_v (vs ++ [Value.int x]) 7) 15 + ((-1) * w_fi ws (n_v (vs ++ [Value.int x]) 7) 11 + 0) ≤ 0
      simp only [e_7, q7]
      exact vc_Mo_of_at_s5002_27_0 (v_iv (n_v vs 25)) (v_iv (n_v vs 31)) (v_iv (n_v vs 32)) (w_fi ws (n_v vs 0) 8) (w_ei ws (w_ar ws (n_v vs 0) 1)) (w_fi ws (n_v vs 0) 9) (w_fi ws (n_v vs 0) 15) (w_fi ws (n_v vs 0) 11) (w_fi ws (n_v vs 0) 12) k25 k31 k32 f28 f29 f30 hK_0_1 kz_0_8 kz_0_9 kz_0_11 kz_0_12 kz_0_15
  have nf1 : fc_1 PRD (20, [7], [50, 3, 0, 12, 11, 15, 2, 21, 4, 7, 1, 3, 2, 0, 12, 0, 1, 0, 3, 2, 0, 11, 4, 3, 2, 0, 15, 0, 8, 3, 7, 1, 3, 2, 0, 12, 0, 0, 0, 7, 4, 3, 2, 0, 15, 0, 1, 2, 0, 11]) ws (vs ++ [Value.int x]) := by
    refine ⟨nf_inA hl rfl, sgq_1438 ?_⟩
    · show ((w_fi ws (n_v (vs ++ [Value.int x]) 7) 12 = 1) → (w_fi ws (n_v (vs ++ [Value.int x]) 7) 11 ≤ (w_fi ws (n_v (vs ++ [Value.int x]) 7) 15 + 8))) ∧ ((w_fi ws (n_v (vs ++ [Value.int x]) 7) 12 = 0) ∨ ((w_fi ws (n_v (vs ++ [Value.int x]) 7) 15 + 1) ≤ w_fi ws (n_v (vs ++ [Value.int x]) 7) 11))
      simp only [e_7, q7]
      exact vc_Mo_of_at_s5002_27_1 (v_iv (n_v vs 25)) (v_iv (n_v vs 31)) (v_iv (n_v vs 32)) (w_fi ws (n_v vs 0) 8) (w_ei ws (w_ar ws (n_v vs 0) 1)) (w_fi ws (n_v vs 0) 9) (w_fi ws (n_v vs 0) 15) (w_fi ws (n_v vs 0) 11) (w_fi ws (n_v vs 0) 12) k25 k31 k32 f28 f30 hK_0_1 kz_0_8 kz_0_9 kz_0_11 kz_0_12 kz_0_15
  have nf2 : fc_1 PRD (20, [3, 7], [30, -1, 1, 0, 0, -1, 1, 11]) ws (vs ++ [Value.int x]) := by
    refine ⟨nf_inA hl rfl, sgq_2005 ?_⟩
    · show 1 * v_iv (n_v (vs ++ [Value.int x]) 3) + ((-1) * w_fi ws (n_v (vs ++ [Value.int x]) 7) 11 + 0) ≤ (-1)
      simp only [e_3, e_7, q7]
      exact vc_Mo_of_at_s5002_27_2 (v_iv (n_v vs 3)) (v_iv (n_v vs 25)) (v_iv (n_v vs 31)) (v_iv (n_v vs 32)) (v_iv (n_v vs 33)) (w_fi ws (n_v vs 0) 8) (w_ei ws (w_ar ws (n_v vs 0) 1)) (w_fi ws (n_v vs 0) 9) (w_fi ws (n_v vs 0) 15) (w_fi ws (n_v vs 0) 11) (w_fi ws (n_v vs 0) 12) k3 k25 k31 k32 k33 g0 f27 f28 f30 hK_0_1 kz_0_8 kz_0_9 kz_0_11 kz_0_12 kz_0_15
  have nf3 : fc_1 PRD (23, [28, 9], [0, 1, -1]) ws (vs ++ [Value.int x]) := by
    refine ⟨nf_inA hl rfl, sgq_7 ?_⟩
    · show 1 * v_iv (n_v (vs ++ [Value.int x]) 28) + ((-1) * v_iv (n_v (vs ++ [Value.int x]) 9) + 0) ≤ 0
      simp only [e_9, e_28, q9]
      exact vc_Mo_of_at_s5002_27_3 (v_iv (n_v vs 2)) (v_iv (n_v vs 25)) (v_iv (n_v vs 28)) (v_iv (n_v vs 31)) (v_iv (n_v vs 32)) (w_fi ws (n_v vs 0) 8) (w_ei ws (w_ar ws (n_v vs 0) 1)) (w_fi ws (n_v vs 0) 9) (w_fi ws (n_v vs 0) 15) (w_fi ws (n_v vs 0) 11) (w_fi ws (n_v vs 0) 12) k2 k25 k28 k31 k32 f28 f30 f36 hK_0_1 kz_0_8 kz_0_9 kz_0_11 kz_0_12 kz_0_15
  have nf4 : fc_1 PRD (23, [28], [0, -1]) ws (vs ++ [Value.int x]) := by
    refine ⟨nf_inA hl rfl, sgq_1043 ?_⟩
    · show (-1) * v_iv (n_v (vs ++ [Value.int x]) 28) + 0 ≤ 0
      rw [e_28]
      exact vc_Mo_of_at_s5002_27_4 (v_iv (n_v vs 25)) (v_iv (n_v vs 28)) (v_iv (n_v vs 31)) (v_iv (n_v vs 32)) (w_fi ws (n_v vs 0) 8) (w_ei ws (w_ar ws (n_v vs 0) 1)) (w_fi ws (n_v vs 0) 9) (w_fi ws (n_v vs 0) 15) (w_fi ws (n_v vs 0) 11) (w_fi ws (n_v vs 0) 12) k25 k28 k31 k32 f28 f30 f37 hK_0_1 kz_0_8 kz_0_9 kz_0_11 kz_0_12 kz_0_15
  have nf5 : fc_1 PRD (23, [4], [0, -1]) ws (vs ++ [Value.int x]) := by
    refine ⟨nf_inA hl rfl, sgq_1043 ?_⟩
    · show (-1) * v_iv (n_v (vs ++ [Value.int x]) 4) + 0 ≤ 0
      rw [e_4]
      exact vc_Mo_of_at_s5002_27_5 (v_iv (n_v vs 4)) (v_iv (n_v vs 25)) (v_iv (n_v vs 31)) (v_iv (n_v vs 32)) (w_fi ws (n_v vs 0) 8) (w_ei ws (w_ar ws (n_v vs 0) 1)) (w_fi ws (n_v vs 0) 9) (w_fi ws (n_v vs 0) 15) (w_fi ws (n_v vs 0) 11) (w_fi ws (n_v vs 0) 12) k4 k25 k31 k32 f28 f30 f112 hK_0_1 kz_0_8 kz_0_9 kz_0_11 kz_0_12 kz_0_15
  have nf6 : fc_1 PRD (20, [35, 7], [30, -2001, -1, 0, 0, -1, 1, 11]) ws (vs ++ [Value.int x]) := by
    refine ⟨nf_inA hl rfl, sgq_2013 ?_⟩
    · show (-1) * v_iv (n_v (vs ++ [Value.int x]) 35) + ((-1) * w_fi ws (n_v (vs ++ [Value.int x]) 7) 11 + 0) ≤ (-2001)
      simp only [e_7, e_35, q7]
      exact vc_Mo_of_at_s5002_27_6 (v_iv (n_v vs 25)) (v_iv (n_v vs 31)) (v_iv (n_v vs 32)) (v_iv (n_v vs 33)) (w_fi ws (n_v vs 0) 8) (w_ei ws (w_ar ws (n_v vs 0) 1)) (w_fi ws (n_v vs 0) 9) (w_fi ws (n_v vs 0) 15) (w_fi ws (n_v vs 0) 11) (w_fi ws (n_v vs 0) 12) (v_iv (Value.int x)) k25 k31 k32 k33 g0 f27 f28 f30 hK_0_1 kz_0_8 kz_0_9 kz_0_11 kz_0_12 kz_0_15
  have nf7 : fc_1 PRD (20, [7, 4, 28, 5, 6], [60, 8, 2, 999, 10, 11, 12, 13, 14, 15, 8, 5, 1, 2]) ws (vs ++ [Value.int x]) := by
    refine ⟨nf_inA hl rfl, sgq_2014 ?_⟩
    · show zO12s (w_fi ws (n_v (vs ++ [Value.int x]) 7) 10) (w_fi ws (n_v (vs ++ [Value.int x]) 7) 11) (w_fi ws (n_v (vs ++ [Value.int x]) 7) 12) (w_fi ws (n_v (vs ++ [Value.int x]) 7) 13) (w_fi ws (n_v (vs ++ [Value.int x]) 7) 14) (w_fi ws (n_v (vs ++ [Value.int x]) 7) 15) (w_fi ws (n_v (vs ++ [Value.int x]) 7) 8) (w_fi ws (n_v (vs ++ [Value.int x]) 7) 5) (w_ei ws (w_ar ws (n_v (vs ++ [Value.int x]) 7) 1)) (w_ei ws (w_ar ws (n_v (vs ++ [Value.int x]) 7) 2)) (v_iv (n_v (vs ++ [Value.int x]) 4)) (v_iv (n_v (vs ++ [Value.int x]) 28)) (v_iv (n_v (vs ++ [Value.int x]) 5)) (v_iv (n_v (vs ++ [Value.int x]) 6))
      simp only [e_4, e_5, e_6, e_7, e_28, q7]
      exact vc_Mo_of_at_s5002_27_7 (v_iv (n_v vs 4)) (v_iv (n_v vs 5)) (v_iv (n_v vs 6)) (v_iv (n_v vs 15)) (v_iv (n_v vs 17)) (v_iv (n_v vs 18)) (v_iv (n_v vs 19)) (v_iv (n_v vs 20)) (v_iv (n_v vs 28)) (v_iv (n_v vs 33)) (v_iv (n_v vs 34)) (w_fi ws (n_v vs 0) 8) (w_ei ws (w_ar ws (n_v vs 0) 1)) (w_ei ws (w_ar ws (n_v vs 0) 2)) (w_fi ws (n_v vs 0) 10) (w_fi ws (n_v vs 0) 5) (w_fi ws (n_v vs 0) 15) (w_fi ws (n_v vs 0) 11) (w_fi ws (n_v vs 0) 12) (w_fi ws (n_v vs 0) 13) (w_fi ws (n_v vs 0) 14) k4 k5 k6 k28 k33 k34 g0 f3 f27 f32 kz_0_8 kz_0_10 kz_0_11 kz_0_12 kz_0_13 kz_0_14 kz_0_15
  have nf8 : fc_1 PRD (24, [0, 7], []) ws (vs ++ [Value.int x]) := by
    refine ⟨nf_inA hl rfl, sgq_5 ?_⟩
    · show n_v (vs ++ [Value.int x]) 0 = n_v (vs ++ [Value.int x]) 7
      first | rfl | simp only [e_0, e_7, q7, q9]
  have nf9 : fc_1 PRD (24, [2, 9], []) ws (vs ++ [Value.int x]) := by
    refine ⟨nf_inA hl rfl, sgq_5 ?_⟩
    · show n_v (vs ++ [Value.int x]) 2 = n_v (vs ++ [Value.int x]) 9
      first | rfl | simp only [e_2, e_9, q7, q9]
  obtain ⟨x0, e0, _, _⟩ := tv_int t11 rfl
  have e1 : v_iv (n_v vs 11) = x0.toInt := by rw [e0]; rfl
  have ho : sy_ofs (vs ++ [Value.int x]) (35, 11, 0, 0) := by
    refine ⟨x, x0, by rw [List.getElem?_append_right (by rw [hl]; decide), hl]; rfl, ?_, ?_, ?_⟩
    · rw [List.getElem?_append_left (by rw [hl]; decide)]; exact n_v_some (by rw [hl]; decide) e0
    · show x0.toInt + 0 ≤ x.toInt; omega
    · show x.toInt ≤ x0.toInt + 0; omega
  exact ⟨(fun _ h => (by cases h)), [Value.int x], ag_one hx, List.forall_mem_cons.mpr ⟨⟨show (20 : Nat) < 100 from by decide, nf0⟩, List.forall_mem_cons.mpr ⟨⟨show (20 : Nat) < 100 from by decide, nf1⟩, List.forall_mem_cons.mpr ⟨⟨show (20 : Nat) < 100 from by decide, nf2⟩, List.forall_mem_cons.mpr ⟨⟨show (23 : Nat) < 100 from by decide, nf3⟩, List.forall_mem_cons.mpr ⟨⟨show (23 : Nat) < 100 from by decide, nf4⟩, List.forall_mem_cons.mpr ⟨⟨show (23 : Nat) < 100 from by decide, nf5⟩, List.forall_mem_cons.mpr ⟨⟨show (20 : Nat) < 100 from by decide, nf6⟩, List.forall_mem_cons.mpr ⟨⟨show (20 : Nat) < 100 from by decide, nf7⟩, List.forall_mem_cons.mpr ⟨⟨show (24 : Nat) < 100 from by decide, nf8⟩, List.forall_mem_cons.mpr ⟨⟨show (24 : Nat) < 100 from by decide, nf9⟩, (fun _ h => (by cases h))⟩⟩⟩⟩⟩⟩⟩⟩⟩⟩, List.forall_mem_cons.mpr ⟨ho, (fun _ h => (by cases h))⟩⟩
set_option maxHeartbeats 4000000 in
theorem vc_Mo_of_at_s5002_28_0 (x25 : Int) (x31 : Int) (x32 : Int) (kind_0 : Int) (fault_0 : Int) (tape_0 : Int → Int) (from_0 : Int) (pos_0 : Int) (faultPlace_0 : Int) (k25 : 0 ≤ x25 ∧ x25 ≤ 2000) (k31 : 5 ≤ x31 ∧ x31 ≤ 5) (k32 : 0 ≤ x32 ∧ x32 ≤ 5) (f24 : 1 * from_0 + ((-1) * pos_0 + 0) ≤ 0) (f25 : ((kind_0 = 1) → (pos_0 ≤ (from_0 + 8))) ∧ ((kind_0 = 0) ∨ ((from_0 + 1) ≤ pos_0))) (f28 : ((1 ≤ x32) ∧ (fault_0 = x32)) ∨ ((x32 = 0) ∧ ((fault_0 = x31) ∧ (faultPlace_0 = x25)))) (hK_0_1 : ∀ j : Int, 0 ≤ j → j < 2000 → (-128) ≤ tape_0 j ∧ tape_0 j ≤ 127) (kz_0_8 : 0 ≤ fault_0 ∧ fault_0 ≤ 5) (kz_0_9 : 0 ≤ faultPlace_0 ∧ faultPlace_0 ≤ 2000) (kz_0_11 : 0 ≤ pos_0 ∧ pos_0 ≤ 2000) (kz_0_12 : 0 ≤ kind_0 ∧ kind_0 ≤ 4) (kz_0_15 : 0 ≤ from_0 ∧ from_0 ≤ 2000) : 1 * from_0 + ((-1) * pos_0 + 0) ≤ 0 := by
  first | with_reducible assumption | ((have f25_c0 := f25.1); (have f25_c1 := f25.2); (try and_intros) <;> first | with_reducible assumption | (clear f25_c0 f25_c1 f25 f28 hK_0_1; omega)) | ((have f25_c0 := f25.1); (have f25_c1 := f25.2); (try and_intros) <;> first | with_reducible assumption | (clear f25_c0 f25_c1 f25 hK_0_1; omega)) | omega
set_option maxHeartbeats 4000000 in
theorem vc_Mo_of_at_s5002_28_1 (x25 : Int) (x31 : Int) (x32 : Int) (kind_0 : Int) (fault_0 : Int) (tape_0 : Int → Int) (from_0 : Int) (pos_0 : Int) (faultPlace_0 : Int) (k25 : 0 ≤ x25 ∧ x25 ≤ 2000) (k31 : 5 ≤ x31 ∧ x31 ≤ 5) (k32 : 0 ≤ x32 ∧ x32 ≤ 5) (f25 : ((kind_0 = 1) → (pos_0 ≤ (from_0 + 8))) ∧ ((kind_0 = 0) ∨ ((from_0 + 1) ≤ pos_0))) (f28 : ((1 ≤ x32) ∧ (fault_0 = x32)) ∨ ((x32 = 0) ∧ ((fault_0 = x31) ∧ (faultPlace_0 = x25)))) (hK_0_1 : ∀ j : Int, 0 ≤ j → j < 2000 → (-128) ≤ tape_0 j ∧ tape_0 j ≤ 127) (kz_0_8 : 0 ≤ fault_0 ∧ fault_0 ≤ 5) (kz_0_9 : 0 ≤ faultPlace_0 ∧ faultPlace_0 ≤ 2000) (kz_0_11 : 0 ≤ pos_0 ∧ pos_0 ≤ 2000) (kz_0_12 : 0 ≤ kind_0 ∧ kind_0 ≤ 4) (kz_0_15 : 0 ≤ from_0 ∧ from_0 ≤ 2000) : ((kind_0 = 1) → (pos_0 ≤ (from_0 + 8))) ∧ ((kind_0 = 0) ∨ ((from_0 + 1) ≤ pos_0)) := by
  first | with_reducible assumption | ((have f25_c0 := f25.1); (have f25_c1 := f25.2); (try and_intros) <;> first | with_reducible assumption | (clear f25_c0 f25_c1 f25 f28 hK_0_1; omega)) | ((have f25_c0 := f25.1); (have f25_c1 := f25.2); (try and_intros) <;> first | with_reducible assumption | (clear f25_c0 f25_c1 f25 hK_0_1; omega)) | omega
set_option maxHeartbeats 4000000 in
theorem vc_Mo_of_at_s5002_28_2 (x3 : Int) (x17 : Int) (x25 : Int) (x31 : Int) (x32 : Int) (kind_0 : Int) (fault_0 : Int) (tape_0 : Int → Int) (from_0 : Int) (pos_0 : Int) (faultPlace_0 : Int) (k3 : 0 ≤ x3 ∧ x3 ≤ 2000) (k17 : 0 ≤ x17 ∧ x17 ≤ 2000) (k25 : 0 ≤ x25 ∧ x25 ≤ 2000) (k31 : 5 ≤ x31 ∧ x31 ≤ 5) (k32 : 0 ≤ x32 ∧ x32 ≤ 5) (f17 : 1 * x3 + ((-1) * x17 + 0) ≤ (-1)) (f25 : ((kind_0 = 1) → (pos_0 ≤ (from_0 + 8))) ∧ ((kind_0 = 0) ∨ ((from_0 + 1) ≤ pos_0))) (f26 : 1 * x17 + ((-1) * pos_0 + 0) ≤ 0) (f28 : ((1 ≤ x32) ∧ (fault_0 = x32)) ∨ ((x32 = 0) ∧ ((fault_0 = x31) ∧ (faultPlace_0 = x25)))) (hK_0_1 : ∀ j : Int, 0 ≤ j → j < 2000 → (-128) ≤ tape_0 j ∧ tape_0 j ≤ 127) (kz_0_8 : 0 ≤ fault_0 ∧ fault_0 ≤ 5) (kz_0_9 : 0 ≤ faultPlace_0 ∧ faultPlace_0 ≤ 2000) (kz_0_11 : 0 ≤ pos_0 ∧ pos_0 ≤ 2000) (kz_0_12 : 0 ≤ kind_0 ∧ kind_0 ≤ 4) (kz_0_15 : 0 ≤ from_0 ∧ from_0 ≤ 2000) : 1 * x3 + ((-1) * pos_0 + 0) ≤ 0 := by
  first | with_reducible assumption | ((have f25_c0 := f25.1); (have f25_c1 := f25.2); (try and_intros) <;> first | with_reducible assumption | (clear f25_c0 f25_c1 f25 f28 hK_0_1; omega)) | ((have f25_c0 := f25.1); (have f25_c1 := f25.2); (try and_intros) <;> first | with_reducible assumption | (clear f25_c0 f25_c1 f25 hK_0_1; omega)) | omega
set_option maxHeartbeats 4000000 in
theorem vc_Mo_of_at_s5002_28_3 (x3 : Int) (x25 : Int) (x31 : Int) (x32 : Int) (x33 : Int) (kind_0 : Int) (fault_0 : Int) (tape_0 : Int → Int) (from_0 : Int) (pos_0 : Int) (faultPlace_0 : Int) (k3 : 0 ≤ x3 ∧ x3 ≤ 2000) (k25 : 0 ≤ x25 ∧ x25 ≤ 2000) (k31 : 5 ≤ x31 ∧ x31 ≤ 5) (k32 : 0 ≤ x32 ∧ x32 ≤ 5) (k33 : 1 ≤ x33 ∧ x33 ≤ 5) (g4 : x33 = fault_0) (f25 : ((kind_0 = 1) → (pos_0 ≤ (from_0 + 8))) ∧ ((kind_0 = 0) ∨ ((from_0 + 1) ≤ pos_0))) (f28 : ((1 ≤ x32) ∧ (fault_0 = x32)) ∨ ((x32 = 0) ∧ ((fault_0 = x31) ∧ (faultPlace_0 = x25)))) (hK_0_1 : ∀ j : Int, 0 ≤ j → j < 2000 → (-128) ≤ tape_0 j ∧ tape_0 j ≤ 127) (kz_0_8 : 0 ≤ fault_0 ∧ fault_0 ≤ 5) (kz_0_9 : 0 ≤ faultPlace_0 ∧ faultPlace_0 ≤ 2000) (kz_0_11 : 0 ≤ pos_0 ∧ pos_0 ≤ 2000) (kz_0_12 : 0 ≤ kind_0 ∧ kind_0 ≤ 4) (kz_0_15 : 0 ≤ from_0 ∧ from_0 ≤ 2000) : (1 ≤ fault_0) ∨ ((kind_0 = 0) ∨ ((x3 + 1) ≤ pos_0)) := by
  first | with_reducible assumption | ((have f25_c0 := f25.1); (have f25_c1 := f25.2); (try and_intros) <;> first | with_reducible assumption | (clear f25_c0 f25_c1 f25 f28 hK_0_1; omega)) | ((have f25_c0 := f25.1); (have f25_c1 := f25.2); (try and_intros) <;> first | with_reducible assumption | (clear f25_c0 f25_c1 f25 hK_0_1; omega)) | omega
set_option maxHeartbeats 4000000 in
theorem vc_Mo_of_at_s5002_28_4 (x4 : Int) (x25 : Int) (x31 : Int) (x32 : Int) (x33 : Int) (kind_0 : Int) (fault_0 : Int) (tape_0 : Int → Int) (from_0 : Int) (pos_0 : Int) (faultPlace_0 : Int) (k4 : (-1) ≤ x4 ∧ x4 ≤ 48) (k25 : 0 ≤ x25 ∧ x25 ≤ 2000) (k31 : 5 ≤ x31 ∧ x31 ≤ 5) (k32 : 0 ≤ x32 ∧ x32 ≤ 5) (k33 : 1 ≤ x33 ∧ x33 ≤ 5) (g4 : x33 = fault_0) (f25 : ((kind_0 = 1) → (pos_0 ≤ (from_0 + 8))) ∧ ((kind_0 = 0) ∨ ((from_0 + 1) ≤ pos_0))) (f28 : ((1 ≤ x32) ∧ (fault_0 = x32)) ∨ ((x32 = 0) ∧ ((fault_0 = x31) ∧ (faultPlace_0 = x25)))) (hK_0_1 : ∀ j : Int, 0 ≤ j → j < 2000 → (-128) ≤ tape_0 j ∧ tape_0 j ≤ 127) (kz_0_8 : 0 ≤ fault_0 ∧ fault_0 ≤ 5) (kz_0_9 : 0 ≤ faultPlace_0 ∧ faultPlace_0 ≤ 2000) (kz_0_11 : 0 ≤ pos_0 ∧ pos_0 ≤ 2000) (kz_0_12 : 0 ≤ kind_0 ∧ kind_0 ≤ 4) (kz_0_15 : 0 ≤ from_0 ∧ from_0 ≤ 2000) : (1 ≤ fault_0) ∨ (0 ≤ x4) := by
  first | with_reducible assumption | ((have f25_c0 := f25.1); (have f25_c1 := f25.2); (try and_intros) <;> first | with_reducible assumption | (clear f25_c0 f25_c1 f25 f28 hK_0_1; omega)) | ((have f25_c0 := f25.1); (have f25_c1 := f25.2); (try and_intros) <;> first | with_reducible assumption | (clear f25_c0 f25_c1 f25 hK_0_1; omega)) | omega
set_option maxHeartbeats 4000000 in
theorem vc_Mo_of_at_s5002_28_5 (x2 : Int) (x25 : Int) (x31 : Int) (x32 : Int) (x34 : Int) (kind_0 : Int) (fault_0 : Int) (tape_0 : Int → Int) (from_0 : Int) (pos_0 : Int) (faultPlace_0 : Int) (k2 : 99 ≤ x2 ∧ x2 ≤ 99) (k25 : 0 ≤ x25 ∧ x25 ≤ 2000) (k31 : 5 ≤ x31 ∧ x31 ≤ 5) (k32 : 0 ≤ x32 ∧ x32 ≤ 5) (k34 : 0 ≤ x34 ∧ x34 ≤ 0) (f25 : ((kind_0 = 1) → (pos_0 ≤ (from_0 + 8))) ∧ ((kind_0 = 0) ∨ ((from_0 + 1) ≤ pos_0))) (f28 : ((1 ≤ x32) ∧ (fault_0 = x32)) ∨ ((x32 = 0) ∧ ((fault_0 = x31) ∧ (faultPlace_0 = x25)))) (hK_0_1 : ∀ j : Int, 0 ≤ j → j < 2000 → (-128) ≤ tape_0 j ∧ tape_0 j ≤ 127) (kz_0_8 : 0 ≤ fault_0 ∧ fault_0 ≤ 5) (kz_0_9 : 0 ≤ faultPlace_0 ∧ faultPlace_0 ≤ 2000) (kz_0_11 : 0 ≤ pos_0 ∧ pos_0 ≤ 2000) (kz_0_12 : 0 ≤ kind_0 ∧ kind_0 ≤ 4) (kz_0_15 : 0 ≤ from_0 ∧ from_0 ≤ 2000) : 1 * x34 + ((-1) * x2 + 0) ≤ 0 := by
  first | with_reducible assumption | ((have f25_c0 := f25.1); (have f25_c1 := f25.2); (try and_intros) <;> first | with_reducible assumption | (clear f25_c0 f25_c1 f25 f28 hK_0_1; omega)) | ((have f25_c0 := f25.1); (have f25_c1 := f25.2); (try and_intros) <;> first | with_reducible assumption | (clear f25_c0 f25_c1 f25 hK_0_1; omega)) | omega
set_option maxHeartbeats 4000000 in
theorem vc_Mo_of_at_s5002_28_6 (x25 : Int) (x31 : Int) (x32 : Int) (x34 : Int) (kind_0 : Int) (fault_0 : Int) (tape_0 : Int → Int) (from_0 : Int) (pos_0 : Int) (faultPlace_0 : Int) (k25 : 0 ≤ x25 ∧ x25 ≤ 2000) (k31 : 5 ≤ x31 ∧ x31 ≤ 5) (k32 : 0 ≤ x32 ∧ x32 ≤ 5) (k34 : 0 ≤ x34 ∧ x34 ≤ 0) (f25 : ((kind_0 = 1) → (pos_0 ≤ (from_0 + 8))) ∧ ((kind_0 = 0) ∨ ((from_0 + 1) ≤ pos_0))) (f28 : ((1 ≤ x32) ∧ (fault_0 = x32)) ∨ ((x32 = 0) ∧ ((fault_0 = x31) ∧ (faultPlace_0 = x25)))) (hK_0_1 : ∀ j : Int, 0 ≤ j → j < 2000 → (-128) ≤ tape_0 j ∧ tape_0 j ≤ 127) (kz_0_8 : 0 ≤ fault_0 ∧ fault_0 ≤ 5) (kz_0_9 : 0 ≤ faultPlace_0 ∧ faultPlace_0 ≤ 2000) (kz_0_11 : 0 ≤ pos_0 ∧ pos_0 ≤ 2000) (kz_0_12 : 0 ≤ kind_0 ∧ kind_0 ≤ 4) (kz_0_15 : 0 ≤ from_0 ∧ from_0 ≤ 2000) : (-1) * x34 + 0 ≤ 0 := by
  first | with_reducible assumption | ((have f25_c0 := f25.1); (have f25_c1 := f25.2); (try and_intros) <;> first | with_reducible assumption | (clear f25_c0 f25_c1 f25 f28 hK_0_1; omega)) | ((have f25_c0 := f25.1); (have f25_c1 := f25.2); (try and_intros) <;> first | with_reducible assumption | (clear f25_c0 f25_c1 f25 hK_0_1; omega)) | omega
set_option maxHeartbeats 4000000 in
theorem vc_Mo_of_at_s5002_28_7 (x4 : Int) (x5 : Int) (x6 : Int) (x15 : Int) (x17 : Int) (x18 : Int) (x19 : Int) (x20 : Int) (x22 : Int) (x25 : Int) (x28 : Int) (x31 : Int) (x32 : Int) (x33 : Int) (x34 : Int) (value_0 : Int) (place_0 : Int) (kind_0 : Int) (fault_0 : Int) (tape_0 : Int → Int) (limit_0 : Int) (from_0 : Int) (pos_0 : Int) (faultPlace_0 : Int) (all_0 : Int → Int) (r_0 : Int) (k4 : (-1) ≤ x4 ∧ x4 ≤ 48) (k5 : 0 ≤ x5 ∧ x5 ≤ 7) (k6 : 0 ≤ x6 ∧ x6 ≤ 4) (k15 : 0 ≤ x15 ∧ x15 ≤ 2000) (k17 : 0 ≤ x17 ∧ x17 ≤ 2000) (k18 : (-1) ≤ x18 ∧ x18 ≤ 48) (k19 : 0 ≤ x19 ∧ x19 ≤ 7) (k20 : 0 ≤ x20 ∧ x20 ≤ 4) (k22 : 0 ≤ x22 ∧ x22 ≤ 4) (k25 : 0 ≤ x25 ∧ x25 ≤ 2000) (k28 : (-49) ≤ x28 ∧ x28 ≤ 0) (k31 : 5 ≤ x31 ∧ x31 ≤ 5) (k32 : 0 ≤ x32 ∧ x32 ≤ 5) (k33 : 1 ≤ x33 ∧ x33 ≤ 5) (k34 : 0 ≤ x34 ∧ x34 ≤ 0) (g0 : x28 = value_0) (g1 : x25 = place_0) (g2 : x22 = kind_0) (g4 : x33 = fault_0) (f5 : FSX (limit_0) (tape_0) (x31) (x25)) (f6 : ZH0 (x32)) (f9 : 1 * x17 + ((-1) * x15 + 0) ≤ 0) (f10 : (-1) * x17 + (1 * x15 + 0) ≤ 0) (f11 : 1 * x18 + ((-1) * x4 + 0) ≤ 0) (f12 : (-1) * x18 + (1 * x4 + 0) ≤ 0) (f13 : 1 * x19 + ((-1) * x5 + 0) ≤ 0) (f14 : (-1) * x19 + (1 * x5 + 0) ≤ 0) (f15 : 1 * x20 + ((-1) * x6 + 0) ≤ 0) (f16 : (-1) * x20 + (1 * x6 + 0) ≤ 0) (f28 : ((1 ≤ x32) ∧ (fault_0 = x32)) ∨ ((x32 = 0) ∧ ((fault_0 = x31) ∧ (faultPlace_0 = x25)))) (kz_0_8 : 0 ≤ fault_0 ∧ fault_0 ≤ 5) (kz_0_9 : 0 ≤ faultPlace_0 ∧ faultPlace_0 ≤ 2000) (kz_0_10 : 0 ≤ limit_0 ∧ limit_0 ≤ 2000) (kz_0_11 : 0 ≤ pos_0 ∧ pos_0 ≤ 2000) (kz_0_12 : 0 ≤ kind_0 ∧ kind_0 ≤ 4) (kz_0_13 : 0 ≤ place_0 ∧ place_0 ≤ 2000) (kz_0_14 : (-49) ≤ value_0 ∧ value_0 ≤ 1048575) (kz_0_15 : 0 ≤ from_0 ∧ from_0 ≤ 2000) : zOFs (limit_0) (pos_0) (kind_0) (place_0) (value_0) (from_0) (fault_0) (faultPlace_0) (r_0) (tape_0) (all_0) (x4) (x34) (x5) (x6) := by
  first | (have el_x17 : x17 = x15 := by omega); subst el_x17 | skip
  first | (have el_x18 : x18 = x4 := by omega); subst el_x18 | skip
  first | (have el_x19 : x19 = x5 := by omega); subst el_x19 | skip
  first | (have el_x20 : x20 = x6 := by omega); subst el_x20 | skip
  first | subst g0 | skip
  first | subst g1 | skip
  first | subst g2 | skip
  first | subst g4 | skip
  first
    | exact of_no_s ‹zOBs _ _ _ _ _ _ _ _ _ _ _ _ _ _› ‹SGQ _ _ _ _ _› (by omega) (by omega) (by omega)
    | exact Or.inl ⟨by omega, fs_w ‹FSX _ _ _ _› ‹ZH0 _› (by assumption)⟩
    | (refine Or.inl ⟨by omega, fs_w ?_ ?_ (by assumption)⟩ <;> assumption)
    | exact Or.inl ⟨by omega, or_l ‹zO11s _ _ _ _ _ _ _ _ _ _ _ _ _ _› (fun q => by have := q.2.1; omega)⟩
    | exact Or.inr (Or.inr ⟨by omega, ‹zRP13s _ _ _ _ _ _ _ _ _ _ _ _ _ _›⟩)
    | (exfalso; omega)
def o_Mo_of_at_s5002_28 : or_T := (129, 35, [(0, (2, 0, 0, [165])), (2, (0, 99, 99, [])), (3, (0, 0, 2000, [])), (4, (0, -1, 48, [])), (5, (0, 0, 7, [])), (6, (0, 0, 4, [])), (7, (2, 0, 0, [165])), (9, (0, 99, 99, [])), (11, (0, 0, 2000, [])), (15, (0, 0, 2000, [])), (17, (0, 0, 2000, [])), (18, (0, -1, 48, [])), (19, (0, 0, 7, [])), (20, (0, 0, 4, [])), (22, (0, 0, 4, [])), (23, (0, 2, 2, [])), (24, (0, 1, 1, [])), (25, (0, 0, 2000, [])), (26, (0, 0, 5, [])), (28, (0, -49, 0, [])), (31, (0, 5, 5, [])), (32, (0, 0, 5, [])), (33, (0, 1, 5, [])), (34, (0, 0, 0, []))], [(9, [28, 7], [14]), (9, [25, 7], [13]), (9, [22, 7], [12]), (8, [33], [4]), (9, [33, 7], [8]), (20, [7, 31, 25], [60, 1, 1, 1026, 10, 1]), (20, [32], [61, 0, 1029]), (20, [7, 24, 25], [60, 1, 1, 1026, 10, 1]), (20, [26], [61, 0, 1029]), (23, [17, 15], [0, 1, -1]), (23, [17, 15], [0, -1, 1]), (23, [18, 4], [0, 1, -1]), (23, [18, 4], [0, -1, 1]), (23, [19, 5], [0, 1, -1]), (23, [19, 5], [0, -1, 1]), (23, [20, 6], [0, 1, -1]), (23, [20, 6], [0, -1, 1]), (23, [3, 17], [-1, 1, -1]), (23, [11, 17], [-2000, -1, -1]), (23, [3, 15], [-1, 1, -1]), (23, [11, 15], [-2000, -1, -1]), (23, [4], [0, -1]), (24, [0, 7], []), (24, [2, 9], []), (20, [7, 7], [30, 0, 1, 1, 15, -1, 1, 11]), (20, [7], [50, 3, 0, 12, 11, 15, 2, 21, 4, 7, 1, 3, 2, 0, 12, 0, 1, 0, 3, 2, 0, 11, 4, 3, 2, 0, 15, 0, 8, 3, 7, 1, 3, 2, 0, 12, 0, 0, 0, 7, 4, 3, 2, 0, 15, 0, 1, 2, 0, 11]), (20, [17, 7], [30, 0, 1, 0, 0, -1, 1, 11]), (20, [7], [30, -1, -1, 1, 8]), (20, [32, 7, 31, 25], [50, 2, 0, 1008, 1009, 3, 15, 2, 6, 0, 2, 0, 1, 1, 0, 1, 3, 2, 1, 8, 1, 0, 2, 6, 1, 2, 1, 0, 0, 0, 2, 7, 1, 3, 2, 1, 8, 1, 2, 1, 3, 2, 1, 9, 1, 3]), (102, [32], [0, 165008, 165009]), (23, [17, 15], [0, 1, -1]), (23, [17, 15], [0, -1, 1]), (23, [18, 4], [0, 1, -1]), (23, [18, 4], [0, -1, 1]), (23, [19, 5], [0, 1, -1]), (23, [19, 5], [0, -1, 1]), (23, [20, 6], [0, 1, -1]), (23, [20, 6], [0, -1, 1]), (23, [3, 17], [-1, 1, -1]), (23, [11, 17], [-2000, -1, -1]), (23, [3, 15], [-1, 1, -1]), (23, [11, 15], [-2000, -1, -1]), (23, [4], [0, -1]), (102, [26], [0, 165008, 165009]), (7, [22, 23], [1]), (23, [17, 15], [0, 1, -1]), (23, [17, 15], [0, -1, 1]), (23, [18, 4], [0, 1, -1]), (23, [18, 4], [0, -1, 1]), (23, [19, 5], [0, 1, -1]), (23, [19, 5], [0, -1, 1]), (23, [20, 6], [0, 1, -1]), (23, [20, 6], [0, -1, 1]), (23, [3, 17], [-1, 1, -1]), (23, [11, 17], [-2000, -1, -1]), (23, [3, 15], [-1, 1, -1]), (23, [11, 15], [-2000, -1, -1]), (23, [4], [0, -1]), (102, [20], [0, 165008, 165009, 165011, 165012, 165013, 165014, 165015]), (23, [17, 15], [0, 1, -1]), (23, [17, 15], [0, -1, 1]), (23, [18, 4], [0, 1, -1]), (23, [18, 4], [0, -1, 1]), (23, [19, 5], [0, 1, -1]), (23, [19, 5], [0, -1, 1]), (23, [20, 6], [0, 1, -1]), (23, [20, 6], [0, -1, 1]), (23, [3, 17], [-1, 1, -1]), (23, [11, 17], [-2000, -1, -1]), (23, [3, 15], [-1, 1, -1]), (23, [11, 15], [-2000, -1, -1]), (23, [4], [0, -1]), (102, [15], [0, 165011, 165012, 165013, 165014, 165015]), (23, [3, 15], [-1, 1, -1]), (23, [11, 15], [-2000, -1, -1]), (23, [4], [0, -1]), (102, [13], [0]), (23, [4], [0, -1])], [], [], [(20, [0, 0], [30, 0, 1, 1, 15, -1, 1, 11]), (20, [0], [50, 3, 0, 12, 11, 15, 2, 21, 4, 7, 1, 3, 2, 0, 12, 0, 1, 0, 3, 2, 0, 11, 4, 3, 2, 0, 15, 0, 8, 3, 7, 1, 3, 2, 0, 12, 0, 0, 0, 7, 4, 3, 2, 0, 15, 0, 1, 2, 0, 11]), (20, [3, 0], [30, 0, 1, 0, 0, -1, 1, 11]), (20, [0, 3], [50, 3, 0, 8, 12, 11, 3, 7, 0, 2, 0, 1, 2, 0, 8, 3, 7, 1, 3, 2, 0, 12, 0, 0, 0, 6, 4, 2, 1, 1, 0, 1, 2, 0, 11]), (20, [0, 4], [50, 1, 0, 8, 3, 7, 0, 2, 0, 1, 2, 0, 8, 0, 2, 0, 0, 1, 1]), (20, [34, 2], [30, 0, 1, 0, 0, -1, 0, 0]), (20, [34], [30, 0, -1, 0, 0]), (20, [0, 4, 34, 5, 6], [60, 9, 2, 1013, 10, 11, 12, 13, 14, 15, 8, 9, 5, 1, 2])], [], [])
theorem oo_Mo_of_at_s5002_28 {kA : Nat → ClassId} : or_ok PRD kA GG o_Mo_of_at_s5002_28 := by
  refine or_mk fun A ta ws vs hD hth hl => ?_
  intro t0 r0 t2 k2 t3 k3 t4 k4 t5 k5 t6 k6 t7 r7 t9 k9 t11 k11 t15 k15 t17 k17 t18 k18 t19 k19 t20 k20 t22 k22 t23 k23 t24 k24 t25 k25 t26 k26 t28 k28 t31 k31 t32 k32 t33 k33 t34 k34 f0 f1 f2 f3 f4 f5 f6 f7 f8 f9 f10 f11 f12 f13 f14 f15 f16 f17 f18 f19 f20 f21 f22 f23 f24 f25 f26 f27 f28 ta1 w1 le1 s1 f30 f31 f32 f33 f34 f35 f36 f37 f38 f39 f40 f41 f42 ta2 w2 le2 s2 f44 f45 f46 f47 f48 f49 f50 f51 f52 f53 f54 f55 f56 f57 ta3 w3 le3 s3 f59 f60 f61 f62 f63 f64 f65 f66 f67 f68 f69 f70 f71 ta4 w4 le4 s4 f73 f74 f75 ta5 w5 le5 s5 f77
  replace f0 := shm_115 f0
  replace f1 := shm_361 f1
  replace f2 := shm_103 f2
  replace f4 := shm_293 f4
  replace f5 := shm_1724 f5
  replace f22 := shm_5 f22
  replace f24 := shm_1437 f24
  replace f25 := shm_1438 f25
  replace f26 := shm_1431 f26
  replace f28 := shm_306 f28
  have q7 : n_v vs 7 = n_v vs 0 := f22.symm
  simp only [q7] at f0 f1 f2 f4 f5 f24 f25 f26 f28
  have cr_0_1 := fdq_39 hD hth r0
  have g0 : v_iv (n_v vs 28) = w_fi ws (n_v vs 0) 14 := congrArg v_iv f0
  have g1 : v_iv (n_v vs 25) = w_fi ws (n_v vs 0) 13 := congrArg v_iv f1
  have g2 : v_iv (n_v vs 22) = w_fi ws (n_v vs 0) 12 := congrArg v_iv f2
  have g4 : v_iv (n_v vs 33) = w_fi ws (n_v vs 0) 8 := congrArg v_iv f4
  have hK_0_1 := elq_7 hD hth cr_0_1
  have kz_0_8 := fdq_34 hD hth r0
  have kz_0_9 := fdq_44 hD hth r0
  have kz_0_10 := fdq_43 hD hth r0
  have kz_0_11 := fdq_237 hD hth r0
  have kz_0_12 := fdq_187 hD hth r0
  have kz_0_13 := fdq_238 hD hth r0
  have kz_0_14 := fdq_188 hD hth r0
  have kz_0_15 := fdq_239 hD hth r0
  have nf0 : fc_1 PRD (20, [0, 0], [30, 0, 1, 1, 15, -1, 1, 11]) ws (vs) := ⟨nf_in hl rfl, sgq_1437 (vc_Mo_of_at_s5002_28_0 (v_iv (n_v vs 25)) (v_iv (n_v vs 31)) (v_iv (n_v vs 32)) (w_fi ws (n_v vs 0) 12) (w_fi ws (n_v vs 0) 8) (w_ei ws (w_ar ws (n_v vs 0) 1)) (w_fi ws (n_v vs 0) 15) (w_fi ws (n_v vs 0) 11) (w_fi ws (n_v vs 0) 9) k25 k31 k32 f24 f25 f28 hK_0_1 kz_0_8 kz_0_9 kz_0_11 kz_0_12 kz_0_15)⟩
  have nf1 : fc_1 PRD (20, [0], [50, 3, 0, 12, 11, 15, 2, 21, 4, 7, 1, 3, 2, 0, 12, 0, 1, 0, 3, 2, 0, 11, 4, 3, 2, 0, 15, 0, 8, 3, 7, 1, 3, 2, 0, 12, 0, 0, 0, 7, 4, 3, 2, 0, 15, 0, 1, 2, 0, 11]) ws (vs) := ⟨nf_in hl rfl, sgq_1438 (vc_Mo_of_at_s5002_28_1 (v_iv (n_v vs 25)) (v_iv (n_v vs 31)) (v_iv (n_v vs 32)) (w_fi ws (n_v vs 0) 12) (w_fi ws (n_v vs 0) 8) (w_ei ws (w_ar ws (n_v vs 0) 1)) (w_fi ws (n_v vs 0) 15) (w_fi ws (n_v vs 0) 11) (w_fi ws (n_v vs 0) 9) k25 k31 k32 f25 f28 hK_0_1 kz_0_8 kz_0_9 kz_0_11 kz_0_12 kz_0_15)⟩
  have nf2 : fc_1 PRD (20, [3, 0], [30, 0, 1, 0, 0, -1, 1, 11]) ws (vs) := ⟨nf_in hl rfl, sgq_1431 (vc_Mo_of_at_s5002_28_2 (v_iv (n_v vs 3)) (v_iv (n_v vs 17)) (v_iv (n_v vs 25)) (v_iv (n_v vs 31)) (v_iv (n_v vs 32)) (w_fi ws (n_v vs 0) 12) (w_fi ws (n_v vs 0) 8) (w_ei ws (w_ar ws (n_v vs 0) 1)) (w_fi ws (n_v vs 0) 15) (w_fi ws (n_v vs 0) 11) (w_fi ws (n_v vs 0) 9) k3 k17 k25 k31 k32 (shm_193 f17) f25 f26 f28 hK_0_1 kz_0_8 kz_0_9 kz_0_11 kz_0_12 kz_0_15)⟩
  have nf3 : fc_1 PRD (20, [0, 3], [50, 3, 0, 8, 12, 11, 3, 7, 0, 2, 0, 1, 2, 0, 8, 3, 7, 1, 3, 2, 0, 12, 0, 0, 0, 6, 4, 2, 1, 1, 0, 1, 2, 0, 11]) ws (vs) := ⟨nf_in hl rfl, sgq_1722 (vc_Mo_of_at_s5002_28_3 (v_iv (n_v vs 3)) (v_iv (n_v vs 25)) (v_iv (n_v vs 31)) (v_iv (n_v vs 32)) (v_iv (n_v vs 33)) (w_fi ws (n_v vs 0) 12) (w_fi ws (n_v vs 0) 8) (w_ei ws (w_ar ws (n_v vs 0) 1)) (w_fi ws (n_v vs 0) 15) (w_fi ws (n_v vs 0) 11) (w_fi ws (n_v vs 0) 9) k3 k25 k31 k32 k33 g4 f25 f28 hK_0_1 kz_0_8 kz_0_9 kz_0_11 kz_0_12 kz_0_15)⟩
  have nf4 : fc_1 PRD (20, [0, 4], [50, 1, 0, 8, 3, 7, 0, 2, 0, 1, 2, 0, 8, 0, 2, 0, 0, 1, 1]) ws (vs) := ⟨nf_in hl rfl, sgq_2000 (vc_Mo_of_at_s5002_28_4 (v_iv (n_v vs 4)) (v_iv (n_v vs 25)) (v_iv (n_v vs 31)) (v_iv (n_v vs 32)) (v_iv (n_v vs 33)) (w_fi ws (n_v vs 0) 12) (w_fi ws (n_v vs 0) 8) (w_ei ws (w_ar ws (n_v vs 0) 1)) (w_fi ws (n_v vs 0) 15) (w_fi ws (n_v vs 0) 11) (w_fi ws (n_v vs 0) 9) k4 k25 k31 k32 k33 g4 f25 f28 hK_0_1 kz_0_8 kz_0_9 kz_0_11 kz_0_12 kz_0_15)⟩
  have nf5 : fc_1 PRD (20, [34, 2], [30, 0, 1, 0, 0, -1, 0, 0]) ws (vs) := ⟨nf_in hl rfl, sgq_201 (vc_Mo_of_at_s5002_28_5 (v_iv (n_v vs 2)) (v_iv (n_v vs 25)) (v_iv (n_v vs 31)) (v_iv (n_v vs 32)) (v_iv (n_v vs 34)) (w_fi ws (n_v vs 0) 12) (w_fi ws (n_v vs 0) 8) (w_ei ws (w_ar ws (n_v vs 0) 1)) (w_fi ws (n_v vs 0) 15) (w_fi ws (n_v vs 0) 11) (w_fi ws (n_v vs 0) 9) k2 k25 k31 k32 k34 f25 f28 hK_0_1 kz_0_8 kz_0_9 kz_0_11 kz_0_12 kz_0_15)⟩
  have nf6 : fc_1 PRD (20, [34], [30, 0, -1, 0, 0]) ws (vs) := ⟨nf_in hl rfl, sgq_2002 (vc_Mo_of_at_s5002_28_6 (v_iv (n_v vs 25)) (v_iv (n_v vs 31)) (v_iv (n_v vs 32)) (v_iv (n_v vs 34)) (w_fi ws (n_v vs 0) 12) (w_fi ws (n_v vs 0) 8) (w_ei ws (w_ar ws (n_v vs 0) 1)) (w_fi ws (n_v vs 0) 15) (w_fi ws (n_v vs 0) 11) (w_fi ws (n_v vs 0) 9) k25 k31 k32 k34 f25 f28 hK_0_1 kz_0_8 kz_0_9 kz_0_11 kz_0_12 kz_0_15)⟩
  have nf7 : fc_1 PRD (20, [0, 4, 34, 5, 6], [60, 9, 2, 1013, 10, 11, 12, 13, 14, 15, 8, 9, 5, 1, 2]) ws (vs) := ⟨nf_in hl rfl, sgq_2003 (vc_Mo_of_at_s5002_28_7 (v_iv (n_v vs 4)) (v_iv (n_v vs 5)) (v_iv (n_v vs 6)) (v_iv (n_v vs 15)) (v_iv (n_v vs 17)) (v_iv (n_v vs 18)) (v_iv (n_v vs 19)) (v_iv (n_v vs 20)) (v_iv (n_v vs 22)) (v_iv (n_v vs 25)) (v_iv (n_v vs 28)) (v_iv (n_v vs 31)) (v_iv (n_v vs 32)) (v_iv (n_v vs 33)) (v_iv (n_v vs 34)) (w_fi ws (n_v vs 0) 14) (w_fi ws (n_v vs 0) 13) (w_fi ws (n_v vs 0) 12) (w_fi ws (n_v vs 0) 8) (w_ei ws (w_ar ws (n_v vs 0) 1)) (w_fi ws (n_v vs 0) 10) (w_fi ws (n_v vs 0) 15) (w_fi ws (n_v vs 0) 11) (w_fi ws (n_v vs 0) 9) (w_ei ws (w_ar ws (n_v vs 0) 2)) (w_fi ws (n_v vs 0) 5) k4 k5 k6 k15 k17 k18 k19 k20 k22 k25 k28 k31 k32 k33 k34 g0 g1 g2 g4 f5 (shm_1725 f6) (shm_7 f9) (shm_22 f10) (shm_7 f11) (shm_22 f12) (shm_7 f13) (shm_22 f14) (shm_7 f15) (shm_22 f16) f28 kz_0_8 kz_0_9 kz_0_10 kz_0_11 kz_0_12 kz_0_13 kz_0_14 kz_0_15)⟩
  refine ⟨(fun _ h => (by cases h)), [], trivial, ?_, (fun _ h => (by cases h))⟩
  rw [List.append_nil]
  exact List.forall_mem_cons.mpr ⟨⟨show (20 : Nat) < 100 from by decide, nf0⟩, List.forall_mem_cons.mpr ⟨⟨show (20 : Nat) < 100 from by decide, nf1⟩, List.forall_mem_cons.mpr ⟨⟨show (20 : Nat) < 100 from by decide, nf2⟩, List.forall_mem_cons.mpr ⟨⟨show (20 : Nat) < 100 from by decide, nf3⟩, List.forall_mem_cons.mpr ⟨⟨show (20 : Nat) < 100 from by decide, nf4⟩, List.forall_mem_cons.mpr ⟨⟨show (20 : Nat) < 100 from by decide, nf5⟩, List.forall_mem_cons.mpr ⟨⟨show (20 : Nat) < 100 from by decide, nf6⟩, List.forall_mem_cons.mpr ⟨⟨show (20 : Nat) < 100 from by decide, nf7⟩, (fun _ h => (by cases h))⟩⟩⟩⟩⟩⟩⟩⟩
set_option maxHeartbeats 4000000 in
theorem vc_Mo_of_at_s5002_29_0 (x2 : Int) (x25 : Int) (x28 : Int) (x31 : Int) (x32 : Int) (x33 : Int) (kind_0 : Int) (fault_0 : Int) (tape_0 : Int → Int) (from_0 : Int) (pos_0 : Int) (faultPlace_0 : Int) (k2 : 99 ≤ x2 ∧ x2 ≤ 99) (k25 : 0 ≤ x25 ∧ x25 ≤ 2000) (k28 : 100 ≤ x28 ∧ x28 ≤ 1048575) (k31 : 5 ≤ x31 ∧ x31 ≤ 5) (k32 : 0 ≤ x32 ∧ x32 ≤ 5) (k33 : 0 ≤ x33 ∧ x33 ≤ 0) (g4 : x33 = fault_0) (f20 : ((kind_0 = 1) → (pos_0 ≤ (from_0 + 8))) ∧ ((kind_0 = 0) ∨ ((from_0 + 1) ≤ pos_0))) (f22 : (-1) * fault_0 + 0 ≤ (-1)) (f23 : ((1 ≤ x32) ∧ (fault_0 = x32)) ∨ ((x32 = 0) ∧ ((fault_0 = x31) ∧ (faultPlace_0 = x25)))) (hK_0_1 : ∀ j : Int, 0 ≤ j → j < 2000 → (-128) ≤ tape_0 j ∧ tape_0 j ≤ 127) (kz_0_8 : 0 ≤ fault_0 ∧ fault_0 ≤ 5) (kz_0_9 : 0 ≤ faultPlace_0 ∧ faultPlace_0 ≤ 2000) (kz_0_11 : 0 ≤ pos_0 ∧ pos_0 ≤ 2000) (kz_0_12 : 0 ≤ kind_0 ∧ kind_0 ≤ 4) (kz_0_15 : 0 ≤ from_0 ∧ from_0 ≤ 2000) : 1 * x28 + ((-1) * x2 + 0) ≤ 0 := by
  first | with_reducible assumption | ((have f20_c0 := f20.1); (have f20_c1 := f20.2); (try and_intros) <;> first | with_reducible assumption | (clear f20_c0 f20_c1 f20 f23 hK_0_1; omega)) | ((have f20_c0 := f20.1); (have f20_c1 := f20.2); (try and_intros) <;> first | with_reducible assumption | (clear f20_c0 f20_c1 f20 hK_0_1; omega)) | omega
set_option maxHeartbeats 4000000 in
theorem vc_Mo_of_at_s5002_29_1 (x25 : Int) (x28 : Int) (x31 : Int) (x32 : Int) (x33 : Int) (kind_0 : Int) (fault_0 : Int) (tape_0 : Int → Int) (from_0 : Int) (pos_0 : Int) (faultPlace_0 : Int) (k25 : 0 ≤ x25 ∧ x25 ≤ 2000) (k28 : 100 ≤ x28 ∧ x28 ≤ 1048575) (k31 : 5 ≤ x31 ∧ x31 ≤ 5) (k32 : 0 ≤ x32 ∧ x32 ≤ 5) (k33 : 0 ≤ x33 ∧ x33 ≤ 0) (g4 : x33 = fault_0) (f20 : ((kind_0 = 1) → (pos_0 ≤ (from_0 + 8))) ∧ ((kind_0 = 0) ∨ ((from_0 + 1) ≤ pos_0))) (f22 : (-1) * fault_0 + 0 ≤ (-1)) (f23 : ((1 ≤ x32) ∧ (fault_0 = x32)) ∨ ((x32 = 0) ∧ ((fault_0 = x31) ∧ (faultPlace_0 = x25)))) (hK_0_1 : ∀ j : Int, 0 ≤ j → j < 2000 → (-128) ≤ tape_0 j ∧ tape_0 j ≤ 127) (kz_0_8 : 0 ≤ fault_0 ∧ fault_0 ≤ 5) (kz_0_9 : 0 ≤ faultPlace_0 ∧ faultPlace_0 ≤ 2000) (kz_0_11 : 0 ≤ pos_0 ∧ pos_0 ≤ 2000) (kz_0_12 : 0 ≤ kind_0 ∧ kind_0 ≤ 4) (kz_0_15 : 0 ≤ from_0 ∧ from_0 ≤ 2000) : (-1) * x28 + 0 ≤ 0 := by
  first | with_reducible assumption | ((have f20_c0 := f20.1); (have f20_c1 := f20.2); (try and_intros) <;> first | with_reducible assumption | (clear f20_c0 f20_c1 f20 f23 hK_0_1; omega)) | ((have f20_c0 := f20.1); (have f20_c1 := f20.2); (try and_intros) <;> first | with_reducible assumption | (clear f20_c0 f20_c1 f20 hK_0_1; omega)) | omega

def o_Mo_of_at_s5002_29 : or_T := (135, 34, [(0, (2, 0, 0, [165])), (2, (0, 99, 99, [])), (3, (0, 0, 2000, [])), (7, (2, 0, 0, [165])), (9, (0, 99, 99, [])), (10, (0, -49, 0, [])), (11, (0, 0, 2000, [])), (15, (0, 0, 2000, [])), (17, (0, 0, 2000, [])), (22, (0, 0, 4, [])), (23, (0, 2, 2, [])), (24, (0, 1, 1, [])), (25, (0, 0, 2000, [])), (26, (0, 0, 5, [])), (28, (0, 100, 1048575, [])), (31, (0, 5, 5, [])), (32, (0, 0, 5, [])), (33, (0, 0, 0, []))], [(9, [25, 7], [13]), (9, [22, 7], [12]), (9, [28, 7], [14]), (8, [33], [5]), (9, [33, 7], [8]), (20, [7, 31, 25], [60, 1, 1, 1026, 10, 1]), (20, [32], [61, 0, 1029]), (20, [7, 24, 25], [60, 1, 1, 1026, 10, 1]), (20, [26], [61, 0, 1029]), (23, [17, 15], [0, 1, -1]), (23, [17, 15], [0, -1, 1]), (23, [3, 17], [-1, 1, -1]), (23, [11, 17], [-2000, -1, -1]), (23, [3, 15], [-1, 1, -1]), (23, [11, 15], [-2000, -1, -1]), (23, [10, 9], [0, 1, -1]), (23, [10], [0, -1]), (24, [0, 7], []), (24, [2, 9], []), (20, [7, 7], [30, 0, 1, 1, 15, -1, 1, 11]), (20, [7], [50, 3, 0, 12, 11, 15, 2, 21, 4, 7, 1, 3, 2, 0, 12, 0, 1, 0, 3, 2, 0, 11, 4, 3, 2, 0, 15, 0, 8, 3, 7, 1, 3, 2, 0, 12, 0, 0, 0, 7, 4, 3, 2, 0, 15, 0, 1, 2, 0, 11]), (20, [17, 7], [30, 0, 1, 0, 0, -1, 1, 11]), (20, [7], [30, -1, -1, 1, 8]), (20, [32, 7, 31, 25], [50, 2, 0, 1008, 1009, 3, 15, 2, 6, 0, 2, 0, 1, 1, 0, 1, 3, 2, 1, 8, 1, 0, 2, 6, 1, 2, 1, 0, 0, 0, 2, 7, 1, 3, 2, 1, 8, 1, 2, 1, 3, 2, 1, 9, 1, 3]), (102, [32], [0, 165008, 165009]), (23, [17, 15], [0, 1, -1]), (23, [17, 15], [0, -1, 1]), (23, [3, 17], [-1, 1, -1]), (23, [11, 17], [-2000, -1, -1]), (23, [3, 15], [-1, 1, -1]), (23, [11, 15], [-2000, -1, -1]), (23, [10, 9], [0, 1, -1]), (23, [10], [0, -1]), (102, [26], [0, 165008, 165009]), (7, [22, 23], [1]), (23, [17, 15], [0, 1, -1]), (23, [17, 15], [0, -1, 1]), (23, [3, 17], [-1, 1, -1]), (23, [11, 17], [-2000, -1, -1]), (23, [3, 15], [-1, 1, -1]), (23, [11, 15], [-2000, -1, -1]), (23, [10, 9], [0, 1, -1]), (23, [10], [0, -1]), (102, [20], [0, 165008, 165009, 165011, 165012, 165013, 165014, 165015]), (23, [17, 15], [0, 1, -1]), (23, [17, 15], [0, -1, 1]), (23, [3, 17], [-1, 1, -1]), (23, [11, 17], [-2000, -1, -1]), (23, [3, 15], [-1, 1, -1]), (23, [11, 15], [-2000, -1, -1]), (23, [10, 9], [0, 1, -1]), (23, [10], [0, -1]), (102, [15], [0, 165011, 165012, 165013, 165014, 165015]), (23, [3, 15], [-1, 1, -1]), (23, [11, 15], [-2000, -1, -1]), (8, [10], [5]), (23, [10, 9], [0, 1, -1]), (23, [10], [0, -1]), (102, [13], [0]), (23, [10, 9], [0, 1, -1]), (23, [10], [0, -1])], [], [], [(23, [28, 9], [0, 1, -1]), (23, [28], [0, -1])], [], [])
theorem oo_Mo_of_at_s5002_29 {kA : Nat → ClassId} : or_ok PRD kA GG o_Mo_of_at_s5002_29 := by
  refine or_mk fun A ta ws vs hD hth hl => ?_
  intro t0 r0 t2 k2 t3 k3 t7 r7 t9 k9 t10 k10 t11 k11 t15 k15 t17 k17 t22 k22 t23 k23 t24 k24 t25 k25 t26 k26 t28 k28 t31 k31 t32 k32 t33 k33 f0 f1 f2 f3 f4 f5 f6 f7 f8 f9 f10 f11 f12 f13 f14 f15 f16 f17 f18 f19 f20 f21 f22 f23 ta1 w1 le1 s1 f25 f26 f27 f28 f29 f30 f31 f32 ta2 w2 le2 s2 f34 f35 f36 f37 f38 f39 f40 f41 f42 ta3 w3 le3 s3 f44 f45 f46 f47 f48 f49 f50 f51 ta4 w4 le4 s4 f53 f54 f55 f56 f57 ta5 w5 le5 s5 f59 f60
  replace f4 := shm_293 f4
  replace f17 := shm_5 f17
  replace f18 := shm_5 f18
  replace f20 := shm_1438 f20
  replace f22 := shm_305 f22
  replace f23 := shm_306 f23
  have q7 : n_v vs 7 = n_v vs 0 := f17.symm
  have q9 : n_v vs 9 = n_v vs 2 := f18.symm
  simp only [q7] at f4 f20 f22 f23
  have cr_0_1 := fdq_39 hD hth r0
  have g4 : v_iv (n_v vs 33) = w_fi ws (n_v vs 0) 8 := congrArg v_iv f4
  have hK_0_1 := elq_7 hD hth cr_0_1
  have kz_0_8 := fdq_34 hD hth r0
  have kz_0_9 := fdq_44 hD hth r0
  have kz_0_11 := fdq_237 hD hth r0
  have kz_0_12 := fdq_187 hD hth r0
  have kz_0_15 := fdq_239 hD hth r0
  have nf0 : fc_1 PRD (23, [28, 9], [0, 1, -1]) ws (vs) := by
    refine ⟨nf_in hl rfl, sgq_7 ?_⟩
    · show 1 * v_iv (n_v vs 28) + ((-1) * v_iv (n_v vs 9) + 0) ≤ 0
      rw [q9]
      exact vc_Mo_of_at_s5002_29_0 (v_iv (n_v vs 2)) (v_iv (n_v vs 25)) (v_iv (n_v vs 28)) (v_iv (n_v vs 31)) (v_iv (n_v vs 32)) (v_iv (n_v vs 33)) (w_fi ws (n_v vs 0) 12) (w_fi ws (n_v vs 0) 8) (w_ei ws (w_ar ws (n_v vs 0) 1)) (w_fi ws (n_v vs 0) 15) (w_fi ws (n_v vs 0) 11) (w_fi ws (n_v vs 0) 9) k2 k25 k28 k31 k32 k33 g4 f20 f22 f23 hK_0_1 kz_0_8 kz_0_9 kz_0_11 kz_0_12 kz_0_15
  have nf1 : fc_1 PRD (23, [28], [0, -1]) ws (vs) := ⟨nf_in hl rfl, sgq_1043 (vc_Mo_of_at_s5002_29_1 (v_iv (n_v vs 25)) (v_iv (n_v vs 28)) (v_iv (n_v vs 31)) (v_iv (n_v vs 32)) (v_iv (n_v vs 33)) (w_fi ws (n_v vs 0) 12) (w_fi ws (n_v vs 0) 8) (w_ei ws (w_ar ws (n_v vs 0) 1)) (w_fi ws (n_v vs 0) 15) (w_fi ws (n_v vs 0) 11) (w_fi ws (n_v vs 0) 9) k25 k28 k31 k32 k33 g4 f20 f22 f23 hK_0_1 kz_0_8 kz_0_9 kz_0_11 kz_0_12 kz_0_15)⟩
  refine ⟨(fun _ h => (by cases h)), [], trivial, ?_, (fun _ h => (by cases h))⟩
  rw [List.append_nil]
  exact List.forall_mem_cons.mpr ⟨⟨show (23 : Nat) < 100 from by decide, nf0⟩, List.forall_mem_cons.mpr ⟨⟨show (23 : Nat) < 100 from by decide, nf1⟩, (fun _ h => (by cases h))⟩⟩
set_option maxHeartbeats 4000000 in
theorem vc_Mo_of_at_s5002_30_0 (x2 : Int) (x25 : Int) (x28 : Int) (x31 : Int) (x32 : Int) (kind_0 : Int) (fault_0 : Int) (tape_0 : Int → Int) (from_0 : Int) (pos_0 : Int) (faultPlace_0 : Int) (gx : Int) (k2 : 99 ≤ x2 ∧ x2 ≤ 99) (k25 : 0 ≤ x25 ∧ x25 ≤ 2000) (k28 : 100 ≤ x28 ∧ x28 ≤ 1048575) (k31 : 5 ≤ x31 ∧ x31 ≤ 5) (k32 : 0 ≤ x32 ∧ x32 ≤ 5) (f2 : 1 * x28 + ((-1) * x2 + 0) ≤ 0) (f29 : ((kind_0 = 1) → (pos_0 ≤ (from_0 + 8))) ∧ ((kind_0 = 0) ∨ ((from_0 + 1) ≤ pos_0))) (f32 : ((1 ≤ x32) ∧ (fault_0 = x32)) ∨ ((x32 = 0) ∧ ((fault_0 = x31) ∧ (faultPlace_0 = x25)))) (hK_0_1 : ∀ j : Int, 0 ≤ j → j < 2000 → (-128) ≤ tape_0 j ∧ tape_0 j ≤ 127) (kz_0_8 : 0 ≤ fault_0 ∧ fault_0 ≤ 5) (kz_0_9 : 0 ≤ faultPlace_0 ∧ faultPlace_0 ≤ 2000) (kz_0_11 : 0 ≤ pos_0 ∧ pos_0 ≤ 2000) (kz_0_12 : 0 ≤ kind_0 ∧ kind_0 ≤ 4) (kz_0_15 : 0 ≤ from_0 ∧ from_0 ≤ 2000) : 1 * gx + ((-1) * pos_0 + 0) ≤ 0 := by
  first | with_reducible assumption | ((have f29_c0 := f29.1); (have f29_c1 := f29.2); (try and_intros) <;> first | with_reducible assumption | (clear f29_c0 f29_c1 f29 f32 hK_0_1; omega)) | ((have f29_c0 := f29.1); (have f29_c1 := f29.2); (try and_intros) <;> first | with_reducible assumption | (clear f29_c0 f29_c1 f29 hK_0_1; omega)) | omega
set_option maxHeartbeats 4000000 in
theorem vc_Mo_of_at_s5002_30_1 (x25 : Int) (x31 : Int) (x32 : Int) (kind_0 : Int) (fault_0 : Int) (tape_0 : Int → Int) (from_0 : Int) (pos_0 : Int) (faultPlace_0 : Int) (gx : Int) (k25 : 0 ≤ x25 ∧ x25 ≤ 2000) (k31 : 5 ≤ x31 ∧ x31 ≤ 5) (k32 : 0 ≤ x32 ∧ x32 ≤ 5) (f29 : ((kind_0 = 1) → (pos_0 ≤ (from_0 + 8))) ∧ ((kind_0 = 0) ∨ ((from_0 + 1) ≤ pos_0))) (f32 : ((1 ≤ x32) ∧ (fault_0 = x32)) ∨ ((x32 = 0) ∧ ((fault_0 = x31) ∧ (faultPlace_0 = x25)))) (hK_0_1 : ∀ j : Int, 0 ≤ j → j < 2000 → (-128) ≤ tape_0 j ∧ tape_0 j ≤ 127) (kz_0_8 : 0 ≤ fault_0 ∧ fault_0 ≤ 5) (kz_0_9 : 0 ≤ faultPlace_0 ∧ faultPlace_0 ≤ 2000) (kz_0_11 : 0 ≤ pos_0 ∧ pos_0 ≤ 2000) (kz_0_12 : 0 ≤ kind_0 ∧ kind_0 ≤ 4) (kz_0_15 : 0 ≤ from_0 ∧ from_0 ≤ 2000) (ex2 : gx = pos_0) : gx = pos_0 := by
  first | with_reducible assumption | ((have f29_c0 := f29.1); (have f29_c1 := f29.2); (try and_intros) <;> first | with_reducible assumption | (clear f29_c0 f29_c1 f29 f32 hK_0_1; omega)) | ((have f29_c0 := f29.1); (have f29_c1 := f29.2); (try and_intros) <;> first | with_reducible assumption | (clear f29_c0 f29_c1 f29 hK_0_1; omega)) | omega
set_option maxHeartbeats 4000000 in
theorem vc_Mo_of_at_s5002_30_2 (x2 : Int) (x4 : Int) (x5 : Int) (x6 : Int) (x15 : Int) (x17 : Int) (x18 : Int) (x19 : Int) (x20 : Int) (x22 : Int) (x25 : Int) (x28 : Int) (x33 : Int) (place_0 : Int) (kind_0 : Int) (value_0 : Int) (fault_0 : Int) (limit_0 : Int) (pos_0 : Int) (gx : Int) (k2 : 99 ≤ x2 ∧ x2 ≤ 99) (k22 : 0 ≤ x22 ∧ x22 ≤ 4) (k25 : 0 ≤ x25 ∧ x25 ≤ 2000) (k28 : 100 ≤ x28 ∧ x28 ≤ 1048575) (k33 : 0 ≤ x33 ∧ x33 ≤ 0) (g0 : x25 = place_0) (g1 : x22 = kind_0) (f2 : 1 * x28 + ((-1) * x2 + 0) ≤ 0) (g4 : x28 = value_0) (g6 : x33 = fault_0) (kz_0_8 : 0 ≤ fault_0 ∧ fault_0 ≤ 5) (kz_0_10 : 0 ≤ limit_0 ∧ limit_0 ≤ 2000) (kz_0_11 : 0 ≤ pos_0 ∧ pos_0 ≤ 2000) (kz_0_12 : 0 ≤ kind_0 ∧ kind_0 ≤ 4) (kz_0_13 : 0 ≤ place_0 ∧ place_0 ≤ 2000) (kz_0_14 : (-49) ≤ value_0 ∧ value_0 ≤ 1048575) (ex2 : gx = pos_0) : ZLM (limit_0) (pos_0) := by
  first | (have el_x17 : x17 = x15 := by omega); subst el_x17 | skip
  first | (have el_x18 : x18 = x4 := by omega); subst el_x18 | skip
  first | (have el_x19 : x19 = x5 := by omega); subst el_x19 | skip
  first | (have el_x20 : x20 = x6 := by omega); subst el_x20 | skip
  first | subst g0 | skip
  first | subst g1 | skip
  first | subst g4 | skip
  first | subst g6 | skip
  first | subst ex2 | skip
  first
    | exact ob_0_s ‹zOBs _ _ _ _ _ _ _ _ _ _ _ _ _ _› (sgq_t (C := 91) ‹SGQ _ _ _ _ _› (by omega) (by omega)).1
    | exact ob_0_w ‹zOBw _ _ _ _ _ _ _ _ _ _ _ _ _ _› (sgq_t (C := 91) ‹SGQ _ _ _ _ _› (by omega) (by omega)).1
    | exact (oi_0_s ‹zOIs _ _ _ _ _ _ _ _ _ _ _ _ _ _›).2
    | exact (oi_0_w ‹zOIw _ _ _ _ _ _ _ _ _ _ _ _ _ _›).2
    | exact o11_0_s ‹zO11s _ _ _ _ _ _ _ _ _ _ _ _ _ _› (by omega)
    | exact o11_0_w ‹zO11w _ _ _ _ _ _ _ _ _ _ _ _ _ _› (by omega)
    | (exfalso; omega)
set_option maxHeartbeats 4000000 in
theorem vc_Mo_of_at_s5002_30_3 (x2 : Int) (x3 : Int) (x25 : Int) (x28 : Int) (x31 : Int) (x32 : Int) (kind_0 : Int) (fault_0 : Int) (tape_0 : Int → Int) (from_0 : Int) (pos_0 : Int) (faultPlace_0 : Int) (gx : Int) (k2 : 99 ≤ x2 ∧ x2 ≤ 99) (k3 : 0 ≤ x3 ∧ x3 ≤ 2000) (k25 : 0 ≤ x25 ∧ x25 ≤ 2000) (k28 : 100 ≤ x28 ∧ x28 ≤ 1048575) (k31 : 5 ≤ x31 ∧ x31 ≤ 5) (k32 : 0 ≤ x32 ∧ x32 ≤ 5) (f2 : 1 * x28 + ((-1) * x2 + 0) ≤ 0) (f29 : ((kind_0 = 1) → (pos_0 ≤ (from_0 + 8))) ∧ ((kind_0 = 0) ∨ ((from_0 + 1) ≤ pos_0))) (f32 : ((1 ≤ x32) ∧ (fault_0 = x32)) ∨ ((x32 = 0) ∧ ((fault_0 = x31) ∧ (faultPlace_0 = x25)))) (hK_0_1 : ∀ j : Int, 0 ≤ j → j < 2000 → (-128) ≤ tape_0 j ∧ tape_0 j ≤ 127) (kz_0_8 : 0 ≤ fault_0 ∧ fault_0 ≤ 5) (kz_0_9 : 0 ≤ faultPlace_0 ∧ faultPlace_0 ≤ 2000) (kz_0_11 : 0 ≤ pos_0 ∧ pos_0 ≤ 2000) (kz_0_12 : 0 ≤ kind_0 ∧ kind_0 ≤ 4) (kz_0_15 : 0 ≤ from_0 ∧ from_0 ≤ 2000) : 1 * x3 + ((-1) * gx + 0) ≤ (-1) := by
  first | with_reducible assumption | ((have f29_c0 := f29.1); (have f29_c1 := f29.2); (try and_intros) <;> first | with_reducible assumption | (clear f29_c0 f29_c1 f29 f32 hK_0_1; omega)) | ((have f29_c0 := f29.1); (have f29_c1 := f29.2); (try and_intros) <;> first | with_reducible assumption | (clear f29_c0 f29_c1 f29 hK_0_1; omega)) | omega
set_option maxHeartbeats 4000000 in
theorem vc_Mo_of_at_s5002_30_4 (x2 : Int) (x11 : Int) (x25 : Int) (x28 : Int) (x31 : Int) (x32 : Int) (kind_0 : Int) (fault_0 : Int) (tape_0 : Int → Int) (from_0 : Int) (pos_0 : Int) (faultPlace_0 : Int) (gx : Int) (k2 : 99 ≤ x2 ∧ x2 ≤ 99) (k11 : 0 ≤ x11 ∧ x11 ≤ 2000) (k25 : 0 ≤ x25 ∧ x25 ≤ 2000) (k28 : 100 ≤ x28 ∧ x28 ≤ 1048575) (k31 : 5 ≤ x31 ∧ x31 ≤ 5) (k32 : 0 ≤ x32 ∧ x32 ≤ 5) (f2 : 1 * x28 + ((-1) * x2 + 0) ≤ 0) (f29 : ((kind_0 = 1) → (pos_0 ≤ (from_0 + 8))) ∧ ((kind_0 = 0) ∨ ((from_0 + 1) ≤ pos_0))) (f32 : ((1 ≤ x32) ∧ (fault_0 = x32)) ∨ ((x32 = 0) ∧ ((fault_0 = x31) ∧ (faultPlace_0 = x25)))) (hK_0_1 : ∀ j : Int, 0 ≤ j → j < 2000 → (-128) ≤ tape_0 j ∧ tape_0 j ≤ 127) (kz_0_8 : 0 ≤ fault_0 ∧ fault_0 ≤ 5) (kz_0_9 : 0 ≤ faultPlace_0 ∧ faultPlace_0 ≤ 2000) (kz_0_11 : 0 ≤ pos_0 ∧ pos_0 ≤ 2000) (kz_0_12 : 0 ≤ kind_0 ∧ kind_0 ≤ 4) (kz_0_15 : 0 ≤ from_0 ∧ from_0 ≤ 2000) : (-1) * x11 + ((-1) * gx + 0) ≤ (-2001) := by
  first | with_reducible assumption | ((have f29_c0 := f29.1); (have f29_c1 := f29.2); (try and_intros) <;> first | with_reducible assumption | (clear f29_c0 f29_c1 f29 f32 hK_0_1; omega)) | ((have f29_c0 := f29.1); (have f29_c1 := f29.2); (try and_intros) <;> first | with_reducible assumption | (clear f29_c0 f29_c1 f29 hK_0_1; omega)) | omega
set_option maxHeartbeats 4000000 in
theorem vc_Mo_of_at_s5002_30_5 (x2 : Int) (x4 : Int) (x5 : Int) (x6 : Int) (x15 : Int) (x17 : Int) (x18 : Int) (x19 : Int) (x20 : Int) (x22 : Int) (x25 : Int) (x28 : Int) (x33 : Int) (place_0 : Int) (kind_0 : Int) (value_0 : Int) (fault_0 : Int) (tape_0 : Int → Int) (limit_0 : Int) (pos_0 : Int) (gx : Int) (all_0 : Int → Int) (r_0 : Int) (k2 : 99 ≤ x2 ∧ x2 ≤ 99) (k4 : (-1) ≤ x4 ∧ x4 ≤ 48) (k5 : 0 ≤ x5 ∧ x5 ≤ 7) (k6 : 0 ≤ x6 ∧ x6 ≤ 4) (k22 : 0 ≤ x22 ∧ x22 ≤ 4) (k25 : 0 ≤ x25 ∧ x25 ≤ 2000) (k28 : 100 ≤ x28 ∧ x28 ≤ 1048575) (k33 : 0 ≤ x33 ∧ x33 ≤ 0) (g0 : x25 = place_0) (g1 : x22 = kind_0) (f2 : 1 * x28 + ((-1) * x2 + 0) ≤ 0) (g4 : x28 = value_0) (g6 : x33 = fault_0) (kz_0_8 : 0 ≤ fault_0 ∧ fault_0 ≤ 5) (kz_0_10 : 0 ≤ limit_0 ∧ limit_0 ≤ 2000) (kz_0_11 : 0 ≤ pos_0 ∧ pos_0 ≤ 2000) (kz_0_12 : 0 ≤ kind_0 ∧ kind_0 ≤ 4) (kz_0_13 : 0 ≤ place_0 ∧ place_0 ≤ 2000) (kz_0_14 : (-49) ≤ value_0 ∧ value_0 ≤ 1048575) (ex2 : gx = pos_0) : zU12s (limit_0) (fault_0) (r_0) (tape_0) (all_0) (x4) (x28) (x5) (x6) (gx) := by
  first | (have el_x17 : x17 = x15 := by omega); subst el_x17 | skip
  first | (have el_x18 : x18 = x4 := by omega); subst el_x18 | skip
  first | (have el_x19 : x19 = x5 := by omega); subst el_x19 | skip
  first | (have el_x20 : x20 = x6 := by omega); subst el_x20 | skip
  first | subst g0 | skip
  first | subst g1 | skip
  first | subst g4 | skip
  first | subst g6 | skip
  first | subst ex2 | skip
  first
    | exact of_val_s ‹zO11s _ _ _ _ _ _ _ _ _ _ _ _ _ _› (by omega) (by omega) (by omega) (by omega) (by omega)
    | (exfalso; omega)
def o_Mo_of_at_s5002_30 : or_T := (136, 34, [(0, (2, 0, 0, [165])), (2, (0, 99, 99, [])), (3, (0, 0, 2000, [])), (4, (0, -1, 48, [])), (5, (0, 0, 7, [])), (6, (0, 0, 4, [])), (7, (2, 0, 0, [165])), (9, (0, 99, 99, [])), (10, (0, -49, 0, [])), (11, (0, 0, 2000, [])), (15, (0, 0, 2000, [])), (17, (0, 0, 2000, [])), (18, (0, -1, 48, [])), (19, (0, 0, 7, [])), (20, (0, 0, 4, [])), (22, (0, 0, 4, [])), (23, (0, 2, 2, [])), (24, (0, 1, 1, [])), (25, (0, 0, 2000, [])), (26, (0, 0, 5, [])), (28, (0, 100, 1048575, [])), (31, (0, 5, 5, [])), (32, (0, 0, 5, [])), (33, (0, 0, 0, []))], [(9, [25, 7], [13]), (9, [22, 7], [12]), (23, [28, 9], [0, 1, -1]), (23, [28], [0, -1]), (9, [28, 7], [14]), (8, [33], [5]), (9, [33, 7], [8]), (20, [7, 31, 25], [60, 1, 1, 1026, 10, 1]), (20, [32], [61, 0, 1029]), (20, [7, 24, 25], [60, 1, 1, 1026, 10, 1]), (20, [26], [61, 0, 1029]), (23, [17, 15], [0, 1, -1]), (23, [17, 15], [0, -1, 1]), (23, [18, 4], [0, 1, -1]), (23, [18, 4], [0, -1, 1]), (23, [19, 5], [0, 1, -1]), (23, [19, 5], [0, -1, 1]), (23, [20, 6], [0, 1, -1]), (23, [20, 6], [0, -1, 1]), (23, [3, 17], [-1, 1, -1]), (23, [11, 17], [-2000, -1, -1]), (23, [3, 15], [-1, 1, -1]), (23, [11, 15], [-2000, -1, -1]), (23, [10, 9], [0, 1, -1]), (23, [10], [0, -1]), (23, [4], [0, -1]), (24, [0, 7], []), (24, [2, 9], []), (20, [7, 7], [30, 0, 1, 1, 15, -1, 1, 11]), (20, [7], [50, 3, 0, 12, 11, 15, 2, 21, 4, 7, 1, 3, 2, 0, 12, 0, 1, 0, 3, 2, 0, 11, 4, 3, 2, 0, 15, 0, 8, 3, 7, 1, 3, 2, 0, 12, 0, 0, 0, 7, 4, 3, 2, 0, 15, 0, 1, 2, 0, 11]), (20, [17, 7], [30, 0, 1, 0, 0, -1, 1, 11]), (20, [7], [30, -1, -1, 1, 8]), (20, [32, 7, 31, 25], [50, 2, 0, 1008, 1009, 3, 15, 2, 6, 0, 2, 0, 1, 1, 0, 1, 3, 2, 1, 8, 1, 0, 2, 6, 1, 2, 1, 0, 0, 0, 2, 7, 1, 3, 2, 1, 8, 1, 2, 1, 3, 2, 1, 9, 1, 3]), (102, [32], [0, 165008, 165009]), (23, [17, 15], [0, 1, -1]), (23, [17, 15], [0, -1, 1]), (23, [18, 4], [0, 1, -1]), (23, [18, 4], [0, -1, 1]), (23, [19, 5], [0, 1, -1]), (23, [19, 5], [0, -1, 1]), (23, [20, 6], [0, 1, -1]), (23, [20, 6], [0, -1, 1]), (23, [3, 17], [-1, 1, -1]), (23, [11, 17], [-2000, -1, -1]), (23, [3, 15], [-1, 1, -1]), (23, [11, 15], [-2000, -1, -1]), (23, [10, 9], [0, 1, -1]), (23, [10], [0, -1]), (23, [4], [0, -1]), (102, [26], [0, 165008, 165009]), (7, [22, 23], [1]), (23, [17, 15], [0, 1, -1]), (23, [17, 15], [0, -1, 1]), (23, [18, 4], [0, 1, -1]), (23, [18, 4], [0, -1, 1]), (23, [19, 5], [0, 1, -1]), (23, [19, 5], [0, -1, 1]), (23, [20, 6], [0, 1, -1]), (23, [20, 6], [0, -1, 1]), (23, [3, 17], [-1, 1, -1]), (23, [11, 17], [-2000, -1, -1]), (23, [3, 15], [-1, 1, -1]), (23, [11, 15], [-2000, -1, -1]), (23, [10, 9], [0, 1, -1]), (23, [10], [0, -1]), (23, [4], [0, -1]), (102, [20], [0, 165008, 165009, 165011, 165012, 165013, 165014, 165015]), (23, [17, 15], [0, 1, -1]), (23, [17, 15], [0, -1, 1]), (23, [18, 4], [0, 1, -1]), (23, [18, 4], [0, -1, 1]), (23, [19, 5], [0, 1, -1]), (23, [19, 5], [0, -1, 1]), (23, [20, 6], [0, 1, -1]), (23, [20, 6], [0, -1, 1]), (23, [3, 17], [-1, 1, -1]), (23, [11, 17], [-2000, -1, -1]), (23, [3, 15], [-1, 1, -1]), (23, [11, 15], [-2000, -1, -1]), (23, [10, 9], [0, 1, -1]), (23, [10], [0, -1]), (23, [4], [0, -1]), (102, [15], [0, 165011, 165012, 165013, 165014, 165015]), (23, [3, 15], [-1, 1, -1]), (23, [11, 15], [-2000, -1, -1]), (8, [10], [5]), (23, [10, 9], [0, 1, -1]), (23, [10], [0, -1]), (23, [4], [0, -1]), (102, [13], [0]), (23, [10, 9], [0, 1, -1]), (23, [10], [0, -1]), (23, [4], [0, -1])], [], [(0, 0, 2000, [])], [(20, [34, 7], [30, 0, 1, 0, 0, -1, 1, 11]), (20, [34, 7], [50, 1, 0, 1011, 1, 2, 1, 0, 2, 1, 11]), (20, [7], [60, 2, 0, 947, 10, 11]), (23, [3, 34], [-1, 1, -1]), (23, [11, 34], [-2001, -1, -1]), (20, [7, 4, 28, 5, 6, 34], [60, 3, 2, 986, 10, 8, 5, 1, 2])], [], [])
theorem oo_Mo_of_at_s5002_30 {kA : Nat → ClassId} : or_ok PRD kA GG o_Mo_of_at_s5002_30 := by
  refine or_mk fun A ta ws vs hD hth hl => ?_
  intro t0 r0 t2 k2 t3 k3 t4 k4 t5 k5 t6 k6 t7 r7 t9 k9 t10 k10 t11 k11 t15 k15 t17 k17 t18 k18 t19 k19 t20 k20 t22 k22 t23 k23 t24 k24 t25 k25 t26 k26 t28 k28 t31 k31 t32 k32 t33 k33 f0 f1 f2 f3 f4 f5 f6 f7 f8 f9 f10 f11 f12 f13 f14 f15 f16 f17 f18 f19 f20 f21 f22 f23 f24 f25 f26 f27 f28 f29 f30 f31 f32 ta1 w1 le1 s1 f34 f35 f36 f37 f38 f39 f40 f41 f42 f43 f44 f45 f46 f47 f48 ta2 w2 le2 s2 f50 f51 f52 f53 f54 f55 f56 f57 f58 f59 f60 f61 f62 f63 f64 f65 ta3 w3 le3 s3 f67 f68 f69 f70 f71 f72 f73 f74 f75 f76 f77 f78 f79 f80 f81 ta4 w4 le4 s4 f83 f84 f85 f86 f87 f88 ta5 w5 le5 s5 f90 f91 f92
  replace f0 := shm_361 f0
  replace f1 := shm_103 f1
  replace f2 := shm_7 f2
  replace f4 := shm_115 f4
  replace f6 := shm_293 f6
  replace f26 := shm_5 f26
  replace f27 := shm_5 f27
  replace f29 := shm_1438 f29
  replace f32 := shm_306 f32
  have q7 : n_v vs 7 = n_v vs 0 := f26.symm
  have q9 : n_v vs 9 = n_v vs 2 := f27.symm
  simp only [q7, q9] at f0 f1 f2 f4 f6 f29 f32
  have cr_0_1 := fdq_39 hD hth r0
  have g0 : v_iv (n_v vs 25) = w_fi ws (n_v vs 0) 13 := congrArg v_iv f0
  have g1 : v_iv (n_v vs 22) = w_fi ws (n_v vs 0) 12 := congrArg v_iv f1
  have g4 : v_iv (n_v vs 28) = w_fi ws (n_v vs 0) 14 := congrArg v_iv f4
  have g6 : v_iv (n_v vs 33) = w_fi ws (n_v vs 0) 8 := congrArg v_iv f6
  have hK_0_1 := elq_7 hD hth cr_0_1
  have kz_0_8 := fdq_34 hD hth r0
  have kz_0_9 := fdq_44 hD hth r0
  have kz_0_10 := fdq_43 hD hth r0
  have kz_0_11 := fdq_237 hD hth r0
  have kz_0_12 := fdq_187 hD hth r0
  have kz_0_13 := fdq_238 hD hth r0
  have kz_0_14 := fdq_188 hD hth r0
  have kz_0_15 := fdq_239 hD hth r0
  obtain ⟨x, ex, hx⟩ := iv_ex (ta := ta) (lo := 0) (hi := 2000) (z := w_fi ws (n_v vs 0) 11) (by omega) (by omega) (by omega) (by omega)
  have ex2 : v_iv (Value.int x) = w_fi ws (n_v vs 0) 11 := ex
  have ex3 : 0 ≤ v_iv (Value.int x) ∧ v_iv (Value.int x) ≤ 2000 := tv_rng hx
  have e_3 : n_v (vs ++ [Value.int x]) 3 = n_v vs 3 := n_v_old (by rw [hl]; decide)
  have e_4 : n_v (vs ++ [Value.int x]) 4 = n_v vs 4 := n_v_old (by rw [hl]; decide)
  have e_5 : n_v (vs ++ [Value.int x]) 5 = n_v vs 5 := n_v_old (by rw [hl]; decide)
  have e_6 : n_v (vs ++ [Value.int x]) 6 = n_v vs 6 := n_v_old (by rw [hl]; decide)
  have e_7 : n_v (vs ++ [Value.int x]) 7 = n_v vs 7 := n_v_old (by rw [hl]; decide)
  have e_11 : n_v (vs ++ [Value.int x]) 11 = n_v vs 11 := n_v_old (by rw [hl]; decide)
  have e_28 : n_v (vs ++ [Value.int x]) 28 = n_v vs 28 := n_v_old (by rw [hl]; decide)
  have e_34 : n_v (vs ++ [Value.int x]) 34 = Value.int x := n_v_new hl
  have nf0 : fc_1 PRD (20, [34, 7], [30, 0, 1, 0, 0, -1, 1, 11]) ws (vs ++ [Value.int x]) := by
    refine ⟨nf_inA hl rfl, sgq_1431 ?_⟩
    · show 1 * v_iv (n_v (vs ++ [Value.int x]) 34) + ((-1) * w_fi ws (n_v (vs ++ [Value.int x]) 7) 11 + 0) ≤ 0
      simp only [e_7, e_34, q7]
      exact vc_Mo_of_at_s5002_30_0 (v_iv (n_v vs 2)) (v_iv (n_v vs 25)) (v_iv (n_v vs 28)) (v_iv (n_v vs 31)) (v_iv (n_v vs 32)) (w_fi ws (n_v vs 0) 12) (w_fi ws (n_v vs 0) 8) (w_ei ws (w_ar ws (n_v vs 0) 1)) (w_fi ws (n_v vs 0) 15) (w_fi ws (n_v vs 0) 11) (w_fi ws (n_v vs 0) 9) (v_iv (Value.int x)) k2 k25 k28 k31 k32 f2 f29 f32 hK_0_1 kz_0_8 kz_0_9 kz_0_11 kz_0_12 kz_0_15
  have nf1 : fc_1 PRD (20, [34, 7], [50, 1, 0, 1011, 1, 2, 1, 0, 2, 1, 11]) ws (vs ++ [Value.int x]) := by
    refine ⟨nf_inA hl rfl, sgq_1432 ?_⟩
    · show v_iv (n_v (vs ++ [Value.int x]) 34) = w_fi ws (n_v (vs ++ [Value.int x]) 7) 11
      simp only [e_7, e_34, q7]
      exact vc_Mo_of_at_s5002_30_1 (v_iv (n_v vs 25)) (v_iv (n_v vs 31)) (v_iv (n_v vs 32)) (w_fi ws (n_v vs 0) 12) (w_fi ws (n_v vs 0) 8) (w_ei ws (w_ar ws (n_v vs 0) 1)) (w_fi ws (n_v vs 0) 15) (w_fi ws (n_v vs 0) 11) (w_fi ws (n_v vs 0) 9) (v_iv (Value.int x)) k25 k31 k32 f29 f32 hK_0_1 kz_0_8 kz_0_9 kz_0_11 kz_0_12 kz_0_15 ex2
  have nf2 : fc_1 PRD (20, [7], [60, 2, 0, 947, 10, 11]) ws (vs ++ [Value.int x]) := by
    refine ⟨nf_inA hl rfl, sgq_1433 ?_⟩
    · show ZLM (w_fi ws (n_v (vs ++ [Value.int x]) 7) 10) (w_fi ws (n_v (vs ++ [Value.int x]) 7) 11)
      simp only [e_7, q7]
      exact vc_Mo_of_at_s5002_30_2 (v_iv (n_v vs 2)) (v_iv (n_v vs 4)) (v_iv (n_v vs 5)) (v_iv (n_v vs 6)) (v_iv (n_v vs 15)) (v_iv (n_v vs 17)) (v_iv (n_v vs 18)) (v_iv (n_v vs 19)) (v_iv (n_v vs 20)) (v_iv (n_v vs 22)) (v_iv (n_v vs 25)) (v_iv (n_v vs 28)) (v_iv (n_v vs 33)) (w_fi ws (n_v vs 0) 13) (w_fi ws (n_v vs 0) 12) (w_fi ws (n_v vs 0) 14) (w_fi ws (n_v vs 0) 8) (w_fi ws (n_v vs 0) 10) (w_fi ws (n_v vs 0) 11) (v_iv (Value.int x)) k2 k22 k25 k28 k33 g0 g1 f2 g4 g6 kz_0_8 kz_0_10 kz_0_11 kz_0_12 kz_0_13 kz_0_14 ex2
  have nf3 : fc_1 PRD (23, [3, 34], [-1, 1, -1]) ws (vs ++ [Value.int x]) := by
    refine ⟨nf_inA hl rfl, sgq_193 ?_⟩
    · show 1 * v_iv (n_v (vs ++ [Value.int x]) 3) + ((-1) * v_iv (n_v (vs ++ [Value.int x]) 34) + 0) ≤ (-1)
      simp only [e_3, e_34]
      exact vc_Mo_of_at_s5002_30_3 (v_iv (n_v vs 2)) (v_iv (n_v vs 3)) (v_iv (n_v vs 25)) (v_iv (n_v vs 28)) (v_iv (n_v vs 31)) (v_iv (n_v vs 32)) (w_fi ws (n_v vs 0) 12) (w_fi ws (n_v vs 0) 8) (w_ei ws (w_ar ws (n_v vs 0) 1)) (w_fi ws (n_v vs 0) 15) (w_fi ws (n_v vs 0) 11) (w_fi ws (n_v vs 0) 9) (v_iv (Value.int x)) k2 k3 k25 k28 k31 k32 f2 f29 f32 hK_0_1 kz_0_8 kz_0_9 kz_0_11 kz_0_12 kz_0_15
  have nf4 : fc_1 PRD (23, [11, 34], [-2001, -1, -1]) ws (vs ++ [Value.int x]) := by
    refine ⟨nf_inA hl rfl, sgq_2011 ?_⟩
    · show (-1) * v_iv (n_v (vs ++ [Value.int x]) 11) + ((-1) * v_iv (n_v (vs ++ [Value.int x]) 34) + 0) ≤ (-2001)
      simp only [e_11, e_34]
      exact vc_Mo_of_at_s5002_30_4 (v_iv (n_v vs 2)) (v_iv (n_v vs 11)) (v_iv (n_v vs 25)) (v_iv (n_v vs 28)) (v_iv (n_v vs 31)) (v_iv (n_v vs 32)) (w_fi ws (n_v vs 0) 12) (w_fi ws (n_v vs 0) 8) (w_ei ws (w_ar ws (n_v vs 0) 1)) (w_fi ws (n_v vs 0) 15) (w_fi ws (n_v vs 0) 11) (w_fi ws (n_v vs 0) 9) (v_iv (Value.int x)) k2 k11 k25 k28 k31 k32 f2 f29 f32 hK_0_1 kz_0_8 kz_0_9 kz_0_11 kz_0_12 kz_0_15
  have nf5 : fc_1 PRD (20, [7, 4, 28, 5, 6, 34], [60, 3, 2, 986, 10, 8, 5, 1, 2]) ws (vs ++ [Value.int x]) := by
    refine ⟨nf_inA hl rfl, sgq_2012 ?_⟩
    · show zU12s (w_fi ws (n_v (vs ++ [Value.int x]) 7) 10) (w_fi ws (n_v (vs ++ [Value.int x]) 7) 8) (w_fi ws (n_v (vs ++ [Value.int x]) 7) 5) (w_ei ws (w_ar ws (n_v (vs ++ [Value.int x]) 7) 1)) (w_ei ws (w_ar ws (n_v (vs ++ [Value.int x]) 7) 2)) (v_iv (n_v (vs ++ [Value.int x]) 4)) (v_iv (n_v (vs ++ [Value.int x]) 28)) (v_iv (n_v (vs ++ [Value.int x]) 5)) (v_iv (n_v (vs ++ [Value.int x]) 6)) (v_iv (n_v (vs ++ [Value.int x]) 34))
      simp only [e_4, e_5, e_6, e_7, e_28, e_34, q7]
      exact vc_Mo_of_at_s5002_30_5 (v_iv (n_v vs 2)) (v_iv (n_v vs 4)) (v_iv (n_v vs 5)) (v_iv (n_v vs 6)) (v_iv (n_v vs 15)) (v_iv (n_v vs 17)) (v_iv (n_v vs 18)) (v_iv (n_v vs 19)) (v_iv (n_v vs 20)) (v_iv (n_v vs 22)) (v_iv (n_v vs 25)) (v_iv (n_v vs 28)) (v_iv (n_v vs 33)) (w_fi ws (n_v vs 0) 13) (w_fi ws (n_v vs 0) 12) (w_fi ws (n_v vs 0) 14) (w_fi ws (n_v vs 0) 8) (w_ei ws (w_ar ws (n_v vs 0) 1)) (w_fi ws (n_v vs 0) 10) (w_fi ws (n_v vs 0) 11) (v_iv (Value.int x)) (w_ei ws (w_ar ws (n_v vs 0) 2)) (w_fi ws (n_v vs 0) 5) k2 k4 k5 k6 k22 k25 k28 k33 g0 g1 f2 g4 g6 kz_0_8 kz_0_10 kz_0_11 kz_0_12 kz_0_13 kz_0_14 ex2
  exact ⟨(fun _ h => (by cases h)), [Value.int x], ag_one hx, List.forall_mem_cons.mpr ⟨⟨show (20 : Nat) < 100 from by decide, nf0⟩, List.forall_mem_cons.mpr ⟨⟨show (20 : Nat) < 100 from by decide, nf1⟩, List.forall_mem_cons.mpr ⟨⟨show (20 : Nat) < 100 from by decide, nf2⟩, List.forall_mem_cons.mpr ⟨⟨show (23 : Nat) < 100 from by decide, nf3⟩, List.forall_mem_cons.mpr ⟨⟨show (23 : Nat) < 100 from by decide, nf4⟩, List.forall_mem_cons.mpr ⟨⟨show (20 : Nat) < 100 from by decide, nf5⟩, (fun _ h => (by cases h))⟩⟩⟩⟩⟩⟩, (fun _ h => (by cases h))⟩
set_option maxHeartbeats 4000000 in
theorem vc_Mo_of_at_s5002_31_0 (x25 : Int) (x31 : Int) (x32 : Int) (fault_0 : Int) (tape_0 : Int → Int) (faultPlace_0 : Int) (from_0 : Int) (pos_0 : Int) (kind_0 : Int) (k25 : 0 ≤ x25 ∧ x25 ≤ 2000) (k31 : 5 ≤ x31 ∧ x31 ≤ 5) (k32 : 0 ≤ x32 ∧ x32 ≤ 5) (f28 : ((1 ≤ x32) ∧ (fault_0 = x32)) ∨ ((x32 = 0) ∧ ((fault_0 = x31) ∧ (faultPlace_0 = x25)))) (f29 : 1 * from_0 + ((-1) * pos_0 + 0) ≤ 0) (f30 : ((kind_0 = 1) → (pos_0 ≤ (from_0 + 8))) ∧ ((kind_0 = 0) ∨ ((from_0 + 1) ≤ pos_0))) (hK_0_1 : ∀ j : Int, 0 ≤ j → j < 2000 → (-128) ≤ tape_0 j ∧ tape_0 j ≤ 127) (kz_0_8 : 0 ≤ fault_0 ∧ fault_0 ≤ 5) (kz_0_9 : 0 ≤ faultPlace_0 ∧ faultPlace_0 ≤ 2000) (kz_0_11 : 0 ≤ pos_0 ∧ pos_0 ≤ 2000) (kz_0_12 : 0 ≤ kind_0 ∧ kind_0 ≤ 4) (kz_0_15 : 0 ≤ from_0 ∧ from_0 ≤ 2000) : 1 * from_0 + ((-1) * pos_0 + 0) ≤ 0 := by
  first | with_reducible assumption | ((have f30_c0 := f30.1); (have f30_c1 := f30.2); (try and_intros) <;> first | with_reducible assumption | (clear f28 f30_c0 f30_c1 f30 hK_0_1; omega)) | ((have f30_c0 := f30.1); (have f30_c1 := f30.2); (try and_intros) <;> first | with_reducible assumption | (clear f30_c0 f30_c1 f30 hK_0_1; omega)) | omega
set_option maxHeartbeats 4000000 in
theorem vc_Mo_of_at_s5002_31_1 (x25 : Int) (x31 : Int) (x32 : Int) (fault_0 : Int) (tape_0 : Int → Int) (faultPlace_0 : Int) (from_0 : Int) (pos_0 : Int) (kind_0 : Int) (k25 : 0 ≤ x25 ∧ x25 ≤ 2000) (k31 : 5 ≤ x31 ∧ x31 ≤ 5) (k32 : 0 ≤ x32 ∧ x32 ≤ 5) (f28 : ((1 ≤ x32) ∧ (fault_0 = x32)) ∨ ((x32 = 0) ∧ ((fault_0 = x31) ∧ (faultPlace_0 = x25)))) (f30 : ((kind_0 = 1) → (pos_0 ≤ (from_0 + 8))) ∧ ((kind_0 = 0) ∨ ((from_0 + 1) ≤ pos_0))) (hK_0_1 : ∀ j : Int, 0 ≤ j → j < 2000 → (-128) ≤ tape_0 j ∧ tape_0 j ≤ 127) (kz_0_8 : 0 ≤ fault_0 ∧ fault_0 ≤ 5) (kz_0_9 : 0 ≤ faultPlace_0 ∧ faultPlace_0 ≤ 2000) (kz_0_11 : 0 ≤ pos_0 ∧ pos_0 ≤ 2000) (kz_0_12 : 0 ≤ kind_0 ∧ kind_0 ≤ 4) (kz_0_15 : 0 ≤ from_0 ∧ from_0 ≤ 2000) : ((kind_0 = 1) → (pos_0 ≤ (from_0 + 8))) ∧ ((kind_0 = 0) ∨ ((from_0 + 1) ≤ pos_0)) := by
  first | with_reducible assumption | ((have f30_c0 := f30.1); (have f30_c1 := f30.2); (try and_intros) <;> first | with_reducible assumption | (clear f28 f30_c0 f30_c1 f30 hK_0_1; omega)) | ((have f30_c0 := f30.1); (have f30_c1 := f30.2); (try and_intros) <;> first | with_reducible assumption | (clear f30_c0 f30_c1 f30 hK_0_1; omega)) | omega
set_option maxHeartbeats 4000000 in
theorem vc_Mo_of_at_s5002_31_2 (x2 : Int) (x3 : Int) (x25 : Int) (x28 : Int) (x31 : Int) (x32 : Int) (fault_0 : Int) (tape_0 : Int → Int) (faultPlace_0 : Int) (from_0 : Int) (pos_0 : Int) (kind_0 : Int) (k2 : 99 ≤ x2 ∧ x2 ≤ 99) (k3 : 0 ≤ x3 ∧ x3 ≤ 2000) (k25 : 0 ≤ x25 ∧ x25 ≤ 2000) (k28 : 100 ≤ x28 ∧ x28 ≤ 1048575) (k31 : 5 ≤ x31 ∧ x31 ≤ 5) (k32 : 0 ≤ x32 ∧ x32 ≤ 5) (f4 : 1 * x28 + ((-1) * x2 + 0) ≤ 0) (f28 : ((1 ≤ x32) ∧ (fault_0 = x32)) ∨ ((x32 = 0) ∧ ((fault_0 = x31) ∧ (faultPlace_0 = x25)))) (f30 : ((kind_0 = 1) → (pos_0 ≤ (from_0 + 8))) ∧ ((kind_0 = 0) ∨ ((from_0 + 1) ≤ pos_0))) (hK_0_1 : ∀ j : Int, 0 ≤ j → j < 2000 → (-128) ≤ tape_0 j ∧ tape_0 j ≤ 127) (kz_0_8 : 0 ≤ fault_0 ∧ fault_0 ≤ 5) (kz_0_9 : 0 ≤ faultPlace_0 ∧ faultPlace_0 ≤ 2000) (kz_0_11 : 0 ≤ pos_0 ∧ pos_0 ≤ 2000) (kz_0_12 : 0 ≤ kind_0 ∧ kind_0 ≤ 4) (kz_0_15 : 0 ≤ from_0 ∧ from_0 ≤ 2000) : 1 * x3 + ((-1) * pos_0 + 0) ≤ (-1) := by
  first | with_reducible assumption | ((have f30_c0 := f30.1); (have f30_c1 := f30.2); (try and_intros) <;> first | with_reducible assumption | (clear f28 f30_c0 f30_c1 f30 hK_0_1; omega)) | ((have f30_c0 := f30.1); (have f30_c1 := f30.2); (try and_intros) <;> first | with_reducible assumption | (clear f30_c0 f30_c1 f30 hK_0_1; omega)) | omega
set_option maxHeartbeats 4000000 in
theorem vc_Mo_of_at_s5002_31_3 (x2 : Int) (x25 : Int) (x28 : Int) (x31 : Int) (x32 : Int) (fault_0 : Int) (tape_0 : Int → Int) (faultPlace_0 : Int) (from_0 : Int) (pos_0 : Int) (kind_0 : Int) (k2 : 99 ≤ x2 ∧ x2 ≤ 99) (k25 : 0 ≤ x25 ∧ x25 ≤ 2000) (k28 : 100 ≤ x28 ∧ x28 ≤ 1048575) (k31 : 5 ≤ x31 ∧ x31 ≤ 5) (k32 : 0 ≤ x32 ∧ x32 ≤ 5) (f28 : ((1 ≤ x32) ∧ (fault_0 = x32)) ∨ ((x32 = 0) ∧ ((fault_0 = x31) ∧ (faultPlace_0 = x25)))) (f30 : ((kind_0 = 1) → (pos_0 ≤ (from_0 + 8))) ∧ ((kind_0 = 0) ∨ ((from_0 + 1) ≤ pos_0))) (f36 : 1 * x28 + ((-1) * x2 + 0) ≤ 0) (hK_0_1 : ∀ j : Int, 0 ≤ j → j < 2000 → (-128) ≤ tape_0 j ∧ tape_0 j ≤ 127) (kz_0_8 : 0 ≤ fault_0 ∧ fault_0 ≤ 5) (kz_0_9 : 0 ≤ faultPlace_0 ∧ faultPlace_0 ≤ 2000) (kz_0_11 : 0 ≤ pos_0 ∧ pos_0 ≤ 2000) (kz_0_12 : 0 ≤ kind_0 ∧ kind_0 ≤ 4) (kz_0_15 : 0 ≤ from_0 ∧ from_0 ≤ 2000) : 1 * x28 + ((-1) * x2 + 0) ≤ 0 := by
  first | with_reducible assumption | ((have f30_c0 := f30.1); (have f30_c1 := f30.2); (try and_intros) <;> first | with_reducible assumption | (clear f28 f30_c0 f30_c1 f30 hK_0_1; omega)) | ((have f30_c0 := f30.1); (have f30_c1 := f30.2); (try and_intros) <;> first | with_reducible assumption | (clear f30_c0 f30_c1 f30 hK_0_1; omega)) | omega
set_option maxHeartbeats 4000000 in
theorem vc_Mo_of_at_s5002_31_4 (x25 : Int) (x28 : Int) (x31 : Int) (x32 : Int) (fault_0 : Int) (tape_0 : Int → Int) (faultPlace_0 : Int) (from_0 : Int) (pos_0 : Int) (kind_0 : Int) (k25 : 0 ≤ x25 ∧ x25 ≤ 2000) (k28 : 100 ≤ x28 ∧ x28 ≤ 1048575) (k31 : 5 ≤ x31 ∧ x31 ≤ 5) (k32 : 0 ≤ x32 ∧ x32 ≤ 5) (f28 : ((1 ≤ x32) ∧ (fault_0 = x32)) ∨ ((x32 = 0) ∧ ((fault_0 = x31) ∧ (faultPlace_0 = x25)))) (f30 : ((kind_0 = 1) → (pos_0 ≤ (from_0 + 8))) ∧ ((kind_0 = 0) ∨ ((from_0 + 1) ≤ pos_0))) (f37 : (-1) * x28 + 0 ≤ 0) (hK_0_1 : ∀ j : Int, 0 ≤ j → j < 2000 → (-128) ≤ tape_0 j ∧ tape_0 j ≤ 127) (kz_0_8 : 0 ≤ fault_0 ∧ fault_0 ≤ 5) (kz_0_9 : 0 ≤ faultPlace_0 ∧ faultPlace_0 ≤ 2000) (kz_0_11 : 0 ≤ pos_0 ∧ pos_0 ≤ 2000) (kz_0_12 : 0 ≤ kind_0 ∧ kind_0 ≤ 4) (kz_0_15 : 0 ≤ from_0 ∧ from_0 ≤ 2000) : (-1) * x28 + 0 ≤ 0 := by
  first | with_reducible assumption | ((have f30_c0 := f30.1); (have f30_c1 := f30.2); (try and_intros) <;> first | with_reducible assumption | (clear f28 f30_c0 f30_c1 f30 hK_0_1; omega)) | ((have f30_c0 := f30.1); (have f30_c1 := f30.2); (try and_intros) <;> first | with_reducible assumption | (clear f30_c0 f30_c1 f30 hK_0_1; omega)) | omega
set_option maxHeartbeats 4000000 in
theorem vc_Mo_of_at_s5002_31_5 (x4 : Int) (x25 : Int) (x31 : Int) (x32 : Int) (fault_0 : Int) (tape_0 : Int → Int) (faultPlace_0 : Int) (from_0 : Int) (pos_0 : Int) (kind_0 : Int) (k4 : (-1) ≤ x4 ∧ x4 ≤ 48) (k25 : 0 ≤ x25 ∧ x25 ≤ 2000) (k31 : 5 ≤ x31 ∧ x31 ≤ 5) (k32 : 0 ≤ x32 ∧ x32 ≤ 5) (f28 : ((1 ≤ x32) ∧ (fault_0 = x32)) ∨ ((x32 = 0) ∧ ((fault_0 = x31) ∧ (faultPlace_0 = x25)))) (f30 : ((kind_0 = 1) → (pos_0 ≤ (from_0 + 8))) ∧ ((kind_0 = 0) ∨ ((from_0 + 1) ≤ pos_0))) (f112 : (-1) * x4 + 0 ≤ 0) (hK_0_1 : ∀ j : Int, 0 ≤ j → j < 2000 → (-128) ≤ tape_0 j ∧ tape_0 j ≤ 127) (kz_0_8 : 0 ≤ fault_0 ∧ fault_0 ≤ 5) (kz_0_9 : 0 ≤ faultPlace_0 ∧ faultPlace_0 ≤ 2000) (kz_0_11 : 0 ≤ pos_0 ∧ pos_0 ≤ 2000) (kz_0_12 : 0 ≤ kind_0 ∧ kind_0 ≤ 4) (kz_0_15 : 0 ≤ from_0 ∧ from_0 ≤ 2000) : (-1) * x4 + 0 ≤ 0 := by
  first | with_reducible assumption | ((have f30_c0 := f30.1); (have f30_c1 := f30.2); (try and_intros) <;> first | with_reducible assumption | (clear f28 f30_c0 f30_c1 f30 hK_0_1; omega)) | ((have f30_c0 := f30.1); (have f30_c1 := f30.2); (try and_intros) <;> first | with_reducible assumption | (clear f30_c0 f30_c1 f30 hK_0_1; omega)) | omega
set_option maxHeartbeats 4000000 in
theorem vc_Mo_of_at_s5002_31_6 (x2 : Int) (x25 : Int) (x28 : Int) (x31 : Int) (x32 : Int) (fault_0 : Int) (tape_0 : Int → Int) (faultPlace_0 : Int) (from_0 : Int) (pos_0 : Int) (kind_0 : Int) (gx : Int) (k2 : 99 ≤ x2 ∧ x2 ≤ 99) (k25 : 0 ≤ x25 ∧ x25 ≤ 2000) (k28 : 100 ≤ x28 ∧ x28 ≤ 1048575) (k31 : 5 ≤ x31 ∧ x31 ≤ 5) (k32 : 0 ≤ x32 ∧ x32 ≤ 5) (f4 : 1 * x28 + ((-1) * x2 + 0) ≤ 0) (f28 : ((1 ≤ x32) ∧ (fault_0 = x32)) ∨ ((x32 = 0) ∧ ((fault_0 = x31) ∧ (faultPlace_0 = x25)))) (f30 : ((kind_0 = 1) → (pos_0 ≤ (from_0 + 8))) ∧ ((kind_0 = 0) ∨ ((from_0 + 1) ≤ pos_0))) (hK_0_1 : ∀ j : Int, 0 ≤ j → j < 2000 → (-128) ≤ tape_0 j ∧ tape_0 j ≤ 127) (kz_0_8 : 0 ≤ fault_0 ∧ fault_0 ≤ 5) (kz_0_9 : 0 ≤ faultPlace_0 ∧ faultPlace_0 ≤ 2000) (kz_0_11 : 0 ≤ pos_0 ∧ pos_0 ≤ 2000) (kz_0_12 : 0 ≤ kind_0 ∧ kind_0 ≤ 4) (kz_0_15 : 0 ≤ from_0 ∧ from_0 ≤ 2000) : (-1) * gx + ((-1) * pos_0 + 0) ≤ (-2001) := by
  first | with_reducible assumption | ((have f30_c0 := f30.1); (have f30_c1 := f30.2); (try and_intros) <;> first | with_reducible assumption | (clear f28 f30_c0 f30_c1 f30 hK_0_1; omega)) | ((have f30_c0 := f30.1); (have f30_c1 := f30.2); (try and_intros) <;> first | with_reducible assumption | (clear f30_c0 f30_c1 f30 hK_0_1; omega)) | omega
set_option maxHeartbeats 4000000 in
theorem vc_Mo_of_at_s5002_31_7 (x2 : Int) (x4 : Int) (x5 : Int) (x6 : Int) (x15 : Int) (x17 : Int) (x18 : Int) (x19 : Int) (x20 : Int) (x28 : Int) (x33 : Int) (x34 : Int) (fault_0 : Int) (tape_0 : Int → Int) (all_0 : Int → Int) (limit_0 : Int) (r_0 : Int) (from_0 : Int) (pos_0 : Int) (kind_0 : Int) (place_0 : Int) (value_0 : Int) (k2 : 99 ≤ x2 ∧ x2 ≤ 99) (k4 : (-1) ≤ x4 ∧ x4 ≤ 48) (k5 : 0 ≤ x5 ∧ x5 ≤ 7) (k6 : 0 ≤ x6 ∧ x6 ≤ 4) (k28 : 100 ≤ x28 ∧ x28 ≤ 1048575) (k33 : 0 ≤ x33 ∧ x33 ≤ 0) (k34 : 0 ≤ x34 ∧ x34 ≤ 2000) (g0 : x33 = fault_0) (f3 : zU12s (limit_0) (fault_0) (r_0) (tape_0) (all_0) (x4) (x28) (x5) (x6) (x34)) (f4 : 1 * x28 + ((-1) * x2 + 0) ≤ 0) (f32 : TKR (limit_0) (pos_0) (kind_0) (place_0) (value_0) (from_0) (tape_0) (x34)) (kz_0_8 : 0 ≤ fault_0 ∧ fault_0 ≤ 5) (kz_0_10 : 0 ≤ limit_0 ∧ limit_0 ≤ 2000) (kz_0_11 : 0 ≤ pos_0 ∧ pos_0 ≤ 2000) (kz_0_12 : 0 ≤ kind_0 ∧ kind_0 ≤ 4) (kz_0_13 : 0 ≤ place_0 ∧ place_0 ≤ 2000) (kz_0_14 : (-49) ≤ value_0 ∧ value_0 ≤ 1048575) (kz_0_15 : 0 ≤ from_0 ∧ from_0 ≤ 2000) : zO12s (limit_0) (pos_0) (kind_0) (place_0) (value_0) (from_0) (fault_0) (r_0) (tape_0) (all_0) (x4) (x28) (x5) (x6) := by
  first | (have el_x17 : x17 = x15 := by omega); subst el_x17 | skip
  first | (have el_x18 : x18 = x4 := by omega); subst el_x18 | skip
  first | (have el_x19 : x19 = x5 := by omega); subst el_x19 | skip
  first | (have el_x20 : x20 = x6 := by omega); subst el_x20 | skip
  first | subst g0 | skip
  first
    | exact of_12_s ‹zU12s _ _ _ _ _ _ _ _ _ _› ‹TKR _ _ _ _ _ _ _ _›
    | (exfalso; omega)
def o_Mo_of_at_s5002_31 : or_T := (139, 35, [(0, (2, 0, 0, [165])), (2, (0, 99, 99, [])), (3, (0, 0, 2000, [])), (4, (0, -1, 48, [])), (5, (0, 0, 7, [])), (6, (0, 0, 4, [])), (7, (2, 0, 0, [165])), (9, (0, 99, 99, [])), (10, (0, -49, 0, [])), (11, (0, 0, 2000, [])), (15, (0, 0, 2000, [])), (17, (0, 0, 2000, [])), (18, (0, -1, 48, [])), (19, (0, 0, 7, [])), (20, (0, 0, 4, [])), (24, (0, 1, 1, [])), (25, (0, 0, 2000, [])), (26, (0, 0, 5, [])), (28, (0, 100, 1048575, [])), (31, (0, 5, 5, [])), (32, (0, 0, 5, [])), (33, (0, 0, 0, [])), (34, (0, 0, 2000, []))], [(9, [33, 7], [8]), (23, [3, 34], [-1, 1, -1]), (23, [11, 34], [-2001, -1, -1]), (20, [7, 4, 28, 5, 6, 34], [60, 3, 2, 986, 10, 8, 5, 1, 2]), (23, [28, 9], [0, 1, -1]), (23, [28], [0, -1]), (20, [7, 31, 25], [60, 1, 1, 1026, 10, 1]), (20, [32], [61, 0, 1029]), (20, [7, 24, 25], [60, 1, 1, 1026, 10, 1]), (20, [26], [61, 0, 1029]), (23, [17, 15], [0, 1, -1]), (23, [17, 15], [0, -1, 1]), (23, [18, 4], [0, 1, -1]), (23, [18, 4], [0, -1, 1]), (23, [19, 5], [0, 1, -1]), (23, [19, 5], [0, -1, 1]), (23, [20, 6], [0, 1, -1]), (23, [20, 6], [0, -1, 1]), (23, [3, 17], [-1, 1, -1]), (23, [11, 17], [-2000, -1, -1]), (23, [3, 15], [-1, 1, -1]), (23, [11, 15], [-2000, -1, -1]), (23, [10, 9], [0, 1, -1]), (23, [10], [0, -1]), (23, [4], [0, -1]), (24, [0, 7], []), (24, [2, 9], []), (20, [7], [30, -1, -1, 1, 8]), (20, [32, 7, 31, 25], [50, 2, 0, 1008, 1009, 3, 15, 2, 6, 0, 2, 0, 1, 1, 0, 1, 3, 2, 1, 8, 1, 0, 2, 6, 1, 2, 1, 0, 0, 0, 2, 7, 1, 3, 2, 1, 8, 1, 2, 1, 3, 2, 1, 9, 1, 3]), (20, [7, 7], [30, 0, 1, 1, 15, -1, 1, 11]), (20, [7], [50, 3, 0, 12, 11, 15, 2, 21, 4, 7, 1, 3, 2, 0, 12, 0, 1, 0, 3, 2, 0, 11, 4, 3, 2, 0, 15, 0, 8, 3, 7, 1, 3, 2, 0, 12, 0, 0, 0, 7, 4, 3, 2, 0, 15, 0, 1, 2, 0, 11]), (20, [34, 7], [30, 0, 1, 0, 0, -1, 1, 15]), (20, [7, 34], [60, 6, 1, 948, 10, 11, 12, 13, 14, 15, 1]), (102, [34], [0, 165011, 165012, 165013, 165014, 165015]), (23, [3, 34], [-1, 1, -1]), (23, [11, 34], [-2001, -1, -1]), (23, [28, 9], [0, 1, -1]), (23, [28], [0, -1]), (8, [33], [5]), (23, [17, 15], [0, 1, -1]), (23, [17, 15], [0, -1, 1]), (23, [18, 4], [0, 1, -1]), (23, [18, 4], [0, -1, 1]), (23, [19, 5], [0, 1, -1]), (23, [19, 5], [0, -1, 1]), (23, [20, 6], [0, 1, -1]), (23, [20, 6], [0, -1, 1]), (23, [3, 17], [-1, 1, -1]), (23, [11, 17], [-2000, -1, -1]), (23, [3, 15], [-1, 1, -1]), (23, [11, 15], [-2000, -1, -1]), (23, [10, 9], [0, 1, -1]), (23, [10], [0, -1]), (23, [4], [0, -1]), (102, [32], [0, 165008, 165009]), (23, [17, 15], [0, 1, -1]), (23, [17, 15], [0, -1, 1]), (23, [18, 4], [0, 1, -1]), (23, [18, 4], [0, -1, 1]), (23, [19, 5], [0, 1, -1]), (23, [19, 5], [0, -1, 1]), (23, [20, 6], [0, 1, -1]), (23, [20, 6], [0, -1, 1]), (23, [3, 17], [-1, 1, -1]), (23, [11, 17], [-2000, -1, -1]), (23, [3, 15], [-1, 1, -1]), (23, [11, 15], [-2000, -1, -1]), (23, [10, 9], [0, 1, -1]), (23, [10], [0, -1]), (23, [4], [0, -1]), (102, [26], [0, 165008, 165009]), (23, [17, 15], [0, 1, -1]), (23, [17, 15], [0, -1, 1]), (23, [18, 4], [0, 1, -1]), (23, [18, 4], [0, -1, 1]), (23, [19, 5], [0, 1, -1]), (23, [19, 5], [0, -1, 1]), (23, [20, 6], [0, 1, -1]), (23, [20, 6], [0, -1, 1]), (23, [3, 17], [-1, 1, -1]), (23, [11, 17], [-2000, -1, -1]), (23, [3, 15], [-1, 1, -1]), (23, [11, 15], [-2000, -1, -1]), (23, [10, 9], [0, 1, -1]), (23, [10], [0, -1]), (23, [4], [0, -1]), (102, [20], [0, 165008, 165009, 165011, 165012, 165013, 165014, 165015]), (23, [17, 15], [0, 1, -1]), (23, [17, 15], [0, -1, 1]), (23, [18, 4], [0, 1, -1]), (23, [18, 4], [0, -1, 1]), (23, [19, 5], [0, 1, -1]), (23, [19, 5], [0, -1, 1]), (23, [20, 6], [0, 1, -1]), (23, [20, 6], [0, -1, 1]), (23, [3, 17], [-1, 1, -1]), (23, [11, 17], [-2000, -1, -1]), (23, [3, 15], [-1, 1, -1]), (23, [11, 15], [-2000, -1, -1]), (23, [10, 9], [0, 1, -1]), (23, [10], [0, -1]), (23, [4], [0, -1]), (102, [15], [0, 165011, 165012, 165013, 165014, 165015]), (23, [3, 15], [-1, 1, -1]), (23, [11, 15], [-2000, -1, -1]), (8, [10], [5]), (23, [10, 9], [0, 1, -1]), (23, [10], [0, -1]), (23, [4], [0, -1]), (102, [13], [0]), (23, [10, 9], [0, 1, -1]), (23, [10], [0, -1]), (23, [4], [0, -1])], [], [(0, 0, 2000, [])], [(20, [7, 7], [30, 0, 1, 1, 15, -1, 1, 11]), (20, [7], [50, 3, 0, 12, 11, 15, 2, 21, 4, 7, 1, 3, 2, 0, 12, 0, 1, 0, 3, 2, 0, 11, 4, 3, 2, 0, 15, 0, 8, 3, 7, 1, 3, 2, 0, 12, 0, 0, 0, 7, 4, 3, 2, 0, 15, 0, 1, 2, 0, 11]), (20, [3, 7], [30, -1, 1, 0, 0, -1, 1, 11]), (23, [28, 9], [0, 1, -1]), (23, [28], [0, -1]), (23, [4], [0, -1]), (20, [35, 7], [30, -2001, -1, 0, 0, -1, 1, 11]), (20, [7, 4, 28, 5, 6], [60, 8, 2, 999, 10, 11, 12, 13, 14, 15, 8, 5, 1, 2]), (24, [0, 7], []), (24, [2, 9], [])], [(35, 11, 0, 0)], [])
theorem oo_Mo_of_at_s5002_31 {kA : Nat → ClassId} : or_ok PRD kA GG o_Mo_of_at_s5002_31 := by
  refine or_mk fun A ta ws vs hD hth hl => ?_
  intro t0 r0 t2 k2 t3 k3 t4 k4 t5 k5 t6 k6 t7 r7 t9 k9 t10 k10 t11 k11 t15 k15 t17 k17 t18 k18 t19 k19 t20 k20 t24 k24 t25 k25 t26 k26 t28 k28 t31 k31 t32 k32 t33 k33 t34 k34 f0 f1 f2 f3 f4 f5 f6 f7 f8 f9 f10 f11 f12 f13 f14 f15 f16 f17 f18 f19 f20 f21 f22 f23 f24 f25 f26 f27 f28 f29 f30 f31 f32 ta1 w1 le1 s1 f34 f35 f36 f37 f38 f39 f40 f41 f42 f43 f44 f45 f46 f47 f48 f49 f50 f51 f52 f53 ta2 w2 le2 s2 f55 f56 f57 f58 f59 f60 f61 f62 f63 f64 f65 f66 f67 f68 f69 ta3 w3 le3 s3 f71 f72 f73 f74 f75 f76 f77 f78 f79 f80 f81 f82 f83 f84 f85 ta4 w4 le4 s4 f87 f88 f89 f90 f91 f92 f93 f94 f95 f96 f97 f98 f99 f100 f101 ta5 w5 le5 s5 f103 f104 f105 f106 f107 f108 ta6 w6 le6 s6 f110 f111 f112
  replace f0 := shm_293 f0
  replace f1 := shm_193 f1
  replace f2 := shm_2011 f2
  replace f3 := shm_2012 f3
  replace f4 := shm_7 f4
  replace f5 := shm_1043 f5
  replace f6 := shm_1724 f6
  replace f7 := shm_1725 f7
  replace f8 := shm_1724 f8
  replace f9 := shm_1725 f9
  replace f10 := shm_7 f10
  replace f11 := shm_22 f11
  replace f12 := shm_7 f12
  replace f13 := shm_22 f13
  replace f14 := shm_7 f14
  replace f15 := shm_22 f15
  replace f16 := shm_7 f16
  replace f17 := shm_22 f17
  replace f18 := shm_193 f18
  replace f19 := shm_2009 f19
  replace f20 := shm_193 f20
  replace f21 := shm_2009 f21
  replace f22 := shm_7 f22
  replace f23 := shm_1043 f23
  replace f24 := shm_1043 f24
  replace f25 := shm_5 f25
  replace f26 := shm_5 f26
  replace f27 := shm_305 f27
  replace f28 := shm_306 f28
  replace f29 := shm_1437 f29
  replace f30 := shm_1438 f30
  replace f31 := shm_1436 f31
  replace f32 := shm_1439 f32
  replace f34 := shm_193 f34
  replace f35 := shm_2011 f35
  replace f36 := shm_7 f36
  replace f37 := shm_1043 f37
  replace f38 := shm_295 f38
  replace f39 := shm_7 f39
  replace f40 := shm_22 f40
  replace f41 := shm_7 f41
  replace f42 := shm_22 f42
  replace f43 := shm_7 f43
  replace f44 := shm_22 f44
  replace f45 := shm_7 f45
  replace f46 := shm_22 f46
  replace f47 := shm_193 f47
  replace f48 := shm_2009 f48
  replace f49 := shm_193 f49
  replace f50 := shm_2009 f50
  replace f51 := shm_7 f51
  replace f52 := shm_1043 f52
  replace f53 := shm_1043 f53
  replace f55 := shm_7 f55
  replace f56 := shm_22 f56
  replace f57 := shm_7 f57
  replace f58 := shm_22 f58
  replace f59 := shm_7 f59
  replace f60 := shm_22 f60
  replace f61 := shm_7 f61
  replace f62 := shm_22 f62
  replace f63 := shm_193 f63
  replace f64 := shm_2009 f64
  replace f65 := shm_193 f65
  replace f66 := shm_2009 f66
  replace f67 := shm_7 f67
  replace f68 := shm_1043 f68
  replace f69 := shm_1043 f69
  replace f71 := shm_7 f71
  replace f72 := shm_22 f72
  replace f73 := shm_7 f73
  replace f74 := shm_22 f74
  replace f75 := shm_7 f75
  replace f76 := shm_22 f76
  replace f77 := shm_7 f77
  replace f78 := shm_22 f78
  replace f79 := shm_193 f79
  replace f80 := shm_2009 f80
  replace f81 := shm_193 f81
  replace f82 := shm_2009 f82
  replace f83 := shm_7 f83
  replace f84 := shm_1043 f84
  replace f85 := shm_1043 f85
  replace f87 := shm_7 f87
  replace f88 := shm_22 f88
  replace f89 := shm_7 f89
  replace f90 := shm_22 f90
  replace f91 := shm_7 f91
  replace f92 := shm_22 f92
  replace f93 := shm_7 f93
  replace f94 := shm_22 f94
  replace f95 := shm_193 f95
  replace f96 := shm_2009 f96
  replace f97 := shm_193 f97
  replace f98 := shm_2009 f98
  replace f99 := shm_7 f99
  replace f100 := shm_1043 f100
  replace f101 := shm_1043 f101
  replace f103 := shm_193 f103
  replace f104 := shm_2009 f104
  replace f105 := shm_295 f105
  replace f106 := shm_7 f106
  replace f107 := shm_1043 f107
  replace f108 := shm_1043 f108
  replace f110 := shm_7 f110
  replace f111 := shm_1043 f111
  replace f112 := shm_1043 f112
  have q7 : n_v vs 7 = n_v vs 0 := f25.symm
  have q9 : n_v vs 9 = n_v vs 2 := f26.symm
  simp only [q7, q9] at f0 f3 f4 f6 f8 f22 f27 f28 f29 f30 f31 f32 f36 f51 f67 f83 f99 f106 f110
  have cr_0_1 := fdq_39 hD hth r0
  have cr_0_2 := fdq_10 hD hth r0
  have g0 : v_iv (n_v vs 33) = w_fi ws (n_v vs 0) 8 := congrArg v_iv f0
  have hK_0_1 := elq_7 hD hth cr_0_1
  have kz_0_8 := fdq_34 hD hth r0
  have kz_0_9 := fdq_44 hD hth r0
  have kz_0_10 := fdq_43 hD hth r0
  have kz_0_11 := fdq_237 hD hth r0
  have kz_0_12 := fdq_187 hD hth r0
  have kz_0_13 := fdq_238 hD hth r0
  have kz_0_14 := fdq_188 hD hth r0
  have kz_0_15 := fdq_239 hD hth r0
  obtain ⟨x, ex, hx⟩ := iv_ex (ta := ta) (lo := 0) (hi := 2000) (z := 0 + (1 * v_iv (n_v vs 11) + 0)) (by omega) (by omega) (by omega) (by omega)
  have ex2 : v_iv (Value.int x) = 0 + (1 * v_iv (n_v vs 11) + 0) := ex
  have ex3 : 0 ≤ v_iv (Value.int x) ∧ v_iv (Value.int x) ≤ 2000 := tv_rng hx
  have e_0 : n_v (vs ++ [Value.int x]) 0 = n_v vs 0 := n_v_old (by rw [hl]; decide)
  have e_2 : n_v (vs ++ [Value.int x]) 2 = n_v vs 2 := n_v_old (by rw [hl]; decide)
  have e_3 : n_v (vs ++ [Value.int x]) 3 = n_v vs 3 := n_v_old (by rw [hl]; decide)
  have e_4 : n_v (vs ++ [Value.int x]) 4 = n_v vs 4 := n_v_old (by rw [hl]; decide)
  have e_5 : n_v (vs ++ [Value.int x]) 5 = n_v vs 5 := n_v_old (by rw [hl]; decide)
  have e_6 : n_v (vs ++ [Value.int x]) 6 = n_v vs 6 := n_v_old (by rw [hl]; decide)
  have e_7 : n_v (vs ++ [Value.int x]) 7 = n_v vs 7 := n_v_old (by rw [hl]; decide)
  have e_9 : n_v (vs ++ [Value.int x]) 9 = n_v vs 9 := n_v_old (by rw [hl]; decide)
  have e_28 : n_v (vs ++ [Value.int x]) 28 = n_v vs 28 := n_v_old (by rw [hl]; decide)
  have e_35 : n_v (vs ++ [Value.int x]) 35 = Value.int x := n_v_new hl
  have nf0 : fc_1 PRD (20, [7, 7], [30, 0, 1, 1, 15, -1, 1, 11]) ws (vs ++ [Value.int x]) := by
    refine ⟨nf_inA hl rfl, sgq_1437 ?_⟩
    · show 1 * w_fi ws (n_v (vs ++ [Value.int x]) 7) 15 + ((-1) * w_fi ws (n_v (vs ++ [Value.int x]) 7) 11 + 0) ≤ 0
      simp only [e_7, q7]
      exact vc_Mo_of_at_s5002_31_0 (v_iv (n_v vs 25)) (v_iv (n_v vs 31)) (v_iv (n_v vs 32)) (w_fi ws (n_v vs 0) 8) (w_ei ws (w_ar ws (n_v vs 0) 1)) (w_fi ws (n_v vs 0) 9) (w_fi ws (n_v vs 0) 15) (w_fi ws (n_v vs 0) 11) (w_fi ws (n_v vs 0) 12) k25 k31 k32 f28 f29 f30 hK_0_1 kz_0_8 kz_0_9 kz_0_11 kz_0_12 kz_0_15
  have nf1 : fc_1 PRD (20, [7], [50, 3, 0, 12, 11, 15, 2, 21, 4, 7, 1, 3, 2, 0, 12, 0, 1, 0, 3, 2, 0, 11, 4, 3, 2, 0, 15, 0, 8, 3, 7, 1, 3, 2, 0, 12, 0, 0, 0, 7, 4, 3, 2, 0, 15, 0, 1, 2, 0, 11]) ws (vs ++ [Value.int x]) := by
    refine ⟨nf_inA hl rfl, sgq_1438 ?_⟩
    · show ((w_fi ws (n_v (vs ++ [Value.int x]) 7) 12 = 1) → (w_fi ws (n_v (vs ++ [Value.int x]) 7) 11 ≤ (w_fi ws (n_v (vs ++ [Value.int x]) 7) 15 + 8))) ∧ ((w_fi ws (n_v (vs ++ [Value.int x]) 7) 12 = 0) ∨ ((w_fi ws (n_v (vs ++ [Value.int x]) 7) 15 + 1) ≤ w_fi ws (n_v (vs ++ [Value.int x]) 7) 11))
      simp only [e_7, q7]
      exact vc_Mo_of_at_s5002_31_1 (v_iv (n_v vs 25)) (v_iv (n_v vs 31)) (v_iv (n_v vs 32)) (w_fi ws (n_v vs 0) 8) (w_ei ws (w_ar ws (n_v vs 0) 1)) (w_fi ws (n_v vs 0) 9) (w_fi ws (n_v vs 0) 15) (w_fi ws (n_v vs 0) 11) (w_fi ws (n_v vs 0) 12) k25 k31 k32 f28 f30 hK_0_1 kz_0_8 kz_0_9 kz_0_11 kz_0_12 kz_0_15
  have nf2 : fc_1 PRD (20, [3, 7], [30, -1, 1, 0, 0, -1, 1, 11]) ws (vs ++ [Value.int x]) := by
    refine ⟨nf_inA hl rfl, sgq_2005 ?_⟩
    · show 1 * v_iv (n_v (vs ++ [Value.int x]) 3) + ((-1) * w_fi ws (n_v (vs ++ [Value.int x]) 7) 11 + 0) ≤ (-1)
      simp only [e_3, e_7, q7]
      exact vc_Mo_of_at_s5002_31_2 (v_iv (n_v vs 2)) (v_iv (n_v vs 3)) (v_iv (n_v vs 25)) (v_iv (n_v vs 28)) (v_iv (n_v vs 31)) (v_iv (n_v vs 32)) (w_fi ws (n_v vs 0) 8) (w_ei ws (w_ar ws (n_v vs 0) 1)) (w_fi ws (n_v vs 0) 9) (w_fi ws (n_v vs 0) 15) (w_fi ws (n_v vs 0) 11) (w_fi ws (n_v vs 0) 12) k2 k3 k25 k28 k31 k32 f4 f28 f30 hK_0_1 kz_0_8 kz_0_9 kz_0_11 kz_0_12 kz_0_15
  have nf3 : fc_1 PRD (23, [28, 9], [0, 1, -1]) ws (vs ++ [Value.int x]) := by
    refine ⟨nf_inA hl rfl, sgq_7 ?_⟩
    · show 1 * v_iv (n_v (vs ++ [Value.int x]) 28) + ((-1) * v_iv (n_v (vs ++ [Value.int x]) 9) + 0) ≤ 0
      simp only [e_9, e_28, q9]
      exact vc_Mo_of_at_s5002_31_3 (v_iv (n_v vs 2)) (v_iv (n_v vs 25)) (v_iv (n_v vs 28)) (v_iv (n_v vs 31)) (v_iv (n_v vs 32)) (w_fi ws (n_v vs 0) 8) (w_ei ws (w_ar ws (n_v vs 0) 1)) (w_fi ws (n_v vs 0) 9) (w_fi ws (n_v vs 0) 15) (w_fi ws (n_v vs 0) 11) (w_fi ws (n_v vs 0) 12) k2 k25 k28 k31 k32 f28 f30 f36 hK_0_1 kz_0_8 kz_0_9 kz_0_11 kz_0_12 kz_0_15
  have nf4 : fc_1 PRD (23, [28], [0, -1]) ws (vs ++ [Value.int x]) := by
    refine ⟨nf_inA hl rfl, sgq_1043 ?_⟩
    · show (-1) * v_iv (n_v (vs ++ [Value.int x]) 28) + 0 ≤ 0
      rw [e_28]
      exact vc_Mo_of_at_s5002_31_4 (v_iv (n_v vs 25)) (v_iv (n_v vs 28)) (v_iv (n_v vs 31)) (v_iv (n_v vs 32)) (w_fi ws (n_v vs 0) 8) (w_ei ws (w_ar ws (n_v vs 0) 1)) (w_fi ws (n_v vs 0) 9) (w_fi ws (n_v vs 0) 15) (w_fi ws (n_v vs 0) 11) (w_fi ws (n_v vs 0) 12) k25 k28 k31 k32 f28 f30 f37 hK_0_1 kz_0_8 kz_0_9 kz_0_11 kz_0_12 kz_0_15
  have nf5 : fc_1 PRD (23, [4], [0, -1]) ws (vs ++ [Value.int x]) := by
    refine ⟨nf_inA hl rfl, sgq_1043 ?_⟩
    · show (-1) * v_iv (n_v (vs ++ [Value.int x]) 4) + 0 ≤ 0
      rw [e_4]
      exact vc_Mo_of_at_s5002_31_5 (v_iv (n_v vs 4)) (v_iv (n_v vs 25)) (v_iv (n_v vs 31)) (v_iv (n_v vs 32)) (w_fi ws (n_v vs 0) 8) (w_ei ws (w_ar ws (n_v vs 0) 1)) (w_fi ws (n_v vs 0) 9) (w_fi ws (n_v vs 0) 15) (w_fi ws (n_v vs 0) 11) (w_fi ws (n_v vs 0) 12) k4 k25 k31 k32 f28 f30 f112 hK_0_1 kz_0_8 kz_0_9 kz_0_11 kz_0_12 kz_0_15
  have nf6 : fc_1 PRD (20, [35, 7], [30, -2001, -1, 0, 0, -1, 1, 11]) ws (vs ++ [Value.int x]) := by
    refine ⟨nf_inA hl rfl, sgq_2013 ?_⟩
    · show (-1) * v_iv (n_v (vs ++ [Value.int x]) 35) + ((-1) * w_fi ws (n_v (vs ++ [Value.int x]) 7) 11 + 0) ≤ (-2001)
      simp only [e_7, e_35, q7]
      exact vc_Mo_of_at_s5002_31_6 (v_iv (n_v vs 2)) (v_iv (n_v vs 25)) (v_iv (n_v vs 28)) (v_iv (n_v vs 31)) (v_iv (n_v vs 32)) (w_fi ws (n_v vs 0) 8) (w_ei ws (w_ar ws (n_v vs 0) 1)) (w_fi ws (n_v vs 0) 9) (w_fi ws (n_v vs 0) 15) (w_fi ws (n_v vs 0) 11) (w_fi ws (n_v vs 0) 12) (v_iv (Value.int x)) k2 k25 k28 k31 k32 f4 f28 f30 hK_0_1 kz_0_8 kz_0_9 kz_0_11 kz_0_12 kz_0_15
  have nf7 : fc_1 PRD (20, [7, 4, 28, 5, 6], [60, 8, 2, 999, 10, 11, 12, 13, 14, 15, 8, 5, 1, 2]) ws (vs ++ [Value.int x]) := by
    refine ⟨nf_inA hl rfl, sgq_2014 ?_⟩
    · show zO12s (w_fi ws (n_v (vs ++ [Value.int x]) 7) 10) (w_fi ws (n_v (vs ++ [Value.int x]) 7) 11) (w_fi ws (n_v (vs ++ [Value.int x]) 7) 12) (w_fi ws (n_v (vs ++ [Value.int x]) 7) 13) (w_fi ws (n_v (vs ++ [Value.int x]) 7) 14) (w_fi ws (n_v (vs ++ [Value.int x]) 7) 15) (w_fi ws (n_v (vs ++ [Value.int x]) 7) 8) (w_fi ws (n_v (vs ++ [Value.int x]) 7) 5) (w_ei ws (w_ar ws (n_v (vs ++ [Value.int x]) 7) 1)) (w_ei ws (w_ar ws (n_v (vs ++ [Value.int x]) 7) 2)) (v_iv (n_v (vs ++ [Value.int x]) 4)) (v_iv (n_v (vs ++ [Value.int x]) 28)) (v_iv (n_v (vs ++ [Value.int x]) 5)) (v_iv (n_v (vs ++ [Value.int x]) 6))
      simp only [e_4, e_5, e_6, e_7, e_28, q7]
      exact vc_Mo_of_at_s5002_31_7 (v_iv (n_v vs 2)) (v_iv (n_v vs 4)) (v_iv (n_v vs 5)) (v_iv (n_v vs 6)) (v_iv (n_v vs 15)) (v_iv (n_v vs 17)) (v_iv (n_v vs 18)) (v_iv (n_v vs 19)) (v_iv (n_v vs 20)) (v_iv (n_v vs 28)) (v_iv (n_v vs 33)) (v_iv (n_v vs 34)) (w_fi ws (n_v vs 0) 8) (w_ei ws (w_ar ws (n_v vs 0) 1)) (w_ei ws (w_ar ws (n_v vs 0) 2)) (w_fi ws (n_v vs 0) 10) (w_fi ws (n_v vs 0) 5) (w_fi ws (n_v vs 0) 15) (w_fi ws (n_v vs 0) 11) (w_fi ws (n_v vs 0) 12) (w_fi ws (n_v vs 0) 13) (w_fi ws (n_v vs 0) 14) k2 k4 k5 k6 k28 k33 k34 g0 f3 f4 f32 kz_0_8 kz_0_10 kz_0_11 kz_0_12 kz_0_13 kz_0_14 kz_0_15
  have nf8 : fc_1 PRD (24, [0, 7], []) ws (vs ++ [Value.int x]) := by
    refine ⟨nf_inA hl rfl, sgq_5 ?_⟩
    · show n_v (vs ++ [Value.int x]) 0 = n_v (vs ++ [Value.int x]) 7
      first | rfl | simp only [e_0, e_7, q7, q9]
  have nf9 : fc_1 PRD (24, [2, 9], []) ws (vs ++ [Value.int x]) := by
    refine ⟨nf_inA hl rfl, sgq_5 ?_⟩
    · show n_v (vs ++ [Value.int x]) 2 = n_v (vs ++ [Value.int x]) 9
      first | rfl | simp only [e_2, e_9, q7, q9]
  obtain ⟨x0, e0, _, _⟩ := tv_int t11 rfl
  have e1 : v_iv (n_v vs 11) = x0.toInt := by rw [e0]; rfl
  have ho : sy_ofs (vs ++ [Value.int x]) (35, 11, 0, 0) := by
    refine ⟨x, x0, by rw [List.getElem?_append_right (by rw [hl]; decide), hl]; rfl, ?_, ?_, ?_⟩
    · rw [List.getElem?_append_left (by rw [hl]; decide)]; exact n_v_some (by rw [hl]; decide) e0
    · show x0.toInt + 0 ≤ x.toInt; omega
    · show x.toInt ≤ x0.toInt + 0; omega
  exact ⟨(fun _ h => (by cases h)), [Value.int x], ag_one hx, List.forall_mem_cons.mpr ⟨⟨show (20 : Nat) < 100 from by decide, nf0⟩, List.forall_mem_cons.mpr ⟨⟨show (20 : Nat) < 100 from by decide, nf1⟩, List.forall_mem_cons.mpr ⟨⟨show (20 : Nat) < 100 from by decide, nf2⟩, List.forall_mem_cons.mpr ⟨⟨show (23 : Nat) < 100 from by decide, nf3⟩, List.forall_mem_cons.mpr ⟨⟨show (23 : Nat) < 100 from by decide, nf4⟩, List.forall_mem_cons.mpr ⟨⟨show (23 : Nat) < 100 from by decide, nf5⟩, List.forall_mem_cons.mpr ⟨⟨show (20 : Nat) < 100 from by decide, nf6⟩, List.forall_mem_cons.mpr ⟨⟨show (20 : Nat) < 100 from by decide, nf7⟩, List.forall_mem_cons.mpr ⟨⟨show (24 : Nat) < 100 from by decide, nf8⟩, List.forall_mem_cons.mpr ⟨⟨show (24 : Nat) < 100 from by decide, nf9⟩, (fun _ h => (by cases h))⟩⟩⟩⟩⟩⟩⟩⟩⟩⟩, List.forall_mem_cons.mpr ⟨ho, (fun _ h => (by cases h))⟩⟩
set_option maxHeartbeats 4000000 in
theorem vc_Mo_of_at_s5002_32_0 (x25 : Int) (x31 : Int) (x32 : Int) (kind_0 : Int) (fault_0 : Int) (tape_0 : Int → Int) (from_0 : Int) (pos_0 : Int) (faultPlace_0 : Int) (k25 : 0 ≤ x25 ∧ x25 ≤ 2000) (k31 : 5 ≤ x31 ∧ x31 ≤ 5) (k32 : 0 ≤ x32 ∧ x32 ≤ 5) (f24 : 1 * from_0 + ((-1) * pos_0 + 0) ≤ 0) (f25 : ((kind_0 = 1) → (pos_0 ≤ (from_0 + 8))) ∧ ((kind_0 = 0) ∨ ((from_0 + 1) ≤ pos_0))) (f28 : ((1 ≤ x32) ∧ (fault_0 = x32)) ∨ ((x32 = 0) ∧ ((fault_0 = x31) ∧ (faultPlace_0 = x25)))) (hK_0_1 : ∀ j : Int, 0 ≤ j → j < 2000 → (-128) ≤ tape_0 j ∧ tape_0 j ≤ 127) (kz_0_8 : 0 ≤ fault_0 ∧ fault_0 ≤ 5) (kz_0_9 : 0 ≤ faultPlace_0 ∧ faultPlace_0 ≤ 2000) (kz_0_11 : 0 ≤ pos_0 ∧ pos_0 ≤ 2000) (kz_0_12 : 0 ≤ kind_0 ∧ kind_0 ≤ 4) (kz_0_15 : 0 ≤ from_0 ∧ from_0 ≤ 2000) : 1 * from_0 + ((-1) * pos_0 + 0) ≤ 0 := by
  first | with_reducible assumption | ((have f25_c0 := f25.1); (have f25_c1 := f25.2); (try and_intros) <;> first | with_reducible assumption | (clear f25_c0 f25_c1 f25 f28 hK_0_1; omega)) | ((have f25_c0 := f25.1); (have f25_c1 := f25.2); (try and_intros) <;> first | with_reducible assumption | (clear f25_c0 f25_c1 f25 hK_0_1; omega)) | omega
set_option maxHeartbeats 4000000 in
theorem vc_Mo_of_at_s5002_32_1 (x25 : Int) (x31 : Int) (x32 : Int) (kind_0 : Int) (fault_0 : Int) (tape_0 : Int → Int) (from_0 : Int) (pos_0 : Int) (faultPlace_0 : Int) (k25 : 0 ≤ x25 ∧ x25 ≤ 2000) (k31 : 5 ≤ x31 ∧ x31 ≤ 5) (k32 : 0 ≤ x32 ∧ x32 ≤ 5) (f25 : ((kind_0 = 1) → (pos_0 ≤ (from_0 + 8))) ∧ ((kind_0 = 0) ∨ ((from_0 + 1) ≤ pos_0))) (f28 : ((1 ≤ x32) ∧ (fault_0 = x32)) ∨ ((x32 = 0) ∧ ((fault_0 = x31) ∧ (faultPlace_0 = x25)))) (hK_0_1 : ∀ j : Int, 0 ≤ j → j < 2000 → (-128) ≤ tape_0 j ∧ tape_0 j ≤ 127) (kz_0_8 : 0 ≤ fault_0 ∧ fault_0 ≤ 5) (kz_0_9 : 0 ≤ faultPlace_0 ∧ faultPlace_0 ≤ 2000) (kz_0_11 : 0 ≤ pos_0 ∧ pos_0 ≤ 2000) (kz_0_12 : 0 ≤ kind_0 ∧ kind_0 ≤ 4) (kz_0_15 : 0 ≤ from_0 ∧ from_0 ≤ 2000) : ((kind_0 = 1) → (pos_0 ≤ (from_0 + 8))) ∧ ((kind_0 = 0) ∨ ((from_0 + 1) ≤ pos_0)) := by
  first | with_reducible assumption | ((have f25_c0 := f25.1); (have f25_c1 := f25.2); (try and_intros) <;> first | with_reducible assumption | (clear f25_c0 f25_c1 f25 f28 hK_0_1; omega)) | ((have f25_c0 := f25.1); (have f25_c1 := f25.2); (try and_intros) <;> first | with_reducible assumption | (clear f25_c0 f25_c1 f25 hK_0_1; omega)) | omega
set_option maxHeartbeats 4000000 in
theorem vc_Mo_of_at_s5002_32_2 (x3 : Int) (x17 : Int) (x25 : Int) (x31 : Int) (x32 : Int) (kind_0 : Int) (fault_0 : Int) (tape_0 : Int → Int) (from_0 : Int) (pos_0 : Int) (faultPlace_0 : Int) (k3 : 0 ≤ x3 ∧ x3 ≤ 2000) (k17 : 0 ≤ x17 ∧ x17 ≤ 2000) (k25 : 0 ≤ x25 ∧ x25 ≤ 2000) (k31 : 5 ≤ x31 ∧ x31 ≤ 5) (k32 : 0 ≤ x32 ∧ x32 ≤ 5) (f17 : 1 * x3 + ((-1) * x17 + 0) ≤ (-1)) (f25 : ((kind_0 = 1) → (pos_0 ≤ (from_0 + 8))) ∧ ((kind_0 = 0) ∨ ((from_0 + 1) ≤ pos_0))) (f26 : 1 * x17 + ((-1) * pos_0 + 0) ≤ 0) (f28 : ((1 ≤ x32) ∧ (fault_0 = x32)) ∨ ((x32 = 0) ∧ ((fault_0 = x31) ∧ (faultPlace_0 = x25)))) (hK_0_1 : ∀ j : Int, 0 ≤ j → j < 2000 → (-128) ≤ tape_0 j ∧ tape_0 j ≤ 127) (kz_0_8 : 0 ≤ fault_0 ∧ fault_0 ≤ 5) (kz_0_9 : 0 ≤ faultPlace_0 ∧ faultPlace_0 ≤ 2000) (kz_0_11 : 0 ≤ pos_0 ∧ pos_0 ≤ 2000) (kz_0_12 : 0 ≤ kind_0 ∧ kind_0 ≤ 4) (kz_0_15 : 0 ≤ from_0 ∧ from_0 ≤ 2000) : 1 * x3 + ((-1) * pos_0 + 0) ≤ 0 := by
  first | with_reducible assumption | ((have f25_c0 := f25.1); (have f25_c1 := f25.2); (try and_intros) <;> first | with_reducible assumption | (clear f25_c0 f25_c1 f25 f28 hK_0_1; omega)) | ((have f25_c0 := f25.1); (have f25_c1 := f25.2); (try and_intros) <;> first | with_reducible assumption | (clear f25_c0 f25_c1 f25 hK_0_1; omega)) | omega
set_option maxHeartbeats 4000000 in
theorem vc_Mo_of_at_s5002_32_3 (x3 : Int) (x25 : Int) (x31 : Int) (x32 : Int) (x33 : Int) (kind_0 : Int) (fault_0 : Int) (tape_0 : Int → Int) (from_0 : Int) (pos_0 : Int) (faultPlace_0 : Int) (k3 : 0 ≤ x3 ∧ x3 ≤ 2000) (k25 : 0 ≤ x25 ∧ x25 ≤ 2000) (k31 : 5 ≤ x31 ∧ x31 ≤ 5) (k32 : 0 ≤ x32 ∧ x32 ≤ 5) (k33 : 1 ≤ x33 ∧ x33 ≤ 5) (g4 : x33 = fault_0) (f25 : ((kind_0 = 1) → (pos_0 ≤ (from_0 + 8))) ∧ ((kind_0 = 0) ∨ ((from_0 + 1) ≤ pos_0))) (f28 : ((1 ≤ x32) ∧ (fault_0 = x32)) ∨ ((x32 = 0) ∧ ((fault_0 = x31) ∧ (faultPlace_0 = x25)))) (hK_0_1 : ∀ j : Int, 0 ≤ j → j < 2000 → (-128) ≤ tape_0 j ∧ tape_0 j ≤ 127) (kz_0_8 : 0 ≤ fault_0 ∧ fault_0 ≤ 5) (kz_0_9 : 0 ≤ faultPlace_0 ∧ faultPlace_0 ≤ 2000) (kz_0_11 : 0 ≤ pos_0 ∧ pos_0 ≤ 2000) (kz_0_12 : 0 ≤ kind_0 ∧ kind_0 ≤ 4) (kz_0_15 : 0 ≤ from_0 ∧ from_0 ≤ 2000) : (1 ≤ fault_0) ∨ ((kind_0 = 0) ∨ ((x3 + 1) ≤ pos_0)) := by
  first | with_reducible assumption | ((have f25_c0 := f25.1); (have f25_c1 := f25.2); (try and_intros) <;> first | with_reducible assumption | (clear f25_c0 f25_c1 f25 f28 hK_0_1; omega)) | ((have f25_c0 := f25.1); (have f25_c1 := f25.2); (try and_intros) <;> first | with_reducible assumption | (clear f25_c0 f25_c1 f25 hK_0_1; omega)) | omega
set_option maxHeartbeats 4000000 in
theorem vc_Mo_of_at_s5002_32_4 (x4 : Int) (x25 : Int) (x31 : Int) (x32 : Int) (x33 : Int) (kind_0 : Int) (fault_0 : Int) (tape_0 : Int → Int) (from_0 : Int) (pos_0 : Int) (faultPlace_0 : Int) (k4 : (-1) ≤ x4 ∧ x4 ≤ 48) (k25 : 0 ≤ x25 ∧ x25 ≤ 2000) (k31 : 5 ≤ x31 ∧ x31 ≤ 5) (k32 : 0 ≤ x32 ∧ x32 ≤ 5) (k33 : 1 ≤ x33 ∧ x33 ≤ 5) (g4 : x33 = fault_0) (f25 : ((kind_0 = 1) → (pos_0 ≤ (from_0 + 8))) ∧ ((kind_0 = 0) ∨ ((from_0 + 1) ≤ pos_0))) (f28 : ((1 ≤ x32) ∧ (fault_0 = x32)) ∨ ((x32 = 0) ∧ ((fault_0 = x31) ∧ (faultPlace_0 = x25)))) (hK_0_1 : ∀ j : Int, 0 ≤ j → j < 2000 → (-128) ≤ tape_0 j ∧ tape_0 j ≤ 127) (kz_0_8 : 0 ≤ fault_0 ∧ fault_0 ≤ 5) (kz_0_9 : 0 ≤ faultPlace_0 ∧ faultPlace_0 ≤ 2000) (kz_0_11 : 0 ≤ pos_0 ∧ pos_0 ≤ 2000) (kz_0_12 : 0 ≤ kind_0 ∧ kind_0 ≤ 4) (kz_0_15 : 0 ≤ from_0 ∧ from_0 ≤ 2000) : (1 ≤ fault_0) ∨ (0 ≤ x4) := by
  first | with_reducible assumption | ((have f25_c0 := f25.1); (have f25_c1 := f25.2); (try and_intros) <;> first | with_reducible assumption | (clear f25_c0 f25_c1 f25 f28 hK_0_1; omega)) | ((have f25_c0 := f25.1); (have f25_c1 := f25.2); (try and_intros) <;> first | with_reducible assumption | (clear f25_c0 f25_c1 f25 hK_0_1; omega)) | omega
set_option maxHeartbeats 4000000 in
theorem vc_Mo_of_at_s5002_32_5 (x2 : Int) (x25 : Int) (x31 : Int) (x32 : Int) (x34 : Int) (kind_0 : Int) (fault_0 : Int) (tape_0 : Int → Int) (from_0 : Int) (pos_0 : Int) (faultPlace_0 : Int) (k2 : 99 ≤ x2 ∧ x2 ≤ 99) (k25 : 0 ≤ x25 ∧ x25 ≤ 2000) (k31 : 5 ≤ x31 ∧ x31 ≤ 5) (k32 : 0 ≤ x32 ∧ x32 ≤ 5) (k34 : 0 ≤ x34 ∧ x34 ≤ 0) (f25 : ((kind_0 = 1) → (pos_0 ≤ (from_0 + 8))) ∧ ((kind_0 = 0) ∨ ((from_0 + 1) ≤ pos_0))) (f28 : ((1 ≤ x32) ∧ (fault_0 = x32)) ∨ ((x32 = 0) ∧ ((fault_0 = x31) ∧ (faultPlace_0 = x25)))) (hK_0_1 : ∀ j : Int, 0 ≤ j → j < 2000 → (-128) ≤ tape_0 j ∧ tape_0 j ≤ 127) (kz_0_8 : 0 ≤ fault_0 ∧ fault_0 ≤ 5) (kz_0_9 : 0 ≤ faultPlace_0 ∧ faultPlace_0 ≤ 2000) (kz_0_11 : 0 ≤ pos_0 ∧ pos_0 ≤ 2000) (kz_0_12 : 0 ≤ kind_0 ∧ kind_0 ≤ 4) (kz_0_15 : 0 ≤ from_0 ∧ from_0 ≤ 2000) : 1 * x34 + ((-1) * x2 + 0) ≤ 0 := by
  first | with_reducible assumption | ((have f25_c0 := f25.1); (have f25_c1 := f25.2); (try and_intros) <;> first | with_reducible assumption | (clear f25_c0 f25_c1 f25 f28 hK_0_1; omega)) | ((have f25_c0 := f25.1); (have f25_c1 := f25.2); (try and_intros) <;> first | with_reducible assumption | (clear f25_c0 f25_c1 f25 hK_0_1; omega)) | omega
set_option maxHeartbeats 4000000 in
theorem vc_Mo_of_at_s5002_32_6 (x25 : Int) (x31 : Int) (x32 : Int) (x34 : Int) (kind_0 : Int) (fault_0 : Int) (tape_0 : Int → Int) (from_0 : Int) (pos_0 : Int) (faultPlace_0 : Int) (k25 : 0 ≤ x25 ∧ x25 ≤ 2000) (k31 : 5 ≤ x31 ∧ x31 ≤ 5) (k32 : 0 ≤ x32 ∧ x32 ≤ 5) (k34 : 0 ≤ x34 ∧ x34 ≤ 0) (f25 : ((kind_0 = 1) → (pos_0 ≤ (from_0 + 8))) ∧ ((kind_0 = 0) ∨ ((from_0 + 1) ≤ pos_0))) (f28 : ((1 ≤ x32) ∧ (fault_0 = x32)) ∨ ((x32 = 0) ∧ ((fault_0 = x31) ∧ (faultPlace_0 = x25)))) (hK_0_1 : ∀ j : Int, 0 ≤ j → j < 2000 → (-128) ≤ tape_0 j ∧ tape_0 j ≤ 127) (kz_0_8 : 0 ≤ fault_0 ∧ fault_0 ≤ 5) (kz_0_9 : 0 ≤ faultPlace_0 ∧ faultPlace_0 ≤ 2000) (kz_0_11 : 0 ≤ pos_0 ∧ pos_0 ≤ 2000) (kz_0_12 : 0 ≤ kind_0 ∧ kind_0 ≤ 4) (kz_0_15 : 0 ≤ from_0 ∧ from_0 ≤ 2000) : (-1) * x34 + 0 ≤ 0 := by
  first | with_reducible assumption | ((have f25_c0 := f25.1); (have f25_c1 := f25.2); (try and_intros) <;> first | with_reducible assumption | (clear f25_c0 f25_c1 f25 f28 hK_0_1; omega)) | ((have f25_c0 := f25.1); (have f25_c1 := f25.2); (try and_intros) <;> first | with_reducible assumption | (clear f25_c0 f25_c1 f25 hK_0_1; omega)) | omega
set_option maxHeartbeats 4000000 in
theorem vc_Mo_of_at_s5002_32_7 (x4 : Int) (x5 : Int) (x6 : Int) (x15 : Int) (x17 : Int) (x18 : Int) (x19 : Int) (x20 : Int) (x22 : Int) (x25 : Int) (x28 : Int) (x31 : Int) (x32 : Int) (x33 : Int) (x34 : Int) (value_0 : Int) (place_0 : Int) (kind_0 : Int) (fault_0 : Int) (tape_0 : Int → Int) (limit_0 : Int) (from_0 : Int) (pos_0 : Int) (faultPlace_0 : Int) (all_0 : Int → Int) (r_0 : Int) (k4 : (-1) ≤ x4 ∧ x4 ≤ 48) (k5 : 0 ≤ x5 ∧ x5 ≤ 7) (k6 : 0 ≤ x6 ∧ x6 ≤ 4) (k15 : 0 ≤ x15 ∧ x15 ≤ 2000) (k17 : 0 ≤ x17 ∧ x17 ≤ 2000) (k18 : (-1) ≤ x18 ∧ x18 ≤ 48) (k19 : 0 ≤ x19 ∧ x19 ≤ 7) (k20 : 0 ≤ x20 ∧ x20 ≤ 4) (k22 : 0 ≤ x22 ∧ x22 ≤ 4) (k25 : 0 ≤ x25 ∧ x25 ≤ 2000) (k28 : 100 ≤ x28 ∧ x28 ≤ 1048575) (k31 : 5 ≤ x31 ∧ x31 ≤ 5) (k32 : 0 ≤ x32 ∧ x32 ≤ 5) (k33 : 1 ≤ x33 ∧ x33 ≤ 5) (k34 : 0 ≤ x34 ∧ x34 ≤ 0) (g0 : x28 = value_0) (g1 : x25 = place_0) (g2 : x22 = kind_0) (g4 : x33 = fault_0) (f5 : FSX (limit_0) (tape_0) (x31) (x25)) (f6 : ZH0 (x32)) (f9 : 1 * x17 + ((-1) * x15 + 0) ≤ 0) (f10 : (-1) * x17 + (1 * x15 + 0) ≤ 0) (f11 : 1 * x18 + ((-1) * x4 + 0) ≤ 0) (f12 : (-1) * x18 + (1 * x4 + 0) ≤ 0) (f13 : 1 * x19 + ((-1) * x5 + 0) ≤ 0) (f14 : (-1) * x19 + (1 * x5 + 0) ≤ 0) (f15 : 1 * x20 + ((-1) * x6 + 0) ≤ 0) (f16 : (-1) * x20 + (1 * x6 + 0) ≤ 0) (f28 : ((1 ≤ x32) ∧ (fault_0 = x32)) ∨ ((x32 = 0) ∧ ((fault_0 = x31) ∧ (faultPlace_0 = x25)))) (kz_0_8 : 0 ≤ fault_0 ∧ fault_0 ≤ 5) (kz_0_9 : 0 ≤ faultPlace_0 ∧ faultPlace_0 ≤ 2000) (kz_0_10 : 0 ≤ limit_0 ∧ limit_0 ≤ 2000) (kz_0_11 : 0 ≤ pos_0 ∧ pos_0 ≤ 2000) (kz_0_12 : 0 ≤ kind_0 ∧ kind_0 ≤ 4) (kz_0_13 : 0 ≤ place_0 ∧ place_0 ≤ 2000) (kz_0_14 : (-49) ≤ value_0 ∧ value_0 ≤ 1048575) (kz_0_15 : 0 ≤ from_0 ∧ from_0 ≤ 2000) : zOFs (limit_0) (pos_0) (kind_0) (place_0) (value_0) (from_0) (fault_0) (faultPlace_0) (r_0) (tape_0) (all_0) (x4) (x34) (x5) (x6) := by
  first | (have el_x17 : x17 = x15 := by omega); subst el_x17 | skip
  first | (have el_x18 : x18 = x4 := by omega); subst el_x18 | skip
  first | (have el_x19 : x19 = x5 := by omega); subst el_x19 | skip
  first | (have el_x20 : x20 = x6 := by omega); subst el_x20 | skip
  first | subst g0 | skip
  first | subst g1 | skip
  first | subst g2 | skip
  first | subst g4 | skip
  first
    | exact of_no_s ‹zOBs _ _ _ _ _ _ _ _ _ _ _ _ _ _› ‹SGQ _ _ _ _ _› (by omega) (by omega) (by omega)
    | exact Or.inl ⟨by omega, fs_w ‹FSX _ _ _ _› ‹ZH0 _› (by assumption)⟩
    | (refine Or.inl ⟨by omega, fs_w ?_ ?_ (by assumption)⟩ <;> assumption)
    | exact Or.inl ⟨by omega, or_l ‹zO11s _ _ _ _ _ _ _ _ _ _ _ _ _ _› (fun q => by have := q.2.1; omega)⟩
    | exact Or.inr (Or.inr ⟨by omega, ‹zRP13s _ _ _ _ _ _ _ _ _ _ _ _ _ _›⟩)
    | (exfalso; omega)
def o_Mo_of_at_s5002_32 : or_T := (129, 35, [(0, (2, 0, 0, [165])), (2, (0, 99, 99, [])), (3, (0, 0, 2000, [])), (4, (0, -1, 48, [])), (5, (0, 0, 7, [])), (6, (0, 0, 4, [])), (7, (2, 0, 0, [165])), (9, (0, 99, 99, [])), (11, (0, 0, 2000, [])), (15, (0, 0, 2000, [])), (17, (0, 0, 2000, [])), (18, (0, -1, 48, [])), (19, (0, 0, 7, [])), (20, (0, 0, 4, [])), (22, (0, 0, 4, [])), (23, (0, 2, 2, [])), (24, (0, 1, 1, [])), (25, (0, 0, 2000, [])), (26, (0, 0, 5, [])), (28, (0, 100, 1048575, [])), (31, (0, 5, 5, [])), (32, (0, 0, 5, [])), (33, (0, 1, 5, [])), (34, (0, 0, 0, []))], [(9, [28, 7], [14]), (9, [25, 7], [13]), (9, [22, 7], [12]), (8, [33], [4]), (9, [33, 7], [8]), (20, [7, 31, 25], [60, 1, 1, 1026, 10, 1]), (20, [32], [61, 0, 1029]), (20, [7, 24, 25], [60, 1, 1, 1026, 10, 1]), (20, [26], [61, 0, 1029]), (23, [17, 15], [0, 1, -1]), (23, [17, 15], [0, -1, 1]), (23, [18, 4], [0, 1, -1]), (23, [18, 4], [0, -1, 1]), (23, [19, 5], [0, 1, -1]), (23, [19, 5], [0, -1, 1]), (23, [20, 6], [0, 1, -1]), (23, [20, 6], [0, -1, 1]), (23, [3, 17], [-1, 1, -1]), (23, [11, 17], [-2000, -1, -1]), (23, [3, 15], [-1, 1, -1]), (23, [11, 15], [-2000, -1, -1]), (23, [4], [0, -1]), (24, [0, 7], []), (24, [2, 9], []), (20, [7, 7], [30, 0, 1, 1, 15, -1, 1, 11]), (20, [7], [50, 3, 0, 12, 11, 15, 2, 21, 4, 7, 1, 3, 2, 0, 12, 0, 1, 0, 3, 2, 0, 11, 4, 3, 2, 0, 15, 0, 8, 3, 7, 1, 3, 2, 0, 12, 0, 0, 0, 7, 4, 3, 2, 0, 15, 0, 1, 2, 0, 11]), (20, [17, 7], [30, 0, 1, 0, 0, -1, 1, 11]), (20, [7], [30, -1, -1, 1, 8]), (20, [32, 7, 31, 25], [50, 2, 0, 1008, 1009, 3, 15, 2, 6, 0, 2, 0, 1, 1, 0, 1, 3, 2, 1, 8, 1, 0, 2, 6, 1, 2, 1, 0, 0, 0, 2, 7, 1, 3, 2, 1, 8, 1, 2, 1, 3, 2, 1, 9, 1, 3]), (102, [32], [0, 165008, 165009]), (23, [17, 15], [0, 1, -1]), (23, [17, 15], [0, -1, 1]), (23, [18, 4], [0, 1, -1]), (23, [18, 4], [0, -1, 1]), (23, [19, 5], [0, 1, -1]), (23, [19, 5], [0, -1, 1]), (23, [20, 6], [0, 1, -1]), (23, [20, 6], [0, -1, 1]), (23, [3, 17], [-1, 1, -1]), (23, [11, 17], [-2000, -1, -1]), (23, [3, 15], [-1, 1, -1]), (23, [11, 15], [-2000, -1, -1]), (23, [4], [0, -1]), (102, [26], [0, 165008, 165009]), (7, [22, 23], [1]), (23, [17, 15], [0, 1, -1]), (23, [17, 15], [0, -1, 1]), (23, [18, 4], [0, 1, -1]), (23, [18, 4], [0, -1, 1]), (23, [19, 5], [0, 1, -1]), (23, [19, 5], [0, -1, 1]), (23, [20, 6], [0, 1, -1]), (23, [20, 6], [0, -1, 1]), (23, [3, 17], [-1, 1, -1]), (23, [11, 17], [-2000, -1, -1]), (23, [3, 15], [-1, 1, -1]), (23, [11, 15], [-2000, -1, -1]), (23, [4], [0, -1]), (102, [20], [0, 165008, 165009, 165011, 165012, 165013, 165014, 165015]), (23, [17, 15], [0, 1, -1]), (23, [17, 15], [0, -1, 1]), (23, [18, 4], [0, 1, -1]), (23, [18, 4], [0, -1, 1]), (23, [19, 5], [0, 1, -1]), (23, [19, 5], [0, -1, 1]), (23, [20, 6], [0, 1, -1]), (23, [20, 6], [0, -1, 1]), (23, [3, 17], [-1, 1, -1]), (23, [11, 17], [-2000, -1, -1]), (23, [3, 15], [-1, 1, -1]), (23, [11, 15], [-2000, -1, -1]), (23, [4], [0, -1]), (102, [15], [0, 165011, 165012, 165013, 165014, 165015]), (23, [3, 15], [-1, 1, -1]), (23, [11, 15], [-2000, -1, -1]), (23, [4], [0, -1]), (102, [13], [0]), (23, [4], [0, -1])], [], [], [(20, [0, 0], [30, 0, 1, 1, 15, -1, 1, 11]), (20, [0], [50, 3, 0, 12, 11, 15, 2, 21, 4, 7, 1, 3, 2, 0, 12, 0, 1, 0, 3, 2, 0, 11, 4, 3, 2, 0, 15, 0, 8, 3, 7, 1, 3, 2, 0, 12, 0, 0, 0, 7, 4, 3, 2, 0, 15, 0, 1, 2, 0, 11]), (20, [3, 0], [30, 0, 1, 0, 0, -1, 1, 11]), (20, [0, 3], [50, 3, 0, 8, 12, 11, 3, 7, 0, 2, 0, 1, 2, 0, 8, 3, 7, 1, 3, 2, 0, 12, 0, 0, 0, 6, 4, 2, 1, 1, 0, 1, 2, 0, 11]), (20, [0, 4], [50, 1, 0, 8, 3, 7, 0, 2, 0, 1, 2, 0, 8, 0, 2, 0, 0, 1, 1]), (20, [34, 2], [30, 0, 1, 0, 0, -1, 0, 0]), (20, [34], [30, 0, -1, 0, 0]), (20, [0, 4, 34, 5, 6], [60, 9, 2, 1013, 10, 11, 12, 13, 14, 15, 8, 9, 5, 1, 2])], [], [])
theorem oo_Mo_of_at_s5002_32 {kA : Nat → ClassId} : or_ok PRD kA GG o_Mo_of_at_s5002_32 := by
  refine or_mk fun A ta ws vs hD hth hl => ?_
  intro t0 r0 t2 k2 t3 k3 t4 k4 t5 k5 t6 k6 t7 r7 t9 k9 t11 k11 t15 k15 t17 k17 t18 k18 t19 k19 t20 k20 t22 k22 t23 k23 t24 k24 t25 k25 t26 k26 t28 k28 t31 k31 t32 k32 t33 k33 t34 k34 f0 f1 f2 f3 f4 f5 f6 f7 f8 f9 f10 f11 f12 f13 f14 f15 f16 f17 f18 f19 f20 f21 f22 f23 f24 f25 f26 f27 f28 ta1 w1 le1 s1 f30 f31 f32 f33 f34 f35 f36 f37 f38 f39 f40 f41 f42 ta2 w2 le2 s2 f44 f45 f46 f47 f48 f49 f50 f51 f52 f53 f54 f55 f56 f57 ta3 w3 le3 s3 f59 f60 f61 f62 f63 f64 f65 f66 f67 f68 f69 f70 f71 ta4 w4 le4 s4 f73 f74 f75 ta5 w5 le5 s5 f77
  replace f0 := shm_115 f0
  replace f1 := shm_361 f1
  replace f2 := shm_103 f2
  replace f4 := shm_293 f4
  replace f5 := shm_1724 f5
  replace f22 := shm_5 f22
  replace f24 := shm_1437 f24
  replace f25 := shm_1438 f25
  replace f26 := shm_1431 f26
  replace f28 := shm_306 f28
  have q7 : n_v vs 7 = n_v vs 0 := f22.symm
  simp only [q7] at f0 f1 f2 f4 f5 f24 f25 f26 f28
  have cr_0_1 := fdq_39 hD hth r0
  have g0 : v_iv (n_v vs 28) = w_fi ws (n_v vs 0) 14 := congrArg v_iv f0
  have g1 : v_iv (n_v vs 25) = w_fi ws (n_v vs 0) 13 := congrArg v_iv f1
  have g2 : v_iv (n_v vs 22) = w_fi ws (n_v vs 0) 12 := congrArg v_iv f2
  have g4 : v_iv (n_v vs 33) = w_fi ws (n_v vs 0) 8 := congrArg v_iv f4
  have hK_0_1 := elq_7 hD hth cr_0_1
  have kz_0_8 := fdq_34 hD hth r0
  have kz_0_9 := fdq_44 hD hth r0
  have kz_0_10 := fdq_43 hD hth r0
  have kz_0_11 := fdq_237 hD hth r0
  have kz_0_12 := fdq_187 hD hth r0
  have kz_0_13 := fdq_238 hD hth r0
  have kz_0_14 := fdq_188 hD hth r0
  have kz_0_15 := fdq_239 hD hth r0
  have nf0 : fc_1 PRD (20, [0, 0], [30, 0, 1, 1, 15, -1, 1, 11]) ws (vs) := ⟨nf_in hl rfl, sgq_1437 (vc_Mo_of_at_s5002_32_0 (v_iv (n_v vs 25)) (v_iv (n_v vs 31)) (v_iv (n_v vs 32)) (w_fi ws (n_v vs 0) 12) (w_fi ws (n_v vs 0) 8) (w_ei ws (w_ar ws (n_v vs 0) 1)) (w_fi ws (n_v vs 0) 15) (w_fi ws (n_v vs 0) 11) (w_fi ws (n_v vs 0) 9) k25 k31 k32 f24 f25 f28 hK_0_1 kz_0_8 kz_0_9 kz_0_11 kz_0_12 kz_0_15)⟩
  have nf1 : fc_1 PRD (20, [0], [50, 3, 0, 12, 11, 15, 2, 21, 4, 7, 1, 3, 2, 0, 12, 0, 1, 0, 3, 2, 0, 11, 4, 3, 2, 0, 15, 0, 8, 3, 7, 1, 3, 2, 0, 12, 0, 0, 0, 7, 4, 3, 2, 0, 15, 0, 1, 2, 0, 11]) ws (vs) := ⟨nf_in hl rfl, sgq_1438 (vc_Mo_of_at_s5002_32_1 (v_iv (n_v vs 25)) (v_iv (n_v vs 31)) (v_iv (n_v vs 32)) (w_fi ws (n_v vs 0) 12) (w_fi ws (n_v vs 0) 8) (w_ei ws (w_ar ws (n_v vs 0) 1)) (w_fi ws (n_v vs 0) 15) (w_fi ws (n_v vs 0) 11) (w_fi ws (n_v vs 0) 9) k25 k31 k32 f25 f28 hK_0_1 kz_0_8 kz_0_9 kz_0_11 kz_0_12 kz_0_15)⟩
  have nf2 : fc_1 PRD (20, [3, 0], [30, 0, 1, 0, 0, -1, 1, 11]) ws (vs) := ⟨nf_in hl rfl, sgq_1431 (vc_Mo_of_at_s5002_32_2 (v_iv (n_v vs 3)) (v_iv (n_v vs 17)) (v_iv (n_v vs 25)) (v_iv (n_v vs 31)) (v_iv (n_v vs 32)) (w_fi ws (n_v vs 0) 12) (w_fi ws (n_v vs 0) 8) (w_ei ws (w_ar ws (n_v vs 0) 1)) (w_fi ws (n_v vs 0) 15) (w_fi ws (n_v vs 0) 11) (w_fi ws (n_v vs 0) 9) k3 k17 k25 k31 k32 (shm_193 f17) f25 f26 f28 hK_0_1 kz_0_8 kz_0_9 kz_0_11 kz_0_12 kz_0_15)⟩
  have nf3 : fc_1 PRD (20, [0, 3], [50, 3, 0, 8, 12, 11, 3, 7, 0, 2, 0, 1, 2, 0, 8, 3, 7, 1, 3, 2, 0, 12, 0, 0, 0, 6, 4, 2, 1, 1, 0, 1, 2, 0, 11]) ws (vs) := ⟨nf_in hl rfl, sgq_1722 (vc_Mo_of_at_s5002_32_3 (v_iv (n_v vs 3)) (v_iv (n_v vs 25)) (v_iv (n_v vs 31)) (v_iv (n_v vs 32)) (v_iv (n_v vs 33)) (w_fi ws (n_v vs 0) 12) (w_fi ws (n_v vs 0) 8) (w_ei ws (w_ar ws (n_v vs 0) 1)) (w_fi ws (n_v vs 0) 15) (w_fi ws (n_v vs 0) 11) (w_fi ws (n_v vs 0) 9) k3 k25 k31 k32 k33 g4 f25 f28 hK_0_1 kz_0_8 kz_0_9 kz_0_11 kz_0_12 kz_0_15)⟩
  have nf4 : fc_1 PRD (20, [0, 4], [50, 1, 0, 8, 3, 7, 0, 2, 0, 1, 2, 0, 8, 0, 2, 0, 0, 1, 1]) ws (vs) := ⟨nf_in hl rfl, sgq_2000 (vc_Mo_of_at_s5002_32_4 (v_iv (n_v vs 4)) (v_iv (n_v vs 25)) (v_iv (n_v vs 31)) (v_iv (n_v vs 32)) (v_iv (n_v vs 33)) (w_fi ws (n_v vs 0) 12) (w_fi ws (n_v vs 0) 8) (w_ei ws (w_ar ws (n_v vs 0) 1)) (w_fi ws (n_v vs 0) 15) (w_fi ws (n_v vs 0) 11) (w_fi ws (n_v vs 0) 9) k4 k25 k31 k32 k33 g4 f25 f28 hK_0_1 kz_0_8 kz_0_9 kz_0_11 kz_0_12 kz_0_15)⟩
  have nf5 : fc_1 PRD (20, [34, 2], [30, 0, 1, 0, 0, -1, 0, 0]) ws (vs) := ⟨nf_in hl rfl, sgq_201 (vc_Mo_of_at_s5002_32_5 (v_iv (n_v vs 2)) (v_iv (n_v vs 25)) (v_iv (n_v vs 31)) (v_iv (n_v vs 32)) (v_iv (n_v vs 34)) (w_fi ws (n_v vs 0) 12) (w_fi ws (n_v vs 0) 8) (w_ei ws (w_ar ws (n_v vs 0) 1)) (w_fi ws (n_v vs 0) 15) (w_fi ws (n_v vs 0) 11) (w_fi ws (n_v vs 0) 9) k2 k25 k31 k32 k34 f25 f28 hK_0_1 kz_0_8 kz_0_9 kz_0_11 kz_0_12 kz_0_15)⟩
  have nf6 : fc_1 PRD (20, [34], [30, 0, -1, 0, 0]) ws (vs) := ⟨nf_in hl rfl, sgq_2002 (vc_Mo_of_at_s5002_32_6 (v_iv (n_v vs 25)) (v_iv (n_v vs 31)) (v_iv (n_v vs 32)) (v_iv (n_v vs 34)) (w_fi ws (n_v vs 0) 12) (w_fi ws (n_v vs 0) 8) (w_ei ws (w_ar ws (n_v vs 0) 1)) (w_fi ws (n_v vs 0) 15) (w_fi ws (n_v vs 0) 11) (w_fi ws (n_v vs 0) 9) k25 k31 k32 k34 f25 f28 hK_0_1 kz_0_8 kz_0_9 kz_0_11 kz_0_12 kz_0_15)⟩
  have nf7 : fc_1 PRD (20, [0, 4, 34, 5, 6], [60, 9, 2, 1013, 10, 11, 12, 13, 14, 15, 8, 9, 5, 1, 2]) ws (vs) := ⟨nf_in hl rfl, sgq_2003 (vc_Mo_of_at_s5002_32_7 (v_iv (n_v vs 4)) (v_iv (n_v vs 5)) (v_iv (n_v vs 6)) (v_iv (n_v vs 15)) (v_iv (n_v vs 17)) (v_iv (n_v vs 18)) (v_iv (n_v vs 19)) (v_iv (n_v vs 20)) (v_iv (n_v vs 22)) (v_iv (n_v vs 25)) (v_iv (n_v vs 28)) (v_iv (n_v vs 31)) (v_iv (n_v vs 32)) (v_iv (n_v vs 33)) (v_iv (n_v vs 34)) (w_fi ws (n_v vs 0) 14) (w_fi ws (n_v vs 0) 13) (w_fi ws (n_v vs 0) 12) (w_fi ws (n_v vs 0) 8) (w_ei ws (w_ar ws (n_v vs 0) 1)) (w_fi ws (n_v vs 0) 10) (w_fi ws (n_v vs 0) 15) (w_fi ws (n_v vs 0) 11) (w_fi ws (n_v vs 0) 9) (w_ei ws (w_ar ws (n_v vs 0) 2)) (w_fi ws (n_v vs 0) 5) k4 k5 k6 k15 k17 k18 k19 k20 k22 k25 k28 k31 k32 k33 k34 g0 g1 g2 g4 f5 (shm_1725 f6) (shm_7 f9) (shm_22 f10) (shm_7 f11) (shm_22 f12) (shm_7 f13) (shm_22 f14) (shm_7 f15) (shm_22 f16) f28 kz_0_8 kz_0_9 kz_0_10 kz_0_11 kz_0_12 kz_0_13 kz_0_14 kz_0_15)⟩
  refine ⟨(fun _ h => (by cases h)), [], trivial, ?_, (fun _ h => (by cases h))⟩
  rw [List.append_nil]
  exact List.forall_mem_cons.mpr ⟨⟨show (20 : Nat) < 100 from by decide, nf0⟩, List.forall_mem_cons.mpr ⟨⟨show (20 : Nat) < 100 from by decide, nf1⟩, List.forall_mem_cons.mpr ⟨⟨show (20 : Nat) < 100 from by decide, nf2⟩, List.forall_mem_cons.mpr ⟨⟨show (20 : Nat) < 100 from by decide, nf3⟩, List.forall_mem_cons.mpr ⟨⟨show (20 : Nat) < 100 from by decide, nf4⟩, List.forall_mem_cons.mpr ⟨⟨show (20 : Nat) < 100 from by decide, nf5⟩, List.forall_mem_cons.mpr ⟨⟨show (20 : Nat) < 100 from by decide, nf6⟩, List.forall_mem_cons.mpr ⟨⟨show (20 : Nat) < 100 from by decide, nf7⟩, (fun _ h => (by cases h))⟩⟩⟩⟩⟩⟩⟩⟩
set_option maxHeartbeats 4000000 in
theorem vc_Mo_of_at_s5002_33_0 (x2 : Int) (x24 : Int) (x25 : Int) (x26 : Int) (x27 : Int) (x28 : Int) (kind_0 : Int) (fault_0 : Int) (tape_0 : Int → Int) (from_0 : Int) (pos_0 : Int) (faultPlace_0 : Int) (k2 : 99 ≤ x2 ∧ x2 ≤ 99) (k24 : 1 ≤ x24 ∧ x24 ≤ 1) (k25 : 0 ≤ x25 ∧ x25 ≤ 2000) (k26 : 0 ≤ x26 ∧ x26 ≤ 5) (k27 : 0 ≤ x27 ∧ x27 ≤ 0) (k28 : 1 ≤ x28 ∧ x28 ≤ 99) (g4 : x27 = fault_0) (f19 : ((kind_0 = 1) → (pos_0 ≤ (from_0 + 8))) ∧ ((kind_0 = 0) ∨ ((from_0 + 1) ≤ pos_0))) (f21 : (-1) * fault_0 + 0 ≤ (-1)) (f22 : ((1 ≤ x26) ∧ (fault_0 = x26)) ∨ ((x26 = 0) ∧ ((fault_0 = x24) ∧ (faultPlace_0 = x25)))) (hK_0_1 : ∀ j : Int, 0 ≤ j → j < 2000 → (-128) ≤ tape_0 j ∧ tape_0 j ≤ 127) (kz_0_8 : 0 ≤ fault_0 ∧ fault_0 ≤ 5) (kz_0_9 : 0 ≤ faultPlace_0 ∧ faultPlace_0 ≤ 2000) (kz_0_11 : 0 ≤ pos_0 ∧ pos_0 ≤ 2000) (kz_0_12 : 0 ≤ kind_0 ∧ kind_0 ≤ 4) (kz_0_15 : 0 ≤ from_0 ∧ from_0 ≤ 2000) : 1 * x28 + ((-1) * x2 + 0) ≤ 0 := by
  first | with_reducible assumption | ((have f19_c0 := f19.1); (have f19_c1 := f19.2); (try and_intros) <;> first | with_reducible assumption | (clear f19_c0 f19_c1 f19 f22 hK_0_1; omega)) | ((have f19_c0 := f19.1); (have f19_c1 := f19.2); (try and_intros) <;> first | with_reducible assumption | (clear f19_c0 f19_c1 f19 hK_0_1; omega)) | omega
set_option maxHeartbeats 4000000 in
theorem vc_Mo_of_at_s5002_33_1 (x24 : Int) (x25 : Int) (x26 : Int) (x27 : Int) (x28 : Int) (kind_0 : Int) (fault_0 : Int) (tape_0 : Int → Int) (from_0 : Int) (pos_0 : Int) (faultPlace_0 : Int) (k24 : 1 ≤ x24 ∧ x24 ≤ 1) (k25 : 0 ≤ x25 ∧ x25 ≤ 2000) (k26 : 0 ≤ x26 ∧ x26 ≤ 5) (k27 : 0 ≤ x27 ∧ x27 ≤ 0) (k28 : 1 ≤ x28 ∧ x28 ≤ 99) (g4 : x27 = fault_0) (f19 : ((kind_0 = 1) → (pos_0 ≤ (from_0 + 8))) ∧ ((kind_0 = 0) ∨ ((from_0 + 1) ≤ pos_0))) (f21 : (-1) * fault_0 + 0 ≤ (-1)) (f22 : ((1 ≤ x26) ∧ (fault_0 = x26)) ∨ ((x26 = 0) ∧ ((fault_0 = x24) ∧ (faultPlace_0 = x25)))) (hK_0_1 : ∀ j : Int, 0 ≤ j → j < 2000 → (-128) ≤ tape_0 j ∧ tape_0 j ≤ 127) (kz_0_8 : 0 ≤ fault_0 ∧ fault_0 ≤ 5) (kz_0_9 : 0 ≤ faultPlace_0 ∧ faultPlace_0 ≤ 2000) (kz_0_11 : 0 ≤ pos_0 ∧ pos_0 ≤ 2000) (kz_0_12 : 0 ≤ kind_0 ∧ kind_0 ≤ 4) (kz_0_15 : 0 ≤ from_0 ∧ from_0 ≤ 2000) : (-1) * x28 + 0 ≤ 0 := by
  first | with_reducible assumption | ((have f19_c0 := f19.1); (have f19_c1 := f19.2); (try and_intros) <;> first | with_reducible assumption | (clear f19_c0 f19_c1 f19 f22 hK_0_1; omega)) | ((have f19_c0 := f19.1); (have f19_c1 := f19.2); (try and_intros) <;> first | with_reducible assumption | (clear f19_c0 f19_c1 f19 hK_0_1; omega)) | omega
def o_Mo_of_at_s5002_33 : or_T := (135, 31, [(0, (2, 0, 0, [165])), (2, (0, 99, 99, [])), (3, (0, 0, 2000, [])), (7, (2, 0, 0, [165])), (9, (0, 99, 99, [])), (10, (0, -49, 0, [])), (11, (0, 0, 2000, [])), (15, (0, 0, 2000, [])), (17, (0, 0, 2000, [])), (22, (0, 0, 4, [])), (23, (0, 2, 2, [])), (24, (0, 1, 1, [])), (25, (0, 0, 2000, [])), (26, (0, 0, 5, [])), (27, (0, 0, 0, [])), (28, (0, 1, 99, []))], [(9, [25, 7], [13]), (9, [22, 7], [12]), (9, [28, 7], [14]), (8, [27], [5]), (9, [27, 7], [8]), (8, [27], [0]), (20, [7, 24, 25], [60, 1, 1, 1026, 10, 1]), (20, [26], [61, 0, 1029]), (23, [17, 15], [0, 1, -1]), (23, [17, 15], [0, -1, 1]), (23, [3, 17], [-1, 1, -1]), (23, [11, 17], [-2000, -1, -1]), (23, [3, 15], [-1, 1, -1]), (23, [11, 15], [-2000, -1, -1]), (23, [10, 9], [0, 1, -1]), (23, [10], [0, -1]), (24, [0, 7], []), (24, [2, 9], []), (20, [7, 7], [30, 0, 1, 1, 15, -1, 1, 11]), (20, [7], [50, 3, 0, 12, 11, 15, 2, 21, 4, 7, 1, 3, 2, 0, 12, 0, 1, 0, 3, 2, 0, 11, 4, 3, 2, 0, 15, 0, 8, 3, 7, 1, 3, 2, 0, 12, 0, 0, 0, 7, 4, 3, 2, 0, 15, 0, 1, 2, 0, 11]), (20, [17, 7], [30, 0, 1, 0, 0, -1, 1, 11]), (20, [7], [30, -1, -1, 1, 8]), (20, [26, 7, 24, 25], [50, 2, 0, 1008, 1009, 3, 15, 2, 6, 0, 2, 0, 1, 1, 0, 1, 3, 2, 1, 8, 1, 0, 2, 6, 1, 2, 1, 0, 0, 0, 2, 7, 1, 3, 2, 1, 8, 1, 2, 1, 3, 2, 1, 9, 1, 3]), (102, [26], [0, 165008, 165009]), (7, [22, 23], [1]), (23, [17, 15], [0, 1, -1]), (23, [17, 15], [0, -1, 1]), (23, [3, 17], [-1, 1, -1]), (23, [11, 17], [-2000, -1, -1]), (23, [3, 15], [-1, 1, -1]), (23, [11, 15], [-2000, -1, -1]), (23, [10, 9], [0, 1, -1]), (23, [10], [0, -1]), (102, [20], [0, 165008, 165009, 165011, 165012, 165013, 165014, 165015]), (23, [17, 15], [0, 1, -1]), (23, [17, 15], [0, -1, 1]), (23, [3, 17], [-1, 1, -1]), (23, [11, 17], [-2000, -1, -1]), (23, [3, 15], [-1, 1, -1]), (23, [11, 15], [-2000, -1, -1]), (23, [10, 9], [0, 1, -1]), (23, [10], [0, -1]), (102, [15], [0, 165011, 165012, 165013, 165014, 165015]), (23, [3, 15], [-1, 1, -1]), (23, [11, 15], [-2000, -1, -1]), (8, [10], [5]), (23, [10, 9], [0, 1, -1]), (23, [10], [0, -1]), (102, [13], [0]), (23, [10, 9], [0, 1, -1]), (23, [10], [0, -1])], [], [], [(23, [28, 9], [0, 1, -1]), (23, [28], [0, -1])], [], [])
theorem oo_Mo_of_at_s5002_33 {kA : Nat → ClassId} : or_ok PRD kA GG o_Mo_of_at_s5002_33 := by
  refine or_mk fun A ta ws vs hD hth hl => ?_
  intro t0 r0 t2 k2 t3 k3 t7 r7 t9 k9 t10 k10 t11 k11 t15 k15 t17 k17 t22 k22 t23 k23 t24 k24 t25 k25 t26 k26 t27 k27 t28 k28 f0 f1 f2 f3 f4 f5 f6 f7 f8 f9 f10 f11 f12 f13 f14 f15 f16 f17 f18 f19 f20 f21 f22 ta1 w1 le1 s1 f24 f25 f26 f27 f28 f29 f30 f31 f32 ta2 w2 le2 s2 f34 f35 f36 f37 f38 f39 f40 f41 ta3 w3 le3 s3 f43 f44 f45 f46 f47 ta4 w4 le4 s4 f49 f50
  replace f4 := shm_293 f4
  replace f16 := shm_5 f16
  replace f17 := shm_5 f17
  replace f19 := shm_1438 f19
  replace f21 := shm_305 f21
  replace f22 := shm_306 f22
  have q7 : n_v vs 7 = n_v vs 0 := f16.symm
  have q9 : n_v vs 9 = n_v vs 2 := f17.symm
  simp only [q7] at f4 f19 f21 f22
  have cr_0_1 := fdq_39 hD hth r0
  have g4 : v_iv (n_v vs 27) = w_fi ws (n_v vs 0) 8 := congrArg v_iv f4
  have hK_0_1 := elq_7 hD hth cr_0_1
  have kz_0_8 := fdq_34 hD hth r0
  have kz_0_9 := fdq_44 hD hth r0
  have kz_0_11 := fdq_237 hD hth r0
  have kz_0_12 := fdq_187 hD hth r0
  have kz_0_15 := fdq_239 hD hth r0
  have nf0 : fc_1 PRD (23, [28, 9], [0, 1, -1]) ws (vs) := by
    refine ⟨nf_in hl rfl, sgq_7 ?_⟩
    · show 1 * v_iv (n_v vs 28) + ((-1) * v_iv (n_v vs 9) + 0) ≤ 0
      rw [q9]
      exact vc_Mo_of_at_s5002_33_0 (v_iv (n_v vs 2)) (v_iv (n_v vs 24)) (v_iv (n_v vs 25)) (v_iv (n_v vs 26)) (v_iv (n_v vs 27)) (v_iv (n_v vs 28)) (w_fi ws (n_v vs 0) 12) (w_fi ws (n_v vs 0) 8) (w_ei ws (w_ar ws (n_v vs 0) 1)) (w_fi ws (n_v vs 0) 15) (w_fi ws (n_v vs 0) 11) (w_fi ws (n_v vs 0) 9) k2 k24 k25 k26 k27 k28 g4 f19 f21 f22 hK_0_1 kz_0_8 kz_0_9 kz_0_11 kz_0_12 kz_0_15
  have nf1 : fc_1 PRD (23, [28], [0, -1]) ws (vs) := ⟨nf_in hl rfl, sgq_1043 (vc_Mo_of_at_s5002_33_1 (v_iv (n_v vs 24)) (v_iv (n_v vs 25)) (v_iv (n_v vs 26)) (v_iv (n_v vs 27)) (v_iv (n_v vs 28)) (w_fi ws (n_v vs 0) 12) (w_fi ws (n_v vs 0) 8) (w_ei ws (w_ar ws (n_v vs 0) 1)) (w_fi ws (n_v vs 0) 15) (w_fi ws (n_v vs 0) 11) (w_fi ws (n_v vs 0) 9) k24 k25 k26 k27 k28 g4 f19 f21 f22 hK_0_1 kz_0_8 kz_0_9 kz_0_11 kz_0_12 kz_0_15)⟩
  refine ⟨(fun _ h => (by cases h)), [], trivial, ?_, (fun _ h => (by cases h))⟩
  rw [List.append_nil]
  exact List.forall_mem_cons.mpr ⟨⟨show (23 : Nat) < 100 from by decide, nf0⟩, List.forall_mem_cons.mpr ⟨⟨show (23 : Nat) < 100 from by decide, nf1⟩, (fun _ h => (by cases h))⟩⟩
set_option maxHeartbeats 4000000 in
theorem vc_Mo_of_at_s5002_34_0 (x24 : Int) (x25 : Int) (x26 : Int) (x27 : Int) (kind_0 : Int) (fault_0 : Int) (tape_0 : Int → Int) (from_0 : Int) (pos_0 : Int) (faultPlace_0 : Int) (gx : Int) (k24 : 1 ≤ x24 ∧ x24 ≤ 1) (k25 : 0 ≤ x25 ∧ x25 ≤ 2000) (k26 : 0 ≤ x26 ∧ x26 ≤ 5) (k27 : 0 ≤ x27 ∧ x27 ≤ 0) (g6 : x27 = fault_0) (f28 : ((kind_0 = 1) → (pos_0 ≤ (from_0 + 8))) ∧ ((kind_0 = 0) ∨ ((from_0 + 1) ≤ pos_0))) (f30 : (-1) * fault_0 + 0 ≤ (-1)) (f31 : ((1 ≤ x26) ∧ (fault_0 = x26)) ∨ ((x26 = 0) ∧ ((fault_0 = x24) ∧ (faultPlace_0 = x25)))) (hK_0_1 : ∀ j : Int, 0 ≤ j → j < 2000 → (-128) ≤ tape_0 j ∧ tape_0 j ≤ 127) (kz_0_8 : 0 ≤ fault_0 ∧ fault_0 ≤ 5) (kz_0_9 : 0 ≤ faultPlace_0 ∧ faultPlace_0 ≤ 2000) (kz_0_11 : 0 ≤ pos_0 ∧ pos_0 ≤ 2000) (kz_0_12 : 0 ≤ kind_0 ∧ kind_0 ≤ 4) (kz_0_15 : 0 ≤ from_0 ∧ from_0 ≤ 2000) : 1 * gx + ((-1) * pos_0 + 0) ≤ 0 := by
  first | with_reducible assumption | ((have f28_c0 := f28.1); (have f28_c1 := f28.2); (try and_intros) <;> first | with_reducible assumption | (clear f28_c0 f28_c1 f28 f31 hK_0_1; omega)) | ((have f28_c0 := f28.1); (have f28_c1 := f28.2); (try and_intros) <;> first | with_reducible assumption | (clear f28_c0 f28_c1 f28 hK_0_1; omega)) | omega
set_option maxHeartbeats 4000000 in
theorem vc_Mo_of_at_s5002_34_1 (x24 : Int) (x25 : Int) (x26 : Int) (kind_0 : Int) (fault_0 : Int) (tape_0 : Int → Int) (from_0 : Int) (pos_0 : Int) (faultPlace_0 : Int) (gx : Int) (k24 : 1 ≤ x24 ∧ x24 ≤ 1) (k25 : 0 ≤ x25 ∧ x25 ≤ 2000) (k26 : 0 ≤ x26 ∧ x26 ≤ 5) (f28 : ((kind_0 = 1) → (pos_0 ≤ (from_0 + 8))) ∧ ((kind_0 = 0) ∨ ((from_0 + 1) ≤ pos_0))) (f31 : ((1 ≤ x26) ∧ (fault_0 = x26)) ∨ ((x26 = 0) ∧ ((fault_0 = x24) ∧ (faultPlace_0 = x25)))) (hK_0_1 : ∀ j : Int, 0 ≤ j → j < 2000 → (-128) ≤ tape_0 j ∧ tape_0 j ≤ 127) (kz_0_8 : 0 ≤ fault_0 ∧ fault_0 ≤ 5) (kz_0_9 : 0 ≤ faultPlace_0 ∧ faultPlace_0 ≤ 2000) (kz_0_11 : 0 ≤ pos_0 ∧ pos_0 ≤ 2000) (kz_0_12 : 0 ≤ kind_0 ∧ kind_0 ≤ 4) (kz_0_15 : 0 ≤ from_0 ∧ from_0 ≤ 2000) (ex2 : gx = pos_0) : gx = pos_0 := by
  first | with_reducible assumption | ((have f28_c0 := f28.1); (have f28_c1 := f28.2); (try and_intros) <;> first | with_reducible assumption | (clear f28_c0 f28_c1 f28 f31 hK_0_1; omega)) | ((have f28_c0 := f28.1); (have f28_c1 := f28.2); (try and_intros) <;> first | with_reducible assumption | (clear f28_c0 f28_c1 f28 hK_0_1; omega)) | omega
set_option maxHeartbeats 4000000 in
theorem vc_Mo_of_at_s5002_34_2 (x4 : Int) (x5 : Int) (x6 : Int) (x15 : Int) (x17 : Int) (x18 : Int) (x19 : Int) (x20 : Int) (x22 : Int) (x25 : Int) (x27 : Int) (x28 : Int) (place_0 : Int) (kind_0 : Int) (value_0 : Int) (fault_0 : Int) (limit_0 : Int) (pos_0 : Int) (gx : Int) (k22 : 0 ≤ x22 ∧ x22 ≤ 4) (k25 : 0 ≤ x25 ∧ x25 ≤ 2000) (k27 : 0 ≤ x27 ∧ x27 ≤ 0) (k28 : 1 ≤ x28 ∧ x28 ≤ 99) (g0 : x25 = place_0) (g1 : x22 = kind_0) (g4 : x28 = value_0) (g6 : x27 = fault_0) (f30 : (-1) * fault_0 + 0 ≤ (-1)) (kz_0_8 : 0 ≤ fault_0 ∧ fault_0 ≤ 5) (kz_0_10 : 0 ≤ limit_0 ∧ limit_0 ≤ 2000) (kz_0_11 : 0 ≤ pos_0 ∧ pos_0 ≤ 2000) (kz_0_12 : 0 ≤ kind_0 ∧ kind_0 ≤ 4) (kz_0_13 : 0 ≤ place_0 ∧ place_0 ≤ 2000) (kz_0_14 : (-49) ≤ value_0 ∧ value_0 ≤ 1048575) (ex2 : gx = pos_0) : ZLM (limit_0) (pos_0) := by
  first | (have el_x17 : x17 = x15 := by omega); subst el_x17 | skip
  first | (have el_x18 : x18 = x4 := by omega); subst el_x18 | skip
  first | (have el_x19 : x19 = x5 := by omega); subst el_x19 | skip
  first | (have el_x20 : x20 = x6 := by omega); subst el_x20 | skip
  first | subst g0 | skip
  first | subst g1 | skip
  first | subst g4 | skip
  first | subst g6 | skip
  first | subst ex2 | skip
  first
    | exact ob_0_s ‹zOBs _ _ _ _ _ _ _ _ _ _ _ _ _ _› (sgq_t (C := 91) ‹SGQ _ _ _ _ _› (by omega) (by omega)).1
    | exact ob_0_w ‹zOBw _ _ _ _ _ _ _ _ _ _ _ _ _ _› (sgq_t (C := 91) ‹SGQ _ _ _ _ _› (by omega) (by omega)).1
    | exact (oi_0_s ‹zOIs _ _ _ _ _ _ _ _ _ _ _ _ _ _›).2
    | exact (oi_0_w ‹zOIw _ _ _ _ _ _ _ _ _ _ _ _ _ _›).2
    | exact o11_0_s ‹zO11s _ _ _ _ _ _ _ _ _ _ _ _ _ _› (by omega)
    | exact o11_0_w ‹zO11w _ _ _ _ _ _ _ _ _ _ _ _ _ _› (by omega)
    | (exfalso; omega)
set_option maxHeartbeats 4000000 in
theorem vc_Mo_of_at_s5002_34_3 (x3 : Int) (x24 : Int) (x25 : Int) (x26 : Int) (x27 : Int) (kind_0 : Int) (fault_0 : Int) (tape_0 : Int → Int) (from_0 : Int) (pos_0 : Int) (faultPlace_0 : Int) (gx : Int) (k3 : 0 ≤ x3 ∧ x3 ≤ 2000) (k24 : 1 ≤ x24 ∧ x24 ≤ 1) (k25 : 0 ≤ x25 ∧ x25 ≤ 2000) (k26 : 0 ≤ x26 ∧ x26 ≤ 5) (k27 : 0 ≤ x27 ∧ x27 ≤ 0) (g6 : x27 = fault_0) (f28 : ((kind_0 = 1) → (pos_0 ≤ (from_0 + 8))) ∧ ((kind_0 = 0) ∨ ((from_0 + 1) ≤ pos_0))) (f30 : (-1) * fault_0 + 0 ≤ (-1)) (f31 : ((1 ≤ x26) ∧ (fault_0 = x26)) ∨ ((x26 = 0) ∧ ((fault_0 = x24) ∧ (faultPlace_0 = x25)))) (hK_0_1 : ∀ j : Int, 0 ≤ j → j < 2000 → (-128) ≤ tape_0 j ∧ tape_0 j ≤ 127) (kz_0_8 : 0 ≤ fault_0 ∧ fault_0 ≤ 5) (kz_0_9 : 0 ≤ faultPlace_0 ∧ faultPlace_0 ≤ 2000) (kz_0_11 : 0 ≤ pos_0 ∧ pos_0 ≤ 2000) (kz_0_12 : 0 ≤ kind_0 ∧ kind_0 ≤ 4) (kz_0_15 : 0 ≤ from_0 ∧ from_0 ≤ 2000) : 1 * x3 + ((-1) * gx + 0) ≤ (-1) := by
  first | with_reducible assumption | ((have f28_c0 := f28.1); (have f28_c1 := f28.2); (try and_intros) <;> first | with_reducible assumption | (clear f28_c0 f28_c1 f28 f31 hK_0_1; omega)) | ((have f28_c0 := f28.1); (have f28_c1 := f28.2); (try and_intros) <;> first | with_reducible assumption | (clear f28_c0 f28_c1 f28 hK_0_1; omega)) | omega
set_option maxHeartbeats 4000000 in
theorem vc_Mo_of_at_s5002_34_4 (x11 : Int) (x24 : Int) (x25 : Int) (x26 : Int) (x27 : Int) (kind_0 : Int) (fault_0 : Int) (tape_0 : Int → Int) (from_0 : Int) (pos_0 : Int) (faultPlace_0 : Int) (gx : Int) (k11 : 0 ≤ x11 ∧ x11 ≤ 2000) (k24 : 1 ≤ x24 ∧ x24 ≤ 1) (k25 : 0 ≤ x25 ∧ x25 ≤ 2000) (k26 : 0 ≤ x26 ∧ x26 ≤ 5) (k27 : 0 ≤ x27 ∧ x27 ≤ 0) (g6 : x27 = fault_0) (f28 : ((kind_0 = 1) → (pos_0 ≤ (from_0 + 8))) ∧ ((kind_0 = 0) ∨ ((from_0 + 1) ≤ pos_0))) (f30 : (-1) * fault_0 + 0 ≤ (-1)) (f31 : ((1 ≤ x26) ∧ (fault_0 = x26)) ∨ ((x26 = 0) ∧ ((fault_0 = x24) ∧ (faultPlace_0 = x25)))) (hK_0_1 : ∀ j : Int, 0 ≤ j → j < 2000 → (-128) ≤ tape_0 j ∧ tape_0 j ≤ 127) (kz_0_8 : 0 ≤ fault_0 ∧ fault_0 ≤ 5) (kz_0_9 : 0 ≤ faultPlace_0 ∧ faultPlace_0 ≤ 2000) (kz_0_11 : 0 ≤ pos_0 ∧ pos_0 ≤ 2000) (kz_0_12 : 0 ≤ kind_0 ∧ kind_0 ≤ 4) (kz_0_15 : 0 ≤ from_0 ∧ from_0 ≤ 2000) : (-1) * x11 + ((-1) * gx + 0) ≤ (-2001) := by
  first | with_reducible assumption | ((have f28_c0 := f28.1); (have f28_c1 := f28.2); (try and_intros) <;> first | with_reducible assumption | (clear f28_c0 f28_c1 f28 f31 hK_0_1; omega)) | ((have f28_c0 := f28.1); (have f28_c1 := f28.2); (try and_intros) <;> first | with_reducible assumption | (clear f28_c0 f28_c1 f28 hK_0_1; omega)) | omega
set_option maxHeartbeats 4000000 in
theorem vc_Mo_of_at_s5002_34_5 (x4 : Int) (x5 : Int) (x6 : Int) (x15 : Int) (x17 : Int) (x18 : Int) (x19 : Int) (x20 : Int) (x22 : Int) (x25 : Int) (x27 : Int) (x28 : Int) (place_0 : Int) (kind_0 : Int) (value_0 : Int) (fault_0 : Int) (tape_0 : Int → Int) (limit_0 : Int) (pos_0 : Int) (gx : Int) (all_0 : Int → Int) (r_0 : Int) (k4 : (-1) ≤ x4 ∧ x4 ≤ 48) (k5 : 0 ≤ x5 ∧ x5 ≤ 7) (k6 : 0 ≤ x6 ∧ x6 ≤ 4) (k22 : 0 ≤ x22 ∧ x22 ≤ 4) (k25 : 0 ≤ x25 ∧ x25 ≤ 2000) (k27 : 0 ≤ x27 ∧ x27 ≤ 0) (k28 : 1 ≤ x28 ∧ x28 ≤ 99) (g0 : x25 = place_0) (g1 : x22 = kind_0) (g4 : x28 = value_0) (g6 : x27 = fault_0) (f30 : (-1) * fault_0 + 0 ≤ (-1)) (kz_0_8 : 0 ≤ fault_0 ∧ fault_0 ≤ 5) (kz_0_10 : 0 ≤ limit_0 ∧ limit_0 ≤ 2000) (kz_0_11 : 0 ≤ pos_0 ∧ pos_0 ≤ 2000) (kz_0_12 : 0 ≤ kind_0 ∧ kind_0 ≤ 4) (kz_0_13 : 0 ≤ place_0 ∧ place_0 ≤ 2000) (kz_0_14 : (-49) ≤ value_0 ∧ value_0 ≤ 1048575) (ex2 : gx = pos_0) : zU12s (limit_0) (fault_0) (r_0) (tape_0) (all_0) (x4) (x28) (x5) (x6) (gx) := by
  first | (have el_x17 : x17 = x15 := by omega); subst el_x17 | skip
  first | (have el_x18 : x18 = x4 := by omega); subst el_x18 | skip
  first | (have el_x19 : x19 = x5 := by omega); subst el_x19 | skip
  first | (have el_x20 : x20 = x6 := by omega); subst el_x20 | skip
  first | subst g0 | skip
  first | subst g1 | skip
  first | subst g4 | skip
  first | subst g6 | skip
  first | subst ex2 | skip
  first
    | exact of_val_s ‹zO11s _ _ _ _ _ _ _ _ _ _ _ _ _ _› (by omega) (by omega) (by omega) (by omega) (by omega)
    | (exfalso; omega)
def o_Mo_of_at_s5002_34 : or_T := (136, 31, [(0, (2, 0, 0, [165])), (2, (0, 99, 99, [])), (3, (0, 0, 2000, [])), (4, (0, -1, 48, [])), (5, (0, 0, 7, [])), (6, (0, 0, 4, [])), (7, (2, 0, 0, [165])), (9, (0, 99, 99, [])), (10, (0, -49, 0, [])), (11, (0, 0, 2000, [])), (15, (0, 0, 2000, [])), (17, (0, 0, 2000, [])), (18, (0, -1, 48, [])), (19, (0, 0, 7, [])), (20, (0, 0, 4, [])), (22, (0, 0, 4, [])), (23, (0, 2, 2, [])), (24, (0, 1, 1, [])), (25, (0, 0, 2000, [])), (26, (0, 0, 5, [])), (27, (0, 0, 0, [])), (28, (0, 1, 99, []))], [(9, [25, 7], [13]), (9, [22, 7], [12]), (23, [28, 9], [0, 1, -1]), (23, [28], [0, -1]), (9, [28, 7], [14]), (8, [27], [5]), (9, [27, 7], [8]), (8, [27], [0]), (20, [7, 24, 25], [60, 1, 1, 1026, 10, 1]), (20, [26], [61, 0, 1029]), (23, [17, 15], [0, 1, -1]), (23, [17, 15], [0, -1, 1]), (23, [18, 4], [0, 1, -1]), (23, [18, 4], [0, -1, 1]), (23, [19, 5], [0, 1, -1]), (23, [19, 5], [0, -1, 1]), (23, [20, 6], [0, 1, -1]), (23, [20, 6], [0, -1, 1]), (23, [3, 17], [-1, 1, -1]), (23, [11, 17], [-2000, -1, -1]), (23, [3, 15], [-1, 1, -1]), (23, [11, 15], [-2000, -1, -1]), (23, [10, 9], [0, 1, -1]), (23, [10], [0, -1]), (23, [4], [0, -1]), (24, [0, 7], []), (24, [2, 9], []), (20, [7, 7], [30, 0, 1, 1, 15, -1, 1, 11]), (20, [7], [50, 3, 0, 12, 11, 15, 2, 21, 4, 7, 1, 3, 2, 0, 12, 0, 1, 0, 3, 2, 0, 11, 4, 3, 2, 0, 15, 0, 8, 3, 7, 1, 3, 2, 0, 12, 0, 0, 0, 7, 4, 3, 2, 0, 15, 0, 1, 2, 0, 11]), (20, [17, 7], [30, 0, 1, 0, 0, -1, 1, 11]), (20, [7], [30, -1, -1, 1, 8]), (20, [26, 7, 24, 25], [50, 2, 0, 1008, 1009, 3, 15, 2, 6, 0, 2, 0, 1, 1, 0, 1, 3, 2, 1, 8, 1, 0, 2, 6, 1, 2, 1, 0, 0, 0, 2, 7, 1, 3, 2, 1, 8, 1, 2, 1, 3, 2, 1, 9, 1, 3]), (102, [26], [0, 165008, 165009]), (7, [22, 23], [1]), (23, [17, 15], [0, 1, -1]), (23, [17, 15], [0, -1, 1]), (23, [18, 4], [0, 1, -1]), (23, [18, 4], [0, -1, 1]), (23, [19, 5], [0, 1, -1]), (23, [19, 5], [0, -1, 1]), (23, [20, 6], [0, 1, -1]), (23, [20, 6], [0, -1, 1]), (23, [3, 17], [-1, 1, -1]), (23, [11, 17], [-2000, -1, -1]), (23, [3, 15], [-1, 1, -1]), (23, [11, 15], [-2000, -1, -1]), (23, [10, 9], [0, 1, -1]), (23, [10], [0, -1]), (23, [4], [0, -1]), (102, [20], [0, 165008, 165009, 165011, 165012, 165013, 165014, 165015]), (23, [17, 15], [0, 1, -1]), (23, [17, 15], [0, -1, 1]), (23, [18, 4], [0, 1, -1]), (23, [18, 4], [0, -1, 1]), (23, [19, 5], [0, 1, -1]), (23, [19, 5], [0, -1, 1]), (23, [20, 6], [0, 1, -1]), (23, [20, 6], [0, -1, 1]), (23, [3, 17], [-1, 1, -1]), (23, [11, 17], [-2000, -1, -1]), (23, [3, 15], [-1, 1, -1]), (23, [11, 15], [-2000, -1, -1]), (23, [10, 9], [0, 1, -1]), (23, [10], [0, -1]), (23, [4], [0, -1]), (102, [15], [0, 165011, 165012, 165013, 165014, 165015]), (23, [3, 15], [-1, 1, -1]), (23, [11, 15], [-2000, -1, -1]), (8, [10], [5]), (23, [10, 9], [0, 1, -1]), (23, [10], [0, -1]), (23, [4], [0, -1]), (102, [13], [0]), (23, [10, 9], [0, 1, -1]), (23, [10], [0, -1]), (23, [4], [0, -1])], [], [(0, 0, 2000, [])], [(20, [31, 7], [30, 0, 1, 0, 0, -1, 1, 11]), (20, [31, 7], [50, 1, 0, 1011, 1, 2, 1, 0, 2, 1, 11]), (20, [7], [60, 2, 0, 947, 10, 11]), (23, [3, 31], [-1, 1, -1]), (23, [11, 31], [-2001, -1, -1]), (20, [7, 4, 28, 5, 6, 31], [60, 3, 2, 986, 10, 8, 5, 1, 2])], [], [])
theorem oo_Mo_of_at_s5002_34 {kA : Nat → ClassId} : or_ok PRD kA GG o_Mo_of_at_s5002_34 := by
  refine or_mk fun A ta ws vs hD hth hl => ?_
  intro t0 r0 t2 k2 t3 k3 t4 k4 t5 k5 t6 k6 t7 r7 t9 k9 t10 k10 t11 k11 t15 k15 t17 k17 t18 k18 t19 k19 t20 k20 t22 k22 t23 k23 t24 k24 t25 k25 t26 k26 t27 k27 t28 k28 f0 f1 f2 f3 f4 f5 f6 f7 f8 f9 f10 f11 f12 f13 f14 f15 f16 f17 f18 f19 f20 f21 f22 f23 f24 f25 f26 f27 f28 f29 f30 f31 ta1 w1 le1 s1 f33 f34 f35 f36 f37 f38 f39 f40 f41 f42 f43 f44 f45 f46 f47 f48 ta2 w2 le2 s2 f50 f51 f52 f53 f54 f55 f56 f57 f58 f59 f60 f61 f62 f63 f64 ta3 w3 le3 s3 f66 f67 f68 f69 f70 f71 ta4 w4 le4 s4 f73 f74 f75
  replace f0 := shm_361 f0
  replace f1 := shm_103 f1
  replace f4 := shm_115 f4
  replace f6 := shm_293 f6
  replace f25 := shm_5 f25
  replace f28 := shm_1438 f28
  replace f30 := shm_305 f30
  replace f31 := shm_306 f31
  have q7 : n_v vs 7 = n_v vs 0 := f25.symm
  simp only [q7] at f0 f1 f4 f6 f28 f30 f31
  have cr_0_1 := fdq_39 hD hth r0
  have g0 : v_iv (n_v vs 25) = w_fi ws (n_v vs 0) 13 := congrArg v_iv f0
  have g1 : v_iv (n_v vs 22) = w_fi ws (n_v vs 0) 12 := congrArg v_iv f1
  have g4 : v_iv (n_v vs 28) = w_fi ws (n_v vs 0) 14 := congrArg v_iv f4
  have g6 : v_iv (n_v vs 27) = w_fi ws (n_v vs 0) 8 := congrArg v_iv f6
  have hK_0_1 := elq_7 hD hth cr_0_1
  have kz_0_8 := fdq_34 hD hth r0
  have kz_0_9 := fdq_44 hD hth r0
  have kz_0_10 := fdq_43 hD hth r0
  have kz_0_11 := fdq_237 hD hth r0
  have kz_0_12 := fdq_187 hD hth r0
  have kz_0_13 := fdq_238 hD hth r0
  have kz_0_14 := fdq_188 hD hth r0
  have kz_0_15 := fdq_239 hD hth r0
  obtain ⟨x, ex, hx⟩ := iv_ex (ta := ta) (lo := 0) (hi := 2000) (z := w_fi ws (n_v vs 0) 11) (by omega) (by omega) (by omega) (by omega)
  have ex2 : v_iv (Value.int x) = w_fi ws (n_v vs 0) 11 := ex
  have ex3 : 0 ≤ v_iv (Value.int x) ∧ v_iv (Value.int x) ≤ 2000 := tv_rng hx
  have e_3 : n_v (vs ++ [Value.int x]) 3 = n_v vs 3 := n_v_old (by rw [hl]; decide)
  have e_4 : n_v (vs ++ [Value.int x]) 4 = n_v vs 4 := n_v_old (by rw [hl]; decide)
  have e_5 : n_v (vs ++ [Value.int x]) 5 = n_v vs 5 := n_v_old (by rw [hl]; decide)
  have e_6 : n_v (vs ++ [Value.int x]) 6 = n_v vs 6 := n_v_old (by rw [hl]; decide)
  have e_7 : n_v (vs ++ [Value.int x]) 7 = n_v vs 7 := n_v_old (by rw [hl]; decide)
  have e_11 : n_v (vs ++ [Value.int x]) 11 = n_v vs 11 := n_v_old (by rw [hl]; decide)
  have e_28 : n_v (vs ++ [Value.int x]) 28 = n_v vs 28 := n_v_old (by rw [hl]; decide)
  have e_31 : n_v (vs ++ [Value.int x]) 31 = Value.int x := n_v_new hl
  have nf0 : fc_1 PRD (20, [31, 7], [30, 0, 1, 0, 0, -1, 1, 11]) ws (vs ++ [Value.int x]) := by
    refine ⟨nf_inA hl rfl, sgq_1431 ?_⟩
    · show 1 * v_iv (n_v (vs ++ [Value.int x]) 31) + ((-1) * w_fi ws (n_v (vs ++ [Value.int x]) 7) 11 + 0) ≤ 0
      simp only [e_7, e_31, q7]
      exact vc_Mo_of_at_s5002_34_0 (v_iv (n_v vs 24)) (v_iv (n_v vs 25)) (v_iv (n_v vs 26)) (v_iv (n_v vs 27)) (w_fi ws (n_v vs 0) 12) (w_fi ws (n_v vs 0) 8) (w_ei ws (w_ar ws (n_v vs 0) 1)) (w_fi ws (n_v vs 0) 15) (w_fi ws (n_v vs 0) 11) (w_fi ws (n_v vs 0) 9) (v_iv (Value.int x)) k24 k25 k26 k27 g6 f28 f30 f31 hK_0_1 kz_0_8 kz_0_9 kz_0_11 kz_0_12 kz_0_15
  have nf1 : fc_1 PRD (20, [31, 7], [50, 1, 0, 1011, 1, 2, 1, 0, 2, 1, 11]) ws (vs ++ [Value.int x]) := by
    refine ⟨nf_inA hl rfl, sgq_1432 ?_⟩
    · show v_iv (n_v (vs ++ [Value.int x]) 31) = w_fi ws (n_v (vs ++ [Value.int x]) 7) 11
      simp only [e_7, e_31, q7]
      exact vc_Mo_of_at_s5002_34_1 (v_iv (n_v vs 24)) (v_iv (n_v vs 25)) (v_iv (n_v vs 26)) (w_fi ws (n_v vs 0) 12) (w_fi ws (n_v vs 0) 8) (w_ei ws (w_ar ws (n_v vs 0) 1)) (w_fi ws (n_v vs 0) 15) (w_fi ws (n_v vs 0) 11) (w_fi ws (n_v vs 0) 9) (v_iv (Value.int x)) k24 k25 k26 f28 f31 hK_0_1 kz_0_8 kz_0_9 kz_0_11 kz_0_12 kz_0_15 ex2
  have nf2 : fc_1 PRD (20, [7], [60, 2, 0, 947, 10, 11]) ws (vs ++ [Value.int x]) := by
    refine ⟨nf_inA hl rfl, sgq_1433 ?_⟩
    · show ZLM (w_fi ws (n_v (vs ++ [Value.int x]) 7) 10) (w_fi ws (n_v (vs ++ [Value.int x]) 7) 11)
      simp only [e_7, q7]
      exact vc_Mo_of_at_s5002_34_2 (v_iv (n_v vs 4)) (v_iv (n_v vs 5)) (v_iv (n_v vs 6)) (v_iv (n_v vs 15)) (v_iv (n_v vs 17)) (v_iv (n_v vs 18)) (v_iv (n_v vs 19)) (v_iv (n_v vs 20)) (v_iv (n_v vs 22)) (v_iv (n_v vs 25)) (v_iv (n_v vs 27)) (v_iv (n_v vs 28)) (w_fi ws (n_v vs 0) 13) (w_fi ws (n_v vs 0) 12) (w_fi ws (n_v vs 0) 14) (w_fi ws (n_v vs 0) 8) (w_fi ws (n_v vs 0) 10) (w_fi ws (n_v vs 0) 11) (v_iv (Value.int x)) k22 k25 k27 k28 g0 g1 g4 g6 f30 kz_0_8 kz_0_10 kz_0_11 kz_0_12 kz_0_13 kz_0_14 ex2
  have nf3 : fc_1 PRD (23, [3, 31], [-1, 1, -1]) ws (vs ++ [Value.int x]) := by
    refine ⟨nf_inA hl rfl, sgq_193 ?_⟩
    · show 1 * v_iv (n_v (vs ++ [Value.int x]) 3) + ((-1) * v_iv (n_v (vs ++ [Value.int x]) 31) + 0) ≤ (-1)
      simp only [e_3, e_31]
      exact vc_Mo_of_at_s5002_34_3 (v_iv (n_v vs 3)) (v_iv (n_v vs 24)) (v_iv (n_v vs 25)) (v_iv (n_v vs 26)) (v_iv (n_v vs 27)) (w_fi ws (n_v vs 0) 12) (w_fi ws (n_v vs 0) 8) (w_ei ws (w_ar ws (n_v vs 0) 1)) (w_fi ws (n_v vs 0) 15) (w_fi ws (n_v vs 0) 11) (w_fi ws (n_v vs 0) 9) (v_iv (Value.int x)) k3 k24 k25 k26 k27 g6 f28 f30 f31 hK_0_1 kz_0_8 kz_0_9 kz_0_11 kz_0_12 kz_0_15
  have nf4 : fc_1 PRD (23, [11, 31], [-2001, -1, -1]) ws (vs ++ [Value.int x]) := by
    refine ⟨nf_inA hl rfl, sgq_2011 ?_⟩
    · show (-1) * v_iv (n_v (vs ++ [Value.int x]) 11) + ((-1) * v_iv (n_v (vs ++ [Value.int x]) 31) + 0) ≤ (-2001)
      simp only [e_11, e_31]
      exact vc_Mo_of_at_s5002_34_4 (v_iv (n_v vs 11)) (v_iv (n_v vs 24)) (v_iv (n_v vs 25)) (v_iv (n_v vs 26)) (v_iv (n_v vs 27)) (w_fi ws (n_v vs 0) 12) (w_fi ws (n_v vs 0) 8) (w_ei ws (w_ar ws (n_v vs 0) 1)) (w_fi ws (n_v vs 0) 15) (w_fi ws (n_v vs 0) 11) (w_fi ws (n_v vs 0) 9) (v_iv (Value.int x)) k11 k24 k25 k26 k27 g6 f28 f30 f31 hK_0_1 kz_0_8 kz_0_9 kz_0_11 kz_0_12 kz_0_15
  have nf5 : fc_1 PRD (20, [7, 4, 28, 5, 6, 31], [60, 3, 2, 986, 10, 8, 5, 1, 2]) ws (vs ++ [Value.int x]) := by
    refine ⟨nf_inA hl rfl, sgq_2012 ?_⟩
    · show zU12s (w_fi ws (n_v (vs ++ [Value.int x]) 7) 10) (w_fi ws (n_v (vs ++ [Value.int x]) 7) 8) (w_fi ws (n_v (vs ++ [Value.int x]) 7) 5) (w_ei ws (w_ar ws (n_v (vs ++ [Value.int x]) 7) 1)) (w_ei ws (w_ar ws (n_v (vs ++ [Value.int x]) 7) 2)) (v_iv (n_v (vs ++ [Value.int x]) 4)) (v_iv (n_v (vs ++ [Value.int x]) 28)) (v_iv (n_v (vs ++ [Value.int x]) 5)) (v_iv (n_v (vs ++ [Value.int x]) 6)) (v_iv (n_v (vs ++ [Value.int x]) 31))
      simp only [e_4, e_5, e_6, e_7, e_28, e_31, q7]
      exact vc_Mo_of_at_s5002_34_5 (v_iv (n_v vs 4)) (v_iv (n_v vs 5)) (v_iv (n_v vs 6)) (v_iv (n_v vs 15)) (v_iv (n_v vs 17)) (v_iv (n_v vs 18)) (v_iv (n_v vs 19)) (v_iv (n_v vs 20)) (v_iv (n_v vs 22)) (v_iv (n_v vs 25)) (v_iv (n_v vs 27)) (v_iv (n_v vs 28)) (w_fi ws (n_v vs 0) 13) (w_fi ws (n_v vs 0) 12) (w_fi ws (n_v vs 0) 14) (w_fi ws (n_v vs 0) 8) (w_ei ws (w_ar ws (n_v vs 0) 1)) (w_fi ws (n_v vs 0) 10) (w_fi ws (n_v vs 0) 11) (v_iv (Value.int x)) (w_ei ws (w_ar ws (n_v vs 0) 2)) (w_fi ws (n_v vs 0) 5) k4 k5 k6 k22 k25 k27 k28 g0 g1 g4 g6 f30 kz_0_8 kz_0_10 kz_0_11 kz_0_12 kz_0_13 kz_0_14 ex2
  exact ⟨(fun _ h => (by cases h)), [Value.int x], ag_one hx, List.forall_mem_cons.mpr ⟨⟨show (20 : Nat) < 100 from by decide, nf0⟩, List.forall_mem_cons.mpr ⟨⟨show (20 : Nat) < 100 from by decide, nf1⟩, List.forall_mem_cons.mpr ⟨⟨show (20 : Nat) < 100 from by decide, nf2⟩, List.forall_mem_cons.mpr ⟨⟨show (23 : Nat) < 100 from by decide, nf3⟩, List.forall_mem_cons.mpr ⟨⟨show (23 : Nat) < 100 from by decide, nf4⟩, List.forall_mem_cons.mpr ⟨⟨show (20 : Nat) < 100 from by decide, nf5⟩, (fun _ h => (by cases h))⟩⟩⟩⟩⟩⟩, (fun _ h => (by cases h))⟩
set_option maxHeartbeats 4000000 in
theorem vc_Mo_of_at_s5002_35_0 (x24 : Int) (x25 : Int) (x26 : Int) (fault_0 : Int) (tape_0 : Int → Int) (faultPlace_0 : Int) (from_0 : Int) (pos_0 : Int) (kind_0 : Int) (k24 : 1 ≤ x24 ∧ x24 ≤ 1) (k25 : 0 ≤ x25 ∧ x25 ≤ 2000) (k26 : 0 ≤ x26 ∧ x26 ≤ 5) (f26 : ((1 ≤ x26) ∧ (fault_0 = x26)) ∨ ((x26 = 0) ∧ ((fault_0 = x24) ∧ (faultPlace_0 = x25)))) (f27 : 1 * from_0 + ((-1) * pos_0 + 0) ≤ 0) (f28 : ((kind_0 = 1) → (pos_0 ≤ (from_0 + 8))) ∧ ((kind_0 = 0) ∨ ((from_0 + 1) ≤ pos_0))) (hK_0_1 : ∀ j : Int, 0 ≤ j → j < 2000 → (-128) ≤ tape_0 j ∧ tape_0 j ≤ 127) (kz_0_8 : 0 ≤ fault_0 ∧ fault_0 ≤ 5) (kz_0_9 : 0 ≤ faultPlace_0 ∧ faultPlace_0 ≤ 2000) (kz_0_11 : 0 ≤ pos_0 ∧ pos_0 ≤ 2000) (kz_0_12 : 0 ≤ kind_0 ∧ kind_0 ≤ 4) (kz_0_15 : 0 ≤ from_0 ∧ from_0 ≤ 2000) : 1 * from_0 + ((-1) * pos_0 + 0) ≤ 0 := by
  first | with_reducible assumption | ((have f28_c0 := f28.1); (have f28_c1 := f28.2); (try and_intros) <;> first | with_reducible assumption | (clear f26 f28_c0 f28_c1 f28 hK_0_1; omega)) | ((have f28_c0 := f28.1); (have f28_c1 := f28.2); (try and_intros) <;> first | with_reducible assumption | (clear f28_c0 f28_c1 f28 hK_0_1; omega)) | omega
set_option maxHeartbeats 4000000 in
theorem vc_Mo_of_at_s5002_35_1 (x24 : Int) (x25 : Int) (x26 : Int) (fault_0 : Int) (tape_0 : Int → Int) (faultPlace_0 : Int) (from_0 : Int) (pos_0 : Int) (kind_0 : Int) (k24 : 1 ≤ x24 ∧ x24 ≤ 1) (k25 : 0 ≤ x25 ∧ x25 ≤ 2000) (k26 : 0 ≤ x26 ∧ x26 ≤ 5) (f26 : ((1 ≤ x26) ∧ (fault_0 = x26)) ∨ ((x26 = 0) ∧ ((fault_0 = x24) ∧ (faultPlace_0 = x25)))) (f28 : ((kind_0 = 1) → (pos_0 ≤ (from_0 + 8))) ∧ ((kind_0 = 0) ∨ ((from_0 + 1) ≤ pos_0))) (hK_0_1 : ∀ j : Int, 0 ≤ j → j < 2000 → (-128) ≤ tape_0 j ∧ tape_0 j ≤ 127) (kz_0_8 : 0 ≤ fault_0 ∧ fault_0 ≤ 5) (kz_0_9 : 0 ≤ faultPlace_0 ∧ faultPlace_0 ≤ 2000) (kz_0_11 : 0 ≤ pos_0 ∧ pos_0 ≤ 2000) (kz_0_12 : 0 ≤ kind_0 ∧ kind_0 ≤ 4) (kz_0_15 : 0 ≤ from_0 ∧ from_0 ≤ 2000) : ((kind_0 = 1) → (pos_0 ≤ (from_0 + 8))) ∧ ((kind_0 = 0) ∨ ((from_0 + 1) ≤ pos_0)) := by
  first | with_reducible assumption | ((have f28_c0 := f28.1); (have f28_c1 := f28.2); (try and_intros) <;> first | with_reducible assumption | (clear f26 f28_c0 f28_c1 f28 hK_0_1; omega)) | ((have f28_c0 := f28.1); (have f28_c1 := f28.2); (try and_intros) <;> first | with_reducible assumption | (clear f28_c0 f28_c1 f28 hK_0_1; omega)) | omega
set_option maxHeartbeats 4000000 in
theorem vc_Mo_of_at_s5002_35_2 (x3 : Int) (x24 : Int) (x25 : Int) (x26 : Int) (x27 : Int) (fault_0 : Int) (tape_0 : Int → Int) (faultPlace_0 : Int) (from_0 : Int) (pos_0 : Int) (kind_0 : Int) (k3 : 0 ≤ x3 ∧ x3 ≤ 2000) (k24 : 1 ≤ x24 ∧ x24 ≤ 1) (k25 : 0 ≤ x25 ∧ x25 ≤ 2000) (k26 : 0 ≤ x26 ∧ x26 ≤ 5) (k27 : 0 ≤ x27 ∧ x27 ≤ 0) (g0 : x27 = fault_0) (f25 : (-1) * fault_0 + 0 ≤ (-1)) (f26 : ((1 ≤ x26) ∧ (fault_0 = x26)) ∨ ((x26 = 0) ∧ ((fault_0 = x24) ∧ (faultPlace_0 = x25)))) (f28 : ((kind_0 = 1) → (pos_0 ≤ (from_0 + 8))) ∧ ((kind_0 = 0) ∨ ((from_0 + 1) ≤ pos_0))) (hK_0_1 : ∀ j : Int, 0 ≤ j → j < 2000 → (-128) ≤ tape_0 j ∧ tape_0 j ≤ 127) (kz_0_8 : 0 ≤ fault_0 ∧ fault_0 ≤ 5) (kz_0_9 : 0 ≤ faultPlace_0 ∧ faultPlace_0 ≤ 2000) (kz_0_11 : 0 ≤ pos_0 ∧ pos_0 ≤ 2000) (kz_0_12 : 0 ≤ kind_0 ∧ kind_0 ≤ 4) (kz_0_15 : 0 ≤ from_0 ∧ from_0 ≤ 2000) : 1 * x3 + ((-1) * pos_0 + 0) ≤ (-1) := by
  first | with_reducible assumption | ((have f28_c0 := f28.1); (have f28_c1 := f28.2); (try and_intros) <;> first | with_reducible assumption | (clear f26 f28_c0 f28_c1 f28 hK_0_1; omega)) | ((have f28_c0 := f28.1); (have f28_c1 := f28.2); (try and_intros) <;> first | with_reducible assumption | (clear f28_c0 f28_c1 f28 hK_0_1; omega)) | omega
set_option maxHeartbeats 4000000 in
theorem vc_Mo_of_at_s5002_35_3 (x2 : Int) (x24 : Int) (x25 : Int) (x26 : Int) (x28 : Int) (fault_0 : Int) (tape_0 : Int → Int) (faultPlace_0 : Int) (from_0 : Int) (pos_0 : Int) (kind_0 : Int) (k2 : 99 ≤ x2 ∧ x2 ≤ 99) (k24 : 1 ≤ x24 ∧ x24 ≤ 1) (k25 : 0 ≤ x25 ∧ x25 ≤ 2000) (k26 : 0 ≤ x26 ∧ x26 ≤ 5) (k28 : 1 ≤ x28 ∧ x28 ≤ 99) (f26 : ((1 ≤ x26) ∧ (fault_0 = x26)) ∨ ((x26 = 0) ∧ ((fault_0 = x24) ∧ (faultPlace_0 = x25)))) (f28 : ((kind_0 = 1) → (pos_0 ≤ (from_0 + 8))) ∧ ((kind_0 = 0) ∨ ((from_0 + 1) ≤ pos_0))) (f34 : 1 * x28 + ((-1) * x2 + 0) ≤ 0) (hK_0_1 : ∀ j : Int, 0 ≤ j → j < 2000 → (-128) ≤ tape_0 j ∧ tape_0 j ≤ 127) (kz_0_8 : 0 ≤ fault_0 ∧ fault_0 ≤ 5) (kz_0_9 : 0 ≤ faultPlace_0 ∧ faultPlace_0 ≤ 2000) (kz_0_11 : 0 ≤ pos_0 ∧ pos_0 ≤ 2000) (kz_0_12 : 0 ≤ kind_0 ∧ kind_0 ≤ 4) (kz_0_15 : 0 ≤ from_0 ∧ from_0 ≤ 2000) : 1 * x28 + ((-1) * x2 + 0) ≤ 0 := by
  first | with_reducible assumption | ((have f28_c0 := f28.1); (have f28_c1 := f28.2); (try and_intros) <;> first | with_reducible assumption | (clear f26 f28_c0 f28_c1 f28 hK_0_1; omega)) | ((have f28_c0 := f28.1); (have f28_c1 := f28.2); (try and_intros) <;> first | with_reducible assumption | (clear f28_c0 f28_c1 f28 hK_0_1; omega)) | omega
set_option maxHeartbeats 4000000 in
theorem vc_Mo_of_at_s5002_35_4 (x24 : Int) (x25 : Int) (x26 : Int) (x28 : Int) (fault_0 : Int) (tape_0 : Int → Int) (faultPlace_0 : Int) (from_0 : Int) (pos_0 : Int) (kind_0 : Int) (k24 : 1 ≤ x24 ∧ x24 ≤ 1) (k25 : 0 ≤ x25 ∧ x25 ≤ 2000) (k26 : 0 ≤ x26 ∧ x26 ≤ 5) (k28 : 1 ≤ x28 ∧ x28 ≤ 99) (f26 : ((1 ≤ x26) ∧ (fault_0 = x26)) ∨ ((x26 = 0) ∧ ((fault_0 = x24) ∧ (faultPlace_0 = x25)))) (f28 : ((kind_0 = 1) → (pos_0 ≤ (from_0 + 8))) ∧ ((kind_0 = 0) ∨ ((from_0 + 1) ≤ pos_0))) (f35 : (-1) * x28 + 0 ≤ 0) (hK_0_1 : ∀ j : Int, 0 ≤ j → j < 2000 → (-128) ≤ tape_0 j ∧ tape_0 j ≤ 127) (kz_0_8 : 0 ≤ fault_0 ∧ fault_0 ≤ 5) (kz_0_9 : 0 ≤ faultPlace_0 ∧ faultPlace_0 ≤ 2000) (kz_0_11 : 0 ≤ pos_0 ∧ pos_0 ≤ 2000) (kz_0_12 : 0 ≤ kind_0 ∧ kind_0 ≤ 4) (kz_0_15 : 0 ≤ from_0 ∧ from_0 ≤ 2000) : (-1) * x28 + 0 ≤ 0 := by
  first | with_reducible assumption | ((have f28_c0 := f28.1); (have f28_c1 := f28.2); (try and_intros) <;> first | with_reducible assumption | (clear f26 f28_c0 f28_c1 f28 hK_0_1; omega)) | ((have f28_c0 := f28.1); (have f28_c1 := f28.2); (try and_intros) <;> first | with_reducible assumption | (clear f28_c0 f28_c1 f28 hK_0_1; omega)) | omega
set_option maxHeartbeats 4000000 in
theorem vc_Mo_of_at_s5002_35_5 (x4 : Int) (x24 : Int) (x25 : Int) (x26 : Int) (fault_0 : Int) (tape_0 : Int → Int) (faultPlace_0 : Int) (from_0 : Int) (pos_0 : Int) (kind_0 : Int) (k4 : (-1) ≤ x4 ∧ x4 ≤ 48) (k24 : 1 ≤ x24 ∧ x24 ≤ 1) (k25 : 0 ≤ x25 ∧ x25 ≤ 2000) (k26 : 0 ≤ x26 ∧ x26 ≤ 5) (f26 : ((1 ≤ x26) ∧ (fault_0 = x26)) ∨ ((x26 = 0) ∧ ((fault_0 = x24) ∧ (faultPlace_0 = x25)))) (f28 : ((kind_0 = 1) → (pos_0 ≤ (from_0 + 8))) ∧ ((kind_0 = 0) ∨ ((from_0 + 1) ≤ pos_0))) (f95 : (-1) * x4 + 0 ≤ 0) (hK_0_1 : ∀ j : Int, 0 ≤ j → j < 2000 → (-128) ≤ tape_0 j ∧ tape_0 j ≤ 127) (kz_0_8 : 0 ≤ fault_0 ∧ fault_0 ≤ 5) (kz_0_9 : 0 ≤ faultPlace_0 ∧ faultPlace_0 ≤ 2000) (kz_0_11 : 0 ≤ pos_0 ∧ pos_0 ≤ 2000) (kz_0_12 : 0 ≤ kind_0 ∧ kind_0 ≤ 4) (kz_0_15 : 0 ≤ from_0 ∧ from_0 ≤ 2000) : (-1) * x4 + 0 ≤ 0 := by
  first | with_reducible assumption | ((have f28_c0 := f28.1); (have f28_c1 := f28.2); (try and_intros) <;> first | with_reducible assumption | (clear f26 f28_c0 f28_c1 f28 hK_0_1; omega)) | ((have f28_c0 := f28.1); (have f28_c1 := f28.2); (try and_intros) <;> first | with_reducible assumption | (clear f28_c0 f28_c1 f28 hK_0_1; omega)) | omega
set_option maxHeartbeats 4000000 in
theorem vc_Mo_of_at_s5002_35_6 (x24 : Int) (x25 : Int) (x26 : Int) (x27 : Int) (fault_0 : Int) (tape_0 : Int → Int) (faultPlace_0 : Int) (from_0 : Int) (pos_0 : Int) (kind_0 : Int) (gx : Int) (k24 : 1 ≤ x24 ∧ x24 ≤ 1) (k25 : 0 ≤ x25 ∧ x25 ≤ 2000) (k26 : 0 ≤ x26 ∧ x26 ≤ 5) (k27 : 0 ≤ x27 ∧ x27 ≤ 0) (g0 : x27 = fault_0) (f25 : (-1) * fault_0 + 0 ≤ (-1)) (f26 : ((1 ≤ x26) ∧ (fault_0 = x26)) ∨ ((x26 = 0) ∧ ((fault_0 = x24) ∧ (faultPlace_0 = x25)))) (f28 : ((kind_0 = 1) → (pos_0 ≤ (from_0 + 8))) ∧ ((kind_0 = 0) ∨ ((from_0 + 1) ≤ pos_0))) (hK_0_1 : ∀ j : Int, 0 ≤ j → j < 2000 → (-128) ≤ tape_0 j ∧ tape_0 j ≤ 127) (kz_0_8 : 0 ≤ fault_0 ∧ fault_0 ≤ 5) (kz_0_9 : 0 ≤ faultPlace_0 ∧ faultPlace_0 ≤ 2000) (kz_0_11 : 0 ≤ pos_0 ∧ pos_0 ≤ 2000) (kz_0_12 : 0 ≤ kind_0 ∧ kind_0 ≤ 4) (kz_0_15 : 0 ≤ from_0 ∧ from_0 ≤ 2000) : (-1) * gx + ((-1) * pos_0 + 0) ≤ (-2001) := by
  first | with_reducible assumption | ((have f28_c0 := f28.1); (have f28_c1 := f28.2); (try and_intros) <;> first | with_reducible assumption | (clear f26 f28_c0 f28_c1 f28 hK_0_1; omega)) | ((have f28_c0 := f28.1); (have f28_c1 := f28.2); (try and_intros) <;> first | with_reducible assumption | (clear f28_c0 f28_c1 f28 hK_0_1; omega)) | omega
set_option maxHeartbeats 4000000 in
theorem vc_Mo_of_at_s5002_35_7 (x4 : Int) (x5 : Int) (x6 : Int) (x15 : Int) (x17 : Int) (x18 : Int) (x19 : Int) (x20 : Int) (x27 : Int) (x28 : Int) (x31 : Int) (fault_0 : Int) (tape_0 : Int → Int) (all_0 : Int → Int) (limit_0 : Int) (r_0 : Int) (from_0 : Int) (pos_0 : Int) (kind_0 : Int) (place_0 : Int) (value_0 : Int) (k4 : (-1) ≤ x4 ∧ x4 ≤ 48) (k5 : 0 ≤ x5 ∧ x5 ≤ 7) (k6 : 0 ≤ x6 ∧ x6 ≤ 4) (k27 : 0 ≤ x27 ∧ x27 ≤ 0) (k28 : 1 ≤ x28 ∧ x28 ≤ 99) (k31 : 0 ≤ x31 ∧ x31 ≤ 2000) (g0 : x27 = fault_0) (f3 : zU12s (limit_0) (fault_0) (r_0) (tape_0) (all_0) (x4) (x28) (x5) (x6) (x31)) (f25 : (-1) * fault_0 + 0 ≤ (-1)) (f30 : TKR (limit_0) (pos_0) (kind_0) (place_0) (value_0) (from_0) (tape_0) (x31)) (kz_0_8 : 0 ≤ fault_0 ∧ fault_0 ≤ 5) (kz_0_10 : 0 ≤ limit_0 ∧ limit_0 ≤ 2000) (kz_0_11 : 0 ≤ pos_0 ∧ pos_0 ≤ 2000) (kz_0_12 : 0 ≤ kind_0 ∧ kind_0 ≤ 4) (kz_0_13 : 0 ≤ place_0 ∧ place_0 ≤ 2000) (kz_0_14 : (-49) ≤ value_0 ∧ value_0 ≤ 1048575) (kz_0_15 : 0 ≤ from_0 ∧ from_0 ≤ 2000) : zO12s (limit_0) (pos_0) (kind_0) (place_0) (value_0) (from_0) (fault_0) (r_0) (tape_0) (all_0) (x4) (x28) (x5) (x6) := by
  first | (have el_x17 : x17 = x15 := by omega); subst el_x17 | skip
  first | (have el_x18 : x18 = x4 := by omega); subst el_x18 | skip
  first | (have el_x19 : x19 = x5 := by omega); subst el_x19 | skip
  first | (have el_x20 : x20 = x6 := by omega); subst el_x20 | skip
  first | subst g0 | skip
  first
    | exact of_12_s ‹zU12s _ _ _ _ _ _ _ _ _ _› ‹TKR _ _ _ _ _ _ _ _›
    | (exfalso; omega)
def o_Mo_of_at_s5002_35 : or_T := (139, 32, [(0, (2, 0, 0, [165])), (2, (0, 99, 99, [])), (3, (0, 0, 2000, [])), (4, (0, -1, 48, [])), (5, (0, 0, 7, [])), (6, (0, 0, 4, [])), (7, (2, 0, 0, [165])), (9, (0, 99, 99, [])), (10, (0, -49, 0, [])), (11, (0, 0, 2000, [])), (15, (0, 0, 2000, [])), (17, (0, 0, 2000, [])), (18, (0, -1, 48, [])), (19, (0, 0, 7, [])), (20, (0, 0, 4, [])), (24, (0, 1, 1, [])), (25, (0, 0, 2000, [])), (26, (0, 0, 5, [])), (27, (0, 0, 0, [])), (28, (0, 1, 99, [])), (31, (0, 0, 2000, []))], [(9, [27, 7], [8]), (23, [3, 31], [-1, 1, -1]), (23, [11, 31], [-2001, -1, -1]), (20, [7, 4, 28, 5, 6, 31], [60, 3, 2, 986, 10, 8, 5, 1, 2]), (23, [28, 9], [0, 1, -1]), (23, [28], [0, -1]), (20, [7, 24, 25], [60, 1, 1, 1026, 10, 1]), (20, [26], [61, 0, 1029]), (23, [17, 15], [0, 1, -1]), (23, [17, 15], [0, -1, 1]), (23, [18, 4], [0, 1, -1]), (23, [18, 4], [0, -1, 1]), (23, [19, 5], [0, 1, -1]), (23, [19, 5], [0, -1, 1]), (23, [20, 6], [0, 1, -1]), (23, [20, 6], [0, -1, 1]), (23, [3, 17], [-1, 1, -1]), (23, [11, 17], [-2000, -1, -1]), (23, [3, 15], [-1, 1, -1]), (23, [11, 15], [-2000, -1, -1]), (23, [10, 9], [0, 1, -1]), (23, [10], [0, -1]), (23, [4], [0, -1]), (24, [0, 7], []), (24, [2, 9], []), (20, [7], [30, -1, -1, 1, 8]), (20, [26, 7, 24, 25], [50, 2, 0, 1008, 1009, 3, 15, 2, 6, 0, 2, 0, 1, 1, 0, 1, 3, 2, 1, 8, 1, 0, 2, 6, 1, 2, 1, 0, 0, 0, 2, 7, 1, 3, 2, 1, 8, 1, 2, 1, 3, 2, 1, 9, 1, 3]), (20, [7, 7], [30, 0, 1, 1, 15, -1, 1, 11]), (20, [7], [50, 3, 0, 12, 11, 15, 2, 21, 4, 7, 1, 3, 2, 0, 12, 0, 1, 0, 3, 2, 0, 11, 4, 3, 2, 0, 15, 0, 8, 3, 7, 1, 3, 2, 0, 12, 0, 0, 0, 7, 4, 3, 2, 0, 15, 0, 1, 2, 0, 11]), (20, [31, 7], [30, 0, 1, 0, 0, -1, 1, 15]), (20, [7, 31], [60, 6, 1, 948, 10, 11, 12, 13, 14, 15, 1]), (102, [31], [0, 165011, 165012, 165013, 165014, 165015]), (23, [3, 31], [-1, 1, -1]), (23, [11, 31], [-2001, -1, -1]), (23, [28, 9], [0, 1, -1]), (23, [28], [0, -1]), (8, [27], [5]), (8, [27], [0]), (23, [17, 15], [0, 1, -1]), (23, [17, 15], [0, -1, 1]), (23, [18, 4], [0, 1, -1]), (23, [18, 4], [0, -1, 1]), (23, [19, 5], [0, 1, -1]), (23, [19, 5], [0, -1, 1]), (23, [20, 6], [0, 1, -1]), (23, [20, 6], [0, -1, 1]), (23, [3, 17], [-1, 1, -1]), (23, [11, 17], [-2000, -1, -1]), (23, [3, 15], [-1, 1, -1]), (23, [11, 15], [-2000, -1, -1]), (23, [10, 9], [0, 1, -1]), (23, [10], [0, -1]), (23, [4], [0, -1]), (102, [26], [0, 165008, 165009]), (23, [17, 15], [0, 1, -1]), (23, [17, 15], [0, -1, 1]), (23, [18, 4], [0, 1, -1]), (23, [18, 4], [0, -1, 1]), (23, [19, 5], [0, 1, -1]), (23, [19, 5], [0, -1, 1]), (23, [20, 6], [0, 1, -1]), (23, [20, 6], [0, -1, 1]), (23, [3, 17], [-1, 1, -1]), (23, [11, 17], [-2000, -1, -1]), (23, [3, 15], [-1, 1, -1]), (23, [11, 15], [-2000, -1, -1]), (23, [10, 9], [0, 1, -1]), (23, [10], [0, -1]), (23, [4], [0, -1]), (102, [20], [0, 165008, 165009, 165011, 165012, 165013, 165014, 165015]), (23, [17, 15], [0, 1, -1]), (23, [17, 15], [0, -1, 1]), (23, [18, 4], [0, 1, -1]), (23, [18, 4], [0, -1, 1]), (23, [19, 5], [0, 1, -1]), (23, [19, 5], [0, -1, 1]), (23, [20, 6], [0, 1, -1]), (23, [20, 6], [0, -1, 1]), (23, [3, 17], [-1, 1, -1]), (23, [11, 17], [-2000, -1, -1]), (23, [3, 15], [-1, 1, -1]), (23, [11, 15], [-2000, -1, -1]), (23, [10, 9], [0, 1, -1]), (23, [10], [0, -1]), (23, [4], [0, -1]), (102, [15], [0, 165011, 165012, 165013, 165014, 165015]), (23, [3, 15], [-1, 1, -1]), (23, [11, 15], [-2000, -1, -1]), (8, [10], [5]), (23, [10, 9], [0, 1, -1]), (23, [10], [0, -1]), (23, [4], [0, -1]), (102, [13], [0]), (23, [10, 9], [0, 1, -1]), (23, [10], [0, -1]), (23, [4], [0, -1])], [], [(0, 0, 2000, [])], [(20, [7, 7], [30, 0, 1, 1, 15, -1, 1, 11]), (20, [7], [50, 3, 0, 12, 11, 15, 2, 21, 4, 7, 1, 3, 2, 0, 12, 0, 1, 0, 3, 2, 0, 11, 4, 3, 2, 0, 15, 0, 8, 3, 7, 1, 3, 2, 0, 12, 0, 0, 0, 7, 4, 3, 2, 0, 15, 0, 1, 2, 0, 11]), (20, [3, 7], [30, -1, 1, 0, 0, -1, 1, 11]), (23, [28, 9], [0, 1, -1]), (23, [28], [0, -1]), (23, [4], [0, -1]), (20, [32, 7], [30, -2001, -1, 0, 0, -1, 1, 11]), (20, [7, 4, 28, 5, 6], [60, 8, 2, 999, 10, 11, 12, 13, 14, 15, 8, 5, 1, 2]), (24, [0, 7], []), (24, [2, 9], [])], [(32, 11, 0, 0)], [])
theorem oo_Mo_of_at_s5002_35 {kA : Nat → ClassId} : or_ok PRD kA GG o_Mo_of_at_s5002_35 := by
  refine or_mk fun A ta ws vs hD hth hl => ?_
  intro t0 r0 t2 k2 t3 k3 t4 k4 t5 k5 t6 k6 t7 r7 t9 k9 t10 k10 t11 k11 t15 k15 t17 k17 t18 k18 t19 k19 t20 k20 t24 k24 t25 k25 t26 k26 t27 k27 t28 k28 t31 k31 f0 f1 f2 f3 f4 f5 f6 f7 f8 f9 f10 f11 f12 f13 f14 f15 f16 f17 f18 f19 f20 f21 f22 f23 f24 f25 f26 f27 f28 f29 f30 ta1 w1 le1 s1 f32 f33 f34 f35 f36 f37 f38 f39 f40 f41 f42 f43 f44 f45 f46 f47 f48 f49 f50 f51 f52 ta2 w2 le2 s2 f54 f55 f56 f57 f58 f59 f60 f61 f62 f63 f64 f65 f66 f67 f68 ta3 w3 le3 s3 f70 f71 f72 f73 f74 f75 f76 f77 f78 f79 f80 f81 f82 f83 f84 ta4 w4 le4 s4 f86 f87 f88 f89 f90 f91 ta5 w5 le5 s5 f93 f94 f95
  replace f0 := shm_293 f0
  replace f1 := shm_193 f1
  replace f2 := shm_2011 f2
  replace f3 := shm_2012 f3
  replace f4 := shm_7 f4
  replace f5 := shm_1043 f5
  replace f6 := shm_1724 f6
  replace f7 := shm_1725 f7
  replace f8 := shm_7 f8
  replace f9 := shm_22 f9
  replace f10 := shm_7 f10
  replace f11 := shm_22 f11
  replace f12 := shm_7 f12
  replace f13 := shm_22 f13
  replace f14 := shm_7 f14
  replace f15 := shm_22 f15
  replace f16 := shm_193 f16
  replace f17 := shm_2009 f17
  replace f18 := shm_193 f18
  replace f19 := shm_2009 f19
  replace f20 := shm_7 f20
  replace f21 := shm_1043 f21
  replace f22 := shm_1043 f22
  replace f23 := shm_5 f23
  replace f24 := shm_5 f24
  replace f25 := shm_305 f25
  replace f26 := shm_306 f26
  replace f27 := shm_1437 f27
  replace f28 := shm_1438 f28
  replace f29 := shm_1436 f29
  replace f30 := shm_1439 f30
  replace f32 := shm_193 f32
  replace f33 := shm_2011 f33
  replace f34 := shm_7 f34
  replace f35 := shm_1043 f35
  replace f36 := shm_295 f36
  replace f37 := shm_192 f37
  replace f38 := shm_7 f38
  replace f39 := shm_22 f39
  replace f40 := shm_7 f40
  replace f41 := shm_22 f41
  replace f42 := shm_7 f42
  replace f43 := shm_22 f43
  replace f44 := shm_7 f44
  replace f45 := shm_22 f45
  replace f46 := shm_193 f46
  replace f47 := shm_2009 f47
  replace f48 := shm_193 f48
  replace f49 := shm_2009 f49
  replace f50 := shm_7 f50
  replace f51 := shm_1043 f51
  replace f52 := shm_1043 f52
  replace f54 := shm_7 f54
  replace f55 := shm_22 f55
  replace f56 := shm_7 f56
  replace f57 := shm_22 f57
  replace f58 := shm_7 f58
  replace f59 := shm_22 f59
  replace f60 := shm_7 f60
  replace f61 := shm_22 f61
  replace f62 := shm_193 f62
  replace f63 := shm_2009 f63
  replace f64 := shm_193 f64
  replace f65 := shm_2009 f65
  replace f66 := shm_7 f66
  replace f67 := shm_1043 f67
  replace f68 := shm_1043 f68
  replace f70 := shm_7 f70
  replace f71 := shm_22 f71
  replace f72 := shm_7 f72
  replace f73 := shm_22 f73
  replace f74 := shm_7 f74
  replace f75 := shm_22 f75
  replace f76 := shm_7 f76
  replace f77 := shm_22 f77
  replace f78 := shm_193 f78
  replace f79 := shm_2009 f79
  replace f80 := shm_193 f80
  replace f81 := shm_2009 f81
  replace f82 := shm_7 f82
  replace f83 := shm_1043 f83
  replace f84 := shm_1043 f84
  replace f86 := shm_193 f86
  replace f87 := shm_2009 f87
  replace f88 := shm_295 f88
  replace f89 := shm_7 f89
  replace f90 := shm_1043 f90
  replace f91 := shm_1043 f91
  replace f93 := shm_7 f93
  replace f94 := shm_1043 f94
  replace f95 := shm_1043 f95
  have q7 : n_v vs 7 = n_v vs 0 := f23.symm
  have q9 : n_v vs 9 = n_v vs 2 := f24.symm
  simp only [q7, q9] at f0 f3 f4 f6 f20 f25 f26 f27 f28 f29 f30 f34 f50 f66 f82 f89 f93
  have cr_0_1 := fdq_39 hD hth r0
  have cr_0_2 := fdq_10 hD hth r0
  have g0 : v_iv (n_v vs 27) = w_fi ws (n_v vs 0) 8 := congrArg v_iv f0
  have hK_0_1 := elq_7 hD hth cr_0_1
  have kz_0_8 := fdq_34 hD hth r0
  have kz_0_9 := fdq_44 hD hth r0
  have kz_0_10 := fdq_43 hD hth r0
  have kz_0_11 := fdq_237 hD hth r0
  have kz_0_12 := fdq_187 hD hth r0
  have kz_0_13 := fdq_238 hD hth r0
  have kz_0_14 := fdq_188 hD hth r0
  have kz_0_15 := fdq_239 hD hth r0
  obtain ⟨x, ex, hx⟩ := iv_ex (ta := ta) (lo := 0) (hi := 2000) (z := 0 + (1 * v_iv (n_v vs 11) + 0)) (by omega) (by omega) (by omega) (by omega)
  have ex2 : v_iv (Value.int x) = 0 + (1 * v_iv (n_v vs 11) + 0) := ex
  have ex3 : 0 ≤ v_iv (Value.int x) ∧ v_iv (Value.int x) ≤ 2000 := tv_rng hx
  have e_0 : n_v (vs ++ [Value.int x]) 0 = n_v vs 0 := n_v_old (by rw [hl]; decide)
  have e_2 : n_v (vs ++ [Value.int x]) 2 = n_v vs 2 := n_v_old (by rw [hl]; decide)
  have e_3 : n_v (vs ++ [Value.int x]) 3 = n_v vs 3 := n_v_old (by rw [hl]; decide)
  have e_4 : n_v (vs ++ [Value.int x]) 4 = n_v vs 4 := n_v_old (by rw [hl]; decide)
  have e_5 : n_v (vs ++ [Value.int x]) 5 = n_v vs 5 := n_v_old (by rw [hl]; decide)
  have e_6 : n_v (vs ++ [Value.int x]) 6 = n_v vs 6 := n_v_old (by rw [hl]; decide)
  have e_7 : n_v (vs ++ [Value.int x]) 7 = n_v vs 7 := n_v_old (by rw [hl]; decide)
  have e_9 : n_v (vs ++ [Value.int x]) 9 = n_v vs 9 := n_v_old (by rw [hl]; decide)
  have e_28 : n_v (vs ++ [Value.int x]) 28 = n_v vs 28 := n_v_old (by rw [hl]; decide)
  have e_32 : n_v (vs ++ [Value.int x]) 32 = Value.int x := n_v_new hl
  have nf0 : fc_1 PRD (20, [7, 7], [30, 0, 1, 1, 15, -1, 1, 11]) ws (vs ++ [Value.int x]) := by
    refine ⟨nf_inA hl rfl, sgq_1437 ?_⟩
    · show 1 * w_fi ws (n_v (vs ++ [Value.int x]) 7) 15 + ((-1) * w_fi ws (n_v (vs ++ [Value.int x]) 7) 11 + 0) ≤ 0
      simp only [e_7, q7]
      exact vc_Mo_of_at_s5002_35_0 (v_iv (n_v vs 24)) (v_iv (n_v vs 25)) (v_iv (n_v vs 26)) (w_fi ws (n_v vs 0) 8) (w_ei ws (w_ar ws (n_v vs 0) 1)) (w_fi ws (n_v vs 0) 9) (w_fi ws (n_v vs 0) 15) (w_fi ws (n_v vs 0) 11) (w_fi ws (n_v vs 0) 12) k24 k25 k26 f26 f27 f28 hK_0_1 kz_0_8 kz_0_9 kz_0_11 kz_0_12 kz_0_15
  have nf1 : fc_1 PRD (20, [7], [50, 3, 0, 12, 11, 15, 2, 21, 4, 7, 1, 3, 2, 0, 12, 0, 1, 0, 3, 2, 0, 11, 4, 3, 2, 0, 15, 0, 8, 3, 7, 1, 3, 2, 0, 12, 0, 0, 0, 7, 4, 3, 2, 0, 15, 0, 1, 2, 0, 11]) ws (vs ++ [Value.int x]) := by
    refine ⟨nf_inA hl rfl, sgq_1438 ?_⟩
    · show ((w_fi ws (n_v (vs ++ [Value.int x]) 7) 12 = 1) → (w_fi ws (n_v (vs ++ [Value.int x]) 7) 11 ≤ (w_fi ws (n_v (vs ++ [Value.int x]) 7) 15 + 8))) ∧ ((w_fi ws (n_v (vs ++ [Value.int x]) 7) 12 = 0) ∨ ((w_fi ws (n_v (vs ++ [Value.int x]) 7) 15 + 1) ≤ w_fi ws (n_v (vs ++ [Value.int x]) 7) 11))
      simp only [e_7, q7]
      exact vc_Mo_of_at_s5002_35_1 (v_iv (n_v vs 24)) (v_iv (n_v vs 25)) (v_iv (n_v vs 26)) (w_fi ws (n_v vs 0) 8) (w_ei ws (w_ar ws (n_v vs 0) 1)) (w_fi ws (n_v vs 0) 9) (w_fi ws (n_v vs 0) 15) (w_fi ws (n_v vs 0) 11) (w_fi ws (n_v vs 0) 12) k24 k25 k26 f26 f28 hK_0_1 kz_0_8 kz_0_9 kz_0_11 kz_0_12 kz_0_15
  have nf2 : fc_1 PRD (20, [3, 7], [30, -1, 1, 0, 0, -1, 1, 11]) ws (vs ++ [Value.int x]) := by
    refine ⟨nf_inA hl rfl, sgq_2005 ?_⟩
    · show 1 * v_iv (n_v (vs ++ [Value.int x]) 3) + ((-1) * w_fi ws (n_v (vs ++ [Value.int x]) 7) 11 + 0) ≤ (-1)
      simp only [e_3, e_7, q7]
      exact vc_Mo_of_at_s5002_35_2 (v_iv (n_v vs 3)) (v_iv (n_v vs 24)) (v_iv (n_v vs 25)) (v_iv (n_v vs 26)) (v_iv (n_v vs 27)) (w_fi ws (n_v vs 0) 8) (w_ei ws (w_ar ws (n_v vs 0) 1)) (w_fi ws (n_v vs 0) 9) (w_fi ws (n_v vs 0) 15) (w_fi ws (n_v vs 0) 11) (w_fi ws (n_v vs 0) 12) k3 k24 k25 k26 k27 g0 f25 f26 f28 hK_0_1 kz_0_8 kz_0_9 kz_0_11 kz_0_12 kz_0_15
  have nf3 : fc_1 PRD (23, [28, 9], [0, 1, -1]) ws (vs ++ [Value.int x]) := by
    refine ⟨nf_inA hl rfl, sgq_7 ?_⟩
    · show 1 * v_iv (n_v (vs ++ [Value.int x]) 28) + ((-1) * v_iv (n_v (vs ++ [Value.int x]) 9) + 0) ≤ 0
      simp only [e_9, e_28, q9]
      exact vc_Mo_of_at_s5002_35_3 (v_iv (n_v vs 2)) (v_iv (n_v vs 24)) (v_iv (n_v vs 25)) (v_iv (n_v vs 26)) (v_iv (n_v vs 28)) (w_fi ws (n_v vs 0) 8) (w_ei ws (w_ar ws (n_v vs 0) 1)) (w_fi ws (n_v vs 0) 9) (w_fi ws (n_v vs 0) 15) (w_fi ws (n_v vs 0) 11) (w_fi ws (n_v vs 0) 12) k2 k24 k25 k26 k28 f26 f28 f34 hK_0_1 kz_0_8 kz_0_9 kz_0_11 kz_0_12 kz_0_15
  have nf4 : fc_1 PRD (23, [28], [0, -1]) ws (vs ++ [Value.int x]) := by
    refine ⟨nf_inA hl rfl, sgq_1043 ?_⟩
    · show (-1) * v_iv (n_v (vs ++ [Value.int x]) 28) + 0 ≤ 0
      rw [e_28]
      exact vc_Mo_of_at_s5002_35_4 (v_iv (n_v vs 24)) (v_iv (n_v vs 25)) (v_iv (n_v vs 26)) (v_iv (n_v vs 28)) (w_fi ws (n_v vs 0) 8) (w_ei ws (w_ar ws (n_v vs 0) 1)) (w_fi ws (n_v vs 0) 9) (w_fi ws (n_v vs 0) 15) (w_fi ws (n_v vs 0) 11) (w_fi ws (n_v vs 0) 12) k24 k25 k26 k28 f26 f28 f35 hK_0_1 kz_0_8 kz_0_9 kz_0_11 kz_0_12 kz_0_15
  have nf5 : fc_1 PRD (23, [4], [0, -1]) ws (vs ++ [Value.int x]) := by
    refine ⟨nf_inA hl rfl, sgq_1043 ?_⟩
    · show (-1) * v_iv (n_v (vs ++ [Value.int x]) 4) + 0 ≤ 0
      rw [e_4]
      exact vc_Mo_of_at_s5002_35_5 (v_iv (n_v vs 4)) (v_iv (n_v vs 24)) (v_iv (n_v vs 25)) (v_iv (n_v vs 26)) (w_fi ws (n_v vs 0) 8) (w_ei ws (w_ar ws (n_v vs 0) 1)) (w_fi ws (n_v vs 0) 9) (w_fi ws (n_v vs 0) 15) (w_fi ws (n_v vs 0) 11) (w_fi ws (n_v vs 0) 12) k4 k24 k25 k26 f26 f28 f95 hK_0_1 kz_0_8 kz_0_9 kz_0_11 kz_0_12 kz_0_15
  have nf6 : fc_1 PRD (20, [32, 7], [30, -2001, -1, 0, 0, -1, 1, 11]) ws (vs ++ [Value.int x]) := by
    refine ⟨nf_inA hl rfl, sgq_2013 ?_⟩
    · show (-1) * v_iv (n_v (vs ++ [Value.int x]) 32) + ((-1) * w_fi ws (n_v (vs ++ [Value.int x]) 7) 11 + 0) ≤ (-2001)
      simp only [e_7, e_32, q7]
      exact vc_Mo_of_at_s5002_35_6 (v_iv (n_v vs 24)) (v_iv (n_v vs 25)) (v_iv (n_v vs 26)) (v_iv (n_v vs 27)) (w_fi ws (n_v vs 0) 8) (w_ei ws (w_ar ws (n_v vs 0) 1)) (w_fi ws (n_v vs 0) 9) (w_fi ws (n_v vs 0) 15) (w_fi ws (n_v vs 0) 11) (w_fi ws (n_v vs 0) 12) (v_iv (Value.int x)) k24 k25 k26 k27 g0 f25 f26 f28 hK_0_1 kz_0_8 kz_0_9 kz_0_11 kz_0_12 kz_0_15
  have nf7 : fc_1 PRD (20, [7, 4, 28, 5, 6], [60, 8, 2, 999, 10, 11, 12, 13, 14, 15, 8, 5, 1, 2]) ws (vs ++ [Value.int x]) := by
    refine ⟨nf_inA hl rfl, sgq_2014 ?_⟩
    · show zO12s (w_fi ws (n_v (vs ++ [Value.int x]) 7) 10) (w_fi ws (n_v (vs ++ [Value.int x]) 7) 11) (w_fi ws (n_v (vs ++ [Value.int x]) 7) 12) (w_fi ws (n_v (vs ++ [Value.int x]) 7) 13) (w_fi ws (n_v (vs ++ [Value.int x]) 7) 14) (w_fi ws (n_v (vs ++ [Value.int x]) 7) 15) (w_fi ws (n_v (vs ++ [Value.int x]) 7) 8) (w_fi ws (n_v (vs ++ [Value.int x]) 7) 5) (w_ei ws (w_ar ws (n_v (vs ++ [Value.int x]) 7) 1)) (w_ei ws (w_ar ws (n_v (vs ++ [Value.int x]) 7) 2)) (v_iv (n_v (vs ++ [Value.int x]) 4)) (v_iv (n_v (vs ++ [Value.int x]) 28)) (v_iv (n_v (vs ++ [Value.int x]) 5)) (v_iv (n_v (vs ++ [Value.int x]) 6))
      simp only [e_4, e_5, e_6, e_7, e_28, q7]
      exact vc_Mo_of_at_s5002_35_7 (v_iv (n_v vs 4)) (v_iv (n_v vs 5)) (v_iv (n_v vs 6)) (v_iv (n_v vs 15)) (v_iv (n_v vs 17)) (v_iv (n_v vs 18)) (v_iv (n_v vs 19)) (v_iv (n_v vs 20)) (v_iv (n_v vs 27)) (v_iv (n_v vs 28)) (v_iv (n_v vs 31)) (w_fi ws (n_v vs 0) 8) (w_ei ws (w_ar ws (n_v vs 0) 1)) (w_ei ws (w_ar ws (n_v vs 0) 2)) (w_fi ws (n_v vs 0) 10) (w_fi ws (n_v vs 0) 5) (w_fi ws (n_v vs 0) 15) (w_fi ws (n_v vs 0) 11) (w_fi ws (n_v vs 0) 12) (w_fi ws (n_v vs 0) 13) (w_fi ws (n_v vs 0) 14) k4 k5 k6 k27 k28 k31 g0 f3 f25 f30 kz_0_8 kz_0_10 kz_0_11 kz_0_12 kz_0_13 kz_0_14 kz_0_15
  have nf8 : fc_1 PRD (24, [0, 7], []) ws (vs ++ [Value.int x]) := by
    refine ⟨nf_inA hl rfl, sgq_5 ?_⟩
    · show n_v (vs ++ [Value.int x]) 0 = n_v (vs ++ [Value.int x]) 7
      first | rfl | simp only [e_0, e_7, q7, q9]
  have nf9 : fc_1 PRD (24, [2, 9], []) ws (vs ++ [Value.int x]) := by
    refine ⟨nf_inA hl rfl, sgq_5 ?_⟩
    · show n_v (vs ++ [Value.int x]) 2 = n_v (vs ++ [Value.int x]) 9
      first | rfl | simp only [e_2, e_9, q7, q9]
  obtain ⟨x0, e0, _, _⟩ := tv_int t11 rfl
  have e1 : v_iv (n_v vs 11) = x0.toInt := by rw [e0]; rfl
  have ho : sy_ofs (vs ++ [Value.int x]) (32, 11, 0, 0) := by
    refine ⟨x, x0, by rw [List.getElem?_append_right (by rw [hl]; decide), hl]; rfl, ?_, ?_, ?_⟩
    · rw [List.getElem?_append_left (by rw [hl]; decide)]; exact n_v_some (by rw [hl]; decide) e0
    · show x0.toInt + 0 ≤ x.toInt; omega
    · show x.toInt ≤ x0.toInt + 0; omega
  exact ⟨(fun _ h => (by cases h)), [Value.int x], ag_one hx, List.forall_mem_cons.mpr ⟨⟨show (20 : Nat) < 100 from by decide, nf0⟩, List.forall_mem_cons.mpr ⟨⟨show (20 : Nat) < 100 from by decide, nf1⟩, List.forall_mem_cons.mpr ⟨⟨show (20 : Nat) < 100 from by decide, nf2⟩, List.forall_mem_cons.mpr ⟨⟨show (23 : Nat) < 100 from by decide, nf3⟩, List.forall_mem_cons.mpr ⟨⟨show (23 : Nat) < 100 from by decide, nf4⟩, List.forall_mem_cons.mpr ⟨⟨show (23 : Nat) < 100 from by decide, nf5⟩, List.forall_mem_cons.mpr ⟨⟨show (20 : Nat) < 100 from by decide, nf6⟩, List.forall_mem_cons.mpr ⟨⟨show (20 : Nat) < 100 from by decide, nf7⟩, List.forall_mem_cons.mpr ⟨⟨show (24 : Nat) < 100 from by decide, nf8⟩, List.forall_mem_cons.mpr ⟨⟨show (24 : Nat) < 100 from by decide, nf9⟩, (fun _ h => (by cases h))⟩⟩⟩⟩⟩⟩⟩⟩⟩⟩, List.forall_mem_cons.mpr ⟨ho, (fun _ h => (by cases h))⟩⟩
set_option maxHeartbeats 4000000 in
theorem vc_Mo_of_at_s5002_36_0 (x4 : Int) (x5 : Int) (x6 : Int) (x10 : Int) (x12 : Int) (x15 : Int) (x16 : Int) (kind_0 : Int) (place_0 : Int) (from_0 : Int) (pos_0 : Int) (tape_0 : Int → Int) (all_0 : Int → Int) (limit_0 : Int) (value_0 : Int) (fault_0 : Int) (r_0 : Int) (gx : Int) (k4 : (-1) ≤ x4 ∧ x4 ≤ 48) (k5 : 0 ≤ x5 ∧ x5 ≤ 7) (k6 : 0 ≤ x6 ∧ x6 ≤ 4) (k10 : 1 ≤ x10 ∧ x10 ≤ 1048575) (k12 : 1 ≤ x12 ∧ x12 ≤ 1) (k15 : 4 ≤ x15 ∧ x15 ≤ 4) (k16 : 0 ≤ x16 ∧ x16 ≤ 2000) (g0 : x12 = kind_0) (g1 : x16 = place_0) (f2 : 0 < x10) (f10 : zOIs (limit_0) (pos_0) (kind_0) (place_0) (value_0) (from_0) (fault_0) (r_0) (tape_0) (all_0) (x4) (x10) (x5) (x6)) (kz_0_8 : 0 ≤ fault_0 ∧ fault_0 ≤ 5) (kz_0_10 : 0 ≤ limit_0 ∧ limit_0 ≤ 2000) (kz_0_11 : 0 ≤ pos_0 ∧ pos_0 ≤ 2000) (kz_0_12 : 0 ≤ kind_0 ∧ kind_0 ≤ 4) (kz_0_13 : 0 ≤ place_0 ∧ place_0 ≤ 2000) (kz_0_14 : (-49) ≤ value_0 ∧ value_0 ≤ 1048575) (kz_0_15 : 0 ≤ from_0 ∧ from_0 ≤ 2000) (ex2 : gx = fault_0) : FSX (limit_0) (tape_0) (x15) (x16) := by
  first | subst g0 | skip
  first | subst g1 | skip
  first | subst ex2 | skip
  first
    | exact fsx_cg (of_w_s ‹zOIs _ _ _ _ _ _ _ _ _ _ _ _ _ _› (by omega) (Or.inl ⟨‹WQs _ _ _ _ _ _›, by omega⟩)) (by omega) (by omega)
    | exact fsx_cg (of_w_s (ans := 0) ‹zOIs _ _ _ _ _ _ _ _ _ _ _ _ _ _› (by omega) (Or.inr (by omega))) (by omega) (by omega)
    | exact fsx_cg (of_w_w ‹zOIw _ _ _ _ _ _ _ _ _ _ _ _ _ _› (by omega) (Or.inl ⟨‹WQw _ _ _ _ _ _›, by omega⟩)) (by omega) (by omega)
    | exact fsx_cg (of_w_w (ans := 0) ‹zOIw _ _ _ _ _ _ _ _ _ _ _ _ _ _› (by omega) (Or.inr (by omega))) (by omega) (by omega)
    | (exfalso; omega)
set_option maxHeartbeats 4000000 in
theorem vc_Mo_of_at_s5002_36_1 (x14 : Int) (kind_0 : Int) (from_0 : Int) (pos_0 : Int) (tape_0 : Int → Int) (fault_0 : Int) (gx : Int) (k14 : 1 ≤ x14 ∧ x14 ≤ 1) (f5 : ((kind_0 = 1) → (pos_0 ≤ (from_0 + 8))) ∧ ((kind_0 = 0) ∨ ((from_0 + 1) ≤ pos_0))) (f15 : (x14 = 1) → (kind_0 = 1)) (hK_0_1 : ∀ j : Int, 0 ≤ j → j < 2000 → (-128) ≤ tape_0 j ∧ tape_0 j ≤ 127) (kz_0_8 : 0 ≤ fault_0 ∧ fault_0 ≤ 5) (kz_0_11 : 0 ≤ pos_0 ∧ pos_0 ≤ 2000) (kz_0_12 : 0 ≤ kind_0 ∧ kind_0 ≤ 4) (kz_0_15 : 0 ≤ from_0 ∧ from_0 ≤ 2000) (ex2 : gx = fault_0) : 1 * fault_0 + ((-1) * gx + 0) ≤ 0 := by
  first | with_reducible assumption | ((have f5_c0 := f5.1); (have f5_c1 := f5.2); (try and_intros) <;> first | with_reducible assumption | (clear f5_c0 f5_c1 f5 hK_0_1 f15; omega)) | ((have f5_c0 := f5.1); (have f5_c1 := f5.2); (first | have f15_b := f15 (by clear f5_c0 f5_c1 f5 hK_0_1 f15; omega) | skip); (first | have f15_d := f15 (by with_reducible assumption) | skip); (try and_intros) <;> first | with_reducible assumption | (clear f5_c0 f5_c1 f5 hK_0_1 f15; omega)) | omega
set_option maxHeartbeats 4000000 in
theorem vc_Mo_of_at_s5002_36_2 (x14 : Int) (kind_0 : Int) (from_0 : Int) (pos_0 : Int) (tape_0 : Int → Int) (fault_0 : Int) (gx : Int) (k14 : 1 ≤ x14 ∧ x14 ≤ 1) (f5 : ((kind_0 = 1) → (pos_0 ≤ (from_0 + 8))) ∧ ((kind_0 = 0) ∨ ((from_0 + 1) ≤ pos_0))) (f15 : (x14 = 1) → (kind_0 = 1)) (hK_0_1 : ∀ j : Int, 0 ≤ j → j < 2000 → (-128) ≤ tape_0 j ∧ tape_0 j ≤ 127) (kz_0_8 : 0 ≤ fault_0 ∧ fault_0 ≤ 5) (kz_0_11 : 0 ≤ pos_0 ∧ pos_0 ≤ 2000) (kz_0_12 : 0 ≤ kind_0 ∧ kind_0 ≤ 4) (kz_0_15 : 0 ≤ from_0 ∧ from_0 ≤ 2000) (ex2 : gx = fault_0) : (-1) * fault_0 + (1 * gx + 0) ≤ 0 := by
  first | with_reducible assumption | ((have f5_c0 := f5.1); (have f5_c1 := f5.2); (try and_intros) <;> first | with_reducible assumption | (clear f5_c0 f5_c1 f5 hK_0_1 f15; omega)) | ((have f5_c0 := f5.1); (have f5_c1 := f5.2); (first | have f15_b := f15 (by clear f5_c0 f5_c1 f5 hK_0_1 f15; omega) | skip); (first | have f15_d := f15 (by with_reducible assumption) | skip); (try and_intros) <;> first | with_reducible assumption | (clear f5_c0 f5_c1 f5 hK_0_1 f15; omega)) | omega
set_option maxHeartbeats 4000000 in
theorem vc_Mo_of_at_s5002_36_3 (x4 : Int) (x5 : Int) (x6 : Int) (x10 : Int) (kind_0 : Int) (place_0 : Int) (from_0 : Int) (pos_0 : Int) (tape_0 : Int → Int) (all_0 : Int → Int) (limit_0 : Int) (value_0 : Int) (fault_0 : Int) (r_0 : Int) (gx : Int) (k4 : (-1) ≤ x4 ∧ x4 ≤ 48) (k5 : 0 ≤ x5 ∧ x5 ≤ 7) (k6 : 0 ≤ x6 ∧ x6 ≤ 4) (k10 : 1 ≤ x10 ∧ x10 ≤ 1048575) (f10 : zOIs (limit_0) (pos_0) (kind_0) (place_0) (value_0) (from_0) (fault_0) (r_0) (tape_0) (all_0) (x4) (x10) (x5) (x6)) (kz_0_8 : 0 ≤ fault_0 ∧ fault_0 ≤ 5) (kz_0_10 : 0 ≤ limit_0 ∧ limit_0 ≤ 2000) (kz_0_11 : 0 ≤ pos_0 ∧ pos_0 ≤ 2000) (kz_0_12 : 0 ≤ kind_0 ∧ kind_0 ≤ 4) (kz_0_13 : 0 ≤ place_0 ∧ place_0 ≤ 2000) (kz_0_14 : (-49) ≤ value_0 ∧ value_0 ≤ 1048575) (kz_0_15 : 0 ≤ from_0 ∧ from_0 ≤ 2000) (ex2 : gx = fault_0) : ZH0 (gx) := by
  first
    | exact ⟨by omega, by omega, trivial⟩
    | (have h := (oi_0_s ‹zOIs _ _ _ _ _ _ _ _ _ _ _ _ _ _›).1; exact ⟨by omega, by omega, trivial⟩)
    | (have h := (oi_0_w ‹zOIw _ _ _ _ _ _ _ _ _ _ _ _ _ _›).1; exact ⟨by omega, by omega, trivial⟩)
    | (exfalso; omega)
def o_Mo_of_at_s5002_36 : or_T := (54, 17, [(0, (2, 0, 0, [165])), (2, (0, 99, 99, [])), (3, (0, 0, 2000, [])), (4, (0, -1, 48, [])), (5, (0, 0, 7, [])), (6, (0, 0, 4, [])), (7, (2, 0, 0, [165])), (9, (0, 99, 99, [])), (10, (0, 1, 1048575, [])), (11, (0, 0, 2000, [])), (12, (0, 1, 1, [])), (13, (0, 1, 1, [])), (14, (0, 1, 1, [])), (15, (0, 4, 4, [])), (16, (0, 0, 2000, []))], [(9, [12, 7], [12]), (9, [16, 7], [13]), (8, [10], [4]), (8, [14], [1]), (20, [7, 7], [30, 0, 1, 1, 15, -1, 1, 11]), (20, [7], [50, 3, 0, 12, 11, 15, 2, 21, 4, 7, 1, 3, 2, 0, 12, 0, 1, 0, 3, 2, 0, 11, 4, 3, 2, 0, 15, 0, 8, 3, 7, 1, 3, 2, 0, 12, 0, 0, 0, 7, 4, 3, 2, 0, 15, 0, 1, 2, 0, 11]), (20, [3, 7], [30, -1, 1, 0, 0, -1, 1, 11]), (23, [10, 9], [0, 1, -1]), (23, [10], [0, -1]), (23, [4], [0, -1]), (20, [7, 4, 10, 5, 6], [60, 8, 2, 997, 10, 11, 12, 13, 14, 15, 8, 5, 1, 2]), (24, [0, 7], []), (24, [2, 9], []), (20, [11, 7], [30, 2000, 1, 0, 0, 1, 1, 11]), (20, [11, 7], [30, -2000, -1, 0, 0, -1, 1, 11]), (20, [14, 7], [50, 1, 0, 1012, 4, 6, 1, 2, 1, 0, 0, 1, 1, 3, 2, 1, 12, 0, 1]), (20, [7, 14], [60, 4, 1, 960, 12, 11, 10, 15, 1]), (102, [13], [0]), (7, [12, 13], [0]), (23, [10, 9], [0, 1, -1]), (23, [10], [0, -1]), (23, [4], [0, -1])], [], [(0, 0, 5, [])], [(20, [7, 15, 16], [60, 1, 1, 1026, 10, 1]), (20, [7, 17], [30, 0, 1, 1, 8, -1, 0, 0]), (20, [7, 17], [30, 0, -1, 1, 8, 1, 0, 0]), (20, [17], [61, 0, 1029])], [], [])
theorem oo_Mo_of_at_s5002_36 {kA : Nat → ClassId} : or_ok PRD kA GG o_Mo_of_at_s5002_36 := by
  refine or_mk fun A ta ws vs hD hth hl => ?_
  intro t0 r0 t2 k2 t3 k3 t4 k4 t5 k5 t6 k6 t7 r7 t9 k9 t10 k10 t11 k11 t12 k12 t13 k13 t14 k14 t15 k15 t16 k16 f0 f1 f2 f3 f4 f5 f6 f7 f8 f9 f10 f11 f12 f13 f14 f15 f16 ta1 w1 le1 s1 f18 f19 f20 f21
  replace f0 := shm_103 f0
  replace f1 := shm_361 f1
  replace f2 := shm_308 f2
  replace f5 := shm_1438 f5
  replace f10 := shm_2006 f10
  replace f11 := shm_5 f11
  replace f15 := shm_1856 f15
  have q7 : n_v vs 7 = n_v vs 0 := f11.symm
  simp only [q7] at f0 f1 f5 f10 f15
  have cr_0_1 := fdq_39 hD hth r0
  have g0 : v_iv (n_v vs 12) = w_fi ws (n_v vs 0) 12 := congrArg v_iv f0
  have g1 : v_iv (n_v vs 16) = w_fi ws (n_v vs 0) 13 := congrArg v_iv f1
  have hK_0_1 := elq_7 hD hth cr_0_1
  have kz_0_8 := fdq_34 hD hth r0
  have kz_0_10 := fdq_43 hD hth r0
  have kz_0_11 := fdq_237 hD hth r0
  have kz_0_12 := fdq_187 hD hth r0
  have kz_0_13 := fdq_238 hD hth r0
  have kz_0_14 := fdq_188 hD hth r0
  have kz_0_15 := fdq_239 hD hth r0
  obtain ⟨x, ex, hx⟩ := iv_ex (ta := ta) (lo := 0) (hi := 5) (z := w_fi ws (n_v vs 0) 8) (by omega) (by omega) (by omega) (by omega)
  have ex2 : v_iv (Value.int x) = w_fi ws (n_v vs 0) 8 := ex
  have ex3 : 0 ≤ v_iv (Value.int x) ∧ v_iv (Value.int x) ≤ 5 := tv_rng hx
  have e_7 : n_v (vs ++ [Value.int x]) 7 = n_v vs 7 := n_v_old (by rw [hl]; decide)
  have e_15 : n_v (vs ++ [Value.int x]) 15 = n_v vs 15 := n_v_old (by rw [hl]; decide)
  have e_16 : n_v (vs ++ [Value.int x]) 16 = n_v vs 16 := n_v_old (by rw [hl]; decide)
  have e_17 : n_v (vs ++ [Value.int x]) 17 = Value.int x := n_v_new hl
  have nf0 : fc_1 PRD (20, [7, 15, 16], [60, 1, 1, 1026, 10, 1]) ws (vs ++ [Value.int x]) := by
    refine ⟨nf_inA hl rfl, sgq_1724 ?_⟩
    · show FSX (w_fi ws (n_v (vs ++ [Value.int x]) 7) 10) (w_ei ws (w_ar ws (n_v (vs ++ [Value.int x]) 7) 1)) (v_iv (n_v (vs ++ [Value.int x]) 15)) (v_iv (n_v (vs ++ [Value.int x]) 16))
      simp only [e_7, e_15, e_16, q7]
      exact vc_Mo_of_at_s5002_36_0 (v_iv (n_v vs 4)) (v_iv (n_v vs 5)) (v_iv (n_v vs 6)) (v_iv (n_v vs 10)) (v_iv (n_v vs 12)) (v_iv (n_v vs 15)) (v_iv (n_v vs 16)) (w_fi ws (n_v vs 0) 12) (w_fi ws (n_v vs 0) 13) (w_fi ws (n_v vs 0) 15) (w_fi ws (n_v vs 0) 11) (w_ei ws (w_ar ws (n_v vs 0) 1)) (w_ei ws (w_ar ws (n_v vs 0) 2)) (w_fi ws (n_v vs 0) 10) (w_fi ws (n_v vs 0) 14) (w_fi ws (n_v vs 0) 8) (w_fi ws (n_v vs 0) 5) (v_iv (Value.int x)) k4 k5 k6 k10 k12 k15 k16 g0 g1 f2 f10 kz_0_8 kz_0_10 kz_0_11 kz_0_12 kz_0_13 kz_0_14 kz_0_15 ex2
  have nf1 : fc_1 PRD (20, [7, 17], [30, 0, 1, 1, 8, -1, 0, 0]) ws (vs ++ [Value.int x]) := by
    refine ⟨nf_inA hl rfl, sgq_303 ?_⟩
    · show 1 * w_fi ws (n_v (vs ++ [Value.int x]) 7) 8 + ((-1) * v_iv (n_v (vs ++ [Value.int x]) 17) + 0) ≤ 0
      simp only [e_7, e_17, q7]
      exact vc_Mo_of_at_s5002_36_1 (v_iv (n_v vs 14)) (w_fi ws (n_v vs 0) 12) (w_fi ws (n_v vs 0) 15) (w_fi ws (n_v vs 0) 11) (w_ei ws (w_ar ws (n_v vs 0) 1)) (w_fi ws (n_v vs 0) 8) (v_iv (Value.int x)) k14 f5 f15 hK_0_1 kz_0_8 kz_0_11 kz_0_12 kz_0_15 ex2
  have nf2 : fc_1 PRD (20, [7, 17], [30, 0, -1, 1, 8, 1, 0, 0]) ws (vs ++ [Value.int x]) := by
    refine ⟨nf_inA hl rfl, sgq_304 ?_⟩
    · show (-1) * w_fi ws (n_v (vs ++ [Value.int x]) 7) 8 + (1 * v_iv (n_v (vs ++ [Value.int x]) 17) + 0) ≤ 0
      simp only [e_7, e_17, q7]
      exact vc_Mo_of_at_s5002_36_2 (v_iv (n_v vs 14)) (w_fi ws (n_v vs 0) 12) (w_fi ws (n_v vs 0) 15) (w_fi ws (n_v vs 0) 11) (w_ei ws (w_ar ws (n_v vs 0) 1)) (w_fi ws (n_v vs 0) 8) (v_iv (Value.int x)) k14 f5 f15 hK_0_1 kz_0_8 kz_0_11 kz_0_12 kz_0_15 ex2
  have nf3 : fc_1 PRD (20, [17], [61, 0, 1029]) ws (vs ++ [Value.int x]) := by
    refine ⟨nf_inA hl rfl, sgq_1725 ?_⟩
    · show ZH0 (v_iv (n_v (vs ++ [Value.int x]) 17))
      rw [e_17]
      exact vc_Mo_of_at_s5002_36_3 (v_iv (n_v vs 4)) (v_iv (n_v vs 5)) (v_iv (n_v vs 6)) (v_iv (n_v vs 10)) (w_fi ws (n_v vs 0) 12) (w_fi ws (n_v vs 0) 13) (w_fi ws (n_v vs 0) 15) (w_fi ws (n_v vs 0) 11) (w_ei ws (w_ar ws (n_v vs 0) 1)) (w_ei ws (w_ar ws (n_v vs 0) 2)) (w_fi ws (n_v vs 0) 10) (w_fi ws (n_v vs 0) 14) (w_fi ws (n_v vs 0) 8) (w_fi ws (n_v vs 0) 5) (v_iv (Value.int x)) k4 k5 k6 k10 f10 kz_0_8 kz_0_10 kz_0_11 kz_0_12 kz_0_13 kz_0_14 kz_0_15 ex2
  exact ⟨(fun _ h => (by cases h)), [Value.int x], ag_one hx, List.forall_mem_cons.mpr ⟨⟨show (20 : Nat) < 100 from by decide, nf0⟩, List.forall_mem_cons.mpr ⟨⟨show (20 : Nat) < 100 from by decide, nf1⟩, List.forall_mem_cons.mpr ⟨⟨show (20 : Nat) < 100 from by decide, nf2⟩, List.forall_mem_cons.mpr ⟨⟨show (20 : Nat) < 100 from by decide, nf3⟩, (fun _ h => (by cases h))⟩⟩⟩⟩, (fun _ h => (by cases h))⟩
set_option maxHeartbeats 4000000 in
theorem vc_Mo_of_at_s5002_37_0 (x14 : Int) (x15 : Int) (x16 : Int) (x17 : Int) (kind_0 : Int) (tape_0 : Int → Int) (from_0 : Int) (pos_0 : Int) (fault_0 : Int) (faultPlace_0 : Int) (k14 : 1 ≤ x14 ∧ x14 ≤ 1) (k15 : 4 ≤ x15 ∧ x15 ≤ 4) (k16 : 0 ≤ x16 ∧ x16 ≤ 2000) (k17 : 0 ≤ x17 ∧ x17 ≤ 5) (f4 : 1 * from_0 + ((-1) * pos_0 + 0) ≤ 0) (f5 : ((kind_0 = 1) → (pos_0 ≤ (from_0 + 8))) ∧ ((kind_0 = 0) ∨ ((from_0 + 1) ≤ pos_0))) (f12 : (x14 = 1) → (kind_0 = 1)) (f15 : ((1 ≤ x17) ∧ (fault_0 = x17)) ∨ ((x17 = 0) ∧ ((fault_0 = x15) ∧ (faultPlace_0 = x16)))) (hK_0_1 : ∀ j : Int, 0 ≤ j → j < 2000 → (-128) ≤ tape_0 j ∧ tape_0 j ≤ 127) (kz_0_8 : 0 ≤ fault_0 ∧ fault_0 ≤ 5) (kz_0_9 : 0 ≤ faultPlace_0 ∧ faultPlace_0 ≤ 2000) (kz_0_11 : 0 ≤ pos_0 ∧ pos_0 ≤ 2000) (kz_0_12 : 0 ≤ kind_0 ∧ kind_0 ≤ 4) (kz_0_15 : 0 ≤ from_0 ∧ from_0 ≤ 2000) : 1 * from_0 + ((-1) * pos_0 + 0) ≤ 0 := by
  first | with_reducible assumption | ((have f5_c0 := f5.1); (have f5_c1 := f5.2); (try and_intros) <;> first | with_reducible assumption | (clear f5_c0 f5_c1 f5 f15 hK_0_1 f12; omega)) | ((have f5_c0 := f5.1); (have f5_c1 := f5.2); (first | have f12_b := f12 (by clear f5_c0 f5_c1 f5 f15 hK_0_1 f12; omega) | skip); (first | have f12_d := f12 (by with_reducible assumption) | skip); (try and_intros) <;> first | with_reducible assumption | (clear f5_c0 f5_c1 f5 f15 hK_0_1 f12; omega)) | ((have f5_c0 := f5.1); (have f5_c1 := f5.2); (first | have f12_b := f12 (by clear f5_c0 f5_c1 f5 f15 hK_0_1 f12; omega) | skip); (first | have f12_d := f12 (by with_reducible assumption) | skip); (try and_intros) <;> first | with_reducible assumption | (clear f5_c0 f5_c1 f5 hK_0_1 f12; omega)) | omega
set_option maxHeartbeats 4000000 in
theorem vc_Mo_of_at_s5002_37_1 (x14 : Int) (x15 : Int) (x16 : Int) (x17 : Int) (kind_0 : Int) (tape_0 : Int → Int) (from_0 : Int) (pos_0 : Int) (fault_0 : Int) (faultPlace_0 : Int) (k14 : 1 ≤ x14 ∧ x14 ≤ 1) (k15 : 4 ≤ x15 ∧ x15 ≤ 4) (k16 : 0 ≤ x16 ∧ x16 ≤ 2000) (k17 : 0 ≤ x17 ∧ x17 ≤ 5) (f5 : ((kind_0 = 1) → (pos_0 ≤ (from_0 + 8))) ∧ ((kind_0 = 0) ∨ ((from_0 + 1) ≤ pos_0))) (f12 : (x14 = 1) → (kind_0 = 1)) (f15 : ((1 ≤ x17) ∧ (fault_0 = x17)) ∨ ((x17 = 0) ∧ ((fault_0 = x15) ∧ (faultPlace_0 = x16)))) (hK_0_1 : ∀ j : Int, 0 ≤ j → j < 2000 → (-128) ≤ tape_0 j ∧ tape_0 j ≤ 127) (kz_0_8 : 0 ≤ fault_0 ∧ fault_0 ≤ 5) (kz_0_9 : 0 ≤ faultPlace_0 ∧ faultPlace_0 ≤ 2000) (kz_0_11 : 0 ≤ pos_0 ∧ pos_0 ≤ 2000) (kz_0_12 : 0 ≤ kind_0 ∧ kind_0 ≤ 4) (kz_0_15 : 0 ≤ from_0 ∧ from_0 ≤ 2000) : ((kind_0 = 1) → (pos_0 ≤ (from_0 + 8))) ∧ ((kind_0 = 0) ∨ ((from_0 + 1) ≤ pos_0)) := by
  first | with_reducible assumption | ((have f5_c0 := f5.1); (have f5_c1 := f5.2); (try and_intros) <;> first | with_reducible assumption | (clear f5_c0 f5_c1 f5 f15 hK_0_1 f12; omega)) | ((have f5_c0 := f5.1); (have f5_c1 := f5.2); (first | have f12_b := f12 (by clear f5_c0 f5_c1 f5 f15 hK_0_1 f12; omega) | skip); (first | have f12_d := f12 (by with_reducible assumption) | skip); (try and_intros) <;> first | with_reducible assumption | (clear f5_c0 f5_c1 f5 f15 hK_0_1 f12; omega)) | ((have f5_c0 := f5.1); (have f5_c1 := f5.2); (first | have f12_b := f12 (by clear f5_c0 f5_c1 f5 f15 hK_0_1 f12; omega) | skip); (first | have f12_d := f12 (by with_reducible assumption) | skip); (try and_intros) <;> first | with_reducible assumption | (clear f5_c0 f5_c1 f5 hK_0_1 f12; omega)) | omega
set_option maxHeartbeats 4000000 in
theorem vc_Mo_of_at_s5002_37_2 (x3 : Int) (x14 : Int) (x15 : Int) (x16 : Int) (x17 : Int) (kind_0 : Int) (tape_0 : Int → Int) (from_0 : Int) (pos_0 : Int) (fault_0 : Int) (faultPlace_0 : Int) (k3 : 0 ≤ x3 ∧ x3 ≤ 2000) (k14 : 1 ≤ x14 ∧ x14 ≤ 1) (k15 : 4 ≤ x15 ∧ x15 ≤ 4) (k16 : 0 ≤ x16 ∧ x16 ≤ 2000) (k17 : 0 ≤ x17 ∧ x17 ≤ 5) (f5 : ((kind_0 = 1) → (pos_0 ≤ (from_0 + 8))) ∧ ((kind_0 = 0) ∨ ((from_0 + 1) ≤ pos_0))) (f6 : 1 * x3 + ((-1) * pos_0 + 0) ≤ (-1)) (f12 : (x14 = 1) → (kind_0 = 1)) (f15 : ((1 ≤ x17) ∧ (fault_0 = x17)) ∨ ((x17 = 0) ∧ ((fault_0 = x15) ∧ (faultPlace_0 = x16)))) (hK_0_1 : ∀ j : Int, 0 ≤ j → j < 2000 → (-128) ≤ tape_0 j ∧ tape_0 j ≤ 127) (kz_0_8 : 0 ≤ fault_0 ∧ fault_0 ≤ 5) (kz_0_9 : 0 ≤ faultPlace_0 ∧ faultPlace_0 ≤ 2000) (kz_0_11 : 0 ≤ pos_0 ∧ pos_0 ≤ 2000) (kz_0_12 : 0 ≤ kind_0 ∧ kind_0 ≤ 4) (kz_0_15 : 0 ≤ from_0 ∧ from_0 ≤ 2000) : 1 * x3 + ((-1) * pos_0 + 0) ≤ 0 := by
  first | with_reducible assumption | ((have f5_c0 := f5.1); (have f5_c1 := f5.2); (try and_intros) <;> first | with_reducible assumption | (clear f5_c0 f5_c1 f5 f15 hK_0_1 f12; omega)) | ((have f5_c0 := f5.1); (have f5_c1 := f5.2); (first | have f12_b := f12 (by clear f5_c0 f5_c1 f5 f15 hK_0_1 f12; omega) | skip); (first | have f12_d := f12 (by with_reducible assumption) | skip); (try and_intros) <;> first | with_reducible assumption | (clear f5_c0 f5_c1 f5 f15 hK_0_1 f12; omega)) | ((have f5_c0 := f5.1); (have f5_c1 := f5.2); (first | have f12_b := f12 (by clear f5_c0 f5_c1 f5 f15 hK_0_1 f12; omega) | skip); (first | have f12_d := f12 (by with_reducible assumption) | skip); (try and_intros) <;> first | with_reducible assumption | (clear f5_c0 f5_c1 f5 hK_0_1 f12; omega)) | omega
set_option maxHeartbeats 4000000 in
theorem vc_Mo_of_at_s5002_37_3 (x3 : Int) (x14 : Int) (x15 : Int) (x16 : Int) (x17 : Int) (kind_0 : Int) (tape_0 : Int → Int) (from_0 : Int) (pos_0 : Int) (fault_0 : Int) (faultPlace_0 : Int) (k3 : 0 ≤ x3 ∧ x3 ≤ 2000) (k14 : 1 ≤ x14 ∧ x14 ≤ 1) (k15 : 4 ≤ x15 ∧ x15 ≤ 4) (k16 : 0 ≤ x16 ∧ x16 ≤ 2000) (k17 : 0 ≤ x17 ∧ x17 ≤ 5) (f5 : ((kind_0 = 1) → (pos_0 ≤ (from_0 + 8))) ∧ ((kind_0 = 0) ∨ ((from_0 + 1) ≤ pos_0))) (f12 : (x14 = 1) → (kind_0 = 1)) (f14 : (-1) * fault_0 + 0 ≤ (-1)) (f15 : ((1 ≤ x17) ∧ (fault_0 = x17)) ∨ ((x17 = 0) ∧ ((fault_0 = x15) ∧ (faultPlace_0 = x16)))) (hK_0_1 : ∀ j : Int, 0 ≤ j → j < 2000 → (-128) ≤ tape_0 j ∧ tape_0 j ≤ 127) (kz_0_8 : 0 ≤ fault_0 ∧ fault_0 ≤ 5) (kz_0_9 : 0 ≤ faultPlace_0 ∧ faultPlace_0 ≤ 2000) (kz_0_11 : 0 ≤ pos_0 ∧ pos_0 ≤ 2000) (kz_0_12 : 0 ≤ kind_0 ∧ kind_0 ≤ 4) (kz_0_15 : 0 ≤ from_0 ∧ from_0 ≤ 2000) : (1 ≤ fault_0) ∨ ((kind_0 = 0) ∨ ((x3 + 1) ≤ pos_0)) := by
  first | with_reducible assumption | ((have f5_c0 := f5.1); (have f5_c1 := f5.2); (try and_intros) <;> first | with_reducible assumption | (clear f5_c0 f5_c1 f5 f15 hK_0_1 f12; omega)) | ((have f5_c0 := f5.1); (have f5_c1 := f5.2); (first | have f12_b := f12 (by clear f5_c0 f5_c1 f5 f15 hK_0_1 f12; omega) | skip); (first | have f12_d := f12 (by with_reducible assumption) | skip); (try and_intros) <;> first | with_reducible assumption | (clear f5_c0 f5_c1 f5 f15 hK_0_1 f12; omega)) | ((have f5_c0 := f5.1); (have f5_c1 := f5.2); (first | have f12_b := f12 (by clear f5_c0 f5_c1 f5 f15 hK_0_1 f12; omega) | skip); (first | have f12_d := f12 (by with_reducible assumption) | skip); (try and_intros) <;> first | with_reducible assumption | (clear f5_c0 f5_c1 f5 hK_0_1 f12; omega)) | omega
set_option maxHeartbeats 4000000 in
theorem vc_Mo_of_at_s5002_37_4 (x4 : Int) (x14 : Int) (x15 : Int) (x16 : Int) (x17 : Int) (kind_0 : Int) (tape_0 : Int → Int) (from_0 : Int) (pos_0 : Int) (fault_0 : Int) (faultPlace_0 : Int) (k4 : (-1) ≤ x4 ∧ x4 ≤ 48) (k14 : 1 ≤ x14 ∧ x14 ≤ 1) (k15 : 4 ≤ x15 ∧ x15 ≤ 4) (k16 : 0 ≤ x16 ∧ x16 ≤ 2000) (k17 : 0 ≤ x17 ∧ x17 ≤ 5) (f5 : ((kind_0 = 1) → (pos_0 ≤ (from_0 + 8))) ∧ ((kind_0 = 0) ∨ ((from_0 + 1) ≤ pos_0))) (f12 : (x14 = 1) → (kind_0 = 1)) (f14 : (-1) * fault_0 + 0 ≤ (-1)) (f15 : ((1 ≤ x17) ∧ (fault_0 = x17)) ∨ ((x17 = 0) ∧ ((fault_0 = x15) ∧ (faultPlace_0 = x16)))) (hK_0_1 : ∀ j : Int, 0 ≤ j → j < 2000 → (-128) ≤ tape_0 j ∧ tape_0 j ≤ 127) (kz_0_8 : 0 ≤ fault_0 ∧ fault_0 ≤ 5) (kz_0_9 : 0 ≤ faultPlace_0 ∧ faultPlace_0 ≤ 2000) (kz_0_11 : 0 ≤ pos_0 ∧ pos_0 ≤ 2000) (kz_0_12 : 0 ≤ kind_0 ∧ kind_0 ≤ 4) (kz_0_15 : 0 ≤ from_0 ∧ from_0 ≤ 2000) : (1 ≤ fault_0) ∨ (0 ≤ x4) := by
  first | with_reducible assumption | ((have f5_c0 := f5.1); (have f5_c1 := f5.2); (try and_intros) <;> first | with_reducible assumption | (clear f5_c0 f5_c1 f5 f15 hK_0_1 f12; omega)) | ((have f5_c0 := f5.1); (have f5_c1 := f5.2); (first | have f12_b := f12 (by clear f5_c0 f5_c1 f5 f15 hK_0_1 f12; omega) | skip); (first | have f12_d := f12 (by with_reducible assumption) | skip); (try and_intros) <;> first | with_reducible assumption | (clear f5_c0 f5_c1 f5 f15 hK_0_1 f12; omega)) | ((have f5_c0 := f5.1); (have f5_c1 := f5.2); (first | have f12_b := f12 (by clear f5_c0 f5_c1 f5 f15 hK_0_1 f12; omega) | skip); (first | have f12_d := f12 (by with_reducible assumption) | skip); (try and_intros) <;> first | with_reducible assumption | (clear f5_c0 f5_c1 f5 hK_0_1 f12; omega)) | omega
set_option maxHeartbeats 4000000 in
theorem vc_Mo_of_at_s5002_37_5 (x2 : Int) (x14 : Int) (x15 : Int) (x16 : Int) (x17 : Int) (x18 : Int) (kind_0 : Int) (tape_0 : Int → Int) (from_0 : Int) (pos_0 : Int) (fault_0 : Int) (faultPlace_0 : Int) (k2 : 99 ≤ x2 ∧ x2 ≤ 99) (k14 : 1 ≤ x14 ∧ x14 ≤ 1) (k15 : 4 ≤ x15 ∧ x15 ≤ 4) (k16 : 0 ≤ x16 ∧ x16 ≤ 2000) (k17 : 0 ≤ x17 ∧ x17 ≤ 5) (k18 : 0 ≤ x18 ∧ x18 ≤ 0) (f5 : ((kind_0 = 1) → (pos_0 ≤ (from_0 + 8))) ∧ ((kind_0 = 0) ∨ ((from_0 + 1) ≤ pos_0))) (f12 : (x14 = 1) → (kind_0 = 1)) (f15 : ((1 ≤ x17) ∧ (fault_0 = x17)) ∨ ((x17 = 0) ∧ ((fault_0 = x15) ∧ (faultPlace_0 = x16)))) (hK_0_1 : ∀ j : Int, 0 ≤ j → j < 2000 → (-128) ≤ tape_0 j ∧ tape_0 j ≤ 127) (kz_0_8 : 0 ≤ fault_0 ∧ fault_0 ≤ 5) (kz_0_9 : 0 ≤ faultPlace_0 ∧ faultPlace_0 ≤ 2000) (kz_0_11 : 0 ≤ pos_0 ∧ pos_0 ≤ 2000) (kz_0_12 : 0 ≤ kind_0 ∧ kind_0 ≤ 4) (kz_0_15 : 0 ≤ from_0 ∧ from_0 ≤ 2000) : 1 * x18 + ((-1) * x2 + 0) ≤ 0 := by
  first | with_reducible assumption | ((have f5_c0 := f5.1); (have f5_c1 := f5.2); (try and_intros) <;> first | with_reducible assumption | (clear f5_c0 f5_c1 f5 f15 hK_0_1 f12; omega)) | ((have f5_c0 := f5.1); (have f5_c1 := f5.2); (first | have f12_b := f12 (by clear f5_c0 f5_c1 f5 f15 hK_0_1 f12; omega) | skip); (first | have f12_d := f12 (by with_reducible assumption) | skip); (try and_intros) <;> first | with_reducible assumption | (clear f5_c0 f5_c1 f5 f15 hK_0_1 f12; omega)) | ((have f5_c0 := f5.1); (have f5_c1 := f5.2); (first | have f12_b := f12 (by clear f5_c0 f5_c1 f5 f15 hK_0_1 f12; omega) | skip); (first | have f12_d := f12 (by with_reducible assumption) | skip); (try and_intros) <;> first | with_reducible assumption | (clear f5_c0 f5_c1 f5 hK_0_1 f12; omega)) | omega
set_option maxHeartbeats 4000000 in
theorem vc_Mo_of_at_s5002_37_6 (x14 : Int) (x15 : Int) (x16 : Int) (x17 : Int) (x18 : Int) (kind_0 : Int) (tape_0 : Int → Int) (from_0 : Int) (pos_0 : Int) (fault_0 : Int) (faultPlace_0 : Int) (k14 : 1 ≤ x14 ∧ x14 ≤ 1) (k15 : 4 ≤ x15 ∧ x15 ≤ 4) (k16 : 0 ≤ x16 ∧ x16 ≤ 2000) (k17 : 0 ≤ x17 ∧ x17 ≤ 5) (k18 : 0 ≤ x18 ∧ x18 ≤ 0) (f5 : ((kind_0 = 1) → (pos_0 ≤ (from_0 + 8))) ∧ ((kind_0 = 0) ∨ ((from_0 + 1) ≤ pos_0))) (f12 : (x14 = 1) → (kind_0 = 1)) (f15 : ((1 ≤ x17) ∧ (fault_0 = x17)) ∨ ((x17 = 0) ∧ ((fault_0 = x15) ∧ (faultPlace_0 = x16)))) (hK_0_1 : ∀ j : Int, 0 ≤ j → j < 2000 → (-128) ≤ tape_0 j ∧ tape_0 j ≤ 127) (kz_0_8 : 0 ≤ fault_0 ∧ fault_0 ≤ 5) (kz_0_9 : 0 ≤ faultPlace_0 ∧ faultPlace_0 ≤ 2000) (kz_0_11 : 0 ≤ pos_0 ∧ pos_0 ≤ 2000) (kz_0_12 : 0 ≤ kind_0 ∧ kind_0 ≤ 4) (kz_0_15 : 0 ≤ from_0 ∧ from_0 ≤ 2000) : (-1) * x18 + 0 ≤ 0 := by
  first | with_reducible assumption | ((have f5_c0 := f5.1); (have f5_c1 := f5.2); (try and_intros) <;> first | with_reducible assumption | (clear f5_c0 f5_c1 f5 f15 hK_0_1 f12; omega)) | ((have f5_c0 := f5.1); (have f5_c1 := f5.2); (first | have f12_b := f12 (by clear f5_c0 f5_c1 f5 f15 hK_0_1 f12; omega) | skip); (first | have f12_d := f12 (by with_reducible assumption) | skip); (try and_intros) <;> first | with_reducible assumption | (clear f5_c0 f5_c1 f5 f15 hK_0_1 f12; omega)) | ((have f5_c0 := f5.1); (have f5_c1 := f5.2); (first | have f12_b := f12 (by clear f5_c0 f5_c1 f5 f15 hK_0_1 f12; omega) | skip); (first | have f12_d := f12 (by with_reducible assumption) | skip); (try and_intros) <;> first | with_reducible assumption | (clear f5_c0 f5_c1 f5 hK_0_1 f12; omega)) | omega
set_option maxHeartbeats 4000000 in
theorem vc_Mo_of_at_s5002_37_7 (x4 : Int) (x5 : Int) (x6 : Int) (x12 : Int) (x15 : Int) (x16 : Int) (x17 : Int) (x18 : Int) (place_0 : Int) (kind_0 : Int) (tape_0 : Int → Int) (limit_0 : Int) (from_0 : Int) (pos_0 : Int) (fault_0 : Int) (faultPlace_0 : Int) (value_0 : Int) (all_0 : Int → Int) (r_0 : Int) (k4 : (-1) ≤ x4 ∧ x4 ≤ 48) (k5 : 0 ≤ x5 ∧ x5 ≤ 7) (k6 : 0 ≤ x6 ∧ x6 ≤ 4) (k12 : 1 ≤ x12 ∧ x12 ≤ 1) (k15 : 4 ≤ x15 ∧ x15 ≤ 4) (k16 : 0 ≤ x16 ∧ x16 ≤ 2000) (k17 : 0 ≤ x17 ∧ x17 ≤ 5) (k18 : 0 ≤ x18 ∧ x18 ≤ 0) (g0 : x16 = place_0) (g1 : x12 = kind_0) (f2 : FSX (limit_0) (tape_0) (x15) (x16)) (f3 : ZH0 (x17)) (f15 : ((1 ≤ x17) ∧ (fault_0 = x17)) ∨ ((x17 = 0) ∧ ((fault_0 = x15) ∧ (faultPlace_0 = x16)))) (kz_0_8 : 0 ≤ fault_0 ∧ fault_0 ≤ 5) (kz_0_9 : 0 ≤ faultPlace_0 ∧ faultPlace_0 ≤ 2000) (kz_0_10 : 0 ≤ limit_0 ∧ limit_0 ≤ 2000) (kz_0_11 : 0 ≤ pos_0 ∧ pos_0 ≤ 2000) (kz_0_12 : 0 ≤ kind_0 ∧ kind_0 ≤ 4) (kz_0_13 : 0 ≤ place_0 ∧ place_0 ≤ 2000) (kz_0_14 : (-49) ≤ value_0 ∧ value_0 ≤ 1048575) (kz_0_15 : 0 ≤ from_0 ∧ from_0 ≤ 2000) : zOFs (limit_0) (pos_0) (kind_0) (place_0) (value_0) (from_0) (fault_0) (faultPlace_0) (r_0) (tape_0) (all_0) (x4) (x18) (x5) (x6) := by
  first | subst g0 | skip
  first | subst g1 | skip
  first
    | exact Or.inl ⟨by omega, fs_w ‹FSX _ _ _ _› ‹ZH0 _› (by assumption)⟩
    | (exfalso; omega)
def o_Mo_of_at_s5002_37 : or_T := (58, 19, [(0, (2, 0, 0, [165])), (2, (0, 99, 99, [])), (3, (0, 0, 2000, [])), (4, (0, -1, 48, [])), (5, (0, 0, 7, [])), (6, (0, 0, 4, [])), (7, (2, 0, 0, [165])), (9, (0, 99, 99, [])), (11, (0, 0, 2000, [])), (12, (0, 1, 1, [])), (13, (0, 1, 1, [])), (14, (0, 1, 1, [])), (15, (0, 4, 4, [])), (16, (0, 0, 2000, [])), (17, (0, 0, 5, [])), (18, (0, 0, 0, []))], [(9, [16, 7], [13]), (9, [12, 7], [12]), (20, [7, 15, 16], [60, 1, 1, 1026, 10, 1]), (20, [17], [61, 0, 1029]), (20, [7, 7], [30, 0, 1, 1, 15, -1, 1, 11]), (20, [7], [50, 3, 0, 12, 11, 15, 2, 21, 4, 7, 1, 3, 2, 0, 12, 0, 1, 0, 3, 2, 0, 11, 4, 3, 2, 0, 15, 0, 8, 3, 7, 1, 3, 2, 0, 12, 0, 0, 0, 7, 4, 3, 2, 0, 15, 0, 1, 2, 0, 11]), (20, [3, 7], [30, -1, 1, 0, 0, -1, 1, 11]), (23, [4], [0, -1]), (24, [0, 7], []), (24, [2, 9], []), (20, [11, 7], [30, 2000, 1, 0, 0, 1, 1, 11]), (20, [11, 7], [30, -2000, -1, 0, 0, -1, 1, 11]), (20, [14, 7], [50, 1, 0, 1012, 4, 6, 1, 2, 1, 0, 0, 1, 1, 3, 2, 1, 12, 0, 1]), (20, [7, 14], [60, 4, 1, 960, 12, 11, 10, 15, 1]), (20, [7], [30, -1, -1, 1, 8]), (20, [17, 7, 15, 16], [50, 2, 0, 1008, 1009, 3, 15, 2, 6, 0, 2, 0, 1, 1, 0, 1, 3, 2, 1, 8, 1, 0, 2, 6, 1, 2, 1, 0, 0, 0, 2, 7, 1, 3, 2, 1, 8, 1, 2, 1, 3, 2, 1, 9, 1, 3]), (102, [17], [0, 165008, 165009]), (8, [14], [1]), (23, [4], [0, -1]), (102, [13], [0]), (7, [12, 13], [0]), (23, [4], [0, -1])], [], [], [(20, [0, 0], [30, 0, 1, 1, 15, -1, 1, 11]), (20, [0], [50, 3, 0, 12, 11, 15, 2, 21, 4, 7, 1, 3, 2, 0, 12, 0, 1, 0, 3, 2, 0, 11, 4, 3, 2, 0, 15, 0, 8, 3, 7, 1, 3, 2, 0, 12, 0, 0, 0, 7, 4, 3, 2, 0, 15, 0, 1, 2, 0, 11]), (20, [3, 0], [30, 0, 1, 0, 0, -1, 1, 11]), (20, [0, 3], [50, 3, 0, 8, 12, 11, 3, 7, 0, 2, 0, 1, 2, 0, 8, 3, 7, 1, 3, 2, 0, 12, 0, 0, 0, 6, 4, 2, 1, 1, 0, 1, 2, 0, 11]), (20, [0, 4], [50, 1, 0, 8, 3, 7, 0, 2, 0, 1, 2, 0, 8, 0, 2, 0, 0, 1, 1]), (20, [18, 2], [30, 0, 1, 0, 0, -1, 0, 0]), (20, [18], [30, 0, -1, 0, 0]), (20, [0, 4, 18, 5, 6], [60, 9, 2, 1013, 10, 11, 12, 13, 14, 15, 8, 9, 5, 1, 2])], [], [])
theorem oo_Mo_of_at_s5002_37 {kA : Nat → ClassId} : or_ok PRD kA GG o_Mo_of_at_s5002_37 := by
  refine or_mk fun A ta ws vs hD hth hl => ?_
  intro t0 r0 t2 k2 t3 k3 t4 k4 t5 k5 t6 k6 t7 r7 t9 k9 t11 k11 t12 k12 t13 k13 t14 k14 t15 k15 t16 k16 t17 k17 t18 k18 f0 f1 f2 f3 f4 f5 f6 f7 f8 f9 f10 f11 f12 f13 f14 f15 ta1 w1 le1 s1 f17 f18 ta2 w2 le2 s2 f20 f21
  replace f0 := shm_361 f0
  replace f1 := shm_103 f1
  replace f2 := shm_1724 f2
  replace f4 := shm_1437 f4
  replace f5 := shm_1438 f5
  replace f6 := shm_2005 f6
  replace f8 := shm_5 f8
  replace f12 := shm_1856 f12
  replace f14 := shm_305 f14
  replace f15 := shm_306 f15
  have q7 : n_v vs 7 = n_v vs 0 := f8.symm
  simp only [q7] at f0 f1 f2 f4 f5 f6 f12 f14 f15
  have cr_0_1 := fdq_39 hD hth r0
  have g0 : v_iv (n_v vs 16) = w_fi ws (n_v vs 0) 13 := congrArg v_iv f0
  have g1 : v_iv (n_v vs 12) = w_fi ws (n_v vs 0) 12 := congrArg v_iv f1
  have hK_0_1 := elq_7 hD hth cr_0_1
  have kz_0_8 := fdq_34 hD hth r0
  have kz_0_9 := fdq_44 hD hth r0
  have kz_0_10 := fdq_43 hD hth r0
  have kz_0_11 := fdq_237 hD hth r0
  have kz_0_12 := fdq_187 hD hth r0
  have kz_0_13 := fdq_238 hD hth r0
  have kz_0_14 := fdq_188 hD hth r0
  have kz_0_15 := fdq_239 hD hth r0
  have nf0 : fc_1 PRD (20, [0, 0], [30, 0, 1, 1, 15, -1, 1, 11]) ws (vs) := ⟨nf_in hl rfl, sgq_1437 (vc_Mo_of_at_s5002_37_0 (v_iv (n_v vs 14)) (v_iv (n_v vs 15)) (v_iv (n_v vs 16)) (v_iv (n_v vs 17)) (w_fi ws (n_v vs 0) 12) (w_ei ws (w_ar ws (n_v vs 0) 1)) (w_fi ws (n_v vs 0) 15) (w_fi ws (n_v vs 0) 11) (w_fi ws (n_v vs 0) 8) (w_fi ws (n_v vs 0) 9) k14 k15 k16 k17 f4 f5 f12 f15 hK_0_1 kz_0_8 kz_0_9 kz_0_11 kz_0_12 kz_0_15)⟩
  have nf1 : fc_1 PRD (20, [0], [50, 3, 0, 12, 11, 15, 2, 21, 4, 7, 1, 3, 2, 0, 12, 0, 1, 0, 3, 2, 0, 11, 4, 3, 2, 0, 15, 0, 8, 3, 7, 1, 3, 2, 0, 12, 0, 0, 0, 7, 4, 3, 2, 0, 15, 0, 1, 2, 0, 11]) ws (vs) := ⟨nf_in hl rfl, sgq_1438 (vc_Mo_of_at_s5002_37_1 (v_iv (n_v vs 14)) (v_iv (n_v vs 15)) (v_iv (n_v vs 16)) (v_iv (n_v vs 17)) (w_fi ws (n_v vs 0) 12) (w_ei ws (w_ar ws (n_v vs 0) 1)) (w_fi ws (n_v vs 0) 15) (w_fi ws (n_v vs 0) 11) (w_fi ws (n_v vs 0) 8) (w_fi ws (n_v vs 0) 9) k14 k15 k16 k17 f5 f12 f15 hK_0_1 kz_0_8 kz_0_9 kz_0_11 kz_0_12 kz_0_15)⟩
  have nf2 : fc_1 PRD (20, [3, 0], [30, 0, 1, 0, 0, -1, 1, 11]) ws (vs) := ⟨nf_in hl rfl, sgq_1431 (vc_Mo_of_at_s5002_37_2 (v_iv (n_v vs 3)) (v_iv (n_v vs 14)) (v_iv (n_v vs 15)) (v_iv (n_v vs 16)) (v_iv (n_v vs 17)) (w_fi ws (n_v vs 0) 12) (w_ei ws (w_ar ws (n_v vs 0) 1)) (w_fi ws (n_v vs 0) 15) (w_fi ws (n_v vs 0) 11) (w_fi ws (n_v vs 0) 8) (w_fi ws (n_v vs 0) 9) k3 k14 k15 k16 k17 f5 f6 f12 f15 hK_0_1 kz_0_8 kz_0_9 kz_0_11 kz_0_12 kz_0_15)⟩
  have nf3 : fc_1 PRD (20, [0, 3], [50, 3, 0, 8, 12, 11, 3, 7, 0, 2, 0, 1, 2, 0, 8, 3, 7, 1, 3, 2, 0, 12, 0, 0, 0, 6, 4, 2, 1, 1, 0, 1, 2, 0, 11]) ws (vs) := ⟨nf_in hl rfl, sgq_1722 (vc_Mo_of_at_s5002_37_3 (v_iv (n_v vs 3)) (v_iv (n_v vs 14)) (v_iv (n_v vs 15)) (v_iv (n_v vs 16)) (v_iv (n_v vs 17)) (w_fi ws (n_v vs 0) 12) (w_ei ws (w_ar ws (n_v vs 0) 1)) (w_fi ws (n_v vs 0) 15) (w_fi ws (n_v vs 0) 11) (w_fi ws (n_v vs 0) 8) (w_fi ws (n_v vs 0) 9) k3 k14 k15 k16 k17 f5 f12 f14 f15 hK_0_1 kz_0_8 kz_0_9 kz_0_11 kz_0_12 kz_0_15)⟩
  have nf4 : fc_1 PRD (20, [0, 4], [50, 1, 0, 8, 3, 7, 0, 2, 0, 1, 2, 0, 8, 0, 2, 0, 0, 1, 1]) ws (vs) := ⟨nf_in hl rfl, sgq_2000 (vc_Mo_of_at_s5002_37_4 (v_iv (n_v vs 4)) (v_iv (n_v vs 14)) (v_iv (n_v vs 15)) (v_iv (n_v vs 16)) (v_iv (n_v vs 17)) (w_fi ws (n_v vs 0) 12) (w_ei ws (w_ar ws (n_v vs 0) 1)) (w_fi ws (n_v vs 0) 15) (w_fi ws (n_v vs 0) 11) (w_fi ws (n_v vs 0) 8) (w_fi ws (n_v vs 0) 9) k4 k14 k15 k16 k17 f5 f12 f14 f15 hK_0_1 kz_0_8 kz_0_9 kz_0_11 kz_0_12 kz_0_15)⟩
  have nf5 : fc_1 PRD (20, [18, 2], [30, 0, 1, 0, 0, -1, 0, 0]) ws (vs) := ⟨nf_in hl rfl, sgq_201 (vc_Mo_of_at_s5002_37_5 (v_iv (n_v vs 2)) (v_iv (n_v vs 14)) (v_iv (n_v vs 15)) (v_iv (n_v vs 16)) (v_iv (n_v vs 17)) (v_iv (n_v vs 18)) (w_fi ws (n_v vs 0) 12) (w_ei ws (w_ar ws (n_v vs 0) 1)) (w_fi ws (n_v vs 0) 15) (w_fi ws (n_v vs 0) 11) (w_fi ws (n_v vs 0) 8) (w_fi ws (n_v vs 0) 9) k2 k14 k15 k16 k17 k18 f5 f12 f15 hK_0_1 kz_0_8 kz_0_9 kz_0_11 kz_0_12 kz_0_15)⟩
  have nf6 : fc_1 PRD (20, [18], [30, 0, -1, 0, 0]) ws (vs) := ⟨nf_in hl rfl, sgq_2002 (vc_Mo_of_at_s5002_37_6 (v_iv (n_v vs 14)) (v_iv (n_v vs 15)) (v_iv (n_v vs 16)) (v_iv (n_v vs 17)) (v_iv (n_v vs 18)) (w_fi ws (n_v vs 0) 12) (w_ei ws (w_ar ws (n_v vs 0) 1)) (w_fi ws (n_v vs 0) 15) (w_fi ws (n_v vs 0) 11) (w_fi ws (n_v vs 0) 8) (w_fi ws (n_v vs 0) 9) k14 k15 k16 k17 k18 f5 f12 f15 hK_0_1 kz_0_8 kz_0_9 kz_0_11 kz_0_12 kz_0_15)⟩
  have nf7 : fc_1 PRD (20, [0, 4, 18, 5, 6], [60, 9, 2, 1013, 10, 11, 12, 13, 14, 15, 8, 9, 5, 1, 2]) ws (vs) := ⟨nf_in hl rfl, sgq_2003 (vc_Mo_of_at_s5002_37_7 (v_iv (n_v vs 4)) (v_iv (n_v vs 5)) (v_iv (n_v vs 6)) (v_iv (n_v vs 12)) (v_iv (n_v vs 15)) (v_iv (n_v vs 16)) (v_iv (n_v vs 17)) (v_iv (n_v vs 18)) (w_fi ws (n_v vs 0) 13) (w_fi ws (n_v vs 0) 12) (w_ei ws (w_ar ws (n_v vs 0) 1)) (w_fi ws (n_v vs 0) 10) (w_fi ws (n_v vs 0) 15) (w_fi ws (n_v vs 0) 11) (w_fi ws (n_v vs 0) 8) (w_fi ws (n_v vs 0) 9) (w_fi ws (n_v vs 0) 14) (w_ei ws (w_ar ws (n_v vs 0) 2)) (w_fi ws (n_v vs 0) 5) k4 k5 k6 k12 k15 k16 k17 k18 g0 g1 f2 (shm_1725 f3) f15 kz_0_8 kz_0_9 kz_0_10 kz_0_11 kz_0_12 kz_0_13 kz_0_14 kz_0_15)⟩
  refine ⟨(fun _ h => (by cases h)), [], trivial, ?_, (fun _ h => (by cases h))⟩
  rw [List.append_nil]
  exact List.forall_mem_cons.mpr ⟨⟨show (20 : Nat) < 100 from by decide, nf0⟩, List.forall_mem_cons.mpr ⟨⟨show (20 : Nat) < 100 from by decide, nf1⟩, List.forall_mem_cons.mpr ⟨⟨show (20 : Nat) < 100 from by decide, nf2⟩, List.forall_mem_cons.mpr ⟨⟨show (20 : Nat) < 100 from by decide, nf3⟩, List.forall_mem_cons.mpr ⟨⟨show (20 : Nat) < 100 from by decide, nf4⟩, List.forall_mem_cons.mpr ⟨⟨show (20 : Nat) < 100 from by decide, nf5⟩, List.forall_mem_cons.mpr ⟨⟨show (20 : Nat) < 100 from by decide, nf6⟩, List.forall_mem_cons.mpr ⟨⟨show (20 : Nat) < 100 from by decide, nf7⟩, (fun _ h => (by cases h))⟩⟩⟩⟩⟩⟩⟩⟩
set_option maxHeartbeats 4000000 in
theorem vc_Mo_of_at_s5002_38_0 (x4 : Int) (x5 : Int) (x6 : Int) (x10 : Int) (x12 : Int) (x13 : Int) (x14 : Int) (x15 : Int) (place_0 : Int) (kind_0 : Int) (from_0 : Int) (pos_0 : Int) (tape_0 : Int → Int) (all_0 : Int → Int) (limit_0 : Int) (value_0 : Int) (fault_0 : Int) (r_0 : Int) (gx : Int) (k4 : (-1) ≤ x4 ∧ x4 ≤ 48) (k5 : 0 ≤ x5 ∧ x5 ≤ 7) (k6 : 0 ≤ x6 ∧ x6 ≤ 4) (k10 : (-49) ≤ x10 ∧ x10 ≤ 1048575) (k12 : 0 ≤ x12 ∧ x12 ≤ 4) (k13 : 1 ≤ x13 ∧ x13 ≤ 1) (k14 : 1 ≤ x14 ∧ x14 ≤ 1) (k15 : 0 ≤ x15 ∧ x15 ≤ 2000) (g0 : x15 = place_0) (f1 : x12 ≠ x13) (g2 : x12 = kind_0) (f4 : ((kind_0 = 1) → (pos_0 ≤ (from_0 + 8))) ∧ ((kind_0 = 0) ∨ ((from_0 + 1) ≤ pos_0))) (f9 : zOIs (limit_0) (pos_0) (kind_0) (place_0) (value_0) (from_0) (fault_0) (r_0) (tape_0) (all_0) (x4) (x10) (x5) (x6)) (kz_0_8 : 0 ≤ fault_0 ∧ fault_0 ≤ 5) (kz_0_10 : 0 ≤ limit_0 ∧ limit_0 ≤ 2000) (kz_0_11 : 0 ≤ pos_0 ∧ pos_0 ≤ 2000) (kz_0_12 : 0 ≤ kind_0 ∧ kind_0 ≤ 4) (kz_0_13 : 0 ≤ place_0 ∧ place_0 ≤ 2000) (kz_0_14 : (-49) ≤ value_0 ∧ value_0 ≤ 1048575) (kz_0_15 : 0 ≤ from_0 ∧ from_0 ≤ 2000) (ex2 : gx = fault_0) : FSX (limit_0) (tape_0) (x14) (x15) := by
  first | subst g0 | skip
  first | subst g2 | skip
  first | subst ex2 | skip
  first
    | exact fsx_cg (of_k_s ‹zOIs _ _ _ _ _ _ _ _ _ _ _ _ _ _› (by omega)) (by omega) (by omega)
    | exact fsx_cg (of_k_w ‹zOIw _ _ _ _ _ _ _ _ _ _ _ _ _ _› (by omega)) (by omega) (by omega)
    | (exfalso; omega)
set_option maxHeartbeats 4000000 in
theorem vc_Mo_of_at_s5002_38_1 (kind_0 : Int) (from_0 : Int) (pos_0 : Int) (tape_0 : Int → Int) (fault_0 : Int) (gx : Int) (f4 : ((kind_0 = 1) → (pos_0 ≤ (from_0 + 8))) ∧ ((kind_0 = 0) ∨ ((from_0 + 1) ≤ pos_0))) (hK_0_1 : ∀ j : Int, 0 ≤ j → j < 2000 → (-128) ≤ tape_0 j ∧ tape_0 j ≤ 127) (kz_0_8 : 0 ≤ fault_0 ∧ fault_0 ≤ 5) (kz_0_11 : 0 ≤ pos_0 ∧ pos_0 ≤ 2000) (kz_0_12 : 0 ≤ kind_0 ∧ kind_0 ≤ 4) (kz_0_15 : 0 ≤ from_0 ∧ from_0 ≤ 2000) (ex2 : gx = fault_0) : 1 * fault_0 + ((-1) * gx + 0) ≤ 0 := by
  first | with_reducible assumption | ((have f4_c0 := f4.1); (have f4_c1 := f4.2); (try and_intros) <;> first | with_reducible assumption | (clear f4_c0 f4_c1 f4 hK_0_1; omega)) | omega
set_option maxHeartbeats 4000000 in
theorem vc_Mo_of_at_s5002_38_2 (kind_0 : Int) (from_0 : Int) (pos_0 : Int) (tape_0 : Int → Int) (fault_0 : Int) (gx : Int) (f4 : ((kind_0 = 1) → (pos_0 ≤ (from_0 + 8))) ∧ ((kind_0 = 0) ∨ ((from_0 + 1) ≤ pos_0))) (hK_0_1 : ∀ j : Int, 0 ≤ j → j < 2000 → (-128) ≤ tape_0 j ∧ tape_0 j ≤ 127) (kz_0_8 : 0 ≤ fault_0 ∧ fault_0 ≤ 5) (kz_0_11 : 0 ≤ pos_0 ∧ pos_0 ≤ 2000) (kz_0_12 : 0 ≤ kind_0 ∧ kind_0 ≤ 4) (kz_0_15 : 0 ≤ from_0 ∧ from_0 ≤ 2000) (ex2 : gx = fault_0) : (-1) * fault_0 + (1 * gx + 0) ≤ 0 := by
  first | with_reducible assumption | ((have f4_c0 := f4.1); (have f4_c1 := f4.2); (try and_intros) <;> first | with_reducible assumption | (clear f4_c0 f4_c1 f4 hK_0_1; omega)) | omega
set_option maxHeartbeats 4000000 in
theorem vc_Mo_of_at_s5002_38_3 (x4 : Int) (x5 : Int) (x6 : Int) (x10 : Int) (place_0 : Int) (kind_0 : Int) (from_0 : Int) (pos_0 : Int) (tape_0 : Int → Int) (all_0 : Int → Int) (limit_0 : Int) (value_0 : Int) (fault_0 : Int) (r_0 : Int) (gx : Int) (k4 : (-1) ≤ x4 ∧ x4 ≤ 48) (k5 : 0 ≤ x5 ∧ x5 ≤ 7) (k6 : 0 ≤ x6 ∧ x6 ≤ 4) (k10 : (-49) ≤ x10 ∧ x10 ≤ 1048575) (f9 : zOIs (limit_0) (pos_0) (kind_0) (place_0) (value_0) (from_0) (fault_0) (r_0) (tape_0) (all_0) (x4) (x10) (x5) (x6)) (kz_0_8 : 0 ≤ fault_0 ∧ fault_0 ≤ 5) (kz_0_10 : 0 ≤ limit_0 ∧ limit_0 ≤ 2000) (kz_0_11 : 0 ≤ pos_0 ∧ pos_0 ≤ 2000) (kz_0_12 : 0 ≤ kind_0 ∧ kind_0 ≤ 4) (kz_0_13 : 0 ≤ place_0 ∧ place_0 ≤ 2000) (kz_0_14 : (-49) ≤ value_0 ∧ value_0 ≤ 1048575) (kz_0_15 : 0 ≤ from_0 ∧ from_0 ≤ 2000) (ex2 : gx = fault_0) : ZH0 (gx) := by
  first
    | exact ⟨by omega, by omega, trivial⟩
    | (have h := (oi_0_s ‹zOIs _ _ _ _ _ _ _ _ _ _ _ _ _ _›).1; exact ⟨by omega, by omega, trivial⟩)
    | (have h := (oi_0_w ‹zOIw _ _ _ _ _ _ _ _ _ _ _ _ _ _›).1; exact ⟨by omega, by omega, trivial⟩)
    | (exfalso; omega)
def o_Mo_of_at_s5002_38 : or_T := (31, 16, [(0, (2, 0, 0, [165])), (4, (0, -1, 48, [])), (5, (0, 0, 7, [])), (6, (0, 0, 4, [])), (10, (0, -49, 1048575, [])), (12, (0, 0, 4, [])), (13, (0, 1, 1, [])), (14, (0, 1, 1, [])), (15, (0, 0, 2000, []))], [(9, [15, 7], [13]), (7, [12, 13], [1]), (9, [12, 7], [12]), (20, [7], [50, 3, 0, 12, 11, 15, 2, 21, 4, 7, 1, 3, 2, 0, 12, 0, 1, 0, 3, 2, 0, 11, 4, 3, 2, 0, 15, 0, 8, 3, 7, 1, 3, 2, 0, 12, 0, 0, 0, 7, 4, 3, 2, 0, 15, 0, 1, 2, 0, 11]), (20, [7, 4, 10, 5, 6], [60, 8, 2, 997, 10, 11, 12, 13, 14, 15, 8, 5, 1, 2]), (24, [0, 7], [])], [], [(0, 0, 5, [])], [(20, [7, 14, 15], [60, 1, 1, 1026, 10, 1]), (20, [7, 16], [30, 0, 1, 1, 8, -1, 0, 0]), (20, [7, 16], [30, 0, -1, 1, 8, 1, 0, 0]), (20, [16], [61, 0, 1029])], [], [])
theorem oo_Mo_of_at_s5002_38 {kA : Nat → ClassId} : or_ok PRD kA GG o_Mo_of_at_s5002_38 := by
  refine or_mk fun A ta ws vs hD hth hl => ?_
  intro t0 r0 t4 k4 t5 k5 t6 k6 t10 k10 t12 k12 t13 k13 t14 k14 t15 k15 f0 f1 f2 f4 f9 f10
  replace f0 := shm_361 f0
  replace f1 := shm_40 f1
  replace f2 := shm_103 f2
  replace f4 := shm_1438 f4
  replace f9 := shm_2006 f9
  replace f10 := shm_5 f10
  have q7 : n_v vs 7 = n_v vs 0 := f10.symm
  simp only [q7] at f0 f2 f4 f9
  have cr_0_1 := fdq_39 hD hth r0
  have g0 : v_iv (n_v vs 15) = w_fi ws (n_v vs 0) 13 := congrArg v_iv f0
  have g2 : v_iv (n_v vs 12) = w_fi ws (n_v vs 0) 12 := congrArg v_iv f2
  have hK_0_1 := elq_7 hD hth cr_0_1
  have kz_0_8 := fdq_34 hD hth r0
  have kz_0_10 := fdq_43 hD hth r0
  have kz_0_11 := fdq_237 hD hth r0
  have kz_0_12 := fdq_187 hD hth r0
  have kz_0_13 := fdq_238 hD hth r0
  have kz_0_14 := fdq_188 hD hth r0
  have kz_0_15 := fdq_239 hD hth r0
  obtain ⟨x, ex, hx⟩ := iv_ex (ta := ta) (lo := 0) (hi := 5) (z := w_fi ws (n_v vs 0) 8) (by omega) (by omega) (by omega) (by omega)
  have ex2 : v_iv (Value.int x) = w_fi ws (n_v vs 0) 8 := ex
  have ex3 : 0 ≤ v_iv (Value.int x) ∧ v_iv (Value.int x) ≤ 5 := tv_rng hx
  have e_7 : n_v (vs ++ [Value.int x]) 7 = n_v vs 7 := n_v_old (by rw [hl]; decide)
  have e_14 : n_v (vs ++ [Value.int x]) 14 = n_v vs 14 := n_v_old (by rw [hl]; decide)
  have e_15 : n_v (vs ++ [Value.int x]) 15 = n_v vs 15 := n_v_old (by rw [hl]; decide)
  have e_16 : n_v (vs ++ [Value.int x]) 16 = Value.int x := n_v_new hl
  have nf0 : fc_1 PRD (20, [7, 14, 15], [60, 1, 1, 1026, 10, 1]) ws (vs ++ [Value.int x]) := by
    refine ⟨nf_inA hl rfl, sgq_1724 ?_⟩
    · show FSX (w_fi ws (n_v (vs ++ [Value.int x]) 7) 10) (w_ei ws (w_ar ws (n_v (vs ++ [Value.int x]) 7) 1)) (v_iv (n_v (vs ++ [Value.int x]) 14)) (v_iv (n_v (vs ++ [Value.int x]) 15))
      simp only [e_7, e_14, e_15, q7]
      exact vc_Mo_of_at_s5002_38_0 (v_iv (n_v vs 4)) (v_iv (n_v vs 5)) (v_iv (n_v vs 6)) (v_iv (n_v vs 10)) (v_iv (n_v vs 12)) (v_iv (n_v vs 13)) (v_iv (n_v vs 14)) (v_iv (n_v vs 15)) (w_fi ws (n_v vs 0) 13) (w_fi ws (n_v vs 0) 12) (w_fi ws (n_v vs 0) 15) (w_fi ws (n_v vs 0) 11) (w_ei ws (w_ar ws (n_v vs 0) 1)) (w_ei ws (w_ar ws (n_v vs 0) 2)) (w_fi ws (n_v vs 0) 10) (w_fi ws (n_v vs 0) 14) (w_fi ws (n_v vs 0) 8) (w_fi ws (n_v vs 0) 5) (v_iv (Value.int x)) k4 k5 k6 k10 k12 k13 k14 k15 g0 f1 g2 f4 f9 kz_0_8 kz_0_10 kz_0_11 kz_0_12 kz_0_13 kz_0_14 kz_0_15 ex2
  have nf1 : fc_1 PRD (20, [7, 16], [30, 0, 1, 1, 8, -1, 0, 0]) ws (vs ++ [Value.int x]) := by
    refine ⟨nf_inA hl rfl, sgq_303 ?_⟩
    · show 1 * w_fi ws (n_v (vs ++ [Value.int x]) 7) 8 + ((-1) * v_iv (n_v (vs ++ [Value.int x]) 16) + 0) ≤ 0
      simp only [e_7, e_16, q7]
      exact vc_Mo_of_at_s5002_38_1 (w_fi ws (n_v vs 0) 12) (w_fi ws (n_v vs 0) 15) (w_fi ws (n_v vs 0) 11) (w_ei ws (w_ar ws (n_v vs 0) 1)) (w_fi ws (n_v vs 0) 8) (v_iv (Value.int x)) f4 hK_0_1 kz_0_8 kz_0_11 kz_0_12 kz_0_15 ex2
  have nf2 : fc_1 PRD (20, [7, 16], [30, 0, -1, 1, 8, 1, 0, 0]) ws (vs ++ [Value.int x]) := by
    refine ⟨nf_inA hl rfl, sgq_304 ?_⟩
    · show (-1) * w_fi ws (n_v (vs ++ [Value.int x]) 7) 8 + (1 * v_iv (n_v (vs ++ [Value.int x]) 16) + 0) ≤ 0
      simp only [e_7, e_16, q7]
      exact vc_Mo_of_at_s5002_38_2 (w_fi ws (n_v vs 0) 12) (w_fi ws (n_v vs 0) 15) (w_fi ws (n_v vs 0) 11) (w_ei ws (w_ar ws (n_v vs 0) 1)) (w_fi ws (n_v vs 0) 8) (v_iv (Value.int x)) f4 hK_0_1 kz_0_8 kz_0_11 kz_0_12 kz_0_15 ex2
  have nf3 : fc_1 PRD (20, [16], [61, 0, 1029]) ws (vs ++ [Value.int x]) := by
    refine ⟨nf_inA hl rfl, sgq_1725 ?_⟩
    · show ZH0 (v_iv (n_v (vs ++ [Value.int x]) 16))
      rw [e_16]
      exact vc_Mo_of_at_s5002_38_3 (v_iv (n_v vs 4)) (v_iv (n_v vs 5)) (v_iv (n_v vs 6)) (v_iv (n_v vs 10)) (w_fi ws (n_v vs 0) 13) (w_fi ws (n_v vs 0) 12) (w_fi ws (n_v vs 0) 15) (w_fi ws (n_v vs 0) 11) (w_ei ws (w_ar ws (n_v vs 0) 1)) (w_ei ws (w_ar ws (n_v vs 0) 2)) (w_fi ws (n_v vs 0) 10) (w_fi ws (n_v vs 0) 14) (w_fi ws (n_v vs 0) 8) (w_fi ws (n_v vs 0) 5) (v_iv (Value.int x)) k4 k5 k6 k10 f9 kz_0_8 kz_0_10 kz_0_11 kz_0_12 kz_0_13 kz_0_14 kz_0_15 ex2
  exact ⟨(fun _ h => (by cases h)), [Value.int x], ag_one hx, List.forall_mem_cons.mpr ⟨⟨show (20 : Nat) < 100 from by decide, nf0⟩, List.forall_mem_cons.mpr ⟨⟨show (20 : Nat) < 100 from by decide, nf1⟩, List.forall_mem_cons.mpr ⟨⟨show (20 : Nat) < 100 from by decide, nf2⟩, List.forall_mem_cons.mpr ⟨⟨show (20 : Nat) < 100 from by decide, nf3⟩, (fun _ h => (by cases h))⟩⟩⟩⟩, (fun _ h => (by cases h))⟩
set_option maxHeartbeats 4000000 in
theorem vc_Mo_of_at_s5002_39_0 (x14 : Int) (x15 : Int) (x16 : Int) (kind_0 : Int) (tape_0 : Int → Int) (from_0 : Int) (pos_0 : Int) (fault_0 : Int) (faultPlace_0 : Int) (k14 : 1 ≤ x14 ∧ x14 ≤ 1) (k15 : 0 ≤ x15 ∧ x15 ≤ 2000) (k16 : 0 ≤ x16 ∧ x16 ≤ 5) (f4 : 1 * from_0 + ((-1) * pos_0 + 0) ≤ 0) (f5 : ((kind_0 = 1) → (pos_0 ≤ (from_0 + 8))) ∧ ((kind_0 = 0) ∨ ((from_0 + 1) ≤ pos_0))) (f13 : ((1 ≤ x16) ∧ (fault_0 = x16)) ∨ ((x16 = 0) ∧ ((fault_0 = x14) ∧ (faultPlace_0 = x15)))) (hK_0_1 : ∀ j : Int, 0 ≤ j → j < 2000 → (-128) ≤ tape_0 j ∧ tape_0 j ≤ 127) (kz_0_8 : 0 ≤ fault_0 ∧ fault_0 ≤ 5) (kz_0_9 : 0 ≤ faultPlace_0 ∧ faultPlace_0 ≤ 2000) (kz_0_11 : 0 ≤ pos_0 ∧ pos_0 ≤ 2000) (kz_0_12 : 0 ≤ kind_0 ∧ kind_0 ≤ 4) (kz_0_15 : 0 ≤ from_0 ∧ from_0 ≤ 2000) : 1 * from_0 + ((-1) * pos_0 + 0) ≤ 0 := by
  first | with_reducible assumption | ((have f5_c0 := f5.1); (have f5_c1 := f5.2); (try and_intros) <;> first | with_reducible assumption | (clear f5_c0 f5_c1 f5 f13 hK_0_1; omega)) | ((have f5_c0 := f5.1); (have f5_c1 := f5.2); (try and_intros) <;> first | with_reducible assumption | (clear f5_c0 f5_c1 f5 hK_0_1; omega)) | omega
set_option maxHeartbeats 4000000 in
theorem vc_Mo_of_at_s5002_39_1 (x14 : Int) (x15 : Int) (x16 : Int) (kind_0 : Int) (tape_0 : Int → Int) (from_0 : Int) (pos_0 : Int) (fault_0 : Int) (faultPlace_0 : Int) (k14 : 1 ≤ x14 ∧ x14 ≤ 1) (k15 : 0 ≤ x15 ∧ x15 ≤ 2000) (k16 : 0 ≤ x16 ∧ x16 ≤ 5) (f5 : ((kind_0 = 1) → (pos_0 ≤ (from_0 + 8))) ∧ ((kind_0 = 0) ∨ ((from_0 + 1) ≤ pos_0))) (f13 : ((1 ≤ x16) ∧ (fault_0 = x16)) ∨ ((x16 = 0) ∧ ((fault_0 = x14) ∧ (faultPlace_0 = x15)))) (hK_0_1 : ∀ j : Int, 0 ≤ j → j < 2000 → (-128) ≤ tape_0 j ∧ tape_0 j ≤ 127) (kz_0_8 : 0 ≤ fault_0 ∧ fault_0 ≤ 5) (kz_0_9 : 0 ≤ faultPlace_0 ∧ faultPlace_0 ≤ 2000) (kz_0_11 : 0 ≤ pos_0 ∧ pos_0 ≤ 2000) (kz_0_12 : 0 ≤ kind_0 ∧ kind_0 ≤ 4) (kz_0_15 : 0 ≤ from_0 ∧ from_0 ≤ 2000) : ((kind_0 = 1) → (pos_0 ≤ (from_0 + 8))) ∧ ((kind_0 = 0) ∨ ((from_0 + 1) ≤ pos_0)) := by
  first | with_reducible assumption | ((have f5_c0 := f5.1); (have f5_c1 := f5.2); (try and_intros) <;> first | with_reducible assumption | (clear f5_c0 f5_c1 f5 f13 hK_0_1; omega)) | ((have f5_c0 := f5.1); (have f5_c1 := f5.2); (try and_intros) <;> first | with_reducible assumption | (clear f5_c0 f5_c1 f5 hK_0_1; omega)) | omega
set_option maxHeartbeats 4000000 in
theorem vc_Mo_of_at_s5002_39_2 (x3 : Int) (x14 : Int) (x15 : Int) (x16 : Int) (kind_0 : Int) (tape_0 : Int → Int) (from_0 : Int) (pos_0 : Int) (fault_0 : Int) (faultPlace_0 : Int) (k3 : 0 ≤ x3 ∧ x3 ≤ 2000) (k14 : 1 ≤ x14 ∧ x14 ≤ 1) (k15 : 0 ≤ x15 ∧ x15 ≤ 2000) (k16 : 0 ≤ x16 ∧ x16 ≤ 5) (f5 : ((kind_0 = 1) → (pos_0 ≤ (from_0 + 8))) ∧ ((kind_0 = 0) ∨ ((from_0 + 1) ≤ pos_0))) (f6 : 1 * x3 + ((-1) * pos_0 + 0) ≤ (-1)) (f13 : ((1 ≤ x16) ∧ (fault_0 = x16)) ∨ ((x16 = 0) ∧ ((fault_0 = x14) ∧ (faultPlace_0 = x15)))) (hK_0_1 : ∀ j : Int, 0 ≤ j → j < 2000 → (-128) ≤ tape_0 j ∧ tape_0 j ≤ 127) (kz_0_8 : 0 ≤ fault_0 ∧ fault_0 ≤ 5) (kz_0_9 : 0 ≤ faultPlace_0 ∧ faultPlace_0 ≤ 2000) (kz_0_11 : 0 ≤ pos_0 ∧ pos_0 ≤ 2000) (kz_0_12 : 0 ≤ kind_0 ∧ kind_0 ≤ 4) (kz_0_15 : 0 ≤ from_0 ∧ from_0 ≤ 2000) : 1 * x3 + ((-1) * pos_0 + 0) ≤ 0 := by
  first | with_reducible assumption | ((have f5_c0 := f5.1); (have f5_c1 := f5.2); (try and_intros) <;> first | with_reducible assumption | (clear f5_c0 f5_c1 f5 f13 hK_0_1; omega)) | ((have f5_c0 := f5.1); (have f5_c1 := f5.2); (try and_intros) <;> first | with_reducible assumption | (clear f5_c0 f5_c1 f5 hK_0_1; omega)) | omega
set_option maxHeartbeats 4000000 in
theorem vc_Mo_of_at_s5002_39_3 (x3 : Int) (x14 : Int) (x15 : Int) (x16 : Int) (kind_0 : Int) (tape_0 : Int → Int) (from_0 : Int) (pos_0 : Int) (fault_0 : Int) (faultPlace_0 : Int) (k3 : 0 ≤ x3 ∧ x3 ≤ 2000) (k14 : 1 ≤ x14 ∧ x14 ≤ 1) (k15 : 0 ≤ x15 ∧ x15 ≤ 2000) (k16 : 0 ≤ x16 ∧ x16 ≤ 5) (f5 : ((kind_0 = 1) → (pos_0 ≤ (from_0 + 8))) ∧ ((kind_0 = 0) ∨ ((from_0 + 1) ≤ pos_0))) (f12 : (-1) * fault_0 + 0 ≤ (-1)) (f13 : ((1 ≤ x16) ∧ (fault_0 = x16)) ∨ ((x16 = 0) ∧ ((fault_0 = x14) ∧ (faultPlace_0 = x15)))) (hK_0_1 : ∀ j : Int, 0 ≤ j → j < 2000 → (-128) ≤ tape_0 j ∧ tape_0 j ≤ 127) (kz_0_8 : 0 ≤ fault_0 ∧ fault_0 ≤ 5) (kz_0_9 : 0 ≤ faultPlace_0 ∧ faultPlace_0 ≤ 2000) (kz_0_11 : 0 ≤ pos_0 ∧ pos_0 ≤ 2000) (kz_0_12 : 0 ≤ kind_0 ∧ kind_0 ≤ 4) (kz_0_15 : 0 ≤ from_0 ∧ from_0 ≤ 2000) : (1 ≤ fault_0) ∨ ((kind_0 = 0) ∨ ((x3 + 1) ≤ pos_0)) := by
  first | with_reducible assumption | ((have f5_c0 := f5.1); (have f5_c1 := f5.2); (try and_intros) <;> first | with_reducible assumption | (clear f5_c0 f5_c1 f5 f13 hK_0_1; omega)) | ((have f5_c0 := f5.1); (have f5_c1 := f5.2); (try and_intros) <;> first | with_reducible assumption | (clear f5_c0 f5_c1 f5 hK_0_1; omega)) | omega
set_option maxHeartbeats 4000000 in
theorem vc_Mo_of_at_s5002_39_4 (x4 : Int) (x14 : Int) (x15 : Int) (x16 : Int) (kind_0 : Int) (tape_0 : Int → Int) (from_0 : Int) (pos_0 : Int) (fault_0 : Int) (faultPlace_0 : Int) (k4 : (-1) ≤ x4 ∧ x4 ≤ 48) (k14 : 1 ≤ x14 ∧ x14 ≤ 1) (k15 : 0 ≤ x15 ∧ x15 ≤ 2000) (k16 : 0 ≤ x16 ∧ x16 ≤ 5) (f5 : ((kind_0 = 1) → (pos_0 ≤ (from_0 + 8))) ∧ ((kind_0 = 0) ∨ ((from_0 + 1) ≤ pos_0))) (f12 : (-1) * fault_0 + 0 ≤ (-1)) (f13 : ((1 ≤ x16) ∧ (fault_0 = x16)) ∨ ((x16 = 0) ∧ ((fault_0 = x14) ∧ (faultPlace_0 = x15)))) (hK_0_1 : ∀ j : Int, 0 ≤ j → j < 2000 → (-128) ≤ tape_0 j ∧ tape_0 j ≤ 127) (kz_0_8 : 0 ≤ fault_0 ∧ fault_0 ≤ 5) (kz_0_9 : 0 ≤ faultPlace_0 ∧ faultPlace_0 ≤ 2000) (kz_0_11 : 0 ≤ pos_0 ∧ pos_0 ≤ 2000) (kz_0_12 : 0 ≤ kind_0 ∧ kind_0 ≤ 4) (kz_0_15 : 0 ≤ from_0 ∧ from_0 ≤ 2000) : (1 ≤ fault_0) ∨ (0 ≤ x4) := by
  first | with_reducible assumption | ((have f5_c0 := f5.1); (have f5_c1 := f5.2); (try and_intros) <;> first | with_reducible assumption | (clear f5_c0 f5_c1 f5 f13 hK_0_1; omega)) | ((have f5_c0 := f5.1); (have f5_c1 := f5.2); (try and_intros) <;> first | with_reducible assumption | (clear f5_c0 f5_c1 f5 hK_0_1; omega)) | omega
set_option maxHeartbeats 4000000 in
theorem vc_Mo_of_at_s5002_39_5 (x2 : Int) (x14 : Int) (x15 : Int) (x16 : Int) (x17 : Int) (kind_0 : Int) (tape_0 : Int → Int) (from_0 : Int) (pos_0 : Int) (fault_0 : Int) (faultPlace_0 : Int) (k2 : 99 ≤ x2 ∧ x2 ≤ 99) (k14 : 1 ≤ x14 ∧ x14 ≤ 1) (k15 : 0 ≤ x15 ∧ x15 ≤ 2000) (k16 : 0 ≤ x16 ∧ x16 ≤ 5) (k17 : 0 ≤ x17 ∧ x17 ≤ 0) (f5 : ((kind_0 = 1) → (pos_0 ≤ (from_0 + 8))) ∧ ((kind_0 = 0) ∨ ((from_0 + 1) ≤ pos_0))) (f13 : ((1 ≤ x16) ∧ (fault_0 = x16)) ∨ ((x16 = 0) ∧ ((fault_0 = x14) ∧ (faultPlace_0 = x15)))) (hK_0_1 : ∀ j : Int, 0 ≤ j → j < 2000 → (-128) ≤ tape_0 j ∧ tape_0 j ≤ 127) (kz_0_8 : 0 ≤ fault_0 ∧ fault_0 ≤ 5) (kz_0_9 : 0 ≤ faultPlace_0 ∧ faultPlace_0 ≤ 2000) (kz_0_11 : 0 ≤ pos_0 ∧ pos_0 ≤ 2000) (kz_0_12 : 0 ≤ kind_0 ∧ kind_0 ≤ 4) (kz_0_15 : 0 ≤ from_0 ∧ from_0 ≤ 2000) : 1 * x17 + ((-1) * x2 + 0) ≤ 0 := by
  first | with_reducible assumption | ((have f5_c0 := f5.1); (have f5_c1 := f5.2); (try and_intros) <;> first | with_reducible assumption | (clear f5_c0 f5_c1 f5 f13 hK_0_1; omega)) | ((have f5_c0 := f5.1); (have f5_c1 := f5.2); (try and_intros) <;> first | with_reducible assumption | (clear f5_c0 f5_c1 f5 hK_0_1; omega)) | omega
set_option maxHeartbeats 4000000 in
theorem vc_Mo_of_at_s5002_39_6 (x14 : Int) (x15 : Int) (x16 : Int) (x17 : Int) (kind_0 : Int) (tape_0 : Int → Int) (from_0 : Int) (pos_0 : Int) (fault_0 : Int) (faultPlace_0 : Int) (k14 : 1 ≤ x14 ∧ x14 ≤ 1) (k15 : 0 ≤ x15 ∧ x15 ≤ 2000) (k16 : 0 ≤ x16 ∧ x16 ≤ 5) (k17 : 0 ≤ x17 ∧ x17 ≤ 0) (f5 : ((kind_0 = 1) → (pos_0 ≤ (from_0 + 8))) ∧ ((kind_0 = 0) ∨ ((from_0 + 1) ≤ pos_0))) (f13 : ((1 ≤ x16) ∧ (fault_0 = x16)) ∨ ((x16 = 0) ∧ ((fault_0 = x14) ∧ (faultPlace_0 = x15)))) (hK_0_1 : ∀ j : Int, 0 ≤ j → j < 2000 → (-128) ≤ tape_0 j ∧ tape_0 j ≤ 127) (kz_0_8 : 0 ≤ fault_0 ∧ fault_0 ≤ 5) (kz_0_9 : 0 ≤ faultPlace_0 ∧ faultPlace_0 ≤ 2000) (kz_0_11 : 0 ≤ pos_0 ∧ pos_0 ≤ 2000) (kz_0_12 : 0 ≤ kind_0 ∧ kind_0 ≤ 4) (kz_0_15 : 0 ≤ from_0 ∧ from_0 ≤ 2000) : (-1) * x17 + 0 ≤ 0 := by
  first | with_reducible assumption | ((have f5_c0 := f5.1); (have f5_c1 := f5.2); (try and_intros) <;> first | with_reducible assumption | (clear f5_c0 f5_c1 f5 f13 hK_0_1; omega)) | ((have f5_c0 := f5.1); (have f5_c1 := f5.2); (try and_intros) <;> first | with_reducible assumption | (clear f5_c0 f5_c1 f5 hK_0_1; omega)) | omega
set_option maxHeartbeats 4000000 in
theorem vc_Mo_of_at_s5002_39_7 (x4 : Int) (x5 : Int) (x6 : Int) (x12 : Int) (x14 : Int) (x15 : Int) (x16 : Int) (x17 : Int) (place_0 : Int) (kind_0 : Int) (tape_0 : Int → Int) (limit_0 : Int) (from_0 : Int) (pos_0 : Int) (fault_0 : Int) (faultPlace_0 : Int) (value_0 : Int) (all_0 : Int → Int) (r_0 : Int) (k4 : (-1) ≤ x4 ∧ x4 ≤ 48) (k5 : 0 ≤ x5 ∧ x5 ≤ 7) (k6 : 0 ≤ x6 ∧ x6 ≤ 4) (k12 : 0 ≤ x12 ∧ x12 ≤ 4) (k14 : 1 ≤ x14 ∧ x14 ≤ 1) (k15 : 0 ≤ x15 ∧ x15 ≤ 2000) (k16 : 0 ≤ x16 ∧ x16 ≤ 5) (k17 : 0 ≤ x17 ∧ x17 ≤ 0) (g0 : x15 = place_0) (g1 : x12 = kind_0) (f2 : FSX (limit_0) (tape_0) (x14) (x15)) (f3 : ZH0 (x16)) (f13 : ((1 ≤ x16) ∧ (fault_0 = x16)) ∨ ((x16 = 0) ∧ ((fault_0 = x14) ∧ (faultPlace_0 = x15)))) (kz_0_8 : 0 ≤ fault_0 ∧ fault_0 ≤ 5) (kz_0_9 : 0 ≤ faultPlace_0 ∧ faultPlace_0 ≤ 2000) (kz_0_10 : 0 ≤ limit_0 ∧ limit_0 ≤ 2000) (kz_0_11 : 0 ≤ pos_0 ∧ pos_0 ≤ 2000) (kz_0_12 : 0 ≤ kind_0 ∧ kind_0 ≤ 4) (kz_0_13 : 0 ≤ place_0 ∧ place_0 ≤ 2000) (kz_0_14 : (-49) ≤ value_0 ∧ value_0 ≤ 1048575) (kz_0_15 : 0 ≤ from_0 ∧ from_0 ≤ 2000) : zOFs (limit_0) (pos_0) (kind_0) (place_0) (value_0) (from_0) (fault_0) (faultPlace_0) (r_0) (tape_0) (all_0) (x4) (x17) (x5) (x6) := by
  first | subst g0 | skip
  first | subst g1 | skip
  first
    | exact Or.inl ⟨by omega, fs_w ‹FSX _ _ _ _› ‹ZH0 _› (by assumption)⟩
    | (exfalso; omega)
def o_Mo_of_at_s5002_39 : or_T := (35, 18, [(0, (2, 0, 0, [165])), (2, (0, 99, 99, [])), (3, (0, 0, 2000, [])), (4, (0, -1, 48, [])), (5, (0, 0, 7, [])), (6, (0, 0, 4, [])), (12, (0, 0, 4, [])), (14, (0, 1, 1, [])), (15, (0, 0, 2000, [])), (16, (0, 0, 5, [])), (17, (0, 0, 0, []))], [(9, [15, 7], [13]), (9, [12, 7], [12]), (20, [7, 14, 15], [60, 1, 1, 1026, 10, 1]), (20, [16], [61, 0, 1029]), (20, [7, 7], [30, 0, 1, 1, 15, -1, 1, 11]), (20, [7], [50, 3, 0, 12, 11, 15, 2, 21, 4, 7, 1, 3, 2, 0, 12, 0, 1, 0, 3, 2, 0, 11, 4, 3, 2, 0, 15, 0, 8, 3, 7, 1, 3, 2, 0, 12, 0, 0, 0, 7, 4, 3, 2, 0, 15, 0, 1, 2, 0, 11]), (20, [3, 7], [30, -1, 1, 0, 0, -1, 1, 11]), (24, [0, 7], []), (20, [7], [30, -1, -1, 1, 8]), (20, [16, 7, 14, 15], [50, 2, 0, 1008, 1009, 3, 15, 2, 6, 0, 2, 0, 1, 1, 0, 1, 3, 2, 1, 8, 1, 0, 2, 6, 1, 2, 1, 0, 0, 0, 2, 7, 1, 3, 2, 1, 8, 1, 2, 1, 3, 2, 1, 9, 1, 3])], [], [], [(20, [0, 0], [30, 0, 1, 1, 15, -1, 1, 11]), (20, [0], [50, 3, 0, 12, 11, 15, 2, 21, 4, 7, 1, 3, 2, 0, 12, 0, 1, 0, 3, 2, 0, 11, 4, 3, 2, 0, 15, 0, 8, 3, 7, 1, 3, 2, 0, 12, 0, 0, 0, 7, 4, 3, 2, 0, 15, 0, 1, 2, 0, 11]), (20, [3, 0], [30, 0, 1, 0, 0, -1, 1, 11]), (20, [0, 3], [50, 3, 0, 8, 12, 11, 3, 7, 0, 2, 0, 1, 2, 0, 8, 3, 7, 1, 3, 2, 0, 12, 0, 0, 0, 6, 4, 2, 1, 1, 0, 1, 2, 0, 11]), (20, [0, 4], [50, 1, 0, 8, 3, 7, 0, 2, 0, 1, 2, 0, 8, 0, 2, 0, 0, 1, 1]), (20, [17, 2], [30, 0, 1, 0, 0, -1, 0, 0]), (20, [17], [30, 0, -1, 0, 0]), (20, [0, 4, 17, 5, 6], [60, 9, 2, 1013, 10, 11, 12, 13, 14, 15, 8, 9, 5, 1, 2])], [], [])
theorem oo_Mo_of_at_s5002_39 {kA : Nat → ClassId} : or_ok PRD kA GG o_Mo_of_at_s5002_39 := by
  refine or_mk fun A ta ws vs hD hth hl => ?_
  intro t0 r0 t2 k2 t3 k3 t4 k4 t5 k5 t6 k6 t12 k12 t14 k14 t15 k15 t16 k16 t17 k17 f0 f1 f2 f3 f4 f5 f6 f8 f12 f13
  replace f0 := shm_361 f0
  replace f1 := shm_103 f1
  replace f2 := shm_1724 f2
  replace f4 := shm_1437 f4
  replace f5 := shm_1438 f5
  replace f6 := shm_2005 f6
  replace f8 := shm_5 f8
  replace f12 := shm_305 f12
  replace f13 := shm_306 f13
  have q7 : n_v vs 7 = n_v vs 0 := f8.symm
  simp only [q7] at f0 f1 f2 f4 f5 f6 f12 f13
  have cr_0_1 := fdq_39 hD hth r0
  have g0 : v_iv (n_v vs 15) = w_fi ws (n_v vs 0) 13 := congrArg v_iv f0
  have g1 : v_iv (n_v vs 12) = w_fi ws (n_v vs 0) 12 := congrArg v_iv f1
  have hK_0_1 := elq_7 hD hth cr_0_1
  have kz_0_8 := fdq_34 hD hth r0
  have kz_0_9 := fdq_44 hD hth r0
  have kz_0_10 := fdq_43 hD hth r0
  have kz_0_11 := fdq_237 hD hth r0
  have kz_0_12 := fdq_187 hD hth r0
  have kz_0_13 := fdq_238 hD hth r0
  have kz_0_14 := fdq_188 hD hth r0
  have kz_0_15 := fdq_239 hD hth r0
  have nf0 : fc_1 PRD (20, [0, 0], [30, 0, 1, 1, 15, -1, 1, 11]) ws (vs) := ⟨nf_in hl rfl, sgq_1437 (vc_Mo_of_at_s5002_39_0 (v_iv (n_v vs 14)) (v_iv (n_v vs 15)) (v_iv (n_v vs 16)) (w_fi ws (n_v vs 0) 12) (w_ei ws (w_ar ws (n_v vs 0) 1)) (w_fi ws (n_v vs 0) 15) (w_fi ws (n_v vs 0) 11) (w_fi ws (n_v vs 0) 8) (w_fi ws (n_v vs 0) 9) k14 k15 k16 f4 f5 f13 hK_0_1 kz_0_8 kz_0_9 kz_0_11 kz_0_12 kz_0_15)⟩
  have nf1 : fc_1 PRD (20, [0], [50, 3, 0, 12, 11, 15, 2, 21, 4, 7, 1, 3, 2, 0, 12, 0, 1, 0, 3, 2, 0, 11, 4, 3, 2, 0, 15, 0, 8, 3, 7, 1, 3, 2, 0, 12, 0, 0, 0, 7, 4, 3, 2, 0, 15, 0, 1, 2, 0, 11]) ws (vs) := ⟨nf_in hl rfl, sgq_1438 (vc_Mo_of_at_s5002_39_1 (v_iv (n_v vs 14)) (v_iv (n_v vs 15)) (v_iv (n_v vs 16)) (w_fi ws (n_v vs 0) 12) (w_ei ws (w_ar ws (n_v vs 0) 1)) (w_fi ws (n_v vs 0) 15) (w_fi ws (n_v vs 0) 11) (w_fi ws (n_v vs 0) 8) (w_fi ws (n_v vs 0) 9) k14 k15 k16 f5 f13 hK_0_1 kz_0_8 kz_0_9 kz_0_11 kz_0_12 kz_0_15)⟩
  have nf2 : fc_1 PRD (20, [3, 0], [30, 0, 1, 0, 0, -1, 1, 11]) ws (vs) := ⟨nf_in hl rfl, sgq_1431 (vc_Mo_of_at_s5002_39_2 (v_iv (n_v vs 3)) (v_iv (n_v vs 14)) (v_iv (n_v vs 15)) (v_iv (n_v vs 16)) (w_fi ws (n_v vs 0) 12) (w_ei ws (w_ar ws (n_v vs 0) 1)) (w_fi ws (n_v vs 0) 15) (w_fi ws (n_v vs 0) 11) (w_fi ws (n_v vs 0) 8) (w_fi ws (n_v vs 0) 9) k3 k14 k15 k16 f5 f6 f13 hK_0_1 kz_0_8 kz_0_9 kz_0_11 kz_0_12 kz_0_15)⟩
  have nf3 : fc_1 PRD (20, [0, 3], [50, 3, 0, 8, 12, 11, 3, 7, 0, 2, 0, 1, 2, 0, 8, 3, 7, 1, 3, 2, 0, 12, 0, 0, 0, 6, 4, 2, 1, 1, 0, 1, 2, 0, 11]) ws (vs) := ⟨nf_in hl rfl, sgq_1722 (vc_Mo_of_at_s5002_39_3 (v_iv (n_v vs 3)) (v_iv (n_v vs 14)) (v_iv (n_v vs 15)) (v_iv (n_v vs 16)) (w_fi ws (n_v vs 0) 12) (w_ei ws (w_ar ws (n_v vs 0) 1)) (w_fi ws (n_v vs 0) 15) (w_fi ws (n_v vs 0) 11) (w_fi ws (n_v vs 0) 8) (w_fi ws (n_v vs 0) 9) k3 k14 k15 k16 f5 f12 f13 hK_0_1 kz_0_8 kz_0_9 kz_0_11 kz_0_12 kz_0_15)⟩
  have nf4 : fc_1 PRD (20, [0, 4], [50, 1, 0, 8, 3, 7, 0, 2, 0, 1, 2, 0, 8, 0, 2, 0, 0, 1, 1]) ws (vs) := ⟨nf_in hl rfl, sgq_2000 (vc_Mo_of_at_s5002_39_4 (v_iv (n_v vs 4)) (v_iv (n_v vs 14)) (v_iv (n_v vs 15)) (v_iv (n_v vs 16)) (w_fi ws (n_v vs 0) 12) (w_ei ws (w_ar ws (n_v vs 0) 1)) (w_fi ws (n_v vs 0) 15) (w_fi ws (n_v vs 0) 11) (w_fi ws (n_v vs 0) 8) (w_fi ws (n_v vs 0) 9) k4 k14 k15 k16 f5 f12 f13 hK_0_1 kz_0_8 kz_0_9 kz_0_11 kz_0_12 kz_0_15)⟩
  have nf5 : fc_1 PRD (20, [17, 2], [30, 0, 1, 0, 0, -1, 0, 0]) ws (vs) := ⟨nf_in hl rfl, sgq_201 (vc_Mo_of_at_s5002_39_5 (v_iv (n_v vs 2)) (v_iv (n_v vs 14)) (v_iv (n_v vs 15)) (v_iv (n_v vs 16)) (v_iv (n_v vs 17)) (w_fi ws (n_v vs 0) 12) (w_ei ws (w_ar ws (n_v vs 0) 1)) (w_fi ws (n_v vs 0) 15) (w_fi ws (n_v vs 0) 11) (w_fi ws (n_v vs 0) 8) (w_fi ws (n_v vs 0) 9) k2 k14 k15 k16 k17 f5 f13 hK_0_1 kz_0_8 kz_0_9 kz_0_11 kz_0_12 kz_0_15)⟩
  have nf6 : fc_1 PRD (20, [17], [30, 0, -1, 0, 0]) ws (vs) := ⟨nf_in hl rfl, sgq_2002 (vc_Mo_of_at_s5002_39_6 (v_iv (n_v vs 14)) (v_iv (n_v vs 15)) (v_iv (n_v vs 16)) (v_iv (n_v vs 17)) (w_fi ws (n_v vs 0) 12) (w_ei ws (w_ar ws (n_v vs 0) 1)) (w_fi ws (n_v vs 0) 15) (w_fi ws (n_v vs 0) 11) (w_fi ws (n_v vs 0) 8) (w_fi ws (n_v vs 0) 9) k14 k15 k16 k17 f5 f13 hK_0_1 kz_0_8 kz_0_9 kz_0_11 kz_0_12 kz_0_15)⟩
  have nf7 : fc_1 PRD (20, [0, 4, 17, 5, 6], [60, 9, 2, 1013, 10, 11, 12, 13, 14, 15, 8, 9, 5, 1, 2]) ws (vs) := ⟨nf_in hl rfl, sgq_2003 (vc_Mo_of_at_s5002_39_7 (v_iv (n_v vs 4)) (v_iv (n_v vs 5)) (v_iv (n_v vs 6)) (v_iv (n_v vs 12)) (v_iv (n_v vs 14)) (v_iv (n_v vs 15)) (v_iv (n_v vs 16)) (v_iv (n_v vs 17)) (w_fi ws (n_v vs 0) 13) (w_fi ws (n_v vs 0) 12) (w_ei ws (w_ar ws (n_v vs 0) 1)) (w_fi ws (n_v vs 0) 10) (w_fi ws (n_v vs 0) 15) (w_fi ws (n_v vs 0) 11) (w_fi ws (n_v vs 0) 8) (w_fi ws (n_v vs 0) 9) (w_fi ws (n_v vs 0) 14) (w_ei ws (w_ar ws (n_v vs 0) 2)) (w_fi ws (n_v vs 0) 5) k4 k5 k6 k12 k14 k15 k16 k17 g0 g1 f2 (shm_1725 f3) f13 kz_0_8 kz_0_9 kz_0_10 kz_0_11 kz_0_12 kz_0_13 kz_0_14 kz_0_15)⟩
  refine ⟨(fun _ h => (by cases h)), [], trivial, ?_, (fun _ h => (by cases h))⟩
  rw [List.append_nil]
  exact List.forall_mem_cons.mpr ⟨⟨show (20 : Nat) < 100 from by decide, nf0⟩, List.forall_mem_cons.mpr ⟨⟨show (20 : Nat) < 100 from by decide, nf1⟩, List.forall_mem_cons.mpr ⟨⟨show (20 : Nat) < 100 from by decide, nf2⟩, List.forall_mem_cons.mpr ⟨⟨show (20 : Nat) < 100 from by decide, nf3⟩, List.forall_mem_cons.mpr ⟨⟨show (20 : Nat) < 100 from by decide, nf4⟩, List.forall_mem_cons.mpr ⟨⟨show (20 : Nat) < 100 from by decide, nf5⟩, List.forall_mem_cons.mpr ⟨⟨show (20 : Nat) < 100 from by decide, nf6⟩, List.forall_mem_cons.mpr ⟨⟨show (20 : Nat) < 100 from by decide, nf7⟩, (fun _ h => (by cases h))⟩⟩⟩⟩⟩⟩⟩⟩
set_option maxHeartbeats 4000000 in
theorem vc_Mo_of_at_s5002_40_0 (x14 : Int) (kind_0 : Int) (fault_0 : Int) (from_0 : Int) (pos_0 : Int) (tape_0 : Int → Int) (k14 : 0 ≤ x14 ∧ x14 ≤ 0) (f1 : (x14 = 1) → ((kind_0 = 3) ∧ (fault_0 = 0))) (f5 : 1 * from_0 + ((-1) * pos_0 + 0) ≤ 0) (f6 : ((kind_0 = 1) → (pos_0 ≤ (from_0 + 8))) ∧ ((kind_0 = 0) ∨ ((from_0 + 1) ≤ pos_0))) (hK_0_1 : ∀ j : Int, 0 ≤ j → j < 2000 → (-128) ≤ tape_0 j ∧ tape_0 j ≤ 127) (kz_0_8 : 0 ≤ fault_0 ∧ fault_0 ≤ 5) (kz_0_11 : 0 ≤ pos_0 ∧ pos_0 ≤ 2000) (kz_0_12 : 0 ≤ kind_0 ∧ kind_0 ≤ 4) (kz_0_15 : 0 ≤ from_0 ∧ from_0 ≤ 2000) : 1 * from_0 + ((-1) * pos_0 + 0) ≤ 0 := by
  first | with_reducible assumption | ((have f6_c0 := f6.1); (have f6_c1 := f6.2); (try and_intros) <;> first | with_reducible assumption | (clear f6_c0 f6_c1 f6 hK_0_1 f1; omega)) | ((have f6_c0 := f6.1); (have f6_c1 := f6.2); (first | have f1_b := f1 (by clear f6_c0 f6_c1 f6 hK_0_1 f1; omega) | skip); (first | have f1_d := f1 (by with_reducible assumption) | skip); (try and_intros) <;> first | with_reducible assumption | (clear f6_c0 f6_c1 f6 hK_0_1 f1; omega)) | omega
set_option maxHeartbeats 4000000 in
theorem vc_Mo_of_at_s5002_40_1 (x14 : Int) (kind_0 : Int) (fault_0 : Int) (from_0 : Int) (pos_0 : Int) (tape_0 : Int → Int) (k14 : 0 ≤ x14 ∧ x14 ≤ 0) (f1 : (x14 = 1) → ((kind_0 = 3) ∧ (fault_0 = 0))) (f6 : ((kind_0 = 1) → (pos_0 ≤ (from_0 + 8))) ∧ ((kind_0 = 0) ∨ ((from_0 + 1) ≤ pos_0))) (hK_0_1 : ∀ j : Int, 0 ≤ j → j < 2000 → (-128) ≤ tape_0 j ∧ tape_0 j ≤ 127) (kz_0_8 : 0 ≤ fault_0 ∧ fault_0 ≤ 5) (kz_0_11 : 0 ≤ pos_0 ∧ pos_0 ≤ 2000) (kz_0_12 : 0 ≤ kind_0 ∧ kind_0 ≤ 4) (kz_0_15 : 0 ≤ from_0 ∧ from_0 ≤ 2000) : ((kind_0 = 1) → (pos_0 ≤ (from_0 + 8))) ∧ ((kind_0 = 0) ∨ ((from_0 + 1) ≤ pos_0)) := by
  first | with_reducible assumption | ((have f6_c0 := f6.1); (have f6_c1 := f6.2); (try and_intros) <;> first | with_reducible assumption | (clear f6_c0 f6_c1 f6 hK_0_1 f1; omega)) | ((have f6_c0 := f6.1); (have f6_c1 := f6.2); (first | have f1_b := f1 (by clear f6_c0 f6_c1 f6 hK_0_1 f1; omega) | skip); (first | have f1_d := f1 (by with_reducible assumption) | skip); (try and_intros) <;> first | with_reducible assumption | (clear f6_c0 f6_c1 f6 hK_0_1 f1; omega)) | omega
set_option maxHeartbeats 4000000 in
theorem vc_Mo_of_at_s5002_40_2 (x3 : Int) (x14 : Int) (kind_0 : Int) (fault_0 : Int) (from_0 : Int) (pos_0 : Int) (tape_0 : Int → Int) (k3 : 0 ≤ x3 ∧ x3 ≤ 2000) (k14 : 0 ≤ x14 ∧ x14 ≤ 0) (f1 : (x14 = 1) → ((kind_0 = 3) ∧ (fault_0 = 0))) (f6 : ((kind_0 = 1) → (pos_0 ≤ (from_0 + 8))) ∧ ((kind_0 = 0) ∨ ((from_0 + 1) ≤ pos_0))) (f7 : 1 * x3 + ((-1) * pos_0 + 0) ≤ (-1)) (hK_0_1 : ∀ j : Int, 0 ≤ j → j < 2000 → (-128) ≤ tape_0 j ∧ tape_0 j ≤ 127) (kz_0_8 : 0 ≤ fault_0 ∧ fault_0 ≤ 5) (kz_0_11 : 0 ≤ pos_0 ∧ pos_0 ≤ 2000) (kz_0_12 : 0 ≤ kind_0 ∧ kind_0 ≤ 4) (kz_0_15 : 0 ≤ from_0 ∧ from_0 ≤ 2000) : 1 * x3 + ((-1) * pos_0 + 0) ≤ (-1) := by
  first | with_reducible assumption | ((have f6_c0 := f6.1); (have f6_c1 := f6.2); (try and_intros) <;> first | with_reducible assumption | (clear f6_c0 f6_c1 f6 hK_0_1 f1; omega)) | ((have f6_c0 := f6.1); (have f6_c1 := f6.2); (first | have f1_b := f1 (by clear f6_c0 f6_c1 f6 hK_0_1 f1; omega) | skip); (first | have f1_d := f1 (by with_reducible assumption) | skip); (try and_intros) <;> first | with_reducible assumption | (clear f6_c0 f6_c1 f6 hK_0_1 f1; omega)) | omega
set_option maxHeartbeats 4000000 in
theorem vc_Mo_of_at_s5002_40_3 (x2 : Int) (x10 : Int) (x14 : Int) (kind_0 : Int) (fault_0 : Int) (from_0 : Int) (pos_0 : Int) (tape_0 : Int → Int) (k2 : 99 ≤ x2 ∧ x2 ≤ 99) (k10 : (-49) ≤ x10 ∧ x10 ≤ 1048575) (k14 : 0 ≤ x14 ∧ x14 ≤ 0) (f1 : (x14 = 1) → ((kind_0 = 3) ∧ (fault_0 = 0))) (f6 : ((kind_0 = 1) → (pos_0 ≤ (from_0 + 8))) ∧ ((kind_0 = 0) ∨ ((from_0 + 1) ≤ pos_0))) (f8 : 1 * x10 + ((-1) * x2 + 0) ≤ 0) (hK_0_1 : ∀ j : Int, 0 ≤ j → j < 2000 → (-128) ≤ tape_0 j ∧ tape_0 j ≤ 127) (kz_0_8 : 0 ≤ fault_0 ∧ fault_0 ≤ 5) (kz_0_11 : 0 ≤ pos_0 ∧ pos_0 ≤ 2000) (kz_0_12 : 0 ≤ kind_0 ∧ kind_0 ≤ 4) (kz_0_15 : 0 ≤ from_0 ∧ from_0 ≤ 2000) : 1 * x10 + ((-1) * x2 + 0) ≤ 0 := by
  first | with_reducible assumption | ((have f6_c0 := f6.1); (have f6_c1 := f6.2); (try and_intros) <;> first | with_reducible assumption | (clear f6_c0 f6_c1 f6 hK_0_1 f1; omega)) | ((have f6_c0 := f6.1); (have f6_c1 := f6.2); (first | have f1_b := f1 (by clear f6_c0 f6_c1 f6 hK_0_1 f1; omega) | skip); (first | have f1_d := f1 (by with_reducible assumption) | skip); (try and_intros) <;> first | with_reducible assumption | (clear f6_c0 f6_c1 f6 hK_0_1 f1; omega)) | omega
set_option maxHeartbeats 4000000 in
theorem vc_Mo_of_at_s5002_40_4 (x10 : Int) (x14 : Int) (kind_0 : Int) (fault_0 : Int) (from_0 : Int) (pos_0 : Int) (tape_0 : Int → Int) (k10 : (-49) ≤ x10 ∧ x10 ≤ 1048575) (k14 : 0 ≤ x14 ∧ x14 ≤ 0) (f1 : (x14 = 1) → ((kind_0 = 3) ∧ (fault_0 = 0))) (f6 : ((kind_0 = 1) → (pos_0 ≤ (from_0 + 8))) ∧ ((kind_0 = 0) ∨ ((from_0 + 1) ≤ pos_0))) (f9 : (-1) * x10 + 0 ≤ 0) (hK_0_1 : ∀ j : Int, 0 ≤ j → j < 2000 → (-128) ≤ tape_0 j ∧ tape_0 j ≤ 127) (kz_0_8 : 0 ≤ fault_0 ∧ fault_0 ≤ 5) (kz_0_11 : 0 ≤ pos_0 ∧ pos_0 ≤ 2000) (kz_0_12 : 0 ≤ kind_0 ∧ kind_0 ≤ 4) (kz_0_15 : 0 ≤ from_0 ∧ from_0 ≤ 2000) : (-1) * x10 + 0 ≤ 0 := by
  first | with_reducible assumption | ((have f6_c0 := f6.1); (have f6_c1 := f6.2); (try and_intros) <;> first | with_reducible assumption | (clear f6_c0 f6_c1 f6 hK_0_1 f1; omega)) | ((have f6_c0 := f6.1); (have f6_c1 := f6.2); (first | have f1_b := f1 (by clear f6_c0 f6_c1 f6 hK_0_1 f1; omega) | skip); (first | have f1_d := f1 (by with_reducible assumption) | skip); (try and_intros) <;> first | with_reducible assumption | (clear f6_c0 f6_c1 f6 hK_0_1 f1; omega)) | omega
set_option maxHeartbeats 4000000 in
theorem vc_Mo_of_at_s5002_40_5 (x4 : Int) (x14 : Int) (kind_0 : Int) (fault_0 : Int) (from_0 : Int) (pos_0 : Int) (tape_0 : Int → Int) (k4 : (-1) ≤ x4 ∧ x4 ≤ 48) (k14 : 0 ≤ x14 ∧ x14 ≤ 0) (f1 : (x14 = 1) → ((kind_0 = 3) ∧ (fault_0 = 0))) (f6 : ((kind_0 = 1) → (pos_0 ≤ (from_0 + 8))) ∧ ((kind_0 = 0) ∨ ((from_0 + 1) ≤ pos_0))) (f10 : (-1) * x4 + 0 ≤ 0) (hK_0_1 : ∀ j : Int, 0 ≤ j → j < 2000 → (-128) ≤ tape_0 j ∧ tape_0 j ≤ 127) (kz_0_8 : 0 ≤ fault_0 ∧ fault_0 ≤ 5) (kz_0_11 : 0 ≤ pos_0 ∧ pos_0 ≤ 2000) (kz_0_12 : 0 ≤ kind_0 ∧ kind_0 ≤ 4) (kz_0_15 : 0 ≤ from_0 ∧ from_0 ≤ 2000) : (-1) * x4 + 0 ≤ 0 := by
  first | with_reducible assumption | ((have f6_c0 := f6.1); (have f6_c1 := f6.2); (try and_intros) <;> first | with_reducible assumption | (clear f6_c0 f6_c1 f6 hK_0_1 f1; omega)) | ((have f6_c0 := f6.1); (have f6_c1 := f6.2); (first | have f1_b := f1 (by clear f6_c0 f6_c1 f6 hK_0_1 f1; omega) | skip); (first | have f1_d := f1 (by with_reducible assumption) | skip); (try and_intros) <;> first | with_reducible assumption | (clear f6_c0 f6_c1 f6 hK_0_1 f1; omega)) | omega
set_option maxHeartbeats 4000000 in
theorem vc_Mo_of_at_s5002_40_6 (x4 : Int) (x5 : Int) (x6 : Int) (x10 : Int) (x11 : Int) (x13 : Int) (x14 : Int) (kind_0 : Int) (fault_0 : Int) (value_0 : Int) (from_0 : Int) (pos_0 : Int) (tape_0 : Int → Int) (all_0 : Int → Int) (limit_0 : Int) (place_0 : Int) (r_0 : Int) (k4 : (-1) ≤ x4 ∧ x4 ≤ 48) (k5 : 0 ≤ x5 ∧ x5 ≤ 7) (k6 : 0 ≤ x6 ∧ x6 ≤ 4) (k10 : (-49) ≤ x10 ∧ x10 ≤ 1048575) (k11 : 0 ≤ x11 ∧ x11 ≤ 0) (k13 : 93 ≤ x13 ∧ x13 ≤ 93) (k14 : 0 ≤ x14 ∧ x14 ≤ 0) (f0 : x14 = 0) (f2 : SGQ (fault_0) (kind_0) (value_0) (x13) (x14)) (g4 : x11 = fault_0) (f12 : zO12s (limit_0) (pos_0) (kind_0) (place_0) (value_0) (from_0) (fault_0) (r_0) (tape_0) (all_0) (x4) (x10) (x5) (x6)) (kz_0_8 : 0 ≤ fault_0 ∧ fault_0 ≤ 5) (kz_0_10 : 0 ≤ limit_0 ∧ limit_0 ≤ 2000) (kz_0_11 : 0 ≤ pos_0 ∧ pos_0 ≤ 2000) (kz_0_12 : 0 ≤ kind_0 ∧ kind_0 ≤ 4) (kz_0_13 : 0 ≤ place_0 ∧ place_0 ≤ 2000) (kz_0_14 : (-49) ≤ value_0 ∧ value_0 ≤ 1048575) (kz_0_15 : 0 ≤ from_0 ∧ from_0 ≤ 2000) : zOIs (limit_0) (pos_0) (kind_0) (place_0) (value_0) (from_0) (fault_0) (r_0) (tape_0) (all_0) (x4) (x10) (x5) (x6) := by
  first | subst g4 | skip
  first
    | exact oi_start_s ‹zU9s _ _ _ _ _ _ _ _ _› ‹TKR _ _ _ _ _ _ _ _› (by omega)
    | exact of_back_s ‹zO12s _ _ _ _ _ _ _ _ _ _ _ _ _ _› ‹SGQ _ _ _ _ _› (by omega) (by omega)
    | (exfalso; omega)
set_option maxHeartbeats 4000000 in
theorem vc_Mo_of_at_s5002_40_9 (x14 : Int) (kind_0 : Int) (fault_0 : Int) (from_0 : Int) (pos_0 : Int) (tape_0 : Int → Int) (gx : Int) (k14 : 0 ≤ x14 ∧ x14 ≤ 0) (f1 : (x14 = 1) → ((kind_0 = 3) ∧ (fault_0 = 0))) (f6 : ((kind_0 = 1) → (pos_0 ≤ (from_0 + 8))) ∧ ((kind_0 = 0) ∨ ((from_0 + 1) ≤ pos_0))) (hK_0_1 : ∀ j : Int, 0 ≤ j → j < 2000 → (-128) ≤ tape_0 j ∧ tape_0 j ≤ 127) (kz_0_8 : 0 ≤ fault_0 ∧ fault_0 ≤ 5) (kz_0_11 : 0 ≤ pos_0 ∧ pos_0 ≤ 2000) (kz_0_12 : 0 ≤ kind_0 ∧ kind_0 ≤ 4) (kz_0_15 : 0 ≤ from_0 ∧ from_0 ≤ 2000) (ex2 : gx = 2000 + ((-1) * pos_0 + 0)) : 1 * gx + (1 * pos_0 + 0) ≤ 2000 := by
  first | with_reducible assumption | ((have f6_c0 := f6.1); (have f6_c1 := f6.2); (try and_intros) <;> first | with_reducible assumption | (clear f6_c0 f6_c1 f6 hK_0_1 f1; omega)) | ((have f6_c0 := f6.1); (have f6_c1 := f6.2); (first | have f1_b := f1 (by clear f6_c0 f6_c1 f6 hK_0_1 f1; omega) | skip); (first | have f1_d := f1 (by with_reducible assumption) | skip); (try and_intros) <;> first | with_reducible assumption | (clear f6_c0 f6_c1 f6 hK_0_1 f1; omega)) | omega
set_option maxHeartbeats 4000000 in
theorem vc_Mo_of_at_s5002_40_10 (x14 : Int) (kind_0 : Int) (fault_0 : Int) (from_0 : Int) (pos_0 : Int) (tape_0 : Int → Int) (gx : Int) (k14 : 0 ≤ x14 ∧ x14 ≤ 0) (f1 : (x14 = 1) → ((kind_0 = 3) ∧ (fault_0 = 0))) (f6 : ((kind_0 = 1) → (pos_0 ≤ (from_0 + 8))) ∧ ((kind_0 = 0) ∨ ((from_0 + 1) ≤ pos_0))) (hK_0_1 : ∀ j : Int, 0 ≤ j → j < 2000 → (-128) ≤ tape_0 j ∧ tape_0 j ≤ 127) (kz_0_8 : 0 ≤ fault_0 ∧ fault_0 ≤ 5) (kz_0_11 : 0 ≤ pos_0 ∧ pos_0 ≤ 2000) (kz_0_12 : 0 ≤ kind_0 ∧ kind_0 ≤ 4) (kz_0_15 : 0 ≤ from_0 ∧ from_0 ≤ 2000) (ex2 : gx = 2000 + ((-1) * pos_0 + 0)) : (-1) * gx + ((-1) * pos_0 + 0) ≤ (-2000) := by
  first | with_reducible assumption | ((have f6_c0 := f6.1); (have f6_c1 := f6.2); (try and_intros) <;> first | with_reducible assumption | (clear f6_c0 f6_c1 f6 hK_0_1 f1; omega)) | ((have f6_c0 := f6.1); (have f6_c1 := f6.2); (first | have f1_b := f1 (by clear f6_c0 f6_c1 f6 hK_0_1 f1; omega) | skip); (first | have f1_d := f1 (by with_reducible assumption) | skip); (try and_intros) <;> first | with_reducible assumption | (clear f6_c0 f6_c1 f6 hK_0_1 f1; omega)) | omega
def o_Mo_of_at_s5002_40 : or_T := (17, 15, [(0, (2, 0, 0, [165])), (2, (0, 99, 99, [])), (3, (0, 0, 2000, [])), (4, (0, -1, 48, [])), (5, (0, 0, 7, [])), (6, (0, 0, 4, [])), (7, (2, 0, 0, [165])), (9, (0, 99, 99, [])), (10, (0, -49, 1048575, [])), (11, (0, 0, 0, [])), (12, (0, 0, 2000, [])), (13, (0, 93, 93, [])), (14, (0, 0, 0, []))], [(8, [14], [0]), (20, [14, 7], [50, 2, 0, 1012, 1008, 4, 6, 1, 2, 1, 0, 0, 1, 2, 7, 1, 3, 2, 1, 12, 0, 3, 1, 3, 2, 1, 8, 0, 0]), (20, [7, 13, 14], [60, 3, 0, 963, 8, 12, 14]), (8, [11], [0]), (9, [11, 7], [8]), (20, [7, 7], [30, 0, 1, 1, 15, -1, 1, 11]), (20, [7], [50, 3, 0, 12, 11, 15, 2, 21, 4, 7, 1, 3, 2, 0, 12, 0, 1, 0, 3, 2, 0, 11, 4, 3, 2, 0, 15, 0, 8, 3, 7, 1, 3, 2, 0, 12, 0, 0, 0, 7, 4, 3, 2, 0, 15, 0, 1, 2, 0, 11]), (20, [3, 7], [30, -1, 1, 0, 0, -1, 1, 11]), (23, [10, 9], [0, 1, -1]), (23, [10], [0, -1]), (23, [4], [0, -1]), (20, [12, 7], [30, -2001, -1, 0, 0, -1, 1, 11]), (20, [7, 4, 10, 5, 6], [60, 8, 2, 999, 10, 11, 12, 13, 14, 15, 8, 5, 1, 2]), (24, [0, 7], []), (24, [2, 9], [])], [], [(0, 0, 2000, [])], [(20, [7, 7], [30, 0, 1, 1, 15, -1, 1, 11]), (20, [7], [50, 3, 0, 12, 11, 15, 2, 21, 4, 7, 1, 3, 2, 0, 12, 0, 1, 0, 3, 2, 0, 11, 4, 3, 2, 0, 15, 0, 8, 3, 7, 1, 3, 2, 0, 12, 0, 0, 0, 7, 4, 3, 2, 0, 15, 0, 1, 2, 0, 11]), (20, [3, 7], [30, -1, 1, 0, 0, -1, 1, 11]), (23, [10, 9], [0, 1, -1]), (23, [10], [0, -1]), (23, [4], [0, -1]), (20, [7, 4, 10, 5, 6], [60, 8, 2, 997, 10, 11, 12, 13, 14, 15, 8, 5, 1, 2]), (24, [0, 7], []), (24, [2, 9], []), (20, [15, 7], [30, 2000, 1, 0, 0, 1, 1, 11]), (20, [15, 7], [30, -2000, -1, 0, 0, -1, 1, 11])], [(15, 12, -1000000000000, -1)], [])
theorem oo_Mo_of_at_s5002_40 {kA : Nat → ClassId} : or_ok PRD kA GG o_Mo_of_at_s5002_40 := by
  refine or_mk fun A ta ws vs hD hth hl => ?_
  intro t0 r0 t2 k2 t3 k3 t4 k4 t5 k5 t6 k6 t7 r7 t9 k9 t10 k10 t11 k11 t12 k12 t13 k13 t14 k14 f0 f1 f2 f3 f4 f5 f6 f7 f8 f9 f10 f11 f12 f13 f14
  replace f0 := shm_192 f0
  replace f1 := shm_730 f1
  replace f2 := shm_731 f2
  replace f3 := shm_192 f3
  replace f4 := shm_293 f4
  replace f5 := shm_1437 f5
  replace f6 := shm_1438 f6
  replace f7 := shm_2005 f7
  replace f8 := shm_7 f8
  replace f9 := shm_1043 f9
  replace f10 := shm_1043 f10
  replace f11 := shm_2013 f11
  replace f12 := shm_2014 f12
  replace f13 := shm_5 f13
  replace f14 := shm_5 f14
  have q7 : n_v vs 7 = n_v vs 0 := f13.symm
  have q9 : n_v vs 9 = n_v vs 2 := f14.symm
  simp only [q7, q9] at f1 f2 f4 f5 f6 f7 f8 f11 f12
  have cr_0_1 := fdq_39 hD hth r0
  have cr_0_2 := fdq_10 hD hth r0
  have g4 : v_iv (n_v vs 11) = w_fi ws (n_v vs 0) 8 := congrArg v_iv f4
  have hK_0_1 := elq_7 hD hth cr_0_1
  have kz_0_8 := fdq_34 hD hth r0
  have kz_0_10 := fdq_43 hD hth r0
  have kz_0_11 := fdq_237 hD hth r0
  have kz_0_12 := fdq_187 hD hth r0
  have kz_0_13 := fdq_238 hD hth r0
  have kz_0_14 := fdq_188 hD hth r0
  have kz_0_15 := fdq_239 hD hth r0
  have kb_0_11 := fdq_237 hD hth r0
  obtain ⟨x, ex, hx⟩ := iv_ex (ta := ta) (lo := 0) (hi := 2000) (z := 2000 + ((-1) * w_fi ws (n_v vs 0) 11 + 0)) (by omega) (by omega) (by omega) (by omega)
  have ex2 : v_iv (Value.int x) = 2000 + ((-1) * w_fi ws (n_v vs 0) 11 + 0) := ex
  have ex3 : 0 ≤ v_iv (Value.int x) ∧ v_iv (Value.int x) ≤ 2000 := tv_rng hx
  have e_0 : n_v (vs ++ [Value.int x]) 0 = n_v vs 0 := n_v_old (by rw [hl]; decide)
  have e_2 : n_v (vs ++ [Value.int x]) 2 = n_v vs 2 := n_v_old (by rw [hl]; decide)
  have e_3 : n_v (vs ++ [Value.int x]) 3 = n_v vs 3 := n_v_old (by rw [hl]; decide)
  have e_4 : n_v (vs ++ [Value.int x]) 4 = n_v vs 4 := n_v_old (by rw [hl]; decide)
  have e_5 : n_v (vs ++ [Value.int x]) 5 = n_v vs 5 := n_v_old (by rw [hl]; decide)
  have e_6 : n_v (vs ++ [Value.int x]) 6 = n_v vs 6 := n_v_old (by rw [hl]; decide)
  have e_7 : n_v (vs ++ [Value.int x]) 7 = n_v vs 7 := n_v_old (by rw [hl]; decide)
  have e_9 : n_v (vs ++ [Value.int x]) 9 = n_v vs 9 := n_v_old (by rw [hl]; decide)
  have e_10 : n_v (vs ++ [Value.int x]) 10 = n_v vs 10 := n_v_old (by rw [hl]; decide)
  have e_15 : n_v (vs ++ [Value.int x]) 15 = Value.int x := n_v_new hl
  have nf0 : fc_1 PRD (20, [7, 7], [30, 0, 1, 1, 15, -1, 1, 11]) ws (vs ++ [Value.int x]) := by
    refine ⟨nf_inA hl rfl, sgq_1437 ?_⟩
    · show 1 * w_fi ws (n_v (vs ++ [Value.int x]) 7) 15 + ((-1) * w_fi ws (n_v (vs ++ [Value.int x]) 7) 11 + 0) ≤ 0
      simp only [e_7, q7]
      exact vc_Mo_of_at_s5002_40_0 (v_iv (n_v vs 14)) (w_fi ws (n_v vs 0) 12) (w_fi ws (n_v vs 0) 8) (w_fi ws (n_v vs 0) 15) (w_fi ws (n_v vs 0) 11) (w_ei ws (w_ar ws (n_v vs 0) 1)) k14 f1 f5 f6 hK_0_1 kz_0_8 kz_0_11 kz_0_12 kz_0_15
  have nf1 : fc_1 PRD (20, [7], [50, 3, 0, 12, 11, 15, 2, 21, 4, 7, 1, 3, 2, 0, 12, 0, 1, 0, 3, 2, 0, 11, 4, 3, 2, 0, 15, 0, 8, 3, 7, 1, 3, 2, 0, 12, 0, 0, 0, 7, 4, 3, 2, 0, 15, 0, 1, 2, 0, 11]) ws (vs ++ [Value.int x]) := by
    refine ⟨nf_inA hl rfl, sgq_1438 ?_⟩
    · show ((w_fi ws (n_v (vs ++ [Value.int x]) 7) 12 = 1) → (w_fi ws (n_v (vs ++ [Value.int x]) 7) 11 ≤ (w_fi ws (n_v (vs ++ [Value.int x]) 7) 15 + 8))) ∧ ((w_fi ws (n_v (vs ++ [Value.int x]) 7) 12 = 0) ∨ ((w_fi ws (n_v (vs ++ [Value.int x]) 7) 15 + 1) ≤ w_fi ws (n_v (vs ++ [Value.int x]) 7) 11))
      simp only [e_7, q7]
      exact vc_Mo_of_at_s5002_40_1 (v_iv (n_v vs 14)) (w_fi ws (n_v vs 0) 12) (w_fi ws (n_v vs 0) 8) (w_fi ws (n_v vs 0) 15) (w_fi ws (n_v vs 0) 11) (w_ei ws (w_ar ws (n_v vs 0) 1)) k14 f1 f6 hK_0_1 kz_0_8 kz_0_11 kz_0_12 kz_0_15
  have nf2 : fc_1 PRD (20, [3, 7], [30, -1, 1, 0, 0, -1, 1, 11]) ws (vs ++ [Value.int x]) := by
    refine ⟨nf_inA hl rfl, sgq_2005 ?_⟩
    · show 1 * v_iv (n_v (vs ++ [Value.int x]) 3) + ((-1) * w_fi ws (n_v (vs ++ [Value.int x]) 7) 11 + 0) ≤ (-1)
      simp only [e_3, e_7, q7]
      exact vc_Mo_of_at_s5002_40_2 (v_iv (n_v vs 3)) (v_iv (n_v vs 14)) (w_fi ws (n_v vs 0) 12) (w_fi ws (n_v vs 0) 8) (w_fi ws (n_v vs 0) 15) (w_fi ws (n_v vs 0) 11) (w_ei ws (w_ar ws (n_v vs 0) 1)) k3 k14 f1 f6 f7 hK_0_1 kz_0_8 kz_0_11 kz_0_12 kz_0_15
  have nf3 : fc_1 PRD (23, [10, 9], [0, 1, -1]) ws (vs ++ [Value.int x]) := by
    refine ⟨nf_inA hl rfl, sgq_7 ?_⟩
    · show 1 * v_iv (n_v (vs ++ [Value.int x]) 10) + ((-1) * v_iv (n_v (vs ++ [Value.int x]) 9) + 0) ≤ 0
      simp only [e_9, e_10, q9]
      exact vc_Mo_of_at_s5002_40_3 (v_iv (n_v vs 2)) (v_iv (n_v vs 10)) (v_iv (n_v vs 14)) (w_fi ws (n_v vs 0) 12) (w_fi ws (n_v vs 0) 8) (w_fi ws (n_v vs 0) 15) (w_fi ws (n_v vs 0) 11) (w_ei ws (w_ar ws (n_v vs 0) 1)) k2 k10 k14 f1 f6 f8 hK_0_1 kz_0_8 kz_0_11 kz_0_12 kz_0_15
  have nf4 : fc_1 PRD (23, [10], [0, -1]) ws (vs ++ [Value.int x]) := by
    refine ⟨nf_inA hl rfl, sgq_1043 ?_⟩
    · show (-1) * v_iv (n_v (vs ++ [Value.int x]) 10) + 0 ≤ 0
      rw [e_10]
      exact vc_Mo_of_at_s5002_40_4 (v_iv (n_v vs 10)) (v_iv (n_v vs 14)) (w_fi ws (n_v vs 0) 12) (w_fi ws (n_v vs 0) 8) (w_fi ws (n_v vs 0) 15) (w_fi ws (n_v vs 0) 11) (w_ei ws (w_ar ws (n_v vs 0) 1)) k10 k14 f1 f6 f9 hK_0_1 kz_0_8 kz_0_11 kz_0_12 kz_0_15
  have nf5 : fc_1 PRD (23, [4], [0, -1]) ws (vs ++ [Value.int x]) := by
    refine ⟨nf_inA hl rfl, sgq_1043 ?_⟩
    · show (-1) * v_iv (n_v (vs ++ [Value.int x]) 4) + 0 ≤ 0
      rw [e_4]
      exact vc_Mo_of_at_s5002_40_5 (v_iv (n_v vs 4)) (v_iv (n_v vs 14)) (w_fi ws (n_v vs 0) 12) (w_fi ws (n_v vs 0) 8) (w_fi ws (n_v vs 0) 15) (w_fi ws (n_v vs 0) 11) (w_ei ws (w_ar ws (n_v vs 0) 1)) k4 k14 f1 f6 f10 hK_0_1 kz_0_8 kz_0_11 kz_0_12 kz_0_15
  have nf6 : fc_1 PRD (20, [7, 4, 10, 5, 6], [60, 8, 2, 997, 10, 11, 12, 13, 14, 15, 8, 5, 1, 2]) ws (vs ++ [Value.int x]) := by
    refine ⟨nf_inA hl rfl, sgq_2006 ?_⟩
    · show zOIs (w_fi ws (n_v (vs ++ [Value.int x]) 7) 10) (w_fi ws (n_v (vs ++ [Value.int x]) 7) 11) (w_fi ws (n_v (vs ++ [Value.int x]) 7) 12) (w_fi ws (n_v (vs ++ [Value.int x]) 7) 13) (w_fi ws (n_v (vs ++ [Value.int x]) 7) 14) (w_fi ws (n_v (vs ++ [Value.int x]) 7) 15) (w_fi ws (n_v (vs ++ [Value.int x]) 7) 8) (w_fi ws (n_v (vs ++ [Value.int x]) 7) 5) (w_ei ws (w_ar ws (n_v (vs ++ [Value.int x]) 7) 1)) (w_ei ws (w_ar ws (n_v (vs ++ [Value.int x]) 7) 2)) (v_iv (n_v (vs ++ [Value.int x]) 4)) (v_iv (n_v (vs ++ [Value.int x]) 10)) (v_iv (n_v (vs ++ [Value.int x]) 5)) (v_iv (n_v (vs ++ [Value.int x]) 6))
      simp only [e_4, e_5, e_6, e_7, e_10, q7]
      exact vc_Mo_of_at_s5002_40_6 (v_iv (n_v vs 4)) (v_iv (n_v vs 5)) (v_iv (n_v vs 6)) (v_iv (n_v vs 10)) (v_iv (n_v vs 11)) (v_iv (n_v vs 13)) (v_iv (n_v vs 14)) (w_fi ws (n_v vs 0) 12) (w_fi ws (n_v vs 0) 8) (w_fi ws (n_v vs 0) 14) (w_fi ws (n_v vs 0) 15) (w_fi ws (n_v vs 0) 11) (w_ei ws (w_ar ws (n_v vs 0) 1)) (w_ei ws (w_ar ws (n_v vs 0) 2)) (w_fi ws (n_v vs 0) 10) (w_fi ws (n_v vs 0) 13) (w_fi ws (n_v vs 0) 5) k4 k5 k6 k10 k11 k13 k14 f0 f2 g4 f12 kz_0_8 kz_0_10 kz_0_11 kz_0_12 kz_0_13 kz_0_14 kz_0_15
  have nf7 : fc_1 PRD (24, [0, 7], []) ws (vs ++ [Value.int x]) := by
    refine ⟨nf_inA hl rfl, sgq_5 ?_⟩
    · show n_v (vs ++ [Value.int x]) 0 = n_v (vs ++ [Value.int x]) 7
      first | rfl | simp only [e_0, e_7, q7, q9]
  have nf8 : fc_1 PRD (24, [2, 9], []) ws (vs ++ [Value.int x]) := by
    refine ⟨nf_inA hl rfl, sgq_5 ?_⟩
    · show n_v (vs ++ [Value.int x]) 2 = n_v (vs ++ [Value.int x]) 9
      first | rfl | simp only [e_2, e_9, q7, q9]
  have nf9 : fc_1 PRD (20, [15, 7], [30, 2000, 1, 0, 0, 1, 1, 11]) ws (vs ++ [Value.int x]) := by
    refine ⟨nf_inA hl rfl, sgq_2007 ?_⟩
    · show 1 * v_iv (n_v (vs ++ [Value.int x]) 15) + (1 * w_fi ws (n_v (vs ++ [Value.int x]) 7) 11 + 0) ≤ 2000
      simp only [e_7, e_15, q7]
      exact vc_Mo_of_at_s5002_40_9 (v_iv (n_v vs 14)) (w_fi ws (n_v vs 0) 12) (w_fi ws (n_v vs 0) 8) (w_fi ws (n_v vs 0) 15) (w_fi ws (n_v vs 0) 11) (w_ei ws (w_ar ws (n_v vs 0) 1)) (v_iv (Value.int x)) k14 f1 f6 hK_0_1 kz_0_8 kz_0_11 kz_0_12 kz_0_15 ex2
  have nf10 : fc_1 PRD (20, [15, 7], [30, -2000, -1, 0, 0, -1, 1, 11]) ws (vs ++ [Value.int x]) := by
    refine ⟨nf_inA hl rfl, sgq_2008 ?_⟩
    · show (-1) * v_iv (n_v (vs ++ [Value.int x]) 15) + ((-1) * w_fi ws (n_v (vs ++ [Value.int x]) 7) 11 + 0) ≤ (-2000)
      simp only [e_7, e_15, q7]
      exact vc_Mo_of_at_s5002_40_10 (v_iv (n_v vs 14)) (w_fi ws (n_v vs 0) 12) (w_fi ws (n_v vs 0) 8) (w_fi ws (n_v vs 0) 15) (w_fi ws (n_v vs 0) 11) (w_ei ws (w_ar ws (n_v vs 0) 1)) (v_iv (Value.int x)) k14 f1 f6 hK_0_1 kz_0_8 kz_0_11 kz_0_12 kz_0_15 ex2
  obtain ⟨x0, e0, _, _⟩ := tv_int t12 rfl
  have e1 : v_iv (n_v vs 12) = x0.toInt := by rw [e0]; rfl
  have ho : sy_ofs (vs ++ [Value.int x]) (15, 12, -1000000000000, -1) := by
    refine ⟨x, x0, by rw [List.getElem?_append_right (by rw [hl]; decide), hl]; rfl, ?_, ?_, ?_⟩
    · rw [List.getElem?_append_left (by rw [hl]; decide)]; exact n_v_some (by rw [hl]; decide) e0
    · show x0.toInt + (-1000000000000) ≤ x.toInt; omega
    · show x.toInt ≤ x0.toInt + (-1); omega
  exact ⟨(fun _ h => (by cases h)), [Value.int x], ag_one hx, List.forall_mem_cons.mpr ⟨⟨show (20 : Nat) < 100 from by decide, nf0⟩, List.forall_mem_cons.mpr ⟨⟨show (20 : Nat) < 100 from by decide, nf1⟩, List.forall_mem_cons.mpr ⟨⟨show (20 : Nat) < 100 from by decide, nf2⟩, List.forall_mem_cons.mpr ⟨⟨show (23 : Nat) < 100 from by decide, nf3⟩, List.forall_mem_cons.mpr ⟨⟨show (23 : Nat) < 100 from by decide, nf4⟩, List.forall_mem_cons.mpr ⟨⟨show (23 : Nat) < 100 from by decide, nf5⟩, List.forall_mem_cons.mpr ⟨⟨show (20 : Nat) < 100 from by decide, nf6⟩, List.forall_mem_cons.mpr ⟨⟨show (24 : Nat) < 100 from by decide, nf7⟩, List.forall_mem_cons.mpr ⟨⟨show (24 : Nat) < 100 from by decide, nf8⟩, List.forall_mem_cons.mpr ⟨⟨show (20 : Nat) < 100 from by decide, nf9⟩, List.forall_mem_cons.mpr ⟨⟨show (20 : Nat) < 100 from by decide, nf10⟩, (fun _ h => (by cases h))⟩⟩⟩⟩⟩⟩⟩⟩⟩⟩⟩, List.forall_mem_cons.mpr ⟨ho, (fun _ h => (by cases h))⟩⟩
set_option maxHeartbeats 4000000 in
theorem vc_Mo_of_at_s5002_41_0 (x3 : Int) (gx : Int) (k3 : 0 ≤ x3 ∧ x3 ≤ 2000) (ex2 : gx = x3) : 1 * gx + ((-1) * x3 + 0) ≤ 0 := by
  first
    | exact (‹zO12s _ _ _ _ _ _ _ _ _ _ _ _ _ _›).2.1
    | exact (‹zO12w _ _ _ _ _ _ _ _ _ _ _ _ _ _›).1
    | omega
set_option maxHeartbeats 4000000 in
theorem vc_Mo_of_at_s5002_41_1 (x3 : Int) (gx : Int) (k3 : 0 ≤ x3 ∧ x3 ≤ 2000) (ex2 : gx = x3) : (-1) * gx + (1 * x3 + 0) ≤ 0 := by
  first
    | exact (‹zO12s _ _ _ _ _ _ _ _ _ _ _ _ _ _›).2.1
    | exact (‹zO12w _ _ _ _ _ _ _ _ _ _ _ _ _ _›).1
    | omega
set_option maxHeartbeats 4000000 in
theorem vc_Mo_of_at_s5002_41_2 (x4 : Int) (gy : Int) (k4 : (-1) ≤ x4 ∧ x4 ≤ 48) (ey2 : gy = x4) : 1 * gy + ((-1) * x4 + 0) ≤ 0 := by
  first
    | exact (‹zO12s _ _ _ _ _ _ _ _ _ _ _ _ _ _›).2.1
    | exact (‹zO12w _ _ _ _ _ _ _ _ _ _ _ _ _ _›).1
    | omega
set_option maxHeartbeats 4000000 in
theorem vc_Mo_of_at_s5002_41_3 (x4 : Int) (gy : Int) (k4 : (-1) ≤ x4 ∧ x4 ≤ 48) (ey2 : gy = x4) : (-1) * gy + (1 * x4 + 0) ≤ 0 := by
  first
    | exact (‹zO12s _ _ _ _ _ _ _ _ _ _ _ _ _ _›).2.1
    | exact (‹zO12w _ _ _ _ _ _ _ _ _ _ _ _ _ _›).1
    | omega
set_option maxHeartbeats 4000000 in
theorem vc_Mo_of_at_s5002_41_4 (x10 : Int) (gu : Int) (k10 : (-49) ≤ x10 ∧ x10 ≤ 1048575) (eu2 : gu = x10) : 1 * gu + ((-1) * x10 + 0) ≤ 0 := by
  first
    | exact (‹zO12s _ _ _ _ _ _ _ _ _ _ _ _ _ _›).2.1
    | exact (‹zO12w _ _ _ _ _ _ _ _ _ _ _ _ _ _›).1
    | omega
set_option maxHeartbeats 4000000 in
theorem vc_Mo_of_at_s5002_41_5 (x10 : Int) (gu : Int) (k10 : (-49) ≤ x10 ∧ x10 ≤ 1048575) (eu2 : gu = x10) : (-1) * gu + (1 * x10 + 0) ≤ 0 := by
  first
    | exact (‹zO12s _ _ _ _ _ _ _ _ _ _ _ _ _ _›).2.1
    | exact (‹zO12w _ _ _ _ _ _ _ _ _ _ _ _ _ _›).1
    | omega
set_option maxHeartbeats 4000000 in
theorem vc_Mo_of_at_s5002_41_6 (x5 : Int) (gw : Int) (k5 : 0 ≤ x5 ∧ x5 ≤ 7) (ew2 : gw = x5) : 1 * gw + ((-1) * x5 + 0) ≤ 0 := by
  first
    | exact (‹zO12s _ _ _ _ _ _ _ _ _ _ _ _ _ _›).2.1
    | exact (‹zO12w _ _ _ _ _ _ _ _ _ _ _ _ _ _›).1
    | omega
set_option maxHeartbeats 4000000 in
theorem vc_Mo_of_at_s5002_41_7 (x5 : Int) (gw : Int) (k5 : 0 ≤ x5 ∧ x5 ≤ 7) (ew2 : gw = x5) : (-1) * gw + (1 * x5 + 0) ≤ 0 := by
  first
    | exact (‹zO12s _ _ _ _ _ _ _ _ _ _ _ _ _ _›).2.1
    | exact (‹zO12w _ _ _ _ _ _ _ _ _ _ _ _ _ _›).1
    | omega
set_option maxHeartbeats 4000000 in
theorem vc_Mo_of_at_s5002_41_8 (x6 : Int) (gc : Int) (k6 : 0 ≤ x6 ∧ x6 ≤ 4) (ec2 : gc = x6) : 1 * gc + ((-1) * x6 + 0) ≤ 0 := by
  first
    | exact (‹zO12s _ _ _ _ _ _ _ _ _ _ _ _ _ _›).2.1
    | exact (‹zO12w _ _ _ _ _ _ _ _ _ _ _ _ _ _›).1
    | omega
set_option maxHeartbeats 4000000 in
theorem vc_Mo_of_at_s5002_41_9 (x6 : Int) (gc : Int) (k6 : 0 ≤ x6 ∧ x6 ≤ 4) (ec2 : gc = x6) : (-1) * gc + (1 * x6 + 0) ≤ 0 := by
  first
    | exact (‹zO12s _ _ _ _ _ _ _ _ _ _ _ _ _ _›).2.1
    | exact (‹zO12w _ _ _ _ _ _ _ _ _ _ _ _ _ _›).1
    | omega
set_option maxHeartbeats 4000000 in
theorem vc_Mo_of_at_s5002_41_10 (from_0 : Int) (pos_0 : Int) (f5 : 1 * from_0 + ((-1) * pos_0 + 0) ≤ 0) (kz_0_11 : 0 ≤ pos_0 ∧ pos_0 ≤ 2000) (kz_0_15 : 0 ≤ from_0 ∧ from_0 ≤ 2000) : 1 * from_0 + ((-1) * pos_0 + 0) ≤ 0 := by
  first
    | exact (‹zO12s _ _ _ _ _ _ _ _ _ _ _ _ _ _›).2.1
    | exact (‹zO12w _ _ _ _ _ _ _ _ _ _ _ _ _ _›).1
    | omega
set_option maxHeartbeats 4000000 in
theorem vc_Mo_of_at_s5002_41_11 (kind_0 : Int) (from_0 : Int) (pos_0 : Int) (f6 : ((kind_0 = 1) → (pos_0 ≤ (from_0 + 8))) ∧ ((kind_0 = 0) ∨ ((from_0 + 1) ≤ pos_0))) (kz_0_11 : 0 ≤ pos_0 ∧ pos_0 ≤ 2000) (kz_0_12 : 0 ≤ kind_0 ∧ kind_0 ≤ 4) (kz_0_15 : 0 ≤ from_0 ∧ from_0 ≤ 2000) : ((kind_0 = 1) → (pos_0 ≤ (from_0 + 8))) ∧ ((kind_0 = 0) ∨ ((from_0 + 1) ≤ pos_0)) := by
  first
    | exact (‹zO12s _ _ _ _ _ _ _ _ _ _ _ _ _ _›).2.1
    | exact (‹zO12w _ _ _ _ _ _ _ _ _ _ _ _ _ _›).1
    | omega
end
section

set_option maxHeartbeats 4000000 in
theorem vc_Mo_of_at_s5002_41_12 (x3 : Int) (pos_0 : Int) (gx : Int) (k3 : 0 ≤ x3 ∧ x3 ≤ 2000) (f7 : 1 * x3 + ((-1) * pos_0 + 0) ≤ (-1)) (kz_0_11 : 0 ≤ pos_0 ∧ pos_0 ≤ 2000) (ex2 : gx = x3) : 1 * gx + ((-1) * pos_0 + 0) ≤ 0 := by
  first
    | exact (‹zO12s _ _ _ _ _ _ _ _ _ _ _ _ _ _›).2.1
    | exact (‹zO12w _ _ _ _ _ _ _ _ _ _ _ _ _ _›).1
    | omega
set_option maxHeartbeats 4000000 in
theorem vc_Mo_of_at_s5002_41_13 (x3 : Int) (kind_0 : Int) (fault_0 : Int) (pos_0 : Int) (gx : Int) (k3 : 0 ≤ x3 ∧ x3 ≤ 2000) (f7 : 1 * x3 + ((-1) * pos_0 + 0) ≤ (-1)) (kz_0_8 : 0 ≤ fault_0 ∧ fault_0 ≤ 5) (kz_0_11 : 0 ≤ pos_0 ∧ pos_0 ≤ 2000) (kz_0_12 : 0 ≤ kind_0 ∧ kind_0 ≤ 4) (ex2 : gx = x3) : (1 ≤ fault_0) ∨ ((kind_0 = 0) ∨ ((gx + 1) ≤ pos_0)) := by
  first
    | exact (‹zO12s _ _ _ _ _ _ _ _ _ _ _ _ _ _›).2.1
    | exact (‹zO12w _ _ _ _ _ _ _ _ _ _ _ _ _ _›).1
    | omega
set_option maxHeartbeats 4000000 in
theorem vc_Mo_of_at_s5002_41_14 (x3 : Int) (x4 : Int) (x5 : Int) (x6 : Int) (x10 : Int) (x11 : Int) (x13 : Int) (x14 : Int) (kind_0 : Int) (fault_0 : Int) (value_0 : Int) (from_0 : Int) (pos_0 : Int) (tape_0 : Int → Int) (all_0 : Int → Int) (limit_0 : Int) (place_0 : Int) (r_0 : Int) (gx : Int) (gy : Int) (gu : Int) (gw : Int) (gc : Int) (k3 : 0 ≤ x3 ∧ x3 ≤ 2000) (k4 : (-1) ≤ x4 ∧ x4 ≤ 48) (k5 : 0 ≤ x5 ∧ x5 ≤ 7) (k6 : 0 ≤ x6 ∧ x6 ≤ 4) (k10 : (-49) ≤ x10 ∧ x10 ≤ 1048575) (k11 : 0 ≤ x11 ∧ x11 ≤ 0) (k13 : 93 ≤ x13 ∧ x13 ≤ 93) (k14 : 1 ≤ x14 ∧ x14 ≤ 1) (f0 : x14 ≠ 0) (f2 : SGQ (fault_0) (kind_0) (value_0) (x13) (x14)) (g4 : x11 = fault_0) (f12 : zO12s (limit_0) (pos_0) (kind_0) (place_0) (value_0) (from_0) (fault_0) (r_0) (tape_0) (all_0) (x4) (x10) (x5) (x6)) (kz_0_8 : 0 ≤ fault_0 ∧ fault_0 ≤ 5) (kz_0_10 : 0 ≤ limit_0 ∧ limit_0 ≤ 2000) (kz_0_11 : 0 ≤ pos_0 ∧ pos_0 ≤ 2000) (kz_0_12 : 0 ≤ kind_0 ∧ kind_0 ≤ 4) (kz_0_13 : 0 ≤ place_0 ∧ place_0 ≤ 2000) (kz_0_14 : (-49) ≤ value_0 ∧ value_0 ≤ 1048575) (kz_0_15 : 0 ≤ from_0 ∧ from_0 ≤ 2000) (ex2 : gx = x3) (ey2 : gy = x4) (eu2 : gu = x10) (ew2 : gw = x5) (ec2 : gc = x6) : zNbs (limit_0) (pos_0) (kind_0) (place_0) (value_0) (from_0) (fault_0) (r_0) (tape_0) (all_0) (gy) (gu) (gw) (gc) := by
  first | subst g4 | skip
  first | subst ex2 | skip
  first | subst ey2 | skip
  first | subst eu2 | skip
  first | subst ew2 | skip
  first | subst ec2 | skip
  first
    | exact of_end_s ‹zO12s _ _ _ _ _ _ _ _ _ _ _ _ _ _› (Or.inl (by omega))
    | exact of_end_s ‹zO12s _ _ _ _ _ _ _ _ _ _ _ _ _ _› (Or.inr (sgq_t (C := 93) ‹SGQ _ _ _ _ _› (by omega) (by omega)))
    | (exfalso; omega)
set_option maxHeartbeats 4000000 in
theorem vc_Mo_of_at_s5002_41_15 (x4 : Int) (x5 : Int) (x6 : Int) (x10 : Int) (kind_0 : Int) (fault_0 : Int) (value_0 : Int) (from_0 : Int) (pos_0 : Int) (tape_0 : Int → Int) (all_0 : Int → Int) (limit_0 : Int) (place_0 : Int) (r_0 : Int) (k4 : (-1) ≤ x4 ∧ x4 ≤ 48) (k5 : 0 ≤ x5 ∧ x5 ≤ 7) (k6 : 0 ≤ x6 ∧ x6 ≤ 4) (k10 : (-49) ≤ x10 ∧ x10 ≤ 1048575) (f12 : zO12s (limit_0) (pos_0) (kind_0) (place_0) (value_0) (from_0) (fault_0) (r_0) (tape_0) (all_0) (x4) (x10) (x5) (x6)) (kz_0_8 : 0 ≤ fault_0 ∧ fault_0 ≤ 5) (kz_0_10 : 0 ≤ limit_0 ∧ limit_0 ≤ 2000) (kz_0_11 : 0 ≤ pos_0 ∧ pos_0 ≤ 2000) (kz_0_12 : 0 ≤ kind_0 ∧ kind_0 ≤ 4) (kz_0_13 : 0 ≤ place_0 ∧ place_0 ≤ 2000) (kz_0_14 : (-49) ≤ value_0 ∧ value_0 ≤ 1048575) (kz_0_15 : 0 ≤ from_0 ∧ from_0 ≤ 2000) : 1 ≤ x10 := by
  first
    | exact (‹zO12s _ _ _ _ _ _ _ _ _ _ _ _ _ _›).2.1
    | exact (‹zO12w _ _ _ _ _ _ _ _ _ _ _ _ _ _›).1
    | omega
def o_Mo_of_at_s5002_41 : or_T := (158, 16, [(0, (2, 0, 0, [165])), (3, (0, 0, 2000, [])), (4, (0, -1, 48, [])), (5, (0, 0, 7, [])), (6, (0, 0, 4, [])), (10, (0, -49, 1048575, [])), (11, (0, 0, 0, [])), (13, (0, 93, 93, [])), (14, (0, 1, 1, []))], [(8, [14], [1]), (20, [7, 13, 14], [60, 3, 0, 963, 8, 12, 14]), (9, [11, 7], [8]), (20, [7, 7], [30, 0, 1, 1, 15, -1, 1, 11]), (20, [7], [50, 3, 0, 12, 11, 15, 2, 21, 4, 7, 1, 3, 2, 0, 12, 0, 1, 0, 3, 2, 0, 11, 4, 3, 2, 0, 15, 0, 8, 3, 7, 1, 3, 2, 0, 12, 0, 0, 0, 7, 4, 3, 2, 0, 15, 0, 1, 2, 0, 11]), (20, [3, 7], [30, -1, 1, 0, 0, -1, 1, 11]), (20, [7, 4, 10, 5, 6], [60, 8, 2, 999, 10, 11, 12, 13, 14, 15, 8, 5, 1, 2]), (24, [0, 7], [])], [], [(0, 0, 2000, []), (0, -1, 48, []), (0, -2147483648, 2147483647, []), (0, 0, 7, []), (0, 0, 4, [])], [(23, [16, 3], [0, 1, -1]), (23, [16, 3], [0, -1, 1]), (23, [17, 4], [0, 1, -1]), (23, [17, 4], [0, -1, 1]), (23, [18, 10], [0, 1, -1]), (23, [18, 10], [0, -1, 1]), (23, [19, 5], [0, 1, -1]), (23, [19, 5], [0, -1, 1]), (23, [20, 6], [0, 1, -1]), (23, [20, 6], [0, -1, 1]), (20, [7, 7], [30, 0, 1, 1, 15, -1, 1, 11]), (20, [7], [50, 3, 0, 12, 11, 15, 2, 21, 4, 7, 1, 3, 2, 0, 12, 0, 1, 0, 3, 2, 0, 11, 4, 3, 2, 0, 15, 0, 8, 3, 7, 1, 3, 2, 0, 12, 0, 0, 0, 7, 4, 3, 2, 0, 15, 0, 1, 2, 0, 11]), (20, [16, 7], [30, 0, 1, 0, 0, -1, 1, 11]), (20, [7, 16], [50, 3, 0, 8, 12, 11, 3, 7, 0, 2, 0, 1, 2, 0, 8, 3, 7, 1, 3, 2, 0, 12, 0, 0, 0, 6, 4, 2, 1, 1, 0, 1, 2, 0, 11]), (20, [7, 17, 18, 19, 20], [60, 8, 2, 1001, 10, 11, 12, 13, 14, 15, 8, 5, 1, 2]), (20, [10], [50, 0, 0, 0, 2, 0, 1, 1, 0])], [], [])
theorem oo_Mo_of_at_s5002_41 {kA : Nat → ClassId} : or_ok PRD kA GG o_Mo_of_at_s5002_41 := by
  refine or_mk fun A ta ws vs hD hth hl => ?_
  intro t0 r0 t3 k3 t4 k4 t5 k5 t6 k6 t10 k10 t11 k11 t13 k13 t14 k14 f0 f2 f4 f5 f6 f7 f12 f13
  replace f0 := shm_142 f0
  replace f2 := shm_731 f2
  replace f4 := shm_293 f4
  replace f5 := shm_1437 f5
  replace f6 := shm_1438 f6
  replace f7 := shm_2005 f7
  replace f12 := shm_2014 f12
  replace f13 := shm_5 f13
  have q7 : n_v vs 7 = n_v vs 0 := f13.symm
  simp only [q7] at f2 f4 f5 f6 f7 f12
  have g4 : v_iv (n_v vs 11) = w_fi ws (n_v vs 0) 8 := congrArg v_iv f4
  have kz_0_8 := fdq_34 hD hth r0
  have kz_0_10 := fdq_43 hD hth r0
  have kz_0_11 := fdq_237 hD hth r0
  have kz_0_12 := fdq_187 hD hth r0
  have kz_0_13 := fdq_238 hD hth r0
  have kz_0_14 := fdq_188 hD hth r0
  have kz_0_15 := fdq_239 hD hth r0
  obtain ⟨x, ex, hx⟩ := iv_ex (ta := ta) (lo := 0) (hi := 2000) (z := v_iv (n_v vs 3)) (by omega) (by omega) (by omega) (by omega)
  have ex2 : v_iv (Value.int x) = v_iv (n_v vs 3) := ex
  have ex3 : 0 ≤ v_iv (Value.int x) ∧ v_iv (Value.int x) ≤ 2000 := tv_rng hx
  obtain ⟨y, ey, hy⟩ := iv_ex (ta := ta) (lo := (-1)) (hi := 48) (z := v_iv (n_v vs 4)) (by omega) (by omega) (by omega) (by omega)
  have ey2 : v_iv (Value.int y) = v_iv (n_v vs 4) := ey
  have ey3 : (-1) ≤ v_iv (Value.int y) ∧ v_iv (Value.int y) ≤ 48 := tv_rng hy
  obtain ⟨u, eu, hu⟩ := iv_ex (ta := ta) (lo := (-2147483648)) (hi := 2147483647) (z := v_iv (n_v vs 10)) (by omega) (by omega) (by omega) (by omega)
  have eu2 : v_iv (Value.int u) = v_iv (n_v vs 10) := eu
  have eu3 : (-2147483648) ≤ v_iv (Value.int u) ∧ v_iv (Value.int u) ≤ 2147483647 := tv_rng hu
  obtain ⟨w, ew, hw⟩ := iv_ex (ta := ta) (lo := 0) (hi := 7) (z := v_iv (n_v vs 5)) (by omega) (by omega) (by omega) (by omega)
  have ew2 : v_iv (Value.int w) = v_iv (n_v vs 5) := ew
  have ew3 : 0 ≤ v_iv (Value.int w) ∧ v_iv (Value.int w) ≤ 7 := tv_rng hw
  obtain ⟨c, ec, hc⟩ := iv_ex (ta := ta) (lo := 0) (hi := 4) (z := v_iv (n_v vs 6)) (by omega) (by omega) (by omega) (by omega)
  have ec2 : v_iv (Value.int c) = v_iv (n_v vs 6) := ec
  have ec3 : 0 ≤ v_iv (Value.int c) ∧ v_iv (Value.int c) ≤ 4 := tv_rng hc
  have e_3 : n_v (vs ++ [Value.int x, Value.int y, Value.int u, Value.int w, Value.int c]) 3 = n_v vs 3 := n_v_old (by rw [hl]; decide)
  have e_4 : n_v (vs ++ [Value.int x, Value.int y, Value.int u, Value.int w, Value.int c]) 4 = n_v vs 4 := n_v_old (by rw [hl]; decide)
  have e_5 : n_v (vs ++ [Value.int x, Value.int y, Value.int u, Value.int w, Value.int c]) 5 = n_v vs 5 := n_v_old (by rw [hl]; decide)
  have e_6 : n_v (vs ++ [Value.int x, Value.int y, Value.int u, Value.int w, Value.int c]) 6 = n_v vs 6 := n_v_old (by rw [hl]; decide)
  have e_7 : n_v (vs ++ [Value.int x, Value.int y, Value.int u, Value.int w, Value.int c]) 7 = n_v vs 7 := n_v_old (by rw [hl]; decide)
  have e_10 : n_v (vs ++ [Value.int x, Value.int y, Value.int u, Value.int w, Value.int c]) 10 = n_v vs 10 := n_v_old (by rw [hl]; decide)
  have e_16 : n_v (vs ++ [Value.int x, Value.int y, Value.int u, Value.int w, Value.int c]) 16 = Value.int x := n_v_newk (k := 0) hl rfl
  have e_17 : n_v (vs ++ [Value.int x, Value.int y, Value.int u, Value.int w, Value.int c]) 17 = Value.int y := n_v_newk (k := 1) hl rfl
  have e_18 : n_v (vs ++ [Value.int x, Value.int y, Value.int u, Value.int w, Value.int c]) 18 = Value.int u := n_v_newk (k := 2) hl rfl
  have e_19 : n_v (vs ++ [Value.int x, Value.int y, Value.int u, Value.int w, Value.int c]) 19 = Value.int w := n_v_newk (k := 3) hl rfl
  have e_20 : n_v (vs ++ [Value.int x, Value.int y, Value.int u, Value.int w, Value.int c]) 20 = Value.int c := n_v_newk (k := 4) hl rfl
  have nf0 : fc_1 PRD (23, [16, 3], [0, 1, -1]) ws (vs ++ [Value.int x, Value.int y, Value.int u, Value.int w, Value.int c]) := by
    refine ⟨nf_inA hl rfl, sgq_7 ?_⟩
    · show 1 * v_iv (n_v (vs ++ [Value.int x, Value.int y, Value.int u, Value.int w, Value.int c]) 16) + ((-1) * v_iv (n_v (vs ++ [Value.int x, Value.int y, Value.int u, Value.int w, Value.int c]) 3) + 0) ≤ 0
      simp only [e_3, e_16]
      exact vc_Mo_of_at_s5002_41_0 (v_iv (n_v vs 3)) (v_iv (Value.int x)) k3 ex2
  have nf1 : fc_1 PRD (23, [16, 3], [0, -1, 1]) ws (vs ++ [Value.int x, Value.int y, Value.int u, Value.int w, Value.int c]) := by
    refine ⟨nf_inA hl rfl, sgq_22 ?_⟩
    · show (-1) * v_iv (n_v (vs ++ [Value.int x, Value.int y, Value.int u, Value.int w, Value.int c]) 16) + (1 * v_iv (n_v (vs ++ [Value.int x, Value.int y, Value.int u, Value.int w, Value.int c]) 3) + 0) ≤ 0
      simp only [e_3, e_16]
      exact vc_Mo_of_at_s5002_41_1 (v_iv (n_v vs 3)) (v_iv (Value.int x)) k3 ex2
  have nf2 : fc_1 PRD (23, [17, 4], [0, 1, -1]) ws (vs ++ [Value.int x, Value.int y, Value.int u, Value.int w, Value.int c]) := by
    refine ⟨nf_inA hl rfl, sgq_7 ?_⟩
    · show 1 * v_iv (n_v (vs ++ [Value.int x, Value.int y, Value.int u, Value.int w, Value.int c]) 17) + ((-1) * v_iv (n_v (vs ++ [Value.int x, Value.int y, Value.int u, Value.int w, Value.int c]) 4) + 0) ≤ 0
      simp only [e_4, e_17]
      exact vc_Mo_of_at_s5002_41_2 (v_iv (n_v vs 4)) (v_iv (Value.int y)) k4 ey2
  have nf3 : fc_1 PRD (23, [17, 4], [0, -1, 1]) ws (vs ++ [Value.int x, Value.int y, Value.int u, Value.int w, Value.int c]) := by
    refine ⟨nf_inA hl rfl, sgq_22 ?_⟩
    · show (-1) * v_iv (n_v (vs ++ [Value.int x, Value.int y, Value.int u, Value.int w, Value.int c]) 17) + (1 * v_iv (n_v (vs ++ [Value.int x, Value.int y, Value.int u, Value.int w, Value.int c]) 4) + 0) ≤ 0
      simp only [e_4, e_17]
      exact vc_Mo_of_at_s5002_41_3 (v_iv (n_v vs 4)) (v_iv (Value.int y)) k4 ey2
  have nf4 : fc_1 PRD (23, [18, 10], [0, 1, -1]) ws (vs ++ [Value.int x, Value.int y, Value.int u, Value.int w, Value.int c]) := by
    refine ⟨nf_inA hl rfl, sgq_7 ?_⟩
    · show 1 * v_iv (n_v (vs ++ [Value.int x, Value.int y, Value.int u, Value.int w, Value.int c]) 18) + ((-1) * v_iv (n_v (vs ++ [Value.int x, Value.int y, Value.int u, Value.int w, Value.int c]) 10) + 0) ≤ 0
      simp only [e_10, e_18]
      exact vc_Mo_of_at_s5002_41_4 (v_iv (n_v vs 10)) (v_iv (Value.int u)) k10 eu2
  have nf5 : fc_1 PRD (23, [18, 10], [0, -1, 1]) ws (vs ++ [Value.int x, Value.int y, Value.int u, Value.int w, Value.int c]) := by
    refine ⟨nf_inA hl rfl, sgq_22 ?_⟩
    · show (-1) * v_iv (n_v (vs ++ [Value.int x, Value.int y, Value.int u, Value.int w, Value.int c]) 18) + (1 * v_iv (n_v (vs ++ [Value.int x, Value.int y, Value.int u, Value.int w, Value.int c]) 10) + 0) ≤ 0
      simp only [e_10, e_18]
      exact vc_Mo_of_at_s5002_41_5 (v_iv (n_v vs 10)) (v_iv (Value.int u)) k10 eu2
  have nf6 : fc_1 PRD (23, [19, 5], [0, 1, -1]) ws (vs ++ [Value.int x, Value.int y, Value.int u, Value.int w, Value.int c]) := by
    refine ⟨nf_inA hl rfl, sgq_7 ?_⟩
    · show 1 * v_iv (n_v (vs ++ [Value.int x, Value.int y, Value.int u, Value.int w, Value.int c]) 19) + ((-1) * v_iv (n_v (vs ++ [Value.int x, Value.int y, Value.int u, Value.int w, Value.int c]) 5) + 0) ≤ 0
      simp only [e_5, e_19]
      exact vc_Mo_of_at_s5002_41_6 (v_iv (n_v vs 5)) (v_iv (Value.int w)) k5 ew2
  have nf7 : fc_1 PRD (23, [19, 5], [0, -1, 1]) ws (vs ++ [Value.int x, Value.int y, Value.int u, Value.int w, Value.int c]) := by
    refine ⟨nf_inA hl rfl, sgq_22 ?_⟩
    · show (-1) * v_iv (n_v (vs ++ [Value.int x, Value.int y, Value.int u, Value.int w, Value.int c]) 19) + (1 * v_iv (n_v (vs ++ [Value.int x, Value.int y, Value.int u, Value.int w, Value.int c]) 5) + 0) ≤ 0
      simp only [e_5, e_19]
      exact vc_Mo_of_at_s5002_41_7 (v_iv (n_v vs 5)) (v_iv (Value.int w)) k5 ew2
  have nf8 : fc_1 PRD (23, [20, 6], [0, 1, -1]) ws (vs ++ [Value.int x, Value.int y, Value.int u, Value.int w, Value.int c]) := by
    refine ⟨nf_inA hl rfl, sgq_7 ?_⟩
    · show 1 * v_iv (n_v (vs ++ [Value.int x, Value.int y, Value.int u, Value.int w, Value.int c]) 20) + ((-1) * v_iv (n_v (vs ++ [Value.int x, Value.int y, Value.int u, Value.int w, Value.int c]) 6) + 0) ≤ 0
      simp only [e_6, e_20]
      exact vc_Mo_of_at_s5002_41_8 (v_iv (n_v vs 6)) (v_iv (Value.int c)) k6 ec2
  have nf9 : fc_1 PRD (23, [20, 6], [0, -1, 1]) ws (vs ++ [Value.int x, Value.int y, Value.int u, Value.int w, Value.int c]) := by
    refine ⟨nf_inA hl rfl, sgq_22 ?_⟩
    · show (-1) * v_iv (n_v (vs ++ [Value.int x, Value.int y, Value.int u, Value.int w, Value.int c]) 20) + (1 * v_iv (n_v (vs ++ [Value.int x, Value.int y, Value.int u, Value.int w, Value.int c]) 6) + 0) ≤ 0
      simp only [e_6, e_20]
      exact vc_Mo_of_at_s5002_41_9 (v_iv (n_v vs 6)) (v_iv (Value.int c)) k6 ec2
  have nf10 : fc_1 PRD (20, [7, 7], [30, 0, 1, 1, 15, -1, 1, 11]) ws (vs ++ [Value.int x, Value.int y, Value.int u, Value.int w, Value.int c]) := by
    refine ⟨nf_inA hl rfl, sgq_1437 ?_⟩
    · show 1 * w_fi ws (n_v (vs ++ [Value.int x, Value.int y, Value.int u, Value.int w, Value.int c]) 7) 15 + ((-1) * w_fi ws (n_v (vs ++ [Value.int x, Value.int y, Value.int u, Value.int w, Value.int c]) 7) 11 + 0) ≤ 0
      simp only [e_7, q7]
      exact vc_Mo_of_at_s5002_41_10 (w_fi ws (n_v vs 0) 15) (w_fi ws (n_v vs 0) 11) f5 kz_0_11 kz_0_15
  have nf11 : fc_1 PRD (20, [7], [50, 3, 0, 12, 11, 15, 2, 21, 4, 7, 1, 3, 2, 0, 12, 0, 1, 0, 3, 2, 0, 11, 4, 3, 2, 0, 15, 0, 8, 3, 7, 1, 3, 2, 0, 12, 0, 0, 0, 7, 4, 3, 2, 0, 15, 0, 1, 2, 0, 11]) ws (vs ++ [Value.int x, Value.int y, Value.int u, Value.int w, Value.int c]) := by
    refine ⟨nf_inA hl rfl, sgq_1438 ?_⟩
    · show ((w_fi ws (n_v (vs ++ [Value.int x, Value.int y, Value.int u, Value.int w, Value.int c]) 7) 12 = 1) → (w_fi ws (n_v (vs ++ [Value.int x, Value.int y, Value.int u, Value.int w, Value.int c]) 7) 11 ≤ (w_fi ws (n_v (vs ++ [Value.int x, Value.int y, Value.int u, Value.int w, Value.int c]) 7) 15 + 8))) ∧ ((w_fi ws (n_v (vs ++ [Value.int x, Value.int y, Value.int u, Value.int w, Value.int c]) 7) 12 = 0) ∨ ((w_fi ws (n_v (vs ++ [Value.int x, Value.int y, Value.int u, Value.int w, Value.int c]) 7) 15 + 1) ≤ w_fi ws (n_v (vs ++ [Value.int x, Value.int y, Value.int u, Value.int w, Value.int c]) 7) 11))
      simp only [e_7, q7]
      exact vc_Mo_of_at_s5002_41_11 (w_fi ws (n_v vs 0) 12) (w_fi ws (n_v vs 0) 15) (w_fi ws (n_v vs 0) 11) f6 kz_0_11 kz_0_12 kz_0_15
  have nf12 : fc_1 PRD (20, [16, 7], [30, 0, 1, 0, 0, -1, 1, 11]) ws (vs ++ [Value.int x, Value.int y, Value.int u, Value.int w, Value.int c]) := by
    refine ⟨nf_inA hl rfl, sgq_1431 ?_⟩
    · show 1 * v_iv (n_v (vs ++ [Value.int x, Value.int y, Value.int u, Value.int w, Value.int c]) 16) + ((-1) * w_fi ws (n_v (vs ++ [Value.int x, Value.int y, Value.int u, Value.int w, Value.int c]) 7) 11 + 0) ≤ 0
      simp only [e_7, e_16, q7]
      exact vc_Mo_of_at_s5002_41_12 (v_iv (n_v vs 3)) (w_fi ws (n_v vs 0) 11) (v_iv (Value.int x)) k3 f7 kz_0_11 ex2
  have nf13 : fc_1 PRD (20, [7, 16], [50, 3, 0, 8, 12, 11, 3, 7, 0, 2, 0, 1, 2, 0, 8, 3, 7, 1, 3, 2, 0, 12, 0, 0, 0, 6, 4, 2, 1, 1, 0, 1, 2, 0, 11]) ws (vs ++ [Value.int x, Value.int y, Value.int u, Value.int w, Value.int c]) := by
    refine ⟨nf_inA hl rfl, sgq_1722 ?_⟩
    · show (1 ≤ w_fi ws (n_v (vs ++ [Value.int x, Value.int y, Value.int u, Value.int w, Value.int c]) 7) 8) ∨ ((w_fi ws (n_v (vs ++ [Value.int x, Value.int y, Value.int u, Value.int w, Value.int c]) 7) 12 = 0) ∨ ((v_iv (n_v (vs ++ [Value.int x, Value.int y, Value.int u, Value.int w, Value.int c]) 16) + 1) ≤ w_fi ws (n_v (vs ++ [Value.int x, Value.int y, Value.int u, Value.int w, Value.int c]) 7) 11))
      simp only [e_7, e_16, q7]
      exact vc_Mo_of_at_s5002_41_13 (v_iv (n_v vs 3)) (w_fi ws (n_v vs 0) 12) (w_fi ws (n_v vs 0) 8) (w_fi ws (n_v vs 0) 11) (v_iv (Value.int x)) k3 f7 kz_0_8 kz_0_11 kz_0_12 ex2
  have nf14 : fc_1 PRD (20, [7, 17, 18, 19, 20], [60, 8, 2, 1001, 10, 11, 12, 13, 14, 15, 8, 5, 1, 2]) ws (vs ++ [Value.int x, Value.int y, Value.int u, Value.int w, Value.int c]) := by
    refine ⟨nf_inA hl rfl, sgq_1733 ?_⟩
    · show zNbs (w_fi ws (n_v (vs ++ [Value.int x, Value.int y, Value.int u, Value.int w, Value.int c]) 7) 10) (w_fi ws (n_v (vs ++ [Value.int x, Value.int y, Value.int u, Value.int w, Value.int c]) 7) 11) (w_fi ws (n_v (vs ++ [Value.int x, Value.int y, Value.int u, Value.int w, Value.int c]) 7) 12) (w_fi ws (n_v (vs ++ [Value.int x, Value.int y, Value.int u, Value.int w, Value.int c]) 7) 13) (w_fi ws (n_v (vs ++ [Value.int x, Value.int y, Value.int u, Value.int w, Value.int c]) 7) 14) (w_fi ws (n_v (vs ++ [Value.int x, Value.int y, Value.int u, Value.int w, Value.int c]) 7) 15) (w_fi ws (n_v (vs ++ [Value.int x, Value.int y, Value.int u, Value.int w, Value.int c]) 7) 8) (w_fi ws (n_v (vs ++ [Value.int x, Value.int y, Value.int u, Value.int w, Value.int c]) 7) 5) (w_ei ws (w_ar ws (n_v (vs ++ [Value.int x, Value.int y, Value.int u, Value.int w, Value.int c]) 7) 1)) (w_ei ws (w_ar ws (n_v (vs ++ [Value.int x, Value.int y, Value.int u, Value.int w, Value.int c]) 7) 2)) (v_iv (n_v (vs ++ [Value.int x, Value.int y, Value.int u, Value.int w, Value.int c]) 17)) (v_iv (n_v (vs ++ [Value.int x, Value.int y, Value.int u, Value.int w, Value.int c]) 18)) (v_iv (n_v (vs ++ [Value.int x, Value.int y, Value.int u, Value.int w, Value.int c]) 19)) (v_iv (n_v (vs ++ [Value.int x, Value.int y, Value.int u, Value.int w, Value.int c]) 20))
      simp only [e_7, e_17, e_18, e_19, e_20, q7]
      exact vc_Mo_of_at_s5002_41_14 (v_iv (n_v vs 3)) (v_iv (n_v vs 4)) (v_iv (n_v vs 5)) (v_iv (n_v vs 6)) (v_iv (n_v vs 10)) (v_iv (n_v vs 11)) (v_iv (n_v vs 13)) (v_iv (n_v vs 14)) (w_fi ws (n_v vs 0) 12) (w_fi ws (n_v vs 0) 8) (w_fi ws (n_v vs 0) 14) (w_fi ws (n_v vs 0) 15) (w_fi ws (n_v vs 0) 11) (w_ei ws (w_ar ws (n_v vs 0) 1)) (w_ei ws (w_ar ws (n_v vs 0) 2)) (w_fi ws (n_v vs 0) 10) (w_fi ws (n_v vs 0) 13) (w_fi ws (n_v vs 0) 5) (v_iv (Value.int x)) (v_iv (Value.int y)) (v_iv (Value.int u)) (v_iv (Value.int w)) (v_iv (Value.int c)) k3 k4 k5 k6 k10 k11 k13 k14 f0 f2 g4 f12 kz_0_8 kz_0_10 kz_0_11 kz_0_12 kz_0_13 kz_0_14 kz_0_15 ex2 ey2 eu2 ew2 ec2
  have nf15 : fc_1 PRD (20, [10], [50, 0, 0, 0, 2, 0, 1, 1, 0]) ws (vs ++ [Value.int x, Value.int y, Value.int u, Value.int w, Value.int c]) := by
    refine ⟨nf_inA hl rfl, sgq_710 ?_⟩
    · show 1 ≤ v_iv (n_v (vs ++ [Value.int x, Value.int y, Value.int u, Value.int w, Value.int c]) 10)
      rw [e_10]
      exact vc_Mo_of_at_s5002_41_15 (v_iv (n_v vs 4)) (v_iv (n_v vs 5)) (v_iv (n_v vs 6)) (v_iv (n_v vs 10)) (w_fi ws (n_v vs 0) 12) (w_fi ws (n_v vs 0) 8) (w_fi ws (n_v vs 0) 14) (w_fi ws (n_v vs 0) 15) (w_fi ws (n_v vs 0) 11) (w_ei ws (w_ar ws (n_v vs 0) 1)) (w_ei ws (w_ar ws (n_v vs 0) 2)) (w_fi ws (n_v vs 0) 10) (w_fi ws (n_v vs 0) 13) (w_fi ws (n_v vs 0) 5) k4 k5 k6 k10 f12 kz_0_8 kz_0_10 kz_0_11 kz_0_12 kz_0_13 kz_0_14 kz_0_15
  exact ⟨(fun _ h => (by cases h)), [Value.int x, Value.int y, Value.int u, Value.int w, Value.int c], ag_five hx hy hu hw hc, List.forall_mem_cons.mpr ⟨⟨show (23 : Nat) < 100 from by decide, nf0⟩, List.forall_mem_cons.mpr ⟨⟨show (23 : Nat) < 100 from by decide, nf1⟩, List.forall_mem_cons.mpr ⟨⟨show (23 : Nat) < 100 from by decide, nf2⟩, List.forall_mem_cons.mpr ⟨⟨show (23 : Nat) < 100 from by decide, nf3⟩, List.forall_mem_cons.mpr ⟨⟨show (23 : Nat) < 100 from by decide, nf4⟩, List.forall_mem_cons.mpr ⟨⟨show (23 : Nat) < 100 from by decide, nf5⟩, List.forall_mem_cons.mpr ⟨⟨show (23 : Nat) < 100 from by decide, nf6⟩, List.forall_mem_cons.mpr ⟨⟨show (23 : Nat) < 100 from by decide, nf7⟩, List.forall_mem_cons.mpr ⟨⟨show (23 : Nat) < 100 from by decide, nf8⟩, List.forall_mem_cons.mpr ⟨⟨show (23 : Nat) < 100 from by decide, nf9⟩, List.forall_mem_cons.mpr ⟨⟨show (20 : Nat) < 100 from by decide, nf10⟩, List.forall_mem_cons.mpr ⟨⟨show (20 : Nat) < 100 from by decide, nf11⟩, List.forall_mem_cons.mpr ⟨⟨show (20 : Nat) < 100 from by decide, nf12⟩, List.forall_mem_cons.mpr ⟨⟨show (20 : Nat) < 100 from by decide, nf13⟩, List.forall_mem_cons.mpr ⟨⟨show (20 : Nat) < 100 from by decide, nf14⟩, List.forall_mem_cons.mpr ⟨⟨show (20 : Nat) < 100 from by decide, nf15⟩, (fun _ h => (by cases h))⟩⟩⟩⟩⟩⟩⟩⟩⟩⟩⟩⟩⟩⟩⟩⟩, (fun _ h => (by cases h))⟩
set_option maxHeartbeats 4000000 in
theorem vc_Mo_of_at_s5002_42_0 (x16 : Int) (from_0 : Int) (pos_0 : Int) (kind_0 : Int) (fault_0 : Int) (tape_0 : Int → Int) (k16 : 0 ≤ x16 ∧ x16 ≤ 2000) (f16 : 1 * from_0 + ((-1) * pos_0 + 0) ≤ 0) (f17 : ((kind_0 = 1) → (pos_0 ≤ (from_0 + 8))) ∧ ((kind_0 = 0) ∨ ((from_0 + 1) ≤ pos_0))) (f19 : (1 ≤ fault_0) ∨ ((x16 + 1) ≤ pos_0)) (hK_0_1 : ∀ j : Int, 0 ≤ j → j < 2000 → (-128) ≤ tape_0 j ∧ tape_0 j ≤ 127) (kz_0_8 : 0 ≤ fault_0 ∧ fault_0 ≤ 5) (kz_0_11 : 0 ≤ pos_0 ∧ pos_0 ≤ 2000) (kz_0_12 : 0 ≤ kind_0 ∧ kind_0 ≤ 4) (kz_0_15 : 0 ≤ from_0 ∧ from_0 ≤ 2000) : 1 * from_0 + ((-1) * pos_0 + 0) ≤ 0 := by
  first | with_reducible assumption | ((have f17_c0 := f17.1); (have f17_c1 := f17.2); (try and_intros) <;> first | with_reducible assumption | (clear f17_c0 f17_c1 f17 f19 hK_0_1; omega)) | ((have f17_c0 := f17.1); (have f17_c1 := f17.2); (try and_intros) <;> first | with_reducible assumption | (clear f17_c0 f17_c1 f17 hK_0_1; omega)) | omega
set_option maxHeartbeats 4000000 in
theorem vc_Mo_of_at_s5002_42_1 (x16 : Int) (from_0 : Int) (pos_0 : Int) (kind_0 : Int) (fault_0 : Int) (tape_0 : Int → Int) (k16 : 0 ≤ x16 ∧ x16 ≤ 2000) (f17 : ((kind_0 = 1) → (pos_0 ≤ (from_0 + 8))) ∧ ((kind_0 = 0) ∨ ((from_0 + 1) ≤ pos_0))) (f19 : (1 ≤ fault_0) ∨ ((x16 + 1) ≤ pos_0)) (hK_0_1 : ∀ j : Int, 0 ≤ j → j < 2000 → (-128) ≤ tape_0 j ∧ tape_0 j ≤ 127) (kz_0_8 : 0 ≤ fault_0 ∧ fault_0 ≤ 5) (kz_0_11 : 0 ≤ pos_0 ∧ pos_0 ≤ 2000) (kz_0_12 : 0 ≤ kind_0 ∧ kind_0 ≤ 4) (kz_0_15 : 0 ≤ from_0 ∧ from_0 ≤ 2000) : ((kind_0 = 1) → (pos_0 ≤ (from_0 + 8))) ∧ ((kind_0 = 0) ∨ ((from_0 + 1) ≤ pos_0)) := by
  first | with_reducible assumption | ((have f17_c0 := f17.1); (have f17_c1 := f17.2); (try and_intros) <;> first | with_reducible assumption | (clear f17_c0 f17_c1 f17 f19 hK_0_1; omega)) | ((have f17_c0 := f17.1); (have f17_c1 := f17.2); (try and_intros) <;> first | with_reducible assumption | (clear f17_c0 f17_c1 f17 hK_0_1; omega)) | omega
set_option maxHeartbeats 4000000 in
theorem vc_Mo_of_at_s5002_42_2 (x3 : Int) (x16 : Int) (from_0 : Int) (pos_0 : Int) (kind_0 : Int) (fault_0 : Int) (tape_0 : Int → Int) (k3 : 0 ≤ x3 ∧ x3 ≤ 2000) (k16 : 0 ≤ x16 ∧ x16 ≤ 2000) (f0 : 1 * x16 + ((-1) * x3 + 0) ≤ 0) (f1 : (-1) * x16 + (1 * x3 + 0) ≤ 0) (f17 : ((kind_0 = 1) → (pos_0 ≤ (from_0 + 8))) ∧ ((kind_0 = 0) ∨ ((from_0 + 1) ≤ pos_0))) (f18 : 1 * x16 + ((-1) * pos_0 + 0) ≤ 0) (f19 : (1 ≤ fault_0) ∨ ((x16 + 1) ≤ pos_0)) (hK_0_1 : ∀ j : Int, 0 ≤ j → j < 2000 → (-128) ≤ tape_0 j ∧ tape_0 j ≤ 127) (kz_0_8 : 0 ≤ fault_0 ∧ fault_0 ≤ 5) (kz_0_11 : 0 ≤ pos_0 ∧ pos_0 ≤ 2000) (kz_0_12 : 0 ≤ kind_0 ∧ kind_0 ≤ 4) (kz_0_15 : 0 ≤ from_0 ∧ from_0 ≤ 2000) : 1 * x3 + ((-1) * pos_0 + 0) ≤ 0 := by
  first | with_reducible assumption | ((have f17_c0 := f17.1); (have f17_c1 := f17.2); (try and_intros) <;> first | with_reducible assumption | (clear f17_c0 f17_c1 f17 f19 hK_0_1; omega)) | ((have f17_c0 := f17.1); (have f17_c1 := f17.2); (try and_intros) <;> first | with_reducible assumption | (clear f17_c0 f17_c1 f17 hK_0_1; omega)) | omega
set_option maxHeartbeats 4000000 in
theorem vc_Mo_of_at_s5002_42_3 (x3 : Int) (x16 : Int) (from_0 : Int) (pos_0 : Int) (kind_0 : Int) (fault_0 : Int) (tape_0 : Int → Int) (k3 : 0 ≤ x3 ∧ x3 ≤ 2000) (k16 : 0 ≤ x16 ∧ x16 ≤ 2000) (f0 : 1 * x16 + ((-1) * x3 + 0) ≤ 0) (f1 : (-1) * x16 + (1 * x3 + 0) ≤ 0) (f17 : ((kind_0 = 1) → (pos_0 ≤ (from_0 + 8))) ∧ ((kind_0 = 0) ∨ ((from_0 + 1) ≤ pos_0))) (f18 : 1 * x16 + ((-1) * pos_0 + 0) ≤ 0) (f19 : (1 ≤ fault_0) ∨ ((x16 + 1) ≤ pos_0)) (hK_0_1 : ∀ j : Int, 0 ≤ j → j < 2000 → (-128) ≤ tape_0 j ∧ tape_0 j ≤ 127) (kz_0_8 : 0 ≤ fault_0 ∧ fault_0 ≤ 5) (kz_0_11 : 0 ≤ pos_0 ∧ pos_0 ≤ 2000) (kz_0_12 : 0 ≤ kind_0 ∧ kind_0 ≤ 4) (kz_0_15 : 0 ≤ from_0 ∧ from_0 ≤ 2000) : (1 ≤ fault_0) ∨ ((kind_0 = 0) ∨ ((x3 + 1) ≤ pos_0)) := by
  first | with_reducible assumption | ((have f17_c0 := f17.1); (have f17_c1 := f17.2); (try and_intros) <;> first | with_reducible assumption | (clear f17_c0 f17_c1 f17 f19 hK_0_1; omega)) | ((have f17_c0 := f17.1); (have f17_c1 := f17.2); (try and_intros) <;> first | with_reducible assumption | (clear f17_c0 f17_c1 f17 hK_0_1; omega)) | omega
set_option maxHeartbeats 4000000 in
theorem vc_Mo_of_at_s5002_42_4 (x4 : Int) (x16 : Int) (x17 : Int) (from_0 : Int) (pos_0 : Int) (kind_0 : Int) (fault_0 : Int) (tape_0 : Int → Int) (k4 : (-1) ≤ x4 ∧ x4 ≤ 48) (k16 : 0 ≤ x16 ∧ x16 ≤ 2000) (k17 : (-1) ≤ x17 ∧ x17 ≤ 48) (f2 : 1 * x17 + ((-1) * x4 + 0) ≤ 0) (f3 : (-1) * x17 + (1 * x4 + 0) ≤ 0) (f13 : (-1) * x4 + 0 ≤ 0) (f17 : ((kind_0 = 1) → (pos_0 ≤ (from_0 + 8))) ∧ ((kind_0 = 0) ∨ ((from_0 + 1) ≤ pos_0))) (f19 : (1 ≤ fault_0) ∨ ((x16 + 1) ≤ pos_0)) (hK_0_1 : ∀ j : Int, 0 ≤ j → j < 2000 → (-128) ≤ tape_0 j ∧ tape_0 j ≤ 127) (kz_0_8 : 0 ≤ fault_0 ∧ fault_0 ≤ 5) (kz_0_11 : 0 ≤ pos_0 ∧ pos_0 ≤ 2000) (kz_0_12 : 0 ≤ kind_0 ∧ kind_0 ≤ 4) (kz_0_15 : 0 ≤ from_0 ∧ from_0 ≤ 2000) : (1 ≤ fault_0) ∨ (0 ≤ x4) := by
  first | with_reducible assumption | ((have f17_c0 := f17.1); (have f17_c1 := f17.2); (try and_intros) <;> first | with_reducible assumption | (clear f17_c0 f17_c1 f17 f19 hK_0_1; omega)) | ((have f17_c0 := f17.1); (have f17_c1 := f17.2); (try and_intros) <;> first | with_reducible assumption | (clear f17_c0 f17_c1 f17 hK_0_1; omega)) | omega
set_option maxHeartbeats 4000000 in
theorem vc_Mo_of_at_s5002_42_5 (x2 : Int) (x10 : Int) (x16 : Int) (from_0 : Int) (pos_0 : Int) (kind_0 : Int) (fault_0 : Int) (tape_0 : Int → Int) (k2 : 99 ≤ x2 ∧ x2 ≤ 99) (k10 : (-49) ≤ x10 ∧ x10 ≤ 1048575) (k16 : 0 ≤ x16 ∧ x16 ≤ 2000) (f17 : ((kind_0 = 1) → (pos_0 ≤ (from_0 + 8))) ∧ ((kind_0 = 0) ∨ ((from_0 + 1) ≤ pos_0))) (f19 : (1 ≤ fault_0) ∨ ((x16 + 1) ≤ pos_0)) (f32 : 1 * x10 + ((-1) * x2 + 0) ≤ 0) (hK_0_1 : ∀ j : Int, 0 ≤ j → j < 2000 → (-128) ≤ tape_0 j ∧ tape_0 j ≤ 127) (kz_0_8 : 0 ≤ fault_0 ∧ fault_0 ≤ 5) (kz_0_11 : 0 ≤ pos_0 ∧ pos_0 ≤ 2000) (kz_0_12 : 0 ≤ kind_0 ∧ kind_0 ≤ 4) (kz_0_15 : 0 ≤ from_0 ∧ from_0 ≤ 2000) : 1 * x10 + ((-1) * x2 + 0) ≤ 0 := by
  first | with_reducible assumption | ((have f17_c0 := f17.1); (have f17_c1 := f17.2); (try and_intros) <;> first | with_reducible assumption | (clear f17_c0 f17_c1 f17 f19 hK_0_1; omega)) | ((have f17_c0 := f17.1); (have f17_c1 := f17.2); (try and_intros) <;> first | with_reducible assumption | (clear f17_c0 f17_c1 f17 hK_0_1; omega)) | omega
set_option maxHeartbeats 4000000 in
theorem vc_Mo_of_at_s5002_42_6 (x10 : Int) (x16 : Int) (from_0 : Int) (pos_0 : Int) (kind_0 : Int) (fault_0 : Int) (tape_0 : Int → Int) (k10 : (-49) ≤ x10 ∧ x10 ≤ 1048575) (k16 : 0 ≤ x16 ∧ x16 ≤ 2000) (f17 : ((kind_0 = 1) → (pos_0 ≤ (from_0 + 8))) ∧ ((kind_0 = 0) ∨ ((from_0 + 1) ≤ pos_0))) (f19 : (1 ≤ fault_0) ∨ ((x16 + 1) ≤ pos_0)) (f33 : (-1) * x10 + 0 ≤ 0) (hK_0_1 : ∀ j : Int, 0 ≤ j → j < 2000 → (-128) ≤ tape_0 j ∧ tape_0 j ≤ 127) (kz_0_8 : 0 ≤ fault_0 ∧ fault_0 ≤ 5) (kz_0_11 : 0 ≤ pos_0 ∧ pos_0 ≤ 2000) (kz_0_12 : 0 ≤ kind_0 ∧ kind_0 ≤ 4) (kz_0_15 : 0 ≤ from_0 ∧ from_0 ≤ 2000) : (-1) * x10 + 0 ≤ 0 := by
  first | with_reducible assumption | ((have f17_c0 := f17.1); (have f17_c1 := f17.2); (try and_intros) <;> first | with_reducible assumption | (clear f17_c0 f17_c1 f17 f19 hK_0_1; omega)) | ((have f17_c0 := f17.1); (have f17_c1 := f17.2); (try and_intros) <;> first | with_reducible assumption | (clear f17_c0 f17_c1 f17 hK_0_1; omega)) | omega
set_option maxHeartbeats 4000000 in
theorem vc_Mo_of_at_s5002_42_7 (x2 : Int) (x3 : Int) (x4 : Int) (x5 : Int) (x6 : Int) (x10 : Int) (x16 : Int) (x17 : Int) (x18 : Int) (x19 : Int) (x20 : Int) (from_0 : Int) (pos_0 : Int) (kind_0 : Int) (fault_0 : Int) (tape_0 : Int → Int) (all_0 : Int → Int) (limit_0 : Int) (place_0 : Int) (value_0 : Int) (r_0 : Int) (faultPlace_0 : Int) (k2 : 99 ≤ x2 ∧ x2 ≤ 99) (k3 : 0 ≤ x3 ∧ x3 ≤ 2000) (k4 : (-1) ≤ x4 ∧ x4 ≤ 48) (k5 : 0 ≤ x5 ∧ x5 ≤ 7) (k6 : 0 ≤ x6 ∧ x6 ≤ 4) (k10 : (-49) ≤ x10 ∧ x10 ≤ 1048575) (k16 : 0 ≤ x16 ∧ x16 ≤ 2000) (k17 : (-1) ≤ x17 ∧ x17 ≤ 48) (k18 : (-2147483648) ≤ x18 ∧ x18 ≤ 2147483647) (k19 : 0 ≤ x19 ∧ x19 ≤ 7) (k20 : 0 ≤ x20 ∧ x20 ≤ 4) (f0 : 1 * x16 + ((-1) * x3 + 0) ≤ 0) (f1 : (-1) * x16 + (1 * x3 + 0) ≤ 0) (f2 : 1 * x17 + ((-1) * x4 + 0) ≤ 0) (f3 : (-1) * x17 + (1 * x4 + 0) ≤ 0) (f4 : 1 * x18 + ((-1) * x10 + 0) ≤ 0) (f5 : (-1) * x18 + (1 * x10 + 0) ≤ 0) (f6 : 1 * x19 + ((-1) * x5 + 0) ≤ 0) (f7 : (-1) * x19 + (1 * x5 + 0) ≤ 0) (f8 : 1 * x20 + ((-1) * x6 + 0) ≤ 0) (f9 : (-1) * x20 + (1 * x6 + 0) ≤ 0) (f10 : 1 ≤ x10) (f11 : 1 * x10 + ((-1) * x2 + 0) ≤ 0) (f20 : zRP13s (limit_0) (pos_0) (kind_0) (place_0) (value_0) (from_0) (fault_0) (r_0) (tape_0) (all_0) (x17) (x18) (x19) (x20)) (kz_0_8 : 0 ≤ fault_0 ∧ fault_0 ≤ 5) (kz_0_9 : 0 ≤ faultPlace_0 ∧ faultPlace_0 ≤ 2000) (kz_0_10 : 0 ≤ limit_0 ∧ limit_0 ≤ 2000) (kz_0_11 : 0 ≤ pos_0 ∧ pos_0 ≤ 2000) (kz_0_12 : 0 ≤ kind_0 ∧ kind_0 ≤ 4) (kz_0_13 : 0 ≤ place_0 ∧ place_0 ≤ 2000) (kz_0_14 : (-49) ≤ value_0 ∧ value_0 ≤ 1048575) (kz_0_15 : 0 ≤ from_0 ∧ from_0 ≤ 2000) : zOFs (limit_0) (pos_0) (kind_0) (place_0) (value_0) (from_0) (fault_0) (faultPlace_0) (r_0) (tape_0) (all_0) (x4) (x10) (x5) (x6) := by
  first | (have el_x16 : x16 = x3 := by omega); subst el_x16 | skip
  first | (have el_x17 : x17 = x4 := by omega); subst el_x17 | skip
  first | (have el_x18 : x18 = x10 := by omega); subst el_x18 | skip
  first | (have el_x19 : x19 = x5 := by omega); subst el_x19 | skip
  first | (have el_x20 : x20 = x6 := by omega); subst el_x20 | skip
  first
    | exact Or.inr (Or.inr ⟨by omega, ‹zRP13s _ _ _ _ _ _ _ _ _ _ _ _ _ _›⟩)
    | (exfalso; omega)
def o_Mo_of_at_s5002_42 : or_T := (162, 21, [(0, (2, 0, 0, [165])), (2, (0, 99, 99, [])), (3, (0, 0, 2000, [])), (4, (0, -1, 48, [])), (5, (0, 0, 7, [])), (6, (0, 0, 4, [])), (10, (0, -49, 1048575, [])), (16, (0, 0, 2000, [])), (17, (0, -1, 48, [])), (18, (0, -2147483648, 2147483647, [])), (19, (0, 0, 7, [])), (20, (0, 0, 4, []))], [(23, [16, 3], [0, 1, -1]), (23, [16, 3], [0, -1, 1]), (23, [17, 4], [0, 1, -1]), (23, [17, 4], [0, -1, 1]), (23, [18, 10], [0, 1, -1]), (23, [18, 10], [0, -1, 1]), (23, [19, 5], [0, 1, -1]), (23, [19, 5], [0, -1, 1]), (23, [20, 6], [0, 1, -1]), (23, [20, 6], [0, -1, 1]), (20, [10], [50, 0, 0, 0, 2, 0, 1, 1, 0]), (23, [10, 9], [0, 1, -1]), (23, [4], [0, -1]), (24, [0, 7], []), (24, [2, 9], []), (20, [7, 7], [30, 0, 1, 1, 15, -1, 1, 11]), (20, [7], [50, 3, 0, 12, 11, 15, 2, 21, 4, 7, 1, 3, 2, 0, 12, 0, 1, 0, 3, 2, 0, 11, 4, 3, 2, 0, 15, 0, 8, 3, 7, 1, 3, 2, 0, 12, 0, 0, 0, 7, 4, 3, 2, 0, 15, 0, 1, 2, 0, 11]), (20, [16, 7], [30, 0, 1, 0, 0, -1, 1, 11]), (20, [7, 16], [50, 2, 0, 8, 11, 3, 7, 0, 2, 0, 1, 2, 0, 8, 0, 6, 4, 2, 1, 1, 0, 1, 2, 0, 11]), (20, [7, 17, 18, 19, 20], [60, 8, 2, 995, 10, 11, 12, 13, 14, 15, 8, 5, 1, 2]), (102, [20], [0, 165008, 165009, 165011, 165012, 165013, 165014, 165015]), (23, [10, 9], [0, 1, -1]), (23, [10], [0, -1])], [], [], [(20, [0, 0], [30, 0, 1, 1, 15, -1, 1, 11]), (20, [0], [50, 3, 0, 12, 11, 15, 2, 21, 4, 7, 1, 3, 2, 0, 12, 0, 1, 0, 3, 2, 0, 11, 4, 3, 2, 0, 15, 0, 8, 3, 7, 1, 3, 2, 0, 12, 0, 0, 0, 7, 4, 3, 2, 0, 15, 0, 1, 2, 0, 11]), (20, [3, 0], [30, 0, 1, 0, 0, -1, 1, 11]), (20, [0, 3], [50, 3, 0, 8, 12, 11, 3, 7, 0, 2, 0, 1, 2, 0, 8, 3, 7, 1, 3, 2, 0, 12, 0, 0, 0, 6, 4, 2, 1, 1, 0, 1, 2, 0, 11]), (20, [0, 4], [50, 1, 0, 8, 3, 7, 0, 2, 0, 1, 2, 0, 8, 0, 2, 0, 0, 1, 1]), (20, [10, 2], [30, 0, 1, 0, 0, -1, 0, 0]), (20, [10], [30, 0, -1, 0, 0]), (20, [0, 4, 10, 5, 6], [60, 9, 2, 1013, 10, 11, 12, 13, 14, 15, 8, 9, 5, 1, 2])], [], [])
theorem oo_Mo_of_at_s5002_42 {kA : Nat → ClassId} : or_ok PRD kA GG o_Mo_of_at_s5002_42 := by
  refine or_mk fun A ta ws vs hD hth hl => ?_
  intro t0 r0 t2 k2 t3 k3 t4 k4 t5 k5 t6 k6 t10 k10 t16 k16 t17 k17 t18 k18 t19 k19 t20 k20 f0 f1 f2 f3 f4 f5 f6 f7 f8 f9 f10 f11 f13 f14 f15 f16 f17 f18 f19 f20 ta1 w1 le1 s1 f32 f33
  replace f11 := shm_7 f11
  replace f14 := shm_5 f14
  replace f15 := shm_5 f15
  replace f16 := shm_1437 f16
  replace f17 := shm_1438 f17
  replace f18 := shm_1431 f18
  replace f19 := shm_1726 f19
  replace f20 := shm_1735 f20
  replace f32 := shm_7 f32
  have q7 : n_v vs 7 = n_v vs 0 := f14.symm
  have q9 : n_v vs 9 = n_v vs 2 := f15.symm
  simp only [q9, q7] at f11 f16 f17 f18 f19 f20 f32
  have cr_0_1 := fdq_39 hD hth r0
  have hK_0_1 := elq_7 hD hth cr_0_1
  have kz_0_8 := fdq_34 hD hth r0
  have kz_0_9 := fdq_44 hD hth r0
  have kz_0_10 := fdq_43 hD hth r0
  have kz_0_11 := fdq_237 hD hth r0
  have kz_0_12 := fdq_187 hD hth r0
  have kz_0_13 := fdq_238 hD hth r0
  have kz_0_14 := fdq_188 hD hth r0
  have kz_0_15 := fdq_239 hD hth r0
  have nf0 : fc_1 PRD (20, [0, 0], [30, 0, 1, 1, 15, -1, 1, 11]) ws (vs) := ⟨nf_in hl rfl, sgq_1437 (vc_Mo_of_at_s5002_42_0 (v_iv (n_v vs 16)) (w_fi ws (n_v vs 0) 15) (w_fi ws (n_v vs 0) 11) (w_fi ws (n_v vs 0) 12) (w_fi ws (n_v vs 0) 8) (w_ei ws (w_ar ws (n_v vs 0) 1)) k16 f16 f17 f19 hK_0_1 kz_0_8 kz_0_11 kz_0_12 kz_0_15)⟩
  have nf1 : fc_1 PRD (20, [0], [50, 3, 0, 12, 11, 15, 2, 21, 4, 7, 1, 3, 2, 0, 12, 0, 1, 0, 3, 2, 0, 11, 4, 3, 2, 0, 15, 0, 8, 3, 7, 1, 3, 2, 0, 12, 0, 0, 0, 7, 4, 3, 2, 0, 15, 0, 1, 2, 0, 11]) ws (vs) := ⟨nf_in hl rfl, sgq_1438 (vc_Mo_of_at_s5002_42_1 (v_iv (n_v vs 16)) (w_fi ws (n_v vs 0) 15) (w_fi ws (n_v vs 0) 11) (w_fi ws (n_v vs 0) 12) (w_fi ws (n_v vs 0) 8) (w_ei ws (w_ar ws (n_v vs 0) 1)) k16 f17 f19 hK_0_1 kz_0_8 kz_0_11 kz_0_12 kz_0_15)⟩
  have nf2 : fc_1 PRD (20, [3, 0], [30, 0, 1, 0, 0, -1, 1, 11]) ws (vs) := ⟨nf_in hl rfl, sgq_1431 (vc_Mo_of_at_s5002_42_2 (v_iv (n_v vs 3)) (v_iv (n_v vs 16)) (w_fi ws (n_v vs 0) 15) (w_fi ws (n_v vs 0) 11) (w_fi ws (n_v vs 0) 12) (w_fi ws (n_v vs 0) 8) (w_ei ws (w_ar ws (n_v vs 0) 1)) k3 k16 (shm_7 f0) (shm_22 f1) f17 f18 f19 hK_0_1 kz_0_8 kz_0_11 kz_0_12 kz_0_15)⟩
  have nf3 : fc_1 PRD (20, [0, 3], [50, 3, 0, 8, 12, 11, 3, 7, 0, 2, 0, 1, 2, 0, 8, 3, 7, 1, 3, 2, 0, 12, 0, 0, 0, 6, 4, 2, 1, 1, 0, 1, 2, 0, 11]) ws (vs) := ⟨nf_in hl rfl, sgq_1722 (vc_Mo_of_at_s5002_42_3 (v_iv (n_v vs 3)) (v_iv (n_v vs 16)) (w_fi ws (n_v vs 0) 15) (w_fi ws (n_v vs 0) 11) (w_fi ws (n_v vs 0) 12) (w_fi ws (n_v vs 0) 8) (w_ei ws (w_ar ws (n_v vs 0) 1)) k3 k16 (shm_7 f0) (shm_22 f1) f17 f18 f19 hK_0_1 kz_0_8 kz_0_11 kz_0_12 kz_0_15)⟩
  have nf4 : fc_1 PRD (20, [0, 4], [50, 1, 0, 8, 3, 7, 0, 2, 0, 1, 2, 0, 8, 0, 2, 0, 0, 1, 1]) ws (vs) := ⟨nf_in hl rfl, sgq_2000 (vc_Mo_of_at_s5002_42_4 (v_iv (n_v vs 4)) (v_iv (n_v vs 16)) (v_iv (n_v vs 17)) (w_fi ws (n_v vs 0) 15) (w_fi ws (n_v vs 0) 11) (w_fi ws (n_v vs 0) 12) (w_fi ws (n_v vs 0) 8) (w_ei ws (w_ar ws (n_v vs 0) 1)) k4 k16 k17 (shm_7 f2) (shm_22 f3) (shm_1043 f13) f17 f19 hK_0_1 kz_0_8 kz_0_11 kz_0_12 kz_0_15)⟩
  have nf5 : fc_1 PRD (20, [10, 2], [30, 0, 1, 0, 0, -1, 0, 0]) ws (vs) := ⟨nf_in hl rfl, sgq_201 (vc_Mo_of_at_s5002_42_5 (v_iv (n_v vs 2)) (v_iv (n_v vs 10)) (v_iv (n_v vs 16)) (w_fi ws (n_v vs 0) 15) (w_fi ws (n_v vs 0) 11) (w_fi ws (n_v vs 0) 12) (w_fi ws (n_v vs 0) 8) (w_ei ws (w_ar ws (n_v vs 0) 1)) k2 k10 k16 f17 f19 f32 hK_0_1 kz_0_8 kz_0_11 kz_0_12 kz_0_15)⟩
  have nf6 : fc_1 PRD (20, [10], [30, 0, -1, 0, 0]) ws (vs) := ⟨nf_in hl rfl, sgq_2002 (vc_Mo_of_at_s5002_42_6 (v_iv (n_v vs 10)) (v_iv (n_v vs 16)) (w_fi ws (n_v vs 0) 15) (w_fi ws (n_v vs 0) 11) (w_fi ws (n_v vs 0) 12) (w_fi ws (n_v vs 0) 8) (w_ei ws (w_ar ws (n_v vs 0) 1)) k10 k16 f17 f19 (shm_1043 f33) hK_0_1 kz_0_8 kz_0_11 kz_0_12 kz_0_15)⟩
  have nf7 : fc_1 PRD (20, [0, 4, 10, 5, 6], [60, 9, 2, 1013, 10, 11, 12, 13, 14, 15, 8, 9, 5, 1, 2]) ws (vs) := ⟨nf_in hl rfl, sgq_2003 (vc_Mo_of_at_s5002_42_7 (v_iv (n_v vs 2)) (v_iv (n_v vs 3)) (v_iv (n_v vs 4)) (v_iv (n_v vs 5)) (v_iv (n_v vs 6)) (v_iv (n_v vs 10)) (v_iv (n_v vs 16)) (v_iv (n_v vs 17)) (v_iv (n_v vs 18)) (v_iv (n_v vs 19)) (v_iv (n_v vs 20)) (w_fi ws (n_v vs 0) 15) (w_fi ws (n_v vs 0) 11) (w_fi ws (n_v vs 0) 12) (w_fi ws (n_v vs 0) 8) (w_ei ws (w_ar ws (n_v vs 0) 1)) (w_ei ws (w_ar ws (n_v vs 0) 2)) (w_fi ws (n_v vs 0) 10) (w_fi ws (n_v vs 0) 13) (w_fi ws (n_v vs 0) 14) (w_fi ws (n_v vs 0) 5) (w_fi ws (n_v vs 0) 9) k2 k3 k4 k5 k6 k10 k16 k17 k18 k19 k20 (shm_7 f0) (shm_22 f1) (shm_7 f2) (shm_22 f3) (shm_7 f4) (shm_22 f5) (shm_7 f6) (shm_22 f7) (shm_7 f8) (shm_22 f9) (shm_710 f10) f11 f20 kz_0_8 kz_0_9 kz_0_10 kz_0_11 kz_0_12 kz_0_13 kz_0_14 kz_0_15)⟩
  refine ⟨(fun _ h => (by cases h)), [], trivial, ?_, (fun _ h => (by cases h))⟩
  rw [List.append_nil]
  exact List.forall_mem_cons.mpr ⟨⟨show (20 : Nat) < 100 from by decide, nf0⟩, List.forall_mem_cons.mpr ⟨⟨show (20 : Nat) < 100 from by decide, nf1⟩, List.forall_mem_cons.mpr ⟨⟨show (20 : Nat) < 100 from by decide, nf2⟩, List.forall_mem_cons.mpr ⟨⟨show (20 : Nat) < 100 from by decide, nf3⟩, List.forall_mem_cons.mpr ⟨⟨show (20 : Nat) < 100 from by decide, nf4⟩, List.forall_mem_cons.mpr ⟨⟨show (20 : Nat) < 100 from by decide, nf5⟩, List.forall_mem_cons.mpr ⟨⟨show (20 : Nat) < 100 from by decide, nf6⟩, List.forall_mem_cons.mpr ⟨⟨show (20 : Nat) < 100 from by decide, nf7⟩, (fun _ h => (by cases h))⟩⟩⟩⟩⟩⟩⟩⟩

def n_Mo_of_at_s5002_an : List an_T := [(17, [(0, (2, 0, 0, [165])), (1, (2, 0, 0, [5002])), (2, (0, 99, 99, [])), (3, (0, (Int.negSucc 48), 1048575, []))], [], (0, 0), [(0, 0, 99983), (2, 11, 0), (0, 0, 100000)], [], [], [(2, 0, 0, [165]), (2, 0, 0, [5002]), (0, 99, 99, []), (0, 0, 2000, []), (0, (Int.negSucc 0), 48, []), (0, 0, 7, []), (0, 0, 4, [])], 0, [(0, 0, 2000, [])], [(20, [7, 7], [30, 0, 1, 1, 15, (Int.negSucc 0), 1, 11]), (20, [7], [50, 3, 0, 12, 11, 15, 2, 21, 4, 7, 1, 3, 2, 0, 12, 0, 1, 0, 3, 2, 0, 11, 4, 3, 2, 0, 15, 0, 8, 3, 7, 1, 3, 2, 0, 12, 0, 0, 0, 7, 4, 3, 2, 0, 15, 0, 1, 2, 0, 11]), (20, [3, 7], [30, (Int.negSucc 0), 1, 0, 0, (Int.negSucc 0), 1, 11]), (23, [10, 9], [0, 1, (Int.negSucc 0)]), (23, [10], [0, (Int.negSucc 0)]), (23, [4], [0, (Int.negSucc 0)]), (20, [7, 4, 10, 5, 6], [60, 8, 2, 997, 10, 11, 12, 13, 14, 15, 8, 5, 1, 2]), (24, [0, 7], []), (24, [2, 9], []), (20, [11, 7], [30, 2000, 1, 0, 0, 1, 1, 11]), (20, [11, 7], [30, (Int.negSucc 1999), (Int.negSucc 0), 0, 0, (Int.negSucc 0), 1, 11])]), (139, [(0, (2, 0, 0, [165])), (1, (2, 0, 0, [5002])), (2, (0, 99, 99, [])), (3, (0, (Int.negSucc 48), 1048575, []))], [], (0, 0), [(0, 0, 99983), (2, 12, 0), (0, 0, 99861)], [], [((0, 8), (0, 0, 0, []))], [(2, 0, 0, [165]), (2, 0, 0, [5002]), (0, 99, 99, []), (0, 0, 2000, []), (0, (Int.negSucc 0), 48, []), (0, 0, 7, []), (0, 0, 4, [])], 0, [(0, 0, 2000, [])], [(20, [7, 7], [30, 0, 1, 1, 15, (Int.negSucc 0), 1, 11]), (20, [7], [50, 3, 0, 12, 11, 15, 2, 21, 4, 7, 1, 3, 2, 0, 12, 0, 1, 0, 3, 2, 0, 11, 4, 3, 2, 0, 15, 0, 8, 3, 7, 1, 3, 2, 0, 12, 0, 0, 0, 7, 4, 3, 2, 0, 15, 0, 1, 2, 0, 11]), (20, [3, 7], [30, (Int.negSucc 0), 1, 0, 0, (Int.negSucc 0), 1, 11]), (23, [10, 9], [0, 1, (Int.negSucc 0)]), (23, [10], [0, (Int.negSucc 0)]), (23, [4], [0, (Int.negSucc 0)]), (20, [12, 7], [30, (Int.negSucc 2000), (Int.negSucc 0), 0, 0, (Int.negSucc 0), 1, 11]), (20, [7, 4, 10, 5, 6], [60, 8, 2, 999, 10, 11, 12, 13, 14, 15, 8, 5, 1, 2]), (24, [0, 7], []), (24, [2, 9], [])])]
def t_Mo_of_at_s5002_ct : ct_L := [(0, 387, e_Mo_in), (1, 457, e_Mo_sign), (1, 460, e_Mo_next), (1, 463, e_Mo_wrong), (118, 469, e_Mo_isWord_at_s5002), (202, 491, e_Mo_need_at_gs5002e), (478, 491, e_Mo_need_at_gs5002b)]
set_option maxRecDepth 100000 in
theorem c_Mo_of_at_s5002 {l : Launch} {D : va_G} {kA : Nat → ClassId} (h_Mo_in : ct_ok PRD l D kA GG y_Mo_in z_Mo_in e_Mo_in) (h_Mo_isWord_at_s5002 : ct_ok PRD l D kA GG y_Mo_isWord_at_s5002 z_Mo_isWord_at_s5002 e_Mo_isWord_at_s5002) (h_Mo_need_at_gs5002b : ct_ok PRD l D kA GG y_Mo_need_at_gs5002b z_Mo_need_at_gs5002b e_Mo_need_at_gs5002b) (h_Mo_need_at_gs5002e : ct_ok PRD l D kA GG y_Mo_need_at_gs5002e z_Mo_need_at_gs5002e e_Mo_need_at_gs5002e) (h_Mo_next : ct_ok PRD l D kA GG y_Mo_next z_Mo_next e_Mo_next) (h_Mo_sign : ct_ok PRD l D kA GG y_Mo_sign z_Mo_sign e_Mo_sign) (h_Mo_wrong : ct_ok PRD l D kA GG y_Mo_wrong z_Mo_wrong e_Mo_wrong) : ct_ok PRD l D kA GG y_Mo_of_at_s5002 z_Mo_of_at_s5002 e_Mo_of_at_s5002 := chk_all_ok (FT := [(413, 13, 8), (428, 13, 13), (434, 13, 12), (437, 13, 14)]) (PT := []) (CT := t_Mo_of_at_s5002_ct) (KT := []) (NT := []) (AN := n_Mo_of_at_s5002_an) (OT := [o_Mo_of_at_s5002_0, o_Mo_of_at_s5002_1, o_Mo_of_at_s5002_2, o_Mo_of_at_s5002_3, o_Mo_of_at_s5002_4, o_Mo_of_at_s5002_5, o_Mo_of_at_s5002_6, o_Mo_of_at_s5002_7, o_Mo_of_at_s5002_8, o_Mo_of_at_s5002_9, o_Mo_of_at_s5002_10, o_Mo_of_at_s5002_11, o_Mo_of_at_s5002_12, o_Mo_of_at_s5002_13, o_Mo_of_at_s5002_14, o_Mo_of_at_s5002_15, o_Mo_of_at_s5002_16, o_Mo_of_at_s5002_17, o_Mo_of_at_s5002_18, o_Mo_of_at_s5002_19, o_Mo_of_at_s5002_20, o_Mo_of_at_s5002_21, o_Mo_of_at_s5002_22, o_Mo_of_at_s5002_23, o_Mo_of_at_s5002_24, o_Mo_of_at_s5002_25, o_Mo_of_at_s5002_26, o_Mo_of_at_s5002_27, o_Mo_of_at_s5002_28, o_Mo_of_at_s5002_29, o_Mo_of_at_s5002_30, o_Mo_of_at_s5002_31, o_Mo_of_at_s5002_32, o_Mo_of_at_s5002_33, o_Mo_of_at_s5002_34, o_Mo_of_at_s5002_35, o_Mo_of_at_s5002_36, o_Mo_of_at_s5002_37, o_Mo_of_at_s5002_38, o_Mo_of_at_s5002_39, o_Mo_of_at_s5002_40, o_Mo_of_at_s5002_41, o_Mo_of_at_s5002_42]) 3 732 (List.forall_mem_cons.mpr ⟨oo_Mo_of_at_s5002_0, List.forall_mem_cons.mpr ⟨oo_Mo_of_at_s5002_1, List.forall_mem_cons.mpr ⟨oo_Mo_of_at_s5002_2, List.forall_mem_cons.mpr ⟨oo_Mo_of_at_s5002_3, List.forall_mem_cons.mpr ⟨oo_Mo_of_at_s5002_4, List.forall_mem_cons.mpr ⟨oo_Mo_of_at_s5002_5, List.forall_mem_cons.mpr ⟨oo_Mo_of_at_s5002_6, List.forall_mem_cons.mpr ⟨oo_Mo_of_at_s5002_7, List.forall_mem_cons.mpr ⟨oo_Mo_of_at_s5002_8, List.forall_mem_cons.mpr ⟨oo_Mo_of_at_s5002_9, List.forall_mem_cons.mpr ⟨oo_Mo_of_at_s5002_10, List.forall_mem_cons.mpr ⟨oo_Mo_of_at_s5002_11, List.forall_mem_cons.mpr ⟨oo_Mo_of_at_s5002_12, List.forall_mem_cons.mpr ⟨oo_Mo_of_at_s5002_13, List.forall_mem_cons.mpr ⟨oo_Mo_of_at_s5002_14, List.forall_mem_cons.mpr ⟨oo_Mo_of_at_s5002_15, List.forall_mem_cons.mpr ⟨oo_Mo_of_at_s5002_16, List.forall_mem_cons.mpr ⟨oo_Mo_of_at_s5002_17, List.forall_mem_cons.mpr ⟨oo_Mo_of_at_s5002_18, List.forall_mem_cons.mpr ⟨oo_Mo_of_at_s5002_19, List.forall_mem_cons.mpr ⟨oo_Mo_of_at_s5002_20, List.forall_mem_cons.mpr ⟨oo_Mo_of_at_s5002_21, List.forall_mem_cons.mpr ⟨oo_Mo_of_at_s5002_22, List.forall_mem_cons.mpr ⟨oo_Mo_of_at_s5002_23, List.forall_mem_cons.mpr ⟨oo_Mo_of_at_s5002_24, List.forall_mem_cons.mpr ⟨oo_Mo_of_at_s5002_25, List.forall_mem_cons.mpr ⟨oo_Mo_of_at_s5002_26, List.forall_mem_cons.mpr ⟨oo_Mo_of_at_s5002_27, List.forall_mem_cons.mpr ⟨oo_Mo_of_at_s5002_28, List.forall_mem_cons.mpr ⟨oo_Mo_of_at_s5002_29, List.forall_mem_cons.mpr ⟨oo_Mo_of_at_s5002_30, List.forall_mem_cons.mpr ⟨oo_Mo_of_at_s5002_31, List.forall_mem_cons.mpr ⟨oo_Mo_of_at_s5002_32, List.forall_mem_cons.mpr ⟨oo_Mo_of_at_s5002_33, List.forall_mem_cons.mpr ⟨oo_Mo_of_at_s5002_34, List.forall_mem_cons.mpr ⟨oo_Mo_of_at_s5002_35, List.forall_mem_cons.mpr ⟨oo_Mo_of_at_s5002_36, List.forall_mem_cons.mpr ⟨oo_Mo_of_at_s5002_37, List.forall_mem_cons.mpr ⟨oo_Mo_of_at_s5002_38, List.forall_mem_cons.mpr ⟨oo_Mo_of_at_s5002_39, List.forall_mem_cons.mpr ⟨oo_Mo_of_at_s5002_40, List.forall_mem_cons.mpr ⟨oo_Mo_of_at_s5002_41, List.forall_mem_cons.mpr ⟨oo_Mo_of_at_s5002_42, List.forall_mem_nil _⟩⟩⟩⟩⟩⟩⟩⟩⟩⟩⟩⟩⟩⟩⟩⟩⟩⟩⟩⟩⟩⟩⟩⟩⟩⟩⟩⟩⟩⟩⟩⟩⟩⟩⟩⟩⟩⟩⟩⟩⟩⟩⟩) (by decide +kernel) ⟨List.forall_mem_cons.mpr ⟨gf_Mo_413, List.forall_mem_cons.mpr ⟨gf_Mo_428, List.forall_mem_cons.mpr ⟨gf_Mo_434, List.forall_mem_cons.mpr ⟨gf_Mo_437, List.forall_mem_nil _⟩⟩⟩⟩, List.forall_mem_nil _, List.forall_mem_cons.mpr ⟨cl_static (y := y_Mo_in) h_Mo_in wm_2971 wm_9 wm_2969 wm_2970 ⟨by decide, by decide, by decide +kernel⟩ (by decide), List.forall_mem_cons.mpr ⟨cl_virtual (y := y_Mo_sign) (ci := 13) rfl rfl ⟨_, _, rfl⟩ (by decide +kernel) h_Mo_sign wm_3058 wm_9 wm_3055 wm_3057 wv_13_11 ⟨by decide, by decide, by decide +kernel⟩ (by decide), List.forall_mem_cons.mpr ⟨cl_virtual (y := y_Mo_next) (ci := 13) rfl rfl ⟨_, _, rfl⟩ (by decide +kernel) h_Mo_next wm_2982 wm_9 wm_2979 wm_2981 wv_12_11 ⟨by decide, by decide, by decide +kernel⟩ (by decide), List.forall_mem_cons.mpr ⟨cl_virtual (y := y_Mo_wrong) (ci := 13) rfl rfl ⟨_, _, rfl⟩ (by decide +kernel) h_Mo_wrong wm_3017 wm_9 wm_3014 wm_3016 wv_13_1 ⟨by decide, by decide, by decide +kernel⟩ (by decide), List.forall_mem_cons.mpr ⟨cl_virtual (y := y_Mo_isWord_at_s5002) (ci := 13) rfl rfl ⟨_, _, rfl⟩ (by decide +kernel) h_Mo_isWord_at_s5002 wm_3002 wm_9 wm_2999 wm_3001 wv_12_14 ⟨by decide, by decide, by decide +kernel⟩ (by decide), List.forall_mem_cons.mpr ⟨cl_virtual (y := y_Mo_need_at_gs5002e) (ci := 13) rfl rfl ⟨_, _, rfl⟩ (by decide +kernel) h_Mo_need_at_gs5002e wm_3062 wm_9 wm_3059 wm_3061 wv_13_12 ⟨by decide, by decide, by decide +kernel⟩ (by decide), List.forall_mem_cons.mpr ⟨cl_virtual (y := y_Mo_need_at_gs5002b) (ci := 13) rfl rfl ⟨_, _, rfl⟩ (by decide +kernel) h_Mo_need_at_gs5002b wm_3062 wm_9 wm_3059 wm_3061 wv_13_12 ⟨by decide, by decide, by decide +kernel⟩ (by decide), List.forall_mem_nil _⟩⟩⟩⟩⟩⟩⟩, List.forall_mem_nil _, List.forall_mem_nil _, GG_pl⟩ (by decide +kernel)

set_option maxHeartbeats 4000000 in
theorem vc_Mo_of_at_s5003_0_0 (x2 : Int) (x3 : Int) (x4 : Int) (x8 : Int) (x9 : Int) (kind_0 : Int) (fault_0 : Int) (from_0 : Int) (pos_0 : Int) (tape_0 : Int → Int) (k2 : 9 ≤ x2 ∧ x2 ≤ 9) (k3 : 0 ≤ x3 ∧ x3 ≤ 2000) (k4 : (-1) ≤ x4 ∧ x4 ≤ 48) (k8 : 0 ≤ x8 ∧ x8 ≤ 0) (k9 : 0 ≤ x9 ∧ x9 ≤ 0) (f1 : (x8 = 1) → ((kind_0 = 3) ∧ (fault_0 = 0))) (f4 : ((kind_0 = 1) → (pos_0 ≤ (from_0 + 8))) ∧ ((kind_0 = 0) ∨ ((from_0 + 1) ≤ pos_0))) (f6 : (1 ≤ fault_0) ∨ ((kind_0 = 0) ∨ ((x3 + 1) ≤ pos_0))) (f7 : (1 ≤ fault_0) ∨ (0 ≤ x4)) (hK_0_1 : ∀ j : Int, 0 ≤ j → j < 2000 → (-128) ≤ tape_0 j ∧ tape_0 j ≤ 127) (kz_0_8 : 0 ≤ fault_0 ∧ fault_0 ≤ 5) (kz_0_11 : 0 ≤ pos_0 ∧ pos_0 ≤ 2000) (kz_0_12 : 0 ≤ kind_0 ∧ kind_0 ≤ 4) (kz_0_15 : 0 ≤ from_0 ∧ from_0 ≤ 2000) : 1 * x9 + ((-1) * x2 + 0) ≤ 0 := by
  first | with_reducible assumption | ((have f4_c0 := f4.1); (have f4_c1 := f4.2); (try and_intros) <;> first | with_reducible assumption | (clear f4_c0 f4_c1 f4 f6 f7 hK_0_1 f1; omega)) | ((have f4_c0 := f4.1); (have f4_c1 := f4.2); (first | have f1_b := f1 (by clear f4_c0 f4_c1 f4 f6 f7 hK_0_1 f1; omega) | skip); (first | have f1_d := f1 (by with_reducible assumption) | skip); (try and_intros) <;> first | with_reducible assumption | (clear f4_c0 f4_c1 f4 f6 f7 hK_0_1 f1; omega)) | ((have f4_c0 := f4.1); (have f4_c1 := f4.2); (first | have f1_b := f1 (by clear f4_c0 f4_c1 f4 f6 f7 hK_0_1 f1; omega) | skip); (first | have f1_d := f1 (by with_reducible assumption) | skip); (try and_intros) <;> first | with_reducible assumption | (clear f4_c0 f4_c1 f4 hK_0_1 f1; omega)) | omega
set_option maxHeartbeats 4000000 in
theorem vc_Mo_of_at_s5003_0_1 (x3 : Int) (x4 : Int) (x8 : Int) (x9 : Int) (kind_0 : Int) (fault_0 : Int) (from_0 : Int) (pos_0 : Int) (tape_0 : Int → Int) (k3 : 0 ≤ x3 ∧ x3 ≤ 2000) (k4 : (-1) ≤ x4 ∧ x4 ≤ 48) (k8 : 0 ≤ x8 ∧ x8 ≤ 0) (k9 : 0 ≤ x9 ∧ x9 ≤ 0) (f1 : (x8 = 1) → ((kind_0 = 3) ∧ (fault_0 = 0))) (f4 : ((kind_0 = 1) → (pos_0 ≤ (from_0 + 8))) ∧ ((kind_0 = 0) ∨ ((from_0 + 1) ≤ pos_0))) (f6 : (1 ≤ fault_0) ∨ ((kind_0 = 0) ∨ ((x3 + 1) ≤ pos_0))) (f7 : (1 ≤ fault_0) ∨ (0 ≤ x4)) (hK_0_1 : ∀ j : Int, 0 ≤ j → j < 2000 → (-128) ≤ tape_0 j ∧ tape_0 j ≤ 127) (kz_0_8 : 0 ≤ fault_0 ∧ fault_0 ≤ 5) (kz_0_11 : 0 ≤ pos_0 ∧ pos_0 ≤ 2000) (kz_0_12 : 0 ≤ kind_0 ∧ kind_0 ≤ 4) (kz_0_15 : 0 ≤ from_0 ∧ from_0 ≤ 2000) : (-1) * x9 + 0 ≤ 0 := by
  first | with_reducible assumption | ((have f4_c0 := f4.1); (have f4_c1 := f4.2); (try and_intros) <;> first | with_reducible assumption | (clear f4_c0 f4_c1 f4 f6 f7 hK_0_1 f1; omega)) | ((have f4_c0 := f4.1); (have f4_c1 := f4.2); (first | have f1_b := f1 (by clear f4_c0 f4_c1 f4 f6 f7 hK_0_1 f1; omega) | skip); (first | have f1_d := f1 (by with_reducible assumption) | skip); (try and_intros) <;> first | with_reducible assumption | (clear f4_c0 f4_c1 f4 f6 f7 hK_0_1 f1; omega)) | ((have f4_c0 := f4.1); (have f4_c1 := f4.2); (first | have f1_b := f1 (by clear f4_c0 f4_c1 f4 f6 f7 hK_0_1 f1; omega) | skip); (first | have f1_d := f1 (by with_reducible assumption) | skip); (try and_intros) <;> first | with_reducible assumption | (clear f4_c0 f4_c1 f4 hK_0_1 f1; omega)) | omega
set_option maxHeartbeats 4000000 in
theorem vc_Mo_of_at_s5003_0_2 (x4 : Int) (x5 : Int) (x6 : Int) (x7 : Int) (x8 : Int) (x9 : Int) (kind_0 : Int) (fault_0 : Int) (value_0 : Int) (from_0 : Int) (pos_0 : Int) (tape_0 : Int → Int) (all_0 : Int → Int) (limit_0 : Int) (place_0 : Int) (faultPlace_0 : Int) (r_0 : Int) (k4 : (-1) ≤ x4 ∧ x4 ≤ 48) (k5 : 0 ≤ x5 ∧ x5 ≤ 7) (k6 : 0 ≤ x6 ∧ x6 ≤ 4) (k7 : 91 ≤ x7 ∧ x7 ≤ 91) (k8 : 0 ≤ x8 ∧ x8 ≤ 0) (k9 : 0 ≤ x9 ∧ x9 ≤ 0) (f0 : x8 = 0) (f2 : SGQ (fault_0) (kind_0) (value_0) (x7) (x8)) (f8 : zOBw (limit_0) (pos_0) (kind_0) (place_0) (value_0) (from_0) (fault_0) (faultPlace_0) (r_0) (tape_0) (all_0) (x4) (x5) (x6)) (kz_0_8 : 0 ≤ fault_0 ∧ fault_0 ≤ 5) (kz_0_9 : 0 ≤ faultPlace_0 ∧ faultPlace_0 ≤ 2000) (kz_0_10 : 0 ≤ limit_0 ∧ limit_0 ≤ 2000) (kz_0_11 : 0 ≤ pos_0 ∧ pos_0 ≤ 2000) (kz_0_12 : 0 ≤ kind_0 ∧ kind_0 ≤ 4) (kz_0_13 : 0 ≤ place_0 ∧ place_0 ≤ 2000) (kz_0_14 : (-49) ≤ value_0 ∧ value_0 ≤ 1048575) (kz_0_15 : 0 ≤ from_0 ∧ from_0 ≤ 2000) : zOFw (limit_0) (pos_0) (kind_0) (place_0) (value_0) (from_0) (fault_0) (faultPlace_0) (r_0) (tape_0) (all_0) (x4) (x9) (x5) (x6) := by
  first
    | exact of_no_w ‹zOBw _ _ _ _ _ _ _ _ _ _ _ _ _ _› ‹SGQ _ _ _ _ _› (by omega) (by omega) (by omega)
    | (exfalso; omega)
def o_Mo_of_at_s5003_0 : or_T := (10, 10, [(0, (2, 0, 0, [165])), (2, (0, 9, 9, [])), (3, (0, 0, 2000, [])), (4, (0, -1, 48, [])), (5, (0, 0, 7, [])), (6, (0, 0, 4, [])), (7, (0, 91, 91, [])), (8, (0, 0, 0, [])), (9, (0, 0, 0, []))], [(8, [8], [0]), (20, [8, 0], [50, 2, 0, 1012, 1008, 4, 6, 1, 2, 1, 0, 0, 1, 2, 7, 1, 3, 2, 1, 12, 0, 3, 1, 3, 2, 1, 8, 0, 0]), (20, [0, 7, 8], [60, 3, 0, 963, 8, 12, 14]), (20, [0], [50, 3, 0, 12, 11, 15, 2, 21, 4, 7, 1, 3, 2, 0, 12, 0, 1, 0, 3, 2, 0, 11, 4, 3, 2, 0, 15, 0, 8, 3, 7, 1, 3, 2, 0, 12, 0, 0, 0, 7, 4, 3, 2, 0, 15, 0, 1, 2, 0, 11]), (20, [0, 3], [50, 3, 0, 8, 12, 11, 3, 7, 0, 2, 0, 1, 2, 0, 8, 3, 7, 1, 3, 2, 0, 12, 0, 0, 0, 6, 4, 2, 1, 1, 0, 1, 2, 0, 11]), (20, [0, 4], [50, 1, 0, 8, 3, 7, 0, 2, 0, 1, 2, 0, 8, 0, 2, 0, 0, 1, 1]), (20, [0, 4, 5, 6], [60, 9, 2, 1016, 10, 11, 12, 13, 14, 15, 8, 9, 5, 1, 2])], [], [], [(20, [9, 2], [30, 0, 1, 0, 0, -1, 0, 0]), (20, [9], [30, 0, -1, 0, 0]), (20, [0, 4, 9, 5, 6], [60, 9, 2, 1014, 10, 11, 12, 13, 14, 15, 8, 9, 5, 1, 2])], [], [])
theorem oo_Mo_of_at_s5003_0 {kA : Nat → ClassId} : or_ok PRD kA GG o_Mo_of_at_s5003_0 := by
  refine or_mk fun A ta ws vs hD hth hl => ?_
  intro t0 r0 t2 k2 t3 k3 t4 k4 t5 k5 t6 k6 t7 k7 t8 k8 t9 k9 f0 f1 f2 f4 f6 f7 f8
  have cr_0_1 := fdq_39 hD hth r0
  have hK_0_1 := elq_7 hD hth cr_0_1
  have kz_0_8 := fdq_34 hD hth r0
  have kz_0_9 := fdq_44 hD hth r0
  have kz_0_10 := fdq_43 hD hth r0
  have kz_0_11 := fdq_237 hD hth r0
  have kz_0_12 := fdq_187 hD hth r0
  have kz_0_13 := fdq_238 hD hth r0
  have kz_0_14 := fdq_188 hD hth r0
  have kz_0_15 := fdq_239 hD hth r0
  have nf0 : fc_1 PRD (20, [9, 2], [30, 0, 1, 0, 0, -1, 0, 0]) ws (vs) := ⟨nf_in hl rfl, sgq_201 (vc_Mo_of_at_s5003_0_0 (v_iv (n_v vs 2)) (v_iv (n_v vs 3)) (v_iv (n_v vs 4)) (v_iv (n_v vs 8)) (v_iv (n_v vs 9)) (w_fi ws (n_v vs 0) 12) (w_fi ws (n_v vs 0) 8) (w_fi ws (n_v vs 0) 15) (w_fi ws (n_v vs 0) 11) (w_ei ws (w_ar ws (n_v vs 0) 1)) k2 k3 k4 k8 k9 (shm_730 f1) (shm_1438 f4) (shm_1722 f6) (shm_2000 f7) hK_0_1 kz_0_8 kz_0_11 kz_0_12 kz_0_15)⟩
  have nf1 : fc_1 PRD (20, [9], [30, 0, -1, 0, 0]) ws (vs) := ⟨nf_in hl rfl, sgq_2002 (vc_Mo_of_at_s5003_0_1 (v_iv (n_v vs 3)) (v_iv (n_v vs 4)) (v_iv (n_v vs 8)) (v_iv (n_v vs 9)) (w_fi ws (n_v vs 0) 12) (w_fi ws (n_v vs 0) 8) (w_fi ws (n_v vs 0) 15) (w_fi ws (n_v vs 0) 11) (w_ei ws (w_ar ws (n_v vs 0) 1)) k3 k4 k8 k9 (shm_730 f1) (shm_1438 f4) (shm_1722 f6) (shm_2000 f7) hK_0_1 kz_0_8 kz_0_11 kz_0_12 kz_0_15)⟩
  have nf2 : fc_1 PRD (20, [0, 4, 9, 5, 6], [60, 9, 2, 1014, 10, 11, 12, 13, 14, 15, 8, 9, 5, 1, 2]) ws (vs) := ⟨nf_in hl rfl, sgq_2016 (vc_Mo_of_at_s5003_0_2 (v_iv (n_v vs 4)) (v_iv (n_v vs 5)) (v_iv (n_v vs 6)) (v_iv (n_v vs 7)) (v_iv (n_v vs 8)) (v_iv (n_v vs 9)) (w_fi ws (n_v vs 0) 12) (w_fi ws (n_v vs 0) 8) (w_fi ws (n_v vs 0) 14) (w_fi ws (n_v vs 0) 15) (w_fi ws (n_v vs 0) 11) (w_ei ws (w_ar ws (n_v vs 0) 1)) (w_ei ws (w_ar ws (n_v vs 0) 2)) (w_fi ws (n_v vs 0) 10) (w_fi ws (n_v vs 0) 13) (w_fi ws (n_v vs 0) 9) (w_fi ws (n_v vs 0) 5) k4 k5 k6 k7 k8 k9 (shm_192 f0) (shm_731 f2) (shm_2015 f8) kz_0_8 kz_0_9 kz_0_10 kz_0_11 kz_0_12 kz_0_13 kz_0_14 kz_0_15)⟩
  refine ⟨(fun _ h => (by cases h)), [], trivial, ?_, (fun _ h => (by cases h))⟩
  rw [List.append_nil]
  exact List.forall_mem_cons.mpr ⟨⟨show (20 : Nat) < 100 from by decide, nf0⟩, List.forall_mem_cons.mpr ⟨⟨show (20 : Nat) < 100 from by decide, nf1⟩, List.forall_mem_cons.mpr ⟨⟨show (20 : Nat) < 100 from by decide, nf2⟩, (fun _ h => (by cases h))⟩⟩⟩
set_option maxHeartbeats 4000000 in
theorem vc_Mo_of_at_s5003_1_0 (x3 : Int) (x4 : Int) (x8 : Int) (kind_0 : Int) (fault_0 : Int) (from_0 : Int) (pos_0 : Int) (tape_0 : Int → Int) (k3 : 0 ≤ x3 ∧ x3 ≤ 2000) (k4 : (-1) ≤ x4 ∧ x4 ≤ 48) (k8 : 1 ≤ x8 ∧ x8 ≤ 1) (f1 : (x8 = 1) → ((kind_0 = 3) ∧ (fault_0 = 0))) (f4 : ((kind_0 = 1) → (pos_0 ≤ (from_0 + 8))) ∧ ((kind_0 = 0) ∨ ((from_0 + 1) ≤ pos_0))) (f6 : (1 ≤ fault_0) ∨ ((kind_0 = 0) ∨ ((x3 + 1) ≤ pos_0))) (f7 : (1 ≤ fault_0) ∨ (0 ≤ x4)) (hK_0_1 : ∀ j : Int, 0 ≤ j → j < 2000 → (-128) ≤ tape_0 j ∧ tape_0 j ≤ 127) (kz_0_8 : 0 ≤ fault_0 ∧ fault_0 ≤ 5) (kz_0_11 : 0 ≤ pos_0 ∧ pos_0 ≤ 2000) (kz_0_12 : 0 ≤ kind_0 ∧ kind_0 ≤ 4) (kz_0_15 : 0 ≤ from_0 ∧ from_0 ≤ 2000) : (-1) * x4 + 0 ≤ 0 := by
  first | with_reducible assumption | ((have f4_c0 := f4.1); (have f4_c1 := f4.2); (try and_intros) <;> first | with_reducible assumption | (clear f4_c0 f4_c1 f4 f6 f7 hK_0_1 f1; omega)) | ((have f4_c0 := f4.1); (have f4_c1 := f4.2); (first | have f1_b := f1 (by clear f4_c0 f4_c1 f4 f6 f7 hK_0_1 f1; omega) | skip); (first | have f1_d := f1 (by with_reducible assumption) | skip); (try and_intros) <;> first | with_reducible assumption | (clear f4_c0 f4_c1 f4 f6 f7 hK_0_1 f1; omega)) | ((have f4_c0 := f4.1); (have f4_c1 := f4.2); (first | have f1_b := f1 (by clear f4_c0 f4_c1 f4 f6 f7 hK_0_1 f1; omega) | skip); (first | have f1_d := f1 (by with_reducible assumption) | skip); (try and_intros) <;> first | with_reducible assumption | (clear f4_c0 f4_c1 f4 hK_0_1 f1; omega)) | omega
def o_Mo_of_at_s5003_1 : or_T := (11, 9, [(0, (2, 0, 0, [165])), (3, (0, 0, 2000, [])), (4, (0, -1, 48, [])), (8, (0, 1, 1, []))], [(20, [8, 0], [50, 2, 0, 1012, 1008, 4, 6, 1, 2, 1, 0, 0, 1, 2, 7, 1, 3, 2, 1, 12, 0, 3, 1, 3, 2, 1, 8, 0, 0]), (20, [0], [50, 3, 0, 12, 11, 15, 2, 21, 4, 7, 1, 3, 2, 0, 12, 0, 1, 0, 3, 2, 0, 11, 4, 3, 2, 0, 15, 0, 8, 3, 7, 1, 3, 2, 0, 12, 0, 0, 0, 7, 4, 3, 2, 0, 15, 0, 1, 2, 0, 11]), (20, [0, 3], [50, 3, 0, 8, 12, 11, 3, 7, 0, 2, 0, 1, 2, 0, 8, 3, 7, 1, 3, 2, 0, 12, 0, 0, 0, 6, 4, 2, 1, 1, 0, 1, 2, 0, 11]), (20, [0, 4], [50, 1, 0, 8, 3, 7, 0, 2, 0, 1, 2, 0, 8, 0, 2, 0, 0, 1, 1])], [], [], [(23, [4], [0, -1])], [], [])
theorem oo_Mo_of_at_s5003_1 {kA : Nat → ClassId} : or_ok PRD kA GG o_Mo_of_at_s5003_1 := by
  refine or_mk fun A ta ws vs hD hth hl => ?_
  intro t0 r0 t3 k3 t4 k4 t8 k8 f1 f4 f6 f7
  have cr_0_1 := fdq_39 hD hth r0
  have hK_0_1 := elq_7 hD hth cr_0_1
  have kz_0_8 := fdq_34 hD hth r0
  have kz_0_11 := fdq_237 hD hth r0
  have kz_0_12 := fdq_187 hD hth r0
  have kz_0_15 := fdq_239 hD hth r0
  have nf0 : fc_1 PRD (23, [4], [0, -1]) ws (vs) := ⟨nf_in hl rfl, sgq_1043 (vc_Mo_of_at_s5003_1_0 (v_iv (n_v vs 3)) (v_iv (n_v vs 4)) (v_iv (n_v vs 8)) (w_fi ws (n_v vs 0) 12) (w_fi ws (n_v vs 0) 8) (w_fi ws (n_v vs 0) 15) (w_fi ws (n_v vs 0) 11) (w_ei ws (w_ar ws (n_v vs 0) 1)) k3 k4 k8 (shm_730 f1) (shm_1438 f4) (shm_1722 f6) (shm_2000 f7) hK_0_1 kz_0_8 kz_0_11 kz_0_12 kz_0_15)⟩
  refine ⟨(fun _ h => (by cases h)), [], trivial, ?_, (fun _ h => (by cases h))⟩
  rw [List.append_nil]
  exact List.forall_mem_cons.mpr ⟨⟨show (23 : Nat) < 100 from by decide, nf0⟩, (fun _ h => (by cases h))⟩
set_option maxHeartbeats 4000000 in
theorem vc_Mo_of_at_s5003_2_0 (x3 : Int) (x4 : Int) (x8 : Int) (kind_0 : Int) (fault_0 : Int) (from_0 : Int) (pos_0 : Int) (tape_0 : Int → Int) (gx : Int) (k3 : 0 ≤ x3 ∧ x3 ≤ 2000) (k4 : (-1) ≤ x4 ∧ x4 ≤ 48) (k8 : 1 ≤ x8 ∧ x8 ≤ 1) (f2 : (x8 = 1) → ((kind_0 = 3) ∧ (fault_0 = 0))) (f5 : ((kind_0 = 1) → (pos_0 ≤ (from_0 + 8))) ∧ ((kind_0 = 0) ∨ ((from_0 + 1) ≤ pos_0))) (f7 : (1 ≤ fault_0) ∨ ((kind_0 = 0) ∨ ((x3 + 1) ≤ pos_0))) (f8 : (1 ≤ fault_0) ∨ (0 ≤ x4)) (hK_0_1 : ∀ j : Int, 0 ≤ j → j < 2000 → (-128) ≤ tape_0 j ∧ tape_0 j ≤ 127) (kz_0_8 : 0 ≤ fault_0 ∧ fault_0 ≤ 5) (kz_0_11 : 0 ≤ pos_0 ∧ pos_0 ≤ 2000) (kz_0_12 : 0 ≤ kind_0 ∧ kind_0 ≤ 4) (kz_0_15 : 0 ≤ from_0 ∧ from_0 ≤ 2000) (ex2 : gx = pos_0) : 1 * gx + ((-1) * pos_0 + 0) ≤ 0 := by
  first | with_reducible assumption | ((have f5_c0 := f5.1); (have f5_c1 := f5.2); (try and_intros) <;> first | with_reducible assumption | (clear f5_c0 f5_c1 f5 f7 f8 hK_0_1 f2; omega)) | ((have f5_c0 := f5.1); (have f5_c1 := f5.2); (first | have f2_b := f2 (by clear f5_c0 f5_c1 f5 f7 f8 hK_0_1 f2; omega) | skip); (first | have f2_d := f2 (by with_reducible assumption) | skip); (try and_intros) <;> first | with_reducible assumption | (clear f5_c0 f5_c1 f5 f7 f8 hK_0_1 f2; omega)) | ((have f5_c0 := f5.1); (have f5_c1 := f5.2); (first | have f2_b := f2 (by clear f5_c0 f5_c1 f5 f7 f8 hK_0_1 f2; omega) | skip); (first | have f2_d := f2 (by with_reducible assumption) | skip); (try and_intros) <;> first | with_reducible assumption | (clear f5_c0 f5_c1 f5 hK_0_1 f2; omega)) | omega
set_option maxHeartbeats 4000000 in
theorem vc_Mo_of_at_s5003_2_1 (x3 : Int) (x4 : Int) (x8 : Int) (kind_0 : Int) (fault_0 : Int) (from_0 : Int) (pos_0 : Int) (tape_0 : Int → Int) (gx : Int) (k3 : 0 ≤ x3 ∧ x3 ≤ 2000) (k4 : (-1) ≤ x4 ∧ x4 ≤ 48) (k8 : 1 ≤ x8 ∧ x8 ≤ 1) (f2 : (x8 = 1) → ((kind_0 = 3) ∧ (fault_0 = 0))) (f5 : ((kind_0 = 1) → (pos_0 ≤ (from_0 + 8))) ∧ ((kind_0 = 0) ∨ ((from_0 + 1) ≤ pos_0))) (f7 : (1 ≤ fault_0) ∨ ((kind_0 = 0) ∨ ((x3 + 1) ≤ pos_0))) (f8 : (1 ≤ fault_0) ∨ (0 ≤ x4)) (hK_0_1 : ∀ j : Int, 0 ≤ j → j < 2000 → (-128) ≤ tape_0 j ∧ tape_0 j ≤ 127) (kz_0_8 : 0 ≤ fault_0 ∧ fault_0 ≤ 5) (kz_0_11 : 0 ≤ pos_0 ∧ pos_0 ≤ 2000) (kz_0_12 : 0 ≤ kind_0 ∧ kind_0 ≤ 4) (kz_0_15 : 0 ≤ from_0 ∧ from_0 ≤ 2000) (ex2 : gx = pos_0) : gx = pos_0 := by
  first | with_reducible assumption | ((have f5_c0 := f5.1); (have f5_c1 := f5.2); (try and_intros) <;> first | with_reducible assumption | (clear f5_c0 f5_c1 f5 f7 f8 hK_0_1 f2; omega)) | ((have f5_c0 := f5.1); (have f5_c1 := f5.2); (first | have f2_b := f2 (by clear f5_c0 f5_c1 f5 f7 f8 hK_0_1 f2; omega) | skip); (first | have f2_d := f2 (by with_reducible assumption) | skip); (try and_intros) <;> first | with_reducible assumption | (clear f5_c0 f5_c1 f5 f7 f8 hK_0_1 f2; omega)) | ((have f5_c0 := f5.1); (have f5_c1 := f5.2); (first | have f2_b := f2 (by clear f5_c0 f5_c1 f5 f7 f8 hK_0_1 f2; omega) | skip); (first | have f2_d := f2 (by with_reducible assumption) | skip); (try and_intros) <;> first | with_reducible assumption | (clear f5_c0 f5_c1 f5 hK_0_1 f2; omega)) | omega
set_option maxHeartbeats 4000000 in
theorem vc_Mo_of_at_s5003_2_2 (x4 : Int) (x5 : Int) (x6 : Int) (x7 : Int) (x8 : Int) (kind_0 : Int) (fault_0 : Int) (value_0 : Int) (from_0 : Int) (pos_0 : Int) (tape_0 : Int → Int) (all_0 : Int → Int) (limit_0 : Int) (place_0 : Int) (faultPlace_0 : Int) (r_0 : Int) (gx : Int) (k4 : (-1) ≤ x4 ∧ x4 ≤ 48) (k5 : 0 ≤ x5 ∧ x5 ≤ 7) (k6 : 0 ≤ x6 ∧ x6 ≤ 4) (k7 : 91 ≤ x7 ∧ x7 ≤ 91) (k8 : 1 ≤ x8 ∧ x8 ≤ 1) (f1 : x8 ≠ 0) (f3 : SGQ (fault_0) (kind_0) (value_0) (x7) (x8)) (f9 : zOBw (limit_0) (pos_0) (kind_0) (place_0) (value_0) (from_0) (fault_0) (faultPlace_0) (r_0) (tape_0) (all_0) (x4) (x5) (x6)) (kz_0_8 : 0 ≤ fault_0 ∧ fault_0 ≤ 5) (kz_0_9 : 0 ≤ faultPlace_0 ∧ faultPlace_0 ≤ 2000) (kz_0_10 : 0 ≤ limit_0 ∧ limit_0 ≤ 2000) (kz_0_11 : 0 ≤ pos_0 ∧ pos_0 ≤ 2000) (kz_0_12 : 0 ≤ kind_0 ∧ kind_0 ≤ 4) (kz_0_13 : 0 ≤ place_0 ∧ place_0 ≤ 2000) (kz_0_14 : (-49) ≤ value_0 ∧ value_0 ≤ 1048575) (kz_0_15 : 0 ≤ from_0 ∧ from_0 ≤ 2000) (ex2 : gx = pos_0) : ZLM (limit_0) (pos_0) := by
  first | subst ex2 | skip
  first
    | exact ob_0_s ‹zOBs _ _ _ _ _ _ _ _ _ _ _ _ _ _› (sgq_t (C := 91) ‹SGQ _ _ _ _ _› (by omega) (by omega)).1
    | exact ob_0_w ‹zOBw _ _ _ _ _ _ _ _ _ _ _ _ _ _› (sgq_t (C := 91) ‹SGQ _ _ _ _ _› (by omega) (by omega)).1
    | exact (oi_0_s ‹zOIs _ _ _ _ _ _ _ _ _ _ _ _ _ _›).2
    | exact (oi_0_w ‹zOIw _ _ _ _ _ _ _ _ _ _ _ _ _ _›).2
    | exact o11_0_s ‹zO11s _ _ _ _ _ _ _ _ _ _ _ _ _ _› (by omega)
    | exact o11_0_w ‹zO11w _ _ _ _ _ _ _ _ _ _ _ _ _ _› (by omega)
    | (exfalso; omega)
set_option maxHeartbeats 4000000 in
theorem vc_Mo_of_at_s5003_2_3 (x3 : Int) (x4 : Int) (x8 : Int) (kind_0 : Int) (fault_0 : Int) (from_0 : Int) (pos_0 : Int) (tape_0 : Int → Int) (gx : Int) (k3 : 0 ≤ x3 ∧ x3 ≤ 2000) (k4 : (-1) ≤ x4 ∧ x4 ≤ 48) (k8 : 1 ≤ x8 ∧ x8 ≤ 1) (f2 : (x8 = 1) → ((kind_0 = 3) ∧ (fault_0 = 0))) (f5 : ((kind_0 = 1) → (pos_0 ≤ (from_0 + 8))) ∧ ((kind_0 = 0) ∨ ((from_0 + 1) ≤ pos_0))) (f6 : 1 * x3 + ((-1) * pos_0 + 0) ≤ 0) (f7 : (1 ≤ fault_0) ∨ ((kind_0 = 0) ∨ ((x3 + 1) ≤ pos_0))) (f8 : (1 ≤ fault_0) ∨ (0 ≤ x4)) (hK_0_1 : ∀ j : Int, 0 ≤ j → j < 2000 → (-128) ≤ tape_0 j ∧ tape_0 j ≤ 127) (kz_0_8 : 0 ≤ fault_0 ∧ fault_0 ≤ 5) (kz_0_11 : 0 ≤ pos_0 ∧ pos_0 ≤ 2000) (kz_0_12 : 0 ≤ kind_0 ∧ kind_0 ≤ 4) (kz_0_15 : 0 ≤ from_0 ∧ from_0 ≤ 2000) (ex2 : gx = pos_0) : 1 * x3 + ((-1) * gx + 0) ≤ (-1) := by
  first | with_reducible assumption | ((have f5_c0 := f5.1); (have f5_c1 := f5.2); (try and_intros) <;> first | with_reducible assumption | (clear f5_c0 f5_c1 f5 f7 f8 hK_0_1 f2; omega)) | ((have f5_c0 := f5.1); (have f5_c1 := f5.2); (first | have f2_b := f2 (by clear f5_c0 f5_c1 f5 f7 f8 hK_0_1 f2; omega) | skip); (first | have f2_d := f2 (by with_reducible assumption) | skip); (try and_intros) <;> first | with_reducible assumption | (clear f5_c0 f5_c1 f5 f7 f8 hK_0_1 f2; omega)) | ((have f5_c0 := f5.1); (have f5_c1 := f5.2); (first | have f2_b := f2 (by clear f5_c0 f5_c1 f5 f7 f8 hK_0_1 f2; omega) | skip); (first | have f2_d := f2 (by with_reducible assumption) | skip); (try and_intros) <;> first | with_reducible assumption | (clear f5_c0 f5_c1 f5 hK_0_1 f2; omega)) | omega
set_option maxHeartbeats 4000000 in
theorem vc_Mo_of_at_s5003_2_4 (x4 : Int) (x5 : Int) (x6 : Int) (x7 : Int) (x8 : Int) (kind_0 : Int) (fault_0 : Int) (value_0 : Int) (from_0 : Int) (pos_0 : Int) (tape_0 : Int → Int) (all_0 : Int → Int) (limit_0 : Int) (place_0 : Int) (faultPlace_0 : Int) (r_0 : Int) (gx : Int) (k4 : (-1) ≤ x4 ∧ x4 ≤ 48) (k5 : 0 ≤ x5 ∧ x5 ≤ 7) (k6 : 0 ≤ x6 ∧ x6 ≤ 4) (k7 : 91 ≤ x7 ∧ x7 ≤ 91) (k8 : 1 ≤ x8 ∧ x8 ≤ 1) (f1 : x8 ≠ 0) (f3 : SGQ (fault_0) (kind_0) (value_0) (x7) (x8)) (f9 : zOBw (limit_0) (pos_0) (kind_0) (place_0) (value_0) (from_0) (fault_0) (faultPlace_0) (r_0) (tape_0) (all_0) (x4) (x5) (x6)) (kz_0_8 : 0 ≤ fault_0 ∧ fault_0 ≤ 5) (kz_0_9 : 0 ≤ faultPlace_0 ∧ faultPlace_0 ≤ 2000) (kz_0_10 : 0 ≤ limit_0 ∧ limit_0 ≤ 2000) (kz_0_11 : 0 ≤ pos_0 ∧ pos_0 ≤ 2000) (kz_0_12 : 0 ≤ kind_0 ∧ kind_0 ≤ 4) (kz_0_13 : 0 ≤ place_0 ∧ place_0 ≤ 2000) (kz_0_14 : (-49) ≤ value_0 ∧ value_0 ≤ 1048575) (kz_0_15 : 0 ≤ from_0 ∧ from_0 ≤ 2000) (ex2 : gx = pos_0) : zTS9w (limit_0) (fault_0) (r_0) (tape_0) (all_0) (x4) (x5) (x6) (gx) := by
  first | subst ex2 | skip
  first
    | exact of_go_w ‹zOBw _ _ _ _ _ _ _ _ _ _ _ _ _ _› ‹SGQ _ _ _ _ _› (by omega) (by omega) (by omega)
    | (exfalso; omega)
def o_Mo_of_at_s5003_2 : or_T := (12, 9, [(0, (2, 0, 0, [165])), (3, (0, 0, 2000, [])), (4, (0, -1, 48, [])), (5, (0, 0, 7, [])), (6, (0, 0, 4, [])), (7, (0, 91, 91, [])), (8, (0, 1, 1, []))], [(8, [8], [1]), (20, [8, 0], [50, 2, 0, 1012, 1008, 4, 6, 1, 2, 1, 0, 0, 1, 2, 7, 1, 3, 2, 1, 12, 0, 3, 1, 3, 2, 1, 8, 0, 0]), (20, [0, 7, 8], [60, 3, 0, 963, 8, 12, 14]), (20, [0], [50, 3, 0, 12, 11, 15, 2, 21, 4, 7, 1, 3, 2, 0, 12, 0, 1, 0, 3, 2, 0, 11, 4, 3, 2, 0, 15, 0, 8, 3, 7, 1, 3, 2, 0, 12, 0, 0, 0, 7, 4, 3, 2, 0, 15, 0, 1, 2, 0, 11]), (20, [3, 0], [30, 0, 1, 0, 0, -1, 1, 11]), (20, [0, 3], [50, 3, 0, 8, 12, 11, 3, 7, 0, 2, 0, 1, 2, 0, 8, 3, 7, 1, 3, 2, 0, 12, 0, 0, 0, 6, 4, 2, 1, 1, 0, 1, 2, 0, 11]), (20, [0, 4], [50, 1, 0, 8, 3, 7, 0, 2, 0, 1, 2, 0, 8, 0, 2, 0, 0, 1, 1]), (20, [0, 4, 5, 6], [60, 9, 2, 1016, 10, 11, 12, 13, 14, 15, 8, 9, 5, 1, 2])], [], [(0, 0, 2000, [])], [(20, [9, 0], [30, 0, 1, 0, 0, -1, 1, 11]), (20, [9, 0], [50, 1, 0, 1011, 1, 2, 1, 0, 2, 1, 11]), (20, [0], [60, 2, 0, 947, 10, 11]), (23, [3, 9], [-1, 1, -1]), (20, [0, 4, 5, 6, 9], [60, 3, 2, 975, 10, 8, 5, 1, 2])], [], [])
theorem oo_Mo_of_at_s5003_2 {kA : Nat → ClassId} : or_ok PRD kA GG o_Mo_of_at_s5003_2 := by
  refine or_mk fun A ta ws vs hD hth hl => ?_
  intro t0 r0 t3 k3 t4 k4 t5 k5 t6 k6 t7 k7 t8 k8 f1 f2 f3 f5 f6 f7 f8 f9
  replace f1 := shm_142 f1
  replace f2 := shm_730 f2
  replace f3 := shm_731 f3
  replace f5 := shm_1438 f5
  replace f6 := shm_1431 f6
  replace f7 := shm_1722 f7
  replace f8 := shm_2000 f8
  replace f9 := shm_2015 f9
  have cr_0_1 := fdq_39 hD hth r0
  have hK_0_1 := elq_7 hD hth cr_0_1
  have kz_0_8 := fdq_34 hD hth r0
  have kz_0_9 := fdq_44 hD hth r0
  have kz_0_10 := fdq_43 hD hth r0
  have kz_0_11 := fdq_237 hD hth r0
  have kz_0_12 := fdq_187 hD hth r0
  have kz_0_13 := fdq_238 hD hth r0
  have kz_0_14 := fdq_188 hD hth r0
  have kz_0_15 := fdq_239 hD hth r0
  obtain ⟨x, ex, hx⟩ := iv_ex (ta := ta) (lo := 0) (hi := 2000) (z := w_fi ws (n_v vs 0) 11) (by omega) (by omega) (by omega) (by omega)
  have ex2 : v_iv (Value.int x) = w_fi ws (n_v vs 0) 11 := ex
  have ex3 : 0 ≤ v_iv (Value.int x) ∧ v_iv (Value.int x) ≤ 2000 := tv_rng hx
  have e_0 : n_v (vs ++ [Value.int x]) 0 = n_v vs 0 := n_v_old (by rw [hl]; decide)
  have e_3 : n_v (vs ++ [Value.int x]) 3 = n_v vs 3 := n_v_old (by rw [hl]; decide)
  have e_4 : n_v (vs ++ [Value.int x]) 4 = n_v vs 4 := n_v_old (by rw [hl]; decide)
  have e_5 : n_v (vs ++ [Value.int x]) 5 = n_v vs 5 := n_v_old (by rw [hl]; decide)
  have e_6 : n_v (vs ++ [Value.int x]) 6 = n_v vs 6 := n_v_old (by rw [hl]; decide)
  have e_9 : n_v (vs ++ [Value.int x]) 9 = Value.int x := n_v_new hl
  have nf0 : fc_1 PRD (20, [9, 0], [30, 0, 1, 0, 0, -1, 1, 11]) ws (vs ++ [Value.int x]) := by
    refine ⟨nf_inA hl rfl, sgq_1431 ?_⟩
    · show 1 * v_iv (n_v (vs ++ [Value.int x]) 9) + ((-1) * w_fi ws (n_v (vs ++ [Value.int x]) 0) 11 + 0) ≤ 0
      simp only [e_0, e_9]
      exact vc_Mo_of_at_s5003_2_0 (v_iv (n_v vs 3)) (v_iv (n_v vs 4)) (v_iv (n_v vs 8)) (w_fi ws (n_v vs 0) 12) (w_fi ws (n_v vs 0) 8) (w_fi ws (n_v vs 0) 15) (w_fi ws (n_v vs 0) 11) (w_ei ws (w_ar ws (n_v vs 0) 1)) (v_iv (Value.int x)) k3 k4 k8 f2 f5 f7 f8 hK_0_1 kz_0_8 kz_0_11 kz_0_12 kz_0_15 ex2
  have nf1 : fc_1 PRD (20, [9, 0], [50, 1, 0, 1011, 1, 2, 1, 0, 2, 1, 11]) ws (vs ++ [Value.int x]) := by
    refine ⟨nf_inA hl rfl, sgq_1432 ?_⟩
    · show v_iv (n_v (vs ++ [Value.int x]) 9) = w_fi ws (n_v (vs ++ [Value.int x]) 0) 11
      simp only [e_0, e_9]
      exact vc_Mo_of_at_s5003_2_1 (v_iv (n_v vs 3)) (v_iv (n_v vs 4)) (v_iv (n_v vs 8)) (w_fi ws (n_v vs 0) 12) (w_fi ws (n_v vs 0) 8) (w_fi ws (n_v vs 0) 15) (w_fi ws (n_v vs 0) 11) (w_ei ws (w_ar ws (n_v vs 0) 1)) (v_iv (Value.int x)) k3 k4 k8 f2 f5 f7 f8 hK_0_1 kz_0_8 kz_0_11 kz_0_12 kz_0_15 ex2
  have nf2 : fc_1 PRD (20, [0], [60, 2, 0, 947, 10, 11]) ws (vs ++ [Value.int x]) := by
    refine ⟨nf_inA hl rfl, sgq_1433 ?_⟩
    · show ZLM (w_fi ws (n_v (vs ++ [Value.int x]) 0) 10) (w_fi ws (n_v (vs ++ [Value.int x]) 0) 11)
      rw [e_0]
      exact vc_Mo_of_at_s5003_2_2 (v_iv (n_v vs 4)) (v_iv (n_v vs 5)) (v_iv (n_v vs 6)) (v_iv (n_v vs 7)) (v_iv (n_v vs 8)) (w_fi ws (n_v vs 0) 12) (w_fi ws (n_v vs 0) 8) (w_fi ws (n_v vs 0) 14) (w_fi ws (n_v vs 0) 15) (w_fi ws (n_v vs 0) 11) (w_ei ws (w_ar ws (n_v vs 0) 1)) (w_ei ws (w_ar ws (n_v vs 0) 2)) (w_fi ws (n_v vs 0) 10) (w_fi ws (n_v vs 0) 13) (w_fi ws (n_v vs 0) 9) (w_fi ws (n_v vs 0) 5) (v_iv (Value.int x)) k4 k5 k6 k7 k8 f1 f3 f9 kz_0_8 kz_0_9 kz_0_10 kz_0_11 kz_0_12 kz_0_13 kz_0_14 kz_0_15 ex2
  have nf3 : fc_1 PRD (23, [3, 9], [-1, 1, -1]) ws (vs ++ [Value.int x]) := by
    refine ⟨nf_inA hl rfl, sgq_193 ?_⟩
    · show 1 * v_iv (n_v (vs ++ [Value.int x]) 3) + ((-1) * v_iv (n_v (vs ++ [Value.int x]) 9) + 0) ≤ (-1)
      simp only [e_3, e_9]
      exact vc_Mo_of_at_s5003_2_3 (v_iv (n_v vs 3)) (v_iv (n_v vs 4)) (v_iv (n_v vs 8)) (w_fi ws (n_v vs 0) 12) (w_fi ws (n_v vs 0) 8) (w_fi ws (n_v vs 0) 15) (w_fi ws (n_v vs 0) 11) (w_ei ws (w_ar ws (n_v vs 0) 1)) (v_iv (Value.int x)) k3 k4 k8 f2 f5 f6 f7 f8 hK_0_1 kz_0_8 kz_0_11 kz_0_12 kz_0_15 ex2
  have nf4 : fc_1 PRD (20, [0, 4, 5, 6, 9], [60, 3, 2, 975, 10, 8, 5, 1, 2]) ws (vs ++ [Value.int x]) := by
    refine ⟨nf_inA hl rfl, sgq_2017 ?_⟩
    · show zTS9w (w_fi ws (n_v (vs ++ [Value.int x]) 0) 10) (w_fi ws (n_v (vs ++ [Value.int x]) 0) 8) (w_fi ws (n_v (vs ++ [Value.int x]) 0) 5) (w_ei ws (w_ar ws (n_v (vs ++ [Value.int x]) 0) 1)) (w_ei ws (w_ar ws (n_v (vs ++ [Value.int x]) 0) 2)) (v_iv (n_v (vs ++ [Value.int x]) 4)) (v_iv (n_v (vs ++ [Value.int x]) 5)) (v_iv (n_v (vs ++ [Value.int x]) 6)) (v_iv (n_v (vs ++ [Value.int x]) 9))
      simp only [e_0, e_4, e_5, e_6, e_9]
      exact vc_Mo_of_at_s5003_2_4 (v_iv (n_v vs 4)) (v_iv (n_v vs 5)) (v_iv (n_v vs 6)) (v_iv (n_v vs 7)) (v_iv (n_v vs 8)) (w_fi ws (n_v vs 0) 12) (w_fi ws (n_v vs 0) 8) (w_fi ws (n_v vs 0) 14) (w_fi ws (n_v vs 0) 15) (w_fi ws (n_v vs 0) 11) (w_ei ws (w_ar ws (n_v vs 0) 1)) (w_ei ws (w_ar ws (n_v vs 0) 2)) (w_fi ws (n_v vs 0) 10) (w_fi ws (n_v vs 0) 13) (w_fi ws (n_v vs 0) 9) (w_fi ws (n_v vs 0) 5) (v_iv (Value.int x)) k4 k5 k6 k7 k8 f1 f3 f9 kz_0_8 kz_0_9 kz_0_10 kz_0_11 kz_0_12 kz_0_13 kz_0_14 kz_0_15 ex2
  exact ⟨(fun _ h => (by cases h)), [Value.int x], ag_one hx, List.forall_mem_cons.mpr ⟨⟨show (20 : Nat) < 100 from by decide, nf0⟩, List.forall_mem_cons.mpr ⟨⟨show (20 : Nat) < 100 from by decide, nf1⟩, List.forall_mem_cons.mpr ⟨⟨show (20 : Nat) < 100 from by decide, nf2⟩, List.forall_mem_cons.mpr ⟨⟨show (23 : Nat) < 100 from by decide, nf3⟩, List.forall_mem_cons.mpr ⟨⟨show (20 : Nat) < 100 from by decide, nf4⟩, (fun _ h => (by cases h))⟩⟩⟩⟩⟩, (fun _ h => (by cases h))⟩
set_option maxHeartbeats 4000000 in
theorem vc_Mo_of_at_s5003_3_0 (x4 : Int) (tape_0 : Int → Int) (fault_0 : Int) (from_0 : Int) (pos_0 : Int) (kind_0 : Int) (k4 : (-1) ≤ x4 ∧ x4 ≤ 48) (f3 : (1 ≤ fault_0) ∨ (0 ≤ x4)) (f4 : 1 * from_0 + ((-1) * pos_0 + 0) ≤ 0) (f5 : ((kind_0 = 1) → (pos_0 ≤ (from_0 + 8))) ∧ ((kind_0 = 0) ∨ ((from_0 + 1) ≤ pos_0))) (hK_0_1 : ∀ j : Int, 0 ≤ j → j < 2000 → (-128) ≤ tape_0 j ∧ tape_0 j ≤ 127) (kz_0_8 : 0 ≤ fault_0 ∧ fault_0 ≤ 5) (kz_0_11 : 0 ≤ pos_0 ∧ pos_0 ≤ 2000) (kz_0_12 : 0 ≤ kind_0 ∧ kind_0 ≤ 4) (kz_0_15 : 0 ≤ from_0 ∧ from_0 ≤ 2000) : 1 * from_0 + ((-1) * pos_0 + 0) ≤ 0 := by
  first | with_reducible assumption | ((have f5_c0 := f5.1); (have f5_c1 := f5.2); (try and_intros) <;> first | with_reducible assumption | (clear f3 f5_c0 f5_c1 f5 hK_0_1; omega)) | ((have f5_c0 := f5.1); (have f5_c1 := f5.2); (try and_intros) <;> first | with_reducible assumption | (clear f5_c0 f5_c1 f5 hK_0_1; omega)) | omega
set_option maxHeartbeats 4000000 in
theorem vc_Mo_of_at_s5003_3_1 (x4 : Int) (tape_0 : Int → Int) (fault_0 : Int) (from_0 : Int) (pos_0 : Int) (kind_0 : Int) (k4 : (-1) ≤ x4 ∧ x4 ≤ 48) (f3 : (1 ≤ fault_0) ∨ (0 ≤ x4)) (f5 : ((kind_0 = 1) → (pos_0 ≤ (from_0 + 8))) ∧ ((kind_0 = 0) ∨ ((from_0 + 1) ≤ pos_0))) (hK_0_1 : ∀ j : Int, 0 ≤ j → j < 2000 → (-128) ≤ tape_0 j ∧ tape_0 j ≤ 127) (kz_0_8 : 0 ≤ fault_0 ∧ fault_0 ≤ 5) (kz_0_11 : 0 ≤ pos_0 ∧ pos_0 ≤ 2000) (kz_0_12 : 0 ≤ kind_0 ∧ kind_0 ≤ 4) (kz_0_15 : 0 ≤ from_0 ∧ from_0 ≤ 2000) : ((kind_0 = 1) → (pos_0 ≤ (from_0 + 8))) ∧ ((kind_0 = 0) ∨ ((from_0 + 1) ≤ pos_0)) := by
  first | with_reducible assumption | ((have f5_c0 := f5.1); (have f5_c1 := f5.2); (try and_intros) <;> first | with_reducible assumption | (clear f3 f5_c0 f5_c1 f5 hK_0_1; omega)) | ((have f5_c0 := f5.1); (have f5_c1 := f5.2); (try and_intros) <;> first | with_reducible assumption | (clear f5_c0 f5_c1 f5 hK_0_1; omega)) | omega
set_option maxHeartbeats 4000000 in
theorem vc_Mo_of_at_s5003_3_2 (x3 : Int) (x4 : Int) (x9 : Int) (tape_0 : Int → Int) (fault_0 : Int) (from_0 : Int) (pos_0 : Int) (kind_0 : Int) (gx : Int) (k3 : 0 ≤ x3 ∧ x3 ≤ 2000) (k4 : (-1) ≤ x4 ∧ x4 ≤ 48) (k9 : 0 ≤ x9 ∧ x9 ≤ 2000) (f0 : 1 * x3 + ((-1) * x9 + 0) ≤ (-1)) (f3 : (1 ≤ fault_0) ∨ (0 ≤ x4)) (f4 : 1 * from_0 + ((-1) * pos_0 + 0) ≤ 0) (f5 : ((kind_0 = 1) → (pos_0 ≤ (from_0 + 8))) ∧ ((kind_0 = 0) ∨ ((from_0 + 1) ≤ pos_0))) (f6 : 1 * x9 + ((-1) * from_0 + 0) ≤ 0) (hK_0_1 : ∀ j : Int, 0 ≤ j → j < 2000 → (-128) ≤ tape_0 j ∧ tape_0 j ≤ 127) (kz_0_8 : 0 ≤ fault_0 ∧ fault_0 ≤ 5) (kz_0_11 : 0 ≤ pos_0 ∧ pos_0 ≤ 2000) (kz_0_12 : 0 ≤ kind_0 ∧ kind_0 ≤ 4) (kz_0_15 : 0 ≤ from_0 ∧ from_0 ≤ 2000) (ex2 : gx = 2000 + ((-1) * pos_0 + 0)) : 1 * x3 + ((-1) * pos_0 + 0) ≤ (-1) := by
  first | with_reducible assumption | ((have f5_c0 := f5.1); (have f5_c1 := f5.2); (try and_intros) <;> first | with_reducible assumption | (clear f3 f5_c0 f5_c1 f5 hK_0_1; omega)) | ((have f5_c0 := f5.1); (have f5_c1 := f5.2); (try and_intros) <;> first | with_reducible assumption | (clear f5_c0 f5_c1 f5 hK_0_1; omega)) | omega
set_option maxHeartbeats 4000000 in
theorem vc_Mo_of_at_s5003_3_3 (x2 : Int) (x4 : Int) (x10 : Int) (tape_0 : Int → Int) (fault_0 : Int) (from_0 : Int) (pos_0 : Int) (kind_0 : Int) (k2 : 9 ≤ x2 ∧ x2 ≤ 9) (k4 : (-1) ≤ x4 ∧ x4 ≤ 48) (k10 : 0 ≤ x10 ∧ x10 ≤ 0) (f3 : (1 ≤ fault_0) ∨ (0 ≤ x4)) (f5 : ((kind_0 = 1) → (pos_0 ≤ (from_0 + 8))) ∧ ((kind_0 = 0) ∨ ((from_0 + 1) ≤ pos_0))) (hK_0_1 : ∀ j : Int, 0 ≤ j → j < 2000 → (-128) ≤ tape_0 j ∧ tape_0 j ≤ 127) (kz_0_8 : 0 ≤ fault_0 ∧ fault_0 ≤ 5) (kz_0_11 : 0 ≤ pos_0 ∧ pos_0 ≤ 2000) (kz_0_12 : 0 ≤ kind_0 ∧ kind_0 ≤ 4) (kz_0_15 : 0 ≤ from_0 ∧ from_0 ≤ 2000) : 1 * x10 + ((-1) * x2 + 0) ≤ 0 := by
  first | with_reducible assumption | ((have f5_c0 := f5.1); (have f5_c1 := f5.2); (try and_intros) <;> first | with_reducible assumption | (clear f3 f5_c0 f5_c1 f5 hK_0_1; omega)) | ((have f5_c0 := f5.1); (have f5_c1 := f5.2); (try and_intros) <;> first | with_reducible assumption | (clear f5_c0 f5_c1 f5 hK_0_1; omega)) | omega
set_option maxHeartbeats 4000000 in
theorem vc_Mo_of_at_s5003_3_4 (x4 : Int) (x10 : Int) (tape_0 : Int → Int) (fault_0 : Int) (from_0 : Int) (pos_0 : Int) (kind_0 : Int) (k4 : (-1) ≤ x4 ∧ x4 ≤ 48) (k10 : 0 ≤ x10 ∧ x10 ≤ 0) (f3 : (1 ≤ fault_0) ∨ (0 ≤ x4)) (f5 : ((kind_0 = 1) → (pos_0 ≤ (from_0 + 8))) ∧ ((kind_0 = 0) ∨ ((from_0 + 1) ≤ pos_0))) (hK_0_1 : ∀ j : Int, 0 ≤ j → j < 2000 → (-128) ≤ tape_0 j ∧ tape_0 j ≤ 127) (kz_0_8 : 0 ≤ fault_0 ∧ fault_0 ≤ 5) (kz_0_11 : 0 ≤ pos_0 ∧ pos_0 ≤ 2000) (kz_0_12 : 0 ≤ kind_0 ∧ kind_0 ≤ 4) (kz_0_15 : 0 ≤ from_0 ∧ from_0 ≤ 2000) : (-1) * x10 + 0 ≤ 0 := by
  first | with_reducible assumption | ((have f5_c0 := f5.1); (have f5_c1 := f5.2); (try and_intros) <;> first | with_reducible assumption | (clear f3 f5_c0 f5_c1 f5 hK_0_1; omega)) | ((have f5_c0 := f5.1); (have f5_c1 := f5.2); (try and_intros) <;> first | with_reducible assumption | (clear f5_c0 f5_c1 f5 hK_0_1; omega)) | omega
set_option maxHeartbeats 4000000 in
theorem vc_Mo_of_at_s5003_3_5 (x4 : Int) (tape_0 : Int → Int) (fault_0 : Int) (from_0 : Int) (pos_0 : Int) (kind_0 : Int) (k4 : (-1) ≤ x4 ∧ x4 ≤ 48) (f3 : (1 ≤ fault_0) ∨ (0 ≤ x4)) (f5 : ((kind_0 = 1) → (pos_0 ≤ (from_0 + 8))) ∧ ((kind_0 = 0) ∨ ((from_0 + 1) ≤ pos_0))) (f10 : (-1) * x4 + 0 ≤ 0) (hK_0_1 : ∀ j : Int, 0 ≤ j → j < 2000 → (-128) ≤ tape_0 j ∧ tape_0 j ≤ 127) (kz_0_8 : 0 ≤ fault_0 ∧ fault_0 ≤ 5) (kz_0_11 : 0 ≤ pos_0 ∧ pos_0 ≤ 2000) (kz_0_12 : 0 ≤ kind_0 ∧ kind_0 ≤ 4) (kz_0_15 : 0 ≤ from_0 ∧ from_0 ≤ 2000) : (-1) * x4 + 0 ≤ 0 := by
  first | with_reducible assumption | ((have f5_c0 := f5.1); (have f5_c1 := f5.2); (try and_intros) <;> first | with_reducible assumption | (clear f3 f5_c0 f5_c1 f5 hK_0_1; omega)) | ((have f5_c0 := f5.1); (have f5_c1 := f5.2); (try and_intros) <;> first | with_reducible assumption | (clear f5_c0 f5_c1 f5 hK_0_1; omega)) | omega
set_option maxHeartbeats 4000000 in
theorem vc_Mo_of_at_s5003_3_6 (x4 : Int) (x5 : Int) (x6 : Int) (x9 : Int) (x10 : Int) (tape_0 : Int → Int) (all_0 : Int → Int) (limit_0 : Int) (fault_0 : Int) (r_0 : Int) (from_0 : Int) (pos_0 : Int) (kind_0 : Int) (place_0 : Int) (value_0 : Int) (k4 : (-1) ≤ x4 ∧ x4 ≤ 48) (k5 : 0 ≤ x5 ∧ x5 ≤ 7) (k6 : 0 ≤ x6 ∧ x6 ≤ 4) (k9 : 0 ≤ x9 ∧ x9 ≤ 2000) (k10 : 0 ≤ x10 ∧ x10 ≤ 0) (f1 : zTS9w (limit_0) (fault_0) (r_0) (tape_0) (all_0) (x4) (x5) (x6) (x9)) (f7 : TKR (limit_0) (pos_0) (kind_0) (place_0) (value_0) (from_0) (tape_0) (x9)) (kz_0_8 : 0 ≤ fault_0 ∧ fault_0 ≤ 5) (kz_0_10 : 0 ≤ limit_0 ∧ limit_0 ≤ 2000) (kz_0_11 : 0 ≤ pos_0 ∧ pos_0 ≤ 2000) (kz_0_12 : 0 ≤ kind_0 ∧ kind_0 ≤ 4) (kz_0_13 : 0 ≤ place_0 ∧ place_0 ≤ 2000) (kz_0_14 : (-49) ≤ value_0 ∧ value_0 ≤ 1048575) (kz_0_15 : 0 ≤ from_0 ∧ from_0 ≤ 2000) : zOIw (limit_0) (pos_0) (kind_0) (place_0) (value_0) (from_0) (fault_0) (r_0) (tape_0) (all_0) (x4) (x10) (x5) (x6) := by
  first
    | exact oi_start_w ‹zTS9w _ _ _ _ _ _ _ _ _› ‹TKR _ _ _ _ _ _ _ _› (by omega)
    | exact of_back_w ‹zO12w _ _ _ _ _ _ _ _ _ _ _ _ _ _› ‹SGQ _ _ _ _ _› (by omega) (by omega)
    | (exfalso; omega)
set_option maxHeartbeats 4000000 in
theorem vc_Mo_of_at_s5003_3_9 (x4 : Int) (tape_0 : Int → Int) (fault_0 : Int) (from_0 : Int) (pos_0 : Int) (kind_0 : Int) (gx : Int) (k4 : (-1) ≤ x4 ∧ x4 ≤ 48) (f3 : (1 ≤ fault_0) ∨ (0 ≤ x4)) (f5 : ((kind_0 = 1) → (pos_0 ≤ (from_0 + 8))) ∧ ((kind_0 = 0) ∨ ((from_0 + 1) ≤ pos_0))) (hK_0_1 : ∀ j : Int, 0 ≤ j → j < 2000 → (-128) ≤ tape_0 j ∧ tape_0 j ≤ 127) (kz_0_8 : 0 ≤ fault_0 ∧ fault_0 ≤ 5) (kz_0_11 : 0 ≤ pos_0 ∧ pos_0 ≤ 2000) (kz_0_12 : 0 ≤ kind_0 ∧ kind_0 ≤ 4) (kz_0_15 : 0 ≤ from_0 ∧ from_0 ≤ 2000) (ex2 : gx = 2000 + ((-1) * pos_0 + 0)) : 1 * gx + (1 * pos_0 + 0) ≤ 2000 := by
  first | with_reducible assumption | ((have f5_c0 := f5.1); (have f5_c1 := f5.2); (try and_intros) <;> first | with_reducible assumption | (clear f3 f5_c0 f5_c1 f5 hK_0_1; omega)) | ((have f5_c0 := f5.1); (have f5_c1 := f5.2); (try and_intros) <;> first | with_reducible assumption | (clear f5_c0 f5_c1 f5 hK_0_1; omega)) | omega
set_option maxHeartbeats 4000000 in
theorem vc_Mo_of_at_s5003_3_10 (x4 : Int) (tape_0 : Int → Int) (fault_0 : Int) (from_0 : Int) (pos_0 : Int) (kind_0 : Int) (gx : Int) (k4 : (-1) ≤ x4 ∧ x4 ≤ 48) (f3 : (1 ≤ fault_0) ∨ (0 ≤ x4)) (f5 : ((kind_0 = 1) → (pos_0 ≤ (from_0 + 8))) ∧ ((kind_0 = 0) ∨ ((from_0 + 1) ≤ pos_0))) (hK_0_1 : ∀ j : Int, 0 ≤ j → j < 2000 → (-128) ≤ tape_0 j ∧ tape_0 j ≤ 127) (kz_0_8 : 0 ≤ fault_0 ∧ fault_0 ≤ 5) (kz_0_11 : 0 ≤ pos_0 ∧ pos_0 ≤ 2000) (kz_0_12 : 0 ≤ kind_0 ∧ kind_0 ≤ 4) (kz_0_15 : 0 ≤ from_0 ∧ from_0 ≤ 2000) (ex2 : gx = 2000 + ((-1) * pos_0 + 0)) : (-1) * gx + ((-1) * pos_0 + 0) ≤ (-2000) := by
  first | with_reducible assumption | ((have f5_c0 := f5.1); (have f5_c1 := f5.2); (try and_intros) <;> first | with_reducible assumption | (clear f3 f5_c0 f5_c1 f5 hK_0_1; omega)) | ((have f5_c0 := f5.1); (have f5_c1 := f5.2); (try and_intros) <;> first | with_reducible assumption | (clear f5_c0 f5_c1 f5 hK_0_1; omega)) | omega
def o_Mo_of_at_s5003_3 : or_T := (17, 11, [(0, (2, 0, 0, [165])), (2, (0, 9, 9, [])), (3, (0, 0, 2000, [])), (4, (0, -1, 48, [])), (5, (0, 0, 7, [])), (6, (0, 0, 4, [])), (9, (0, 0, 2000, [])), (10, (0, 0, 0, []))], [(23, [3, 9], [-1, 1, -1]), (20, [0, 4, 5, 6, 9], [60, 3, 2, 975, 10, 8, 5, 1, 2]), (20, [0, 4], [50, 1, 0, 8, 3, 7, 0, 2, 0, 1, 2, 0, 8, 0, 2, 0, 0, 1, 1]), (20, [0, 0], [30, 0, 1, 1, 15, -1, 1, 11]), (20, [0], [50, 3, 0, 12, 11, 15, 2, 21, 4, 7, 1, 3, 2, 0, 12, 0, 1, 0, 3, 2, 0, 11, 4, 3, 2, 0, 15, 0, 8, 3, 7, 1, 3, 2, 0, 12, 0, 0, 0, 7, 4, 3, 2, 0, 15, 0, 1, 2, 0, 11]), (20, [9, 0], [30, 0, 1, 0, 0, -1, 1, 15]), (20, [0, 9], [60, 6, 1, 948, 10, 11, 12, 13, 14, 15, 1]), (102, [9], [0, 165011, 165012, 165013, 165014, 165015]), (23, [4], [0, -1])], [], [(0, 0, 2000, [])], [(20, [0, 0], [30, 0, 1, 1, 15, -1, 1, 11]), (20, [0], [50, 3, 0, 12, 11, 15, 2, 21, 4, 7, 1, 3, 2, 0, 12, 0, 1, 0, 3, 2, 0, 11, 4, 3, 2, 0, 15, 0, 8, 3, 7, 1, 3, 2, 0, 12, 0, 0, 0, 7, 4, 3, 2, 0, 15, 0, 1, 2, 0, 11]), (20, [3, 0], [30, -1, 1, 0, 0, -1, 1, 11]), (23, [10, 2], [0, 1, -1]), (23, [10], [0, -1]), (23, [4], [0, -1]), (20, [0, 4, 10, 5, 6], [60, 8, 2, 998, 10, 11, 12, 13, 14, 15, 8, 5, 1, 2]), (24, [0, 0], []), (24, [2, 2], []), (20, [11, 0], [30, 2000, 1, 0, 0, 1, 1, 11]), (20, [11, 0], [30, -2000, -1, 0, 0, -1, 1, 11])], [], [])
theorem oo_Mo_of_at_s5003_3 {kA : Nat → ClassId} : or_ok PRD kA GG o_Mo_of_at_s5003_3 := by
  refine or_mk fun A ta ws vs hD hth hl => ?_
  intro t0 r0 t2 k2 t3 k3 t4 k4 t5 k5 t6 k6 t9 k9 t10 k10 f0 f1 f3 f4 f5 f6 f7 ta1 w1 le1 s1 f10
  replace f0 := shm_193 f0
  replace f1 := shm_2017 f1
  replace f3 := shm_2000 f3
  replace f4 := shm_1437 f4
  replace f5 := shm_1438 f5
  replace f6 := shm_1436 f6
  replace f7 := shm_1439 f7
  replace f10 := shm_1043 f10
  have cr_0_1 := fdq_39 hD hth r0
  have hK_0_1 := elq_7 hD hth cr_0_1
  have kz_0_8 := fdq_34 hD hth r0
  have kz_0_10 := fdq_43 hD hth r0
  have kz_0_11 := fdq_237 hD hth r0
  have kz_0_12 := fdq_187 hD hth r0
  have kz_0_13 := fdq_238 hD hth r0
  have kz_0_14 := fdq_188 hD hth r0
  have kz_0_15 := fdq_239 hD hth r0
  obtain ⟨x, ex, hx⟩ := iv_ex (ta := ta) (lo := 0) (hi := 2000) (z := 2000 + ((-1) * w_fi ws (n_v vs 0) 11 + 0)) (by omega) (by omega) (by omega) (by omega)
  have ex2 : v_iv (Value.int x) = 2000 + ((-1) * w_fi ws (n_v vs 0) 11 + 0) := ex
  have ex3 : 0 ≤ v_iv (Value.int x) ∧ v_iv (Value.int x) ≤ 2000 := tv_rng hx
  have e_0 : n_v (vs ++ [Value.int x]) 0 = n_v vs 0 := n_v_old (by rw [hl]; decide)
  have e_2 : n_v (vs ++ [Value.int x]) 2 = n_v vs 2 := n_v_old (by rw [hl]; decide)
  have e_3 : n_v (vs ++ [Value.int x]) 3 = n_v vs 3 := n_v_old (by rw [hl]; decide)
  have e_4 : n_v (vs ++ [Value.int x]) 4 = n_v vs 4 := n_v_old (by rw [hl]; decide)
  have e_5 : n_v (vs ++ [Value.int x]) 5 = n_v vs 5 := n_v_old (by rw [hl]; decide)
  have e_6 : n_v (vs ++ [Value.int x]) 6 = n_v vs 6 := n_v_old (by rw [hl]; decide)
  have e_10 : n_v (vs ++ [Value.int x]) 10 = n_v vs 10 := n_v_old (by rw [hl]; decide)
  have e_11 : n_v (vs ++ [Value.int x]) 11 = Value.int x := n_v_new hl
  have nf0 : fc_1 PRD (20, [0, 0], [30, 0, 1, 1, 15, -1, 1, 11]) ws (vs ++ [Value.int x]) := by
    refine ⟨nf_inA hl rfl, sgq_1437 ?_⟩
    · show 1 * w_fi ws (n_v (vs ++ [Value.int x]) 0) 15 + ((-1) * w_fi ws (n_v (vs ++ [Value.int x]) 0) 11 + 0) ≤ 0
      rw [e_0]
      exact vc_Mo_of_at_s5003_3_0 (v_iv (n_v vs 4)) (w_ei ws (w_ar ws (n_v vs 0) 1)) (w_fi ws (n_v vs 0) 8) (w_fi ws (n_v vs 0) 15) (w_fi ws (n_v vs 0) 11) (w_fi ws (n_v vs 0) 12) k4 f3 f4 f5 hK_0_1 kz_0_8 kz_0_11 kz_0_12 kz_0_15
  have nf1 : fc_1 PRD (20, [0], [50, 3, 0, 12, 11, 15, 2, 21, 4, 7, 1, 3, 2, 0, 12, 0, 1, 0, 3, 2, 0, 11, 4, 3, 2, 0, 15, 0, 8, 3, 7, 1, 3, 2, 0, 12, 0, 0, 0, 7, 4, 3, 2, 0, 15, 0, 1, 2, 0, 11]) ws (vs ++ [Value.int x]) := by
    refine ⟨nf_inA hl rfl, sgq_1438 ?_⟩
    · show ((w_fi ws (n_v (vs ++ [Value.int x]) 0) 12 = 1) → (w_fi ws (n_v (vs ++ [Value.int x]) 0) 11 ≤ (w_fi ws (n_v (vs ++ [Value.int x]) 0) 15 + 8))) ∧ ((w_fi ws (n_v (vs ++ [Value.int x]) 0) 12 = 0) ∨ ((w_fi ws (n_v (vs ++ [Value.int x]) 0) 15 + 1) ≤ w_fi ws (n_v (vs ++ [Value.int x]) 0) 11))
      rw [e_0]
      exact vc_Mo_of_at_s5003_3_1 (v_iv (n_v vs 4)) (w_ei ws (w_ar ws (n_v vs 0) 1)) (w_fi ws (n_v vs 0) 8) (w_fi ws (n_v vs 0) 15) (w_fi ws (n_v vs 0) 11) (w_fi ws (n_v vs 0) 12) k4 f3 f5 hK_0_1 kz_0_8 kz_0_11 kz_0_12 kz_0_15
  have nf2 : fc_1 PRD (20, [3, 0], [30, -1, 1, 0, 0, -1, 1, 11]) ws (vs ++ [Value.int x]) := by
    refine ⟨nf_inA hl rfl, sgq_2005 ?_⟩
    · show 1 * v_iv (n_v (vs ++ [Value.int x]) 3) + ((-1) * w_fi ws (n_v (vs ++ [Value.int x]) 0) 11 + 0) ≤ (-1)
      simp only [e_0, e_3]
      exact vc_Mo_of_at_s5003_3_2 (v_iv (n_v vs 3)) (v_iv (n_v vs 4)) (v_iv (n_v vs 9)) (w_ei ws (w_ar ws (n_v vs 0) 1)) (w_fi ws (n_v vs 0) 8) (w_fi ws (n_v vs 0) 15) (w_fi ws (n_v vs 0) 11) (w_fi ws (n_v vs 0) 12) (v_iv (Value.int x)) k3 k4 k9 f0 f3 f4 f5 f6 hK_0_1 kz_0_8 kz_0_11 kz_0_12 kz_0_15 ex2
  have nf3 : fc_1 PRD (23, [10, 2], [0, 1, -1]) ws (vs ++ [Value.int x]) := by
    refine ⟨nf_inA hl rfl, sgq_7 ?_⟩
    · show 1 * v_iv (n_v (vs ++ [Value.int x]) 10) + ((-1) * v_iv (n_v (vs ++ [Value.int x]) 2) + 0) ≤ 0
      simp only [e_2, e_10]
      exact vc_Mo_of_at_s5003_3_3 (v_iv (n_v vs 2)) (v_iv (n_v vs 4)) (v_iv (n_v vs 10)) (w_ei ws (w_ar ws (n_v vs 0) 1)) (w_fi ws (n_v vs 0) 8) (w_fi ws (n_v vs 0) 15) (w_fi ws (n_v vs 0) 11) (w_fi ws (n_v vs 0) 12) k2 k4 k10 f3 f5 hK_0_1 kz_0_8 kz_0_11 kz_0_12 kz_0_15
  have nf4 : fc_1 PRD (23, [10], [0, -1]) ws (vs ++ [Value.int x]) := by
    refine ⟨nf_inA hl rfl, sgq_1043 ?_⟩
    · show (-1) * v_iv (n_v (vs ++ [Value.int x]) 10) + 0 ≤ 0
      rw [e_10]
      exact vc_Mo_of_at_s5003_3_4 (v_iv (n_v vs 4)) (v_iv (n_v vs 10)) (w_ei ws (w_ar ws (n_v vs 0) 1)) (w_fi ws (n_v vs 0) 8) (w_fi ws (n_v vs 0) 15) (w_fi ws (n_v vs 0) 11) (w_fi ws (n_v vs 0) 12) k4 k10 f3 f5 hK_0_1 kz_0_8 kz_0_11 kz_0_12 kz_0_15
  have nf5 : fc_1 PRD (23, [4], [0, -1]) ws (vs ++ [Value.int x]) := by
    refine ⟨nf_inA hl rfl, sgq_1043 ?_⟩
    · show (-1) * v_iv (n_v (vs ++ [Value.int x]) 4) + 0 ≤ 0
      rw [e_4]
      exact vc_Mo_of_at_s5003_3_5 (v_iv (n_v vs 4)) (w_ei ws (w_ar ws (n_v vs 0) 1)) (w_fi ws (n_v vs 0) 8) (w_fi ws (n_v vs 0) 15) (w_fi ws (n_v vs 0) 11) (w_fi ws (n_v vs 0) 12) k4 f3 f5 f10 hK_0_1 kz_0_8 kz_0_11 kz_0_12 kz_0_15
  have nf6 : fc_1 PRD (20, [0, 4, 10, 5, 6], [60, 8, 2, 998, 10, 11, 12, 13, 14, 15, 8, 5, 1, 2]) ws (vs ++ [Value.int x]) := by
    refine ⟨nf_inA hl rfl, sgq_2018 ?_⟩
    · show zOIw (w_fi ws (n_v (vs ++ [Value.int x]) 0) 10) (w_fi ws (n_v (vs ++ [Value.int x]) 0) 11) (w_fi ws (n_v (vs ++ [Value.int x]) 0) 12) (w_fi ws (n_v (vs ++ [Value.int x]) 0) 13) (w_fi ws (n_v (vs ++ [Value.int x]) 0) 14) (w_fi ws (n_v (vs ++ [Value.int x]) 0) 15) (w_fi ws (n_v (vs ++ [Value.int x]) 0) 8) (w_fi ws (n_v (vs ++ [Value.int x]) 0) 5) (w_ei ws (w_ar ws (n_v (vs ++ [Value.int x]) 0) 1)) (w_ei ws (w_ar ws (n_v (vs ++ [Value.int x]) 0) 2)) (v_iv (n_v (vs ++ [Value.int x]) 4)) (v_iv (n_v (vs ++ [Value.int x]) 10)) (v_iv (n_v (vs ++ [Value.int x]) 5)) (v_iv (n_v (vs ++ [Value.int x]) 6))
      simp only [e_0, e_4, e_5, e_6, e_10]
      exact vc_Mo_of_at_s5003_3_6 (v_iv (n_v vs 4)) (v_iv (n_v vs 5)) (v_iv (n_v vs 6)) (v_iv (n_v vs 9)) (v_iv (n_v vs 10)) (w_ei ws (w_ar ws (n_v vs 0) 1)) (w_ei ws (w_ar ws (n_v vs 0) 2)) (w_fi ws (n_v vs 0) 10) (w_fi ws (n_v vs 0) 8) (w_fi ws (n_v vs 0) 5) (w_fi ws (n_v vs 0) 15) (w_fi ws (n_v vs 0) 11) (w_fi ws (n_v vs 0) 12) (w_fi ws (n_v vs 0) 13) (w_fi ws (n_v vs 0) 14) k4 k5 k6 k9 k10 f1 f7 kz_0_8 kz_0_10 kz_0_11 kz_0_12 kz_0_13 kz_0_14 kz_0_15
  have nf7 : fc_1 PRD (24, [0, 0], []) ws (vs ++ [Value.int x]) := by
    refine ⟨nf_inA hl rfl, sgq_1 ?_⟩
    · show n_v (vs ++ [Value.int x]) 0 = n_v (vs ++ [Value.int x]) 0
      first | rfl | simp only [e_0]
  have nf8 : fc_1 PRD (24, [2, 2], []) ws (vs ++ [Value.int x]) := by
    refine ⟨nf_inA hl rfl, sgq_1 ?_⟩
    · show n_v (vs ++ [Value.int x]) 2 = n_v (vs ++ [Value.int x]) 2
      first | rfl | simp only [e_2]
  have nf9 : fc_1 PRD (20, [11, 0], [30, 2000, 1, 0, 0, 1, 1, 11]) ws (vs ++ [Value.int x]) := by
    refine ⟨nf_inA hl rfl, sgq_2007 ?_⟩
    · show 1 * v_iv (n_v (vs ++ [Value.int x]) 11) + (1 * w_fi ws (n_v (vs ++ [Value.int x]) 0) 11 + 0) ≤ 2000
      simp only [e_0, e_11]
      exact vc_Mo_of_at_s5003_3_9 (v_iv (n_v vs 4)) (w_ei ws (w_ar ws (n_v vs 0) 1)) (w_fi ws (n_v vs 0) 8) (w_fi ws (n_v vs 0) 15) (w_fi ws (n_v vs 0) 11) (w_fi ws (n_v vs 0) 12) (v_iv (Value.int x)) k4 f3 f5 hK_0_1 kz_0_8 kz_0_11 kz_0_12 kz_0_15 ex2
  have nf10 : fc_1 PRD (20, [11, 0], [30, -2000, -1, 0, 0, -1, 1, 11]) ws (vs ++ [Value.int x]) := by
    refine ⟨nf_inA hl rfl, sgq_2008 ?_⟩
    · show (-1) * v_iv (n_v (vs ++ [Value.int x]) 11) + ((-1) * w_fi ws (n_v (vs ++ [Value.int x]) 0) 11 + 0) ≤ (-2000)
      simp only [e_0, e_11]
      exact vc_Mo_of_at_s5003_3_10 (v_iv (n_v vs 4)) (w_ei ws (w_ar ws (n_v vs 0) 1)) (w_fi ws (n_v vs 0) 8) (w_fi ws (n_v vs 0) 15) (w_fi ws (n_v vs 0) 11) (w_fi ws (n_v vs 0) 12) (v_iv (Value.int x)) k4 f3 f5 hK_0_1 kz_0_8 kz_0_11 kz_0_12 kz_0_15 ex2
  exact ⟨(fun _ h => (by cases h)), [Value.int x], ag_one hx, List.forall_mem_cons.mpr ⟨⟨show (20 : Nat) < 100 from by decide, nf0⟩, List.forall_mem_cons.mpr ⟨⟨show (20 : Nat) < 100 from by decide, nf1⟩, List.forall_mem_cons.mpr ⟨⟨show (20 : Nat) < 100 from by decide, nf2⟩, List.forall_mem_cons.mpr ⟨⟨show (23 : Nat) < 100 from by decide, nf3⟩, List.forall_mem_cons.mpr ⟨⟨show (23 : Nat) < 100 from by decide, nf4⟩, List.forall_mem_cons.mpr ⟨⟨show (23 : Nat) < 100 from by decide, nf5⟩, List.forall_mem_cons.mpr ⟨⟨show (20 : Nat) < 100 from by decide, nf6⟩, List.forall_mem_cons.mpr ⟨⟨show (24 : Nat) < 100 from by decide, nf7⟩, List.forall_mem_cons.mpr ⟨⟨show (24 : Nat) < 100 from by decide, nf8⟩, List.forall_mem_cons.mpr ⟨⟨show (20 : Nat) < 100 from by decide, nf9⟩, List.forall_mem_cons.mpr ⟨⟨show (20 : Nat) < 100 from by decide, nf10⟩, (fun _ h => (by cases h))⟩⟩⟩⟩⟩⟩⟩⟩⟩⟩⟩, (fun _ h => (by cases h))⟩
set_option maxHeartbeats 4000000 in
theorem vc_Mo_of_at_s5003_4_0 (x4 : Int) (x5 : Int) (x6 : Int) (x10 : Int) (x12 : Int) (x14 : Int) (x15 : Int) (x16 : Int) (kind_0 : Int) (place_0 : Int) (from_0 : Int) (pos_0 : Int) (tape_0 : Int → Int) (all_0 : Int → Int) (limit_0 : Int) (value_0 : Int) (fault_0 : Int) (r_0 : Int) (gx : Int) (k4 : (-1) ≤ x4 ∧ x4 ≤ 48) (k5 : 0 ≤ x5 ∧ x5 ≤ 7) (k6 : 0 ≤ x6 ∧ x6 ≤ 4) (k10 : (-49) ≤ x10 ∧ x10 ≤ 1048575) (k12 : 1 ≤ x12 ∧ x12 ≤ 1) (k14 : 0 ≤ x14 ∧ x14 ≤ 0) (k15 : 4 ≤ x15 ∧ x15 ≤ 4) (k16 : 0 ≤ x16 ∧ x16 ≤ 2000) (g0 : x12 = kind_0) (g1 : x16 = place_0) (f2 : x14 = 0) (f9 : zOIw (limit_0) (pos_0) (kind_0) (place_0) (value_0) (from_0) (fault_0) (r_0) (tape_0) (all_0) (x4) (x10) (x5) (x6)) (f15 : WQw (kind_0) (pos_0) (limit_0) (from_0) (tape_0) (x14)) (kz_0_8 : 0 ≤ fault_0 ∧ fault_0 ≤ 5) (kz_0_10 : 0 ≤ limit_0 ∧ limit_0 ≤ 2000) (kz_0_11 : 0 ≤ pos_0 ∧ pos_0 ≤ 2000) (kz_0_12 : 0 ≤ kind_0 ∧ kind_0 ≤ 4) (kz_0_13 : 0 ≤ place_0 ∧ place_0 ≤ 2000) (kz_0_14 : (-49) ≤ value_0 ∧ value_0 ≤ 1048575) (kz_0_15 : 0 ≤ from_0 ∧ from_0 ≤ 2000) (ex2 : gx = fault_0) : FSX (limit_0) (tape_0) (x15) (x16) := by
  first | subst g0 | skip
  first | subst g1 | skip
  first | subst ex2 | skip
  first
    | exact fsx_cg (of_w_s ‹zOIs _ _ _ _ _ _ _ _ _ _ _ _ _ _› (by omega) (Or.inl ⟨‹WQs _ _ _ _ _ _›, by omega⟩)) (by omega) (by omega)
    | exact fsx_cg (of_w_s (ans := 0) ‹zOIs _ _ _ _ _ _ _ _ _ _ _ _ _ _› (by omega) (Or.inr (by omega))) (by omega) (by omega)
    | exact fsx_cg (of_w_w ‹zOIw _ _ _ _ _ _ _ _ _ _ _ _ _ _› (by omega) (Or.inl ⟨‹WQw _ _ _ _ _ _›, by omega⟩)) (by omega) (by omega)
    | exact fsx_cg (of_w_w (ans := 0) ‹zOIw _ _ _ _ _ _ _ _ _ _ _ _ _ _› (by omega) (Or.inr (by omega))) (by omega) (by omega)
    | (exfalso; omega)
set_option maxHeartbeats 4000000 in
theorem vc_Mo_of_at_s5003_4_1 (x14 : Int) (kind_0 : Int) (from_0 : Int) (pos_0 : Int) (tape_0 : Int → Int) (fault_0 : Int) (gx : Int) (k14 : 0 ≤ x14 ∧ x14 ≤ 0) (f4 : ((kind_0 = 1) → (pos_0 ≤ (from_0 + 8))) ∧ ((kind_0 = 0) ∨ ((from_0 + 1) ≤ pos_0))) (f14 : (x14 = 1) → (kind_0 = 1)) (hK_0_1 : ∀ j : Int, 0 ≤ j → j < 2000 → (-128) ≤ tape_0 j ∧ tape_0 j ≤ 127) (kz_0_8 : 0 ≤ fault_0 ∧ fault_0 ≤ 5) (kz_0_11 : 0 ≤ pos_0 ∧ pos_0 ≤ 2000) (kz_0_12 : 0 ≤ kind_0 ∧ kind_0 ≤ 4) (kz_0_15 : 0 ≤ from_0 ∧ from_0 ≤ 2000) (ex2 : gx = fault_0) : 1 * fault_0 + ((-1) * gx + 0) ≤ 0 := by
  first | with_reducible assumption | ((have f4_c0 := f4.1); (have f4_c1 := f4.2); (try and_intros) <;> first | with_reducible assumption | (clear f4_c0 f4_c1 f4 hK_0_1 f14; omega)) | ((have f4_c0 := f4.1); (have f4_c1 := f4.2); (first | have f14_b := f14 (by clear f4_c0 f4_c1 f4 hK_0_1 f14; omega) | skip); (first | have f14_d := f14 (by with_reducible assumption) | skip); (try and_intros) <;> first | with_reducible assumption | (clear f4_c0 f4_c1 f4 hK_0_1 f14; omega)) | omega
set_option maxHeartbeats 4000000 in
theorem vc_Mo_of_at_s5003_4_2 (x14 : Int) (kind_0 : Int) (from_0 : Int) (pos_0 : Int) (tape_0 : Int → Int) (fault_0 : Int) (gx : Int) (k14 : 0 ≤ x14 ∧ x14 ≤ 0) (f4 : ((kind_0 = 1) → (pos_0 ≤ (from_0 + 8))) ∧ ((kind_0 = 0) ∨ ((from_0 + 1) ≤ pos_0))) (f14 : (x14 = 1) → (kind_0 = 1)) (hK_0_1 : ∀ j : Int, 0 ≤ j → j < 2000 → (-128) ≤ tape_0 j ∧ tape_0 j ≤ 127) (kz_0_8 : 0 ≤ fault_0 ∧ fault_0 ≤ 5) (kz_0_11 : 0 ≤ pos_0 ∧ pos_0 ≤ 2000) (kz_0_12 : 0 ≤ kind_0 ∧ kind_0 ≤ 4) (kz_0_15 : 0 ≤ from_0 ∧ from_0 ≤ 2000) (ex2 : gx = fault_0) : (-1) * fault_0 + (1 * gx + 0) ≤ 0 := by
  first | with_reducible assumption | ((have f4_c0 := f4.1); (have f4_c1 := f4.2); (try and_intros) <;> first | with_reducible assumption | (clear f4_c0 f4_c1 f4 hK_0_1 f14; omega)) | ((have f4_c0 := f4.1); (have f4_c1 := f4.2); (first | have f14_b := f14 (by clear f4_c0 f4_c1 f4 hK_0_1 f14; omega) | skip); (first | have f14_d := f14 (by with_reducible assumption) | skip); (try and_intros) <;> first | with_reducible assumption | (clear f4_c0 f4_c1 f4 hK_0_1 f14; omega)) | omega
set_option maxHeartbeats 4000000 in
theorem vc_Mo_of_at_s5003_4_3 (x4 : Int) (x5 : Int) (x6 : Int) (x10 : Int) (kind_0 : Int) (place_0 : Int) (from_0 : Int) (pos_0 : Int) (tape_0 : Int → Int) (all_0 : Int → Int) (limit_0 : Int) (value_0 : Int) (fault_0 : Int) (r_0 : Int) (gx : Int) (k4 : (-1) ≤ x4 ∧ x4 ≤ 48) (k5 : 0 ≤ x5 ∧ x5 ≤ 7) (k6 : 0 ≤ x6 ∧ x6 ≤ 4) (k10 : (-49) ≤ x10 ∧ x10 ≤ 1048575) (f9 : zOIw (limit_0) (pos_0) (kind_0) (place_0) (value_0) (from_0) (fault_0) (r_0) (tape_0) (all_0) (x4) (x10) (x5) (x6)) (kz_0_8 : 0 ≤ fault_0 ∧ fault_0 ≤ 5) (kz_0_10 : 0 ≤ limit_0 ∧ limit_0 ≤ 2000) (kz_0_11 : 0 ≤ pos_0 ∧ pos_0 ≤ 2000) (kz_0_12 : 0 ≤ kind_0 ∧ kind_0 ≤ 4) (kz_0_13 : 0 ≤ place_0 ∧ place_0 ≤ 2000) (kz_0_14 : (-49) ≤ value_0 ∧ value_0 ≤ 1048575) (kz_0_15 : 0 ≤ from_0 ∧ from_0 ≤ 2000) (ex2 : gx = fault_0) : ZH0 (gx) := by
  first
    | exact ⟨by omega, by omega, trivial⟩
    | (have h := (oi_0_s ‹zOIs _ _ _ _ _ _ _ _ _ _ _ _ _ _›).1; exact ⟨by omega, by omega, trivial⟩)
    | (have h := (oi_0_w ‹zOIw _ _ _ _ _ _ _ _ _ _ _ _ _ _›).1; exact ⟨by omega, by omega, trivial⟩)
    | (exfalso; omega)
def o_Mo_of_at_s5003_4 : or_T := (54, 17, [(0, (2, 0, 0, [165])), (2, (0, 9, 9, [])), (3, (0, 0, 2000, [])), (4, (0, -1, 48, [])), (5, (0, 0, 7, [])), (6, (0, 0, 4, [])), (7, (2, 0, 0, [165])), (9, (0, 9, 9, [])), (10, (0, -49, 1048575, [])), (11, (0, 0, 2000, [])), (12, (0, 1, 1, [])), (13, (0, 1, 1, [])), (14, (0, 0, 0, [])), (15, (0, 4, 4, [])), (16, (0, 0, 2000, []))], [(9, [12, 7], [12]), (9, [16, 7], [13]), (8, [14], [0]), (20, [7, 7], [30, 0, 1, 1, 15, -1, 1, 11]), (20, [7], [50, 3, 0, 12, 11, 15, 2, 21, 4, 7, 1, 3, 2, 0, 12, 0, 1, 0, 3, 2, 0, 11, 4, 3, 2, 0, 15, 0, 8, 3, 7, 1, 3, 2, 0, 12, 0, 0, 0, 7, 4, 3, 2, 0, 15, 0, 1, 2, 0, 11]), (20, [3, 7], [30, -1, 1, 0, 0, -1, 1, 11]), (23, [10, 9], [0, 1, -1]), (23, [10], [0, -1]), (23, [4], [0, -1]), (20, [7, 4, 10, 5, 6], [60, 8, 2, 998, 10, 11, 12, 13, 14, 15, 8, 5, 1, 2]), (24, [0, 7], []), (24, [2, 9], []), (20, [11, 7], [30, 2000, 1, 0, 0, 1, 1, 11]), (20, [11, 7], [30, -2000, -1, 0, 0, -1, 1, 11]), (20, [14, 7], [50, 1, 0, 1012, 4, 6, 1, 2, 1, 0, 0, 1, 1, 3, 2, 1, 12, 0, 1]), (20, [7, 14], [60, 4, 1, 961, 12, 11, 10, 15, 1]), (102, [13], [0]), (7, [12, 13], [0]), (23, [10, 9], [0, 1, -1]), (23, [10], [0, -1]), (23, [4], [0, -1])], [], [(0, 0, 5, [])], [(20, [7, 15, 16], [60, 1, 1, 1026, 10, 1]), (20, [7, 17], [30, 0, 1, 1, 8, -1, 0, 0]), (20, [7, 17], [30, 0, -1, 1, 8, 1, 0, 0]), (20, [17], [61, 0, 1029])], [], [])
theorem oo_Mo_of_at_s5003_4 {kA : Nat → ClassId} : or_ok PRD kA GG o_Mo_of_at_s5003_4 := by
  refine or_mk fun A ta ws vs hD hth hl => ?_
  intro t0 r0 t2 k2 t3 k3 t4 k4 t5 k5 t6 k6 t7 r7 t9 k9 t10 k10 t11 k11 t12 k12 t13 k13 t14 k14 t15 k15 t16 k16 f0 f1 f2 f3 f4 f5 f6 f7 f8 f9 f10 f11 f12 f13 f14 f15 ta1 w1 le1 s1 f17 f18 f19 f20
  replace f0 := shm_103 f0
  replace f1 := shm_361 f1
  replace f2 := shm_192 f2
  replace f4 := shm_1438 f4
  replace f9 := shm_2018 f9
  replace f10 := shm_5 f10
  replace f14 := shm_1856 f14
  replace f15 := shm_1860 f15
  have q7 : n_v vs 7 = n_v vs 0 := f10.symm
  simp only [q7] at f0 f1 f4 f9 f14 f15
  have cr_0_1 := fdq_39 hD hth r0
  have g0 : v_iv (n_v vs 12) = w_fi ws (n_v vs 0) 12 := congrArg v_iv f0
  have g1 : v_iv (n_v vs 16) = w_fi ws (n_v vs 0) 13 := congrArg v_iv f1
  have hK_0_1 := elq_7 hD hth cr_0_1
  have kz_0_8 := fdq_34 hD hth r0
  have kz_0_10 := fdq_43 hD hth r0
  have kz_0_11 := fdq_237 hD hth r0
  have kz_0_12 := fdq_187 hD hth r0
  have kz_0_13 := fdq_238 hD hth r0
  have kz_0_14 := fdq_188 hD hth r0
  have kz_0_15 := fdq_239 hD hth r0
  obtain ⟨x, ex, hx⟩ := iv_ex (ta := ta) (lo := 0) (hi := 5) (z := w_fi ws (n_v vs 0) 8) (by omega) (by omega) (by omega) (by omega)
  have ex2 : v_iv (Value.int x) = w_fi ws (n_v vs 0) 8 := ex
  have ex3 : 0 ≤ v_iv (Value.int x) ∧ v_iv (Value.int x) ≤ 5 := tv_rng hx
  have e_7 : n_v (vs ++ [Value.int x]) 7 = n_v vs 7 := n_v_old (by rw [hl]; decide)
  have e_15 : n_v (vs ++ [Value.int x]) 15 = n_v vs 15 := n_v_old (by rw [hl]; decide)
  have e_16 : n_v (vs ++ [Value.int x]) 16 = n_v vs 16 := n_v_old (by rw [hl]; decide)
  have e_17 : n_v (vs ++ [Value.int x]) 17 = Value.int x := n_v_new hl
  have nf0 : fc_1 PRD (20, [7, 15, 16], [60, 1, 1, 1026, 10, 1]) ws (vs ++ [Value.int x]) := by
    refine ⟨nf_inA hl rfl, sgq_1724 ?_⟩
    · show FSX (w_fi ws (n_v (vs ++ [Value.int x]) 7) 10) (w_ei ws (w_ar ws (n_v (vs ++ [Value.int x]) 7) 1)) (v_iv (n_v (vs ++ [Value.int x]) 15)) (v_iv (n_v (vs ++ [Value.int x]) 16))
      simp only [e_7, e_15, e_16, q7]
      exact vc_Mo_of_at_s5003_4_0 (v_iv (n_v vs 4)) (v_iv (n_v vs 5)) (v_iv (n_v vs 6)) (v_iv (n_v vs 10)) (v_iv (n_v vs 12)) (v_iv (n_v vs 14)) (v_iv (n_v vs 15)) (v_iv (n_v vs 16)) (w_fi ws (n_v vs 0) 12) (w_fi ws (n_v vs 0) 13) (w_fi ws (n_v vs 0) 15) (w_fi ws (n_v vs 0) 11) (w_ei ws (w_ar ws (n_v vs 0) 1)) (w_ei ws (w_ar ws (n_v vs 0) 2)) (w_fi ws (n_v vs 0) 10) (w_fi ws (n_v vs 0) 14) (w_fi ws (n_v vs 0) 8) (w_fi ws (n_v vs 0) 5) (v_iv (Value.int x)) k4 k5 k6 k10 k12 k14 k15 k16 g0 g1 f2 f9 f15 kz_0_8 kz_0_10 kz_0_11 kz_0_12 kz_0_13 kz_0_14 kz_0_15 ex2
  have nf1 : fc_1 PRD (20, [7, 17], [30, 0, 1, 1, 8, -1, 0, 0]) ws (vs ++ [Value.int x]) := by
    refine ⟨nf_inA hl rfl, sgq_303 ?_⟩
    · show 1 * w_fi ws (n_v (vs ++ [Value.int x]) 7) 8 + ((-1) * v_iv (n_v (vs ++ [Value.int x]) 17) + 0) ≤ 0
      simp only [e_7, e_17, q7]
      exact vc_Mo_of_at_s5003_4_1 (v_iv (n_v vs 14)) (w_fi ws (n_v vs 0) 12) (w_fi ws (n_v vs 0) 15) (w_fi ws (n_v vs 0) 11) (w_ei ws (w_ar ws (n_v vs 0) 1)) (w_fi ws (n_v vs 0) 8) (v_iv (Value.int x)) k14 f4 f14 hK_0_1 kz_0_8 kz_0_11 kz_0_12 kz_0_15 ex2
  have nf2 : fc_1 PRD (20, [7, 17], [30, 0, -1, 1, 8, 1, 0, 0]) ws (vs ++ [Value.int x]) := by
    refine ⟨nf_inA hl rfl, sgq_304 ?_⟩
    · show (-1) * w_fi ws (n_v (vs ++ [Value.int x]) 7) 8 + (1 * v_iv (n_v (vs ++ [Value.int x]) 17) + 0) ≤ 0
      simp only [e_7, e_17, q7]
      exact vc_Mo_of_at_s5003_4_2 (v_iv (n_v vs 14)) (w_fi ws (n_v vs 0) 12) (w_fi ws (n_v vs 0) 15) (w_fi ws (n_v vs 0) 11) (w_ei ws (w_ar ws (n_v vs 0) 1)) (w_fi ws (n_v vs 0) 8) (v_iv (Value.int x)) k14 f4 f14 hK_0_1 kz_0_8 kz_0_11 kz_0_12 kz_0_15 ex2
  have nf3 : fc_1 PRD (20, [17], [61, 0, 1029]) ws (vs ++ [Value.int x]) := by
    refine ⟨nf_inA hl rfl, sgq_1725 ?_⟩
    · show ZH0 (v_iv (n_v (vs ++ [Value.int x]) 17))
      rw [e_17]
      exact vc_Mo_of_at_s5003_4_3 (v_iv (n_v vs 4)) (v_iv (n_v vs 5)) (v_iv (n_v vs 6)) (v_iv (n_v vs 10)) (w_fi ws (n_v vs 0) 12) (w_fi ws (n_v vs 0) 13) (w_fi ws (n_v vs 0) 15) (w_fi ws (n_v vs 0) 11) (w_ei ws (w_ar ws (n_v vs 0) 1)) (w_ei ws (w_ar ws (n_v vs 0) 2)) (w_fi ws (n_v vs 0) 10) (w_fi ws (n_v vs 0) 14) (w_fi ws (n_v vs 0) 8) (w_fi ws (n_v vs 0) 5) (v_iv (Value.int x)) k4 k5 k6 k10 f9 kz_0_8 kz_0_10 kz_0_11 kz_0_12 kz_0_13 kz_0_14 kz_0_15 ex2
  exact ⟨(fun _ h => (by cases h)), [Value.int x], ag_one hx, List.forall_mem_cons.mpr ⟨⟨show (20 : Nat) < 100 from by decide, nf0⟩, List.forall_mem_cons.mpr ⟨⟨show (20 : Nat) < 100 from by decide, nf1⟩, List.forall_mem_cons.mpr ⟨⟨show (20 : Nat) < 100 from by decide, nf2⟩, List.forall_mem_cons.mpr ⟨⟨show (20 : Nat) < 100 from by decide, nf3⟩, (fun _ h => (by cases h))⟩⟩⟩⟩, (fun _ h => (by cases h))⟩
set_option maxHeartbeats 4000000 in
theorem vc_Mo_of_at_s5003_5_0 (x14 : Int) (x15 : Int) (x16 : Int) (x17 : Int) (kind_0 : Int) (tape_0 : Int → Int) (from_0 : Int) (pos_0 : Int) (fault_0 : Int) (faultPlace_0 : Int) (k14 : 0 ≤ x14 ∧ x14 ≤ 0) (k15 : 4 ≤ x15 ∧ x15 ≤ 4) (k16 : 0 ≤ x16 ∧ x16 ≤ 2000) (k17 : 0 ≤ x17 ∧ x17 ≤ 5) (f4 : 1 * from_0 + ((-1) * pos_0 + 0) ≤ 0) (f5 : ((kind_0 = 1) → (pos_0 ≤ (from_0 + 8))) ∧ ((kind_0 = 0) ∨ ((from_0 + 1) ≤ pos_0))) (f12 : (x14 = 1) → (kind_0 = 1)) (f15 : ((1 ≤ x17) ∧ (fault_0 = x17)) ∨ ((x17 = 0) ∧ ((fault_0 = x15) ∧ (faultPlace_0 = x16)))) (hK_0_1 : ∀ j : Int, 0 ≤ j → j < 2000 → (-128) ≤ tape_0 j ∧ tape_0 j ≤ 127) (kz_0_8 : 0 ≤ fault_0 ∧ fault_0 ≤ 5) (kz_0_9 : 0 ≤ faultPlace_0 ∧ faultPlace_0 ≤ 2000) (kz_0_11 : 0 ≤ pos_0 ∧ pos_0 ≤ 2000) (kz_0_12 : 0 ≤ kind_0 ∧ kind_0 ≤ 4) (kz_0_15 : 0 ≤ from_0 ∧ from_0 ≤ 2000) : 1 * from_0 + ((-1) * pos_0 + 0) ≤ 0 := by
  first | with_reducible assumption | ((have f5_c0 := f5.1); (have f5_c1 := f5.2); (try and_intros) <;> first | with_reducible assumption | (clear f5_c0 f5_c1 f5 f15 hK_0_1 f12; omega)) | ((have f5_c0 := f5.1); (have f5_c1 := f5.2); (first | have f12_b := f12 (by clear f5_c0 f5_c1 f5 f15 hK_0_1 f12; omega) | skip); (first | have f12_d := f12 (by with_reducible assumption) | skip); (try and_intros) <;> first | with_reducible assumption | (clear f5_c0 f5_c1 f5 f15 hK_0_1 f12; omega)) | ((have f5_c0 := f5.1); (have f5_c1 := f5.2); (first | have f12_b := f12 (by clear f5_c0 f5_c1 f5 f15 hK_0_1 f12; omega) | skip); (first | have f12_d := f12 (by with_reducible assumption) | skip); (try and_intros) <;> first | with_reducible assumption | (clear f5_c0 f5_c1 f5 hK_0_1 f12; omega)) | omega
set_option maxHeartbeats 4000000 in
theorem vc_Mo_of_at_s5003_5_1 (x14 : Int) (x15 : Int) (x16 : Int) (x17 : Int) (kind_0 : Int) (tape_0 : Int → Int) (from_0 : Int) (pos_0 : Int) (fault_0 : Int) (faultPlace_0 : Int) (k14 : 0 ≤ x14 ∧ x14 ≤ 0) (k15 : 4 ≤ x15 ∧ x15 ≤ 4) (k16 : 0 ≤ x16 ∧ x16 ≤ 2000) (k17 : 0 ≤ x17 ∧ x17 ≤ 5) (f5 : ((kind_0 = 1) → (pos_0 ≤ (from_0 + 8))) ∧ ((kind_0 = 0) ∨ ((from_0 + 1) ≤ pos_0))) (f12 : (x14 = 1) → (kind_0 = 1)) (f15 : ((1 ≤ x17) ∧ (fault_0 = x17)) ∨ ((x17 = 0) ∧ ((fault_0 = x15) ∧ (faultPlace_0 = x16)))) (hK_0_1 : ∀ j : Int, 0 ≤ j → j < 2000 → (-128) ≤ tape_0 j ∧ tape_0 j ≤ 127) (kz_0_8 : 0 ≤ fault_0 ∧ fault_0 ≤ 5) (kz_0_9 : 0 ≤ faultPlace_0 ∧ faultPlace_0 ≤ 2000) (kz_0_11 : 0 ≤ pos_0 ∧ pos_0 ≤ 2000) (kz_0_12 : 0 ≤ kind_0 ∧ kind_0 ≤ 4) (kz_0_15 : 0 ≤ from_0 ∧ from_0 ≤ 2000) : ((kind_0 = 1) → (pos_0 ≤ (from_0 + 8))) ∧ ((kind_0 = 0) ∨ ((from_0 + 1) ≤ pos_0)) := by
  first | with_reducible assumption | ((have f5_c0 := f5.1); (have f5_c1 := f5.2); (try and_intros) <;> first | with_reducible assumption | (clear f5_c0 f5_c1 f5 f15 hK_0_1 f12; omega)) | ((have f5_c0 := f5.1); (have f5_c1 := f5.2); (first | have f12_b := f12 (by clear f5_c0 f5_c1 f5 f15 hK_0_1 f12; omega) | skip); (first | have f12_d := f12 (by with_reducible assumption) | skip); (try and_intros) <;> first | with_reducible assumption | (clear f5_c0 f5_c1 f5 f15 hK_0_1 f12; omega)) | ((have f5_c0 := f5.1); (have f5_c1 := f5.2); (first | have f12_b := f12 (by clear f5_c0 f5_c1 f5 f15 hK_0_1 f12; omega) | skip); (first | have f12_d := f12 (by with_reducible assumption) | skip); (try and_intros) <;> first | with_reducible assumption | (clear f5_c0 f5_c1 f5 hK_0_1 f12; omega)) | omega
set_option maxHeartbeats 4000000 in
theorem vc_Mo_of_at_s5003_5_2 (x3 : Int) (x14 : Int) (x15 : Int) (x16 : Int) (x17 : Int) (kind_0 : Int) (tape_0 : Int → Int) (from_0 : Int) (pos_0 : Int) (fault_0 : Int) (faultPlace_0 : Int) (k3 : 0 ≤ x3 ∧ x3 ≤ 2000) (k14 : 0 ≤ x14 ∧ x14 ≤ 0) (k15 : 4 ≤ x15 ∧ x15 ≤ 4) (k16 : 0 ≤ x16 ∧ x16 ≤ 2000) (k17 : 0 ≤ x17 ∧ x17 ≤ 5) (f5 : ((kind_0 = 1) → (pos_0 ≤ (from_0 + 8))) ∧ ((kind_0 = 0) ∨ ((from_0 + 1) ≤ pos_0))) (f6 : 1 * x3 + ((-1) * pos_0 + 0) ≤ (-1)) (f12 : (x14 = 1) → (kind_0 = 1)) (f15 : ((1 ≤ x17) ∧ (fault_0 = x17)) ∨ ((x17 = 0) ∧ ((fault_0 = x15) ∧ (faultPlace_0 = x16)))) (hK_0_1 : ∀ j : Int, 0 ≤ j → j < 2000 → (-128) ≤ tape_0 j ∧ tape_0 j ≤ 127) (kz_0_8 : 0 ≤ fault_0 ∧ fault_0 ≤ 5) (kz_0_9 : 0 ≤ faultPlace_0 ∧ faultPlace_0 ≤ 2000) (kz_0_11 : 0 ≤ pos_0 ∧ pos_0 ≤ 2000) (kz_0_12 : 0 ≤ kind_0 ∧ kind_0 ≤ 4) (kz_0_15 : 0 ≤ from_0 ∧ from_0 ≤ 2000) : 1 * x3 + ((-1) * pos_0 + 0) ≤ 0 := by
  first | with_reducible assumption | ((have f5_c0 := f5.1); (have f5_c1 := f5.2); (try and_intros) <;> first | with_reducible assumption | (clear f5_c0 f5_c1 f5 f15 hK_0_1 f12; omega)) | ((have f5_c0 := f5.1); (have f5_c1 := f5.2); (first | have f12_b := f12 (by clear f5_c0 f5_c1 f5 f15 hK_0_1 f12; omega) | skip); (first | have f12_d := f12 (by with_reducible assumption) | skip); (try and_intros) <;> first | with_reducible assumption | (clear f5_c0 f5_c1 f5 f15 hK_0_1 f12; omega)) | ((have f5_c0 := f5.1); (have f5_c1 := f5.2); (first | have f12_b := f12 (by clear f5_c0 f5_c1 f5 f15 hK_0_1 f12; omega) | skip); (first | have f12_d := f12 (by with_reducible assumption) | skip); (try and_intros) <;> first | with_reducible assumption | (clear f5_c0 f5_c1 f5 hK_0_1 f12; omega)) | omega
set_option maxHeartbeats 4000000 in
theorem vc_Mo_of_at_s5003_5_3 (x3 : Int) (x14 : Int) (x15 : Int) (x16 : Int) (x17 : Int) (kind_0 : Int) (tape_0 : Int → Int) (from_0 : Int) (pos_0 : Int) (fault_0 : Int) (faultPlace_0 : Int) (k3 : 0 ≤ x3 ∧ x3 ≤ 2000) (k14 : 0 ≤ x14 ∧ x14 ≤ 0) (k15 : 4 ≤ x15 ∧ x15 ≤ 4) (k16 : 0 ≤ x16 ∧ x16 ≤ 2000) (k17 : 0 ≤ x17 ∧ x17 ≤ 5) (f5 : ((kind_0 = 1) → (pos_0 ≤ (from_0 + 8))) ∧ ((kind_0 = 0) ∨ ((from_0 + 1) ≤ pos_0))) (f12 : (x14 = 1) → (kind_0 = 1)) (f14 : (-1) * fault_0 + 0 ≤ (-1)) (f15 : ((1 ≤ x17) ∧ (fault_0 = x17)) ∨ ((x17 = 0) ∧ ((fault_0 = x15) ∧ (faultPlace_0 = x16)))) (hK_0_1 : ∀ j : Int, 0 ≤ j → j < 2000 → (-128) ≤ tape_0 j ∧ tape_0 j ≤ 127) (kz_0_8 : 0 ≤ fault_0 ∧ fault_0 ≤ 5) (kz_0_9 : 0 ≤ faultPlace_0 ∧ faultPlace_0 ≤ 2000) (kz_0_11 : 0 ≤ pos_0 ∧ pos_0 ≤ 2000) (kz_0_12 : 0 ≤ kind_0 ∧ kind_0 ≤ 4) (kz_0_15 : 0 ≤ from_0 ∧ from_0 ≤ 2000) : (1 ≤ fault_0) ∨ ((kind_0 = 0) ∨ ((x3 + 1) ≤ pos_0)) := by
  first | with_reducible assumption | ((have f5_c0 := f5.1); (have f5_c1 := f5.2); (try and_intros) <;> first | with_reducible assumption | (clear f5_c0 f5_c1 f5 f15 hK_0_1 f12; omega)) | ((have f5_c0 := f5.1); (have f5_c1 := f5.2); (first | have f12_b := f12 (by clear f5_c0 f5_c1 f5 f15 hK_0_1 f12; omega) | skip); (first | have f12_d := f12 (by with_reducible assumption) | skip); (try and_intros) <;> first | with_reducible assumption | (clear f5_c0 f5_c1 f5 f15 hK_0_1 f12; omega)) | ((have f5_c0 := f5.1); (have f5_c1 := f5.2); (first | have f12_b := f12 (by clear f5_c0 f5_c1 f5 f15 hK_0_1 f12; omega) | skip); (first | have f12_d := f12 (by with_reducible assumption) | skip); (try and_intros) <;> first | with_reducible assumption | (clear f5_c0 f5_c1 f5 hK_0_1 f12; omega)) | omega
set_option maxHeartbeats 4000000 in
theorem vc_Mo_of_at_s5003_5_4 (x4 : Int) (x14 : Int) (x15 : Int) (x16 : Int) (x17 : Int) (kind_0 : Int) (tape_0 : Int → Int) (from_0 : Int) (pos_0 : Int) (fault_0 : Int) (faultPlace_0 : Int) (k4 : (-1) ≤ x4 ∧ x4 ≤ 48) (k14 : 0 ≤ x14 ∧ x14 ≤ 0) (k15 : 4 ≤ x15 ∧ x15 ≤ 4) (k16 : 0 ≤ x16 ∧ x16 ≤ 2000) (k17 : 0 ≤ x17 ∧ x17 ≤ 5) (f5 : ((kind_0 = 1) → (pos_0 ≤ (from_0 + 8))) ∧ ((kind_0 = 0) ∨ ((from_0 + 1) ≤ pos_0))) (f12 : (x14 = 1) → (kind_0 = 1)) (f14 : (-1) * fault_0 + 0 ≤ (-1)) (f15 : ((1 ≤ x17) ∧ (fault_0 = x17)) ∨ ((x17 = 0) ∧ ((fault_0 = x15) ∧ (faultPlace_0 = x16)))) (hK_0_1 : ∀ j : Int, 0 ≤ j → j < 2000 → (-128) ≤ tape_0 j ∧ tape_0 j ≤ 127) (kz_0_8 : 0 ≤ fault_0 ∧ fault_0 ≤ 5) (kz_0_9 : 0 ≤ faultPlace_0 ∧ faultPlace_0 ≤ 2000) (kz_0_11 : 0 ≤ pos_0 ∧ pos_0 ≤ 2000) (kz_0_12 : 0 ≤ kind_0 ∧ kind_0 ≤ 4) (kz_0_15 : 0 ≤ from_0 ∧ from_0 ≤ 2000) : (1 ≤ fault_0) ∨ (0 ≤ x4) := by
  first | with_reducible assumption | ((have f5_c0 := f5.1); (have f5_c1 := f5.2); (try and_intros) <;> first | with_reducible assumption | (clear f5_c0 f5_c1 f5 f15 hK_0_1 f12; omega)) | ((have f5_c0 := f5.1); (have f5_c1 := f5.2); (first | have f12_b := f12 (by clear f5_c0 f5_c1 f5 f15 hK_0_1 f12; omega) | skip); (first | have f12_d := f12 (by with_reducible assumption) | skip); (try and_intros) <;> first | with_reducible assumption | (clear f5_c0 f5_c1 f5 f15 hK_0_1 f12; omega)) | ((have f5_c0 := f5.1); (have f5_c1 := f5.2); (first | have f12_b := f12 (by clear f5_c0 f5_c1 f5 f15 hK_0_1 f12; omega) | skip); (first | have f12_d := f12 (by with_reducible assumption) | skip); (try and_intros) <;> first | with_reducible assumption | (clear f5_c0 f5_c1 f5 hK_0_1 f12; omega)) | omega
set_option maxHeartbeats 4000000 in
theorem vc_Mo_of_at_s5003_5_5 (x2 : Int) (x14 : Int) (x15 : Int) (x16 : Int) (x17 : Int) (x18 : Int) (kind_0 : Int) (tape_0 : Int → Int) (from_0 : Int) (pos_0 : Int) (fault_0 : Int) (faultPlace_0 : Int) (k2 : 9 ≤ x2 ∧ x2 ≤ 9) (k14 : 0 ≤ x14 ∧ x14 ≤ 0) (k15 : 4 ≤ x15 ∧ x15 ≤ 4) (k16 : 0 ≤ x16 ∧ x16 ≤ 2000) (k17 : 0 ≤ x17 ∧ x17 ≤ 5) (k18 : 0 ≤ x18 ∧ x18 ≤ 0) (f5 : ((kind_0 = 1) → (pos_0 ≤ (from_0 + 8))) ∧ ((kind_0 = 0) ∨ ((from_0 + 1) ≤ pos_0))) (f12 : (x14 = 1) → (kind_0 = 1)) (f15 : ((1 ≤ x17) ∧ (fault_0 = x17)) ∨ ((x17 = 0) ∧ ((fault_0 = x15) ∧ (faultPlace_0 = x16)))) (hK_0_1 : ∀ j : Int, 0 ≤ j → j < 2000 → (-128) ≤ tape_0 j ∧ tape_0 j ≤ 127) (kz_0_8 : 0 ≤ fault_0 ∧ fault_0 ≤ 5) (kz_0_9 : 0 ≤ faultPlace_0 ∧ faultPlace_0 ≤ 2000) (kz_0_11 : 0 ≤ pos_0 ∧ pos_0 ≤ 2000) (kz_0_12 : 0 ≤ kind_0 ∧ kind_0 ≤ 4) (kz_0_15 : 0 ≤ from_0 ∧ from_0 ≤ 2000) : 1 * x18 + ((-1) * x2 + 0) ≤ 0 := by
  first | with_reducible assumption | ((have f5_c0 := f5.1); (have f5_c1 := f5.2); (try and_intros) <;> first | with_reducible assumption | (clear f5_c0 f5_c1 f5 f15 hK_0_1 f12; omega)) | ((have f5_c0 := f5.1); (have f5_c1 := f5.2); (first | have f12_b := f12 (by clear f5_c0 f5_c1 f5 f15 hK_0_1 f12; omega) | skip); (first | have f12_d := f12 (by with_reducible assumption) | skip); (try and_intros) <;> first | with_reducible assumption | (clear f5_c0 f5_c1 f5 f15 hK_0_1 f12; omega)) | ((have f5_c0 := f5.1); (have f5_c1 := f5.2); (first | have f12_b := f12 (by clear f5_c0 f5_c1 f5 f15 hK_0_1 f12; omega) | skip); (first | have f12_d := f12 (by with_reducible assumption) | skip); (try and_intros) <;> first | with_reducible assumption | (clear f5_c0 f5_c1 f5 hK_0_1 f12; omega)) | omega
set_option maxHeartbeats 4000000 in
theorem vc_Mo_of_at_s5003_5_6 (x14 : Int) (x15 : Int) (x16 : Int) (x17 : Int) (x18 : Int) (kind_0 : Int) (tape_0 : Int → Int) (from_0 : Int) (pos_0 : Int) (fault_0 : Int) (faultPlace_0 : Int) (k14 : 0 ≤ x14 ∧ x14 ≤ 0) (k15 : 4 ≤ x15 ∧ x15 ≤ 4) (k16 : 0 ≤ x16 ∧ x16 ≤ 2000) (k17 : 0 ≤ x17 ∧ x17 ≤ 5) (k18 : 0 ≤ x18 ∧ x18 ≤ 0) (f5 : ((kind_0 = 1) → (pos_0 ≤ (from_0 + 8))) ∧ ((kind_0 = 0) ∨ ((from_0 + 1) ≤ pos_0))) (f12 : (x14 = 1) → (kind_0 = 1)) (f15 : ((1 ≤ x17) ∧ (fault_0 = x17)) ∨ ((x17 = 0) ∧ ((fault_0 = x15) ∧ (faultPlace_0 = x16)))) (hK_0_1 : ∀ j : Int, 0 ≤ j → j < 2000 → (-128) ≤ tape_0 j ∧ tape_0 j ≤ 127) (kz_0_8 : 0 ≤ fault_0 ∧ fault_0 ≤ 5) (kz_0_9 : 0 ≤ faultPlace_0 ∧ faultPlace_0 ≤ 2000) (kz_0_11 : 0 ≤ pos_0 ∧ pos_0 ≤ 2000) (kz_0_12 : 0 ≤ kind_0 ∧ kind_0 ≤ 4) (kz_0_15 : 0 ≤ from_0 ∧ from_0 ≤ 2000) : (-1) * x18 + 0 ≤ 0 := by
  first | with_reducible assumption | ((have f5_c0 := f5.1); (have f5_c1 := f5.2); (try and_intros) <;> first | with_reducible assumption | (clear f5_c0 f5_c1 f5 f15 hK_0_1 f12; omega)) | ((have f5_c0 := f5.1); (have f5_c1 := f5.2); (first | have f12_b := f12 (by clear f5_c0 f5_c1 f5 f15 hK_0_1 f12; omega) | skip); (first | have f12_d := f12 (by with_reducible assumption) | skip); (try and_intros) <;> first | with_reducible assumption | (clear f5_c0 f5_c1 f5 f15 hK_0_1 f12; omega)) | ((have f5_c0 := f5.1); (have f5_c1 := f5.2); (first | have f12_b := f12 (by clear f5_c0 f5_c1 f5 f15 hK_0_1 f12; omega) | skip); (first | have f12_d := f12 (by with_reducible assumption) | skip); (try and_intros) <;> first | with_reducible assumption | (clear f5_c0 f5_c1 f5 hK_0_1 f12; omega)) | omega
set_option maxHeartbeats 4000000 in
theorem vc_Mo_of_at_s5003_5_7 (x4 : Int) (x5 : Int) (x6 : Int) (x12 : Int) (x15 : Int) (x16 : Int) (x17 : Int) (x18 : Int) (place_0 : Int) (kind_0 : Int) (tape_0 : Int → Int) (limit_0 : Int) (from_0 : Int) (pos_0 : Int) (fault_0 : Int) (faultPlace_0 : Int) (value_0 : Int) (all_0 : Int → Int) (r_0 : Int) (k4 : (-1) ≤ x4 ∧ x4 ≤ 48) (k5 : 0 ≤ x5 ∧ x5 ≤ 7) (k6 : 0 ≤ x6 ∧ x6 ≤ 4) (k12 : 1 ≤ x12 ∧ x12 ≤ 1) (k15 : 4 ≤ x15 ∧ x15 ≤ 4) (k16 : 0 ≤ x16 ∧ x16 ≤ 2000) (k17 : 0 ≤ x17 ∧ x17 ≤ 5) (k18 : 0 ≤ x18 ∧ x18 ≤ 0) (g0 : x16 = place_0) (g1 : x12 = kind_0) (f2 : FSX (limit_0) (tape_0) (x15) (x16)) (f3 : ZH0 (x17)) (f15 : ((1 ≤ x17) ∧ (fault_0 = x17)) ∨ ((x17 = 0) ∧ ((fault_0 = x15) ∧ (faultPlace_0 = x16)))) (kz_0_8 : 0 ≤ fault_0 ∧ fault_0 ≤ 5) (kz_0_9 : 0 ≤ faultPlace_0 ∧ faultPlace_0 ≤ 2000) (kz_0_10 : 0 ≤ limit_0 ∧ limit_0 ≤ 2000) (kz_0_11 : 0 ≤ pos_0 ∧ pos_0 ≤ 2000) (kz_0_12 : 0 ≤ kind_0 ∧ kind_0 ≤ 4) (kz_0_13 : 0 ≤ place_0 ∧ place_0 ≤ 2000) (kz_0_14 : (-49) ≤ value_0 ∧ value_0 ≤ 1048575) (kz_0_15 : 0 ≤ from_0 ∧ from_0 ≤ 2000) : zOFw (limit_0) (pos_0) (kind_0) (place_0) (value_0) (from_0) (fault_0) (faultPlace_0) (r_0) (tape_0) (all_0) (x4) (x18) (x5) (x6) := by
  first | subst g0 | skip
  first | subst g1 | skip
  first
    | exact Or.inl ⟨by omega, fs_w ‹FSX _ _ _ _› ‹ZH0 _› (by assumption)⟩
    | (exfalso; omega)
def o_Mo_of_at_s5003_5 : or_T := (58, 19, [(0, (2, 0, 0, [165])), (2, (0, 9, 9, [])), (3, (0, 0, 2000, [])), (4, (0, -1, 48, [])), (5, (0, 0, 7, [])), (6, (0, 0, 4, [])), (7, (2, 0, 0, [165])), (9, (0, 9, 9, [])), (11, (0, 0, 2000, [])), (12, (0, 1, 1, [])), (13, (0, 1, 1, [])), (14, (0, 0, 0, [])), (15, (0, 4, 4, [])), (16, (0, 0, 2000, [])), (17, (0, 0, 5, [])), (18, (0, 0, 0, []))], [(9, [16, 7], [13]), (9, [12, 7], [12]), (20, [7, 15, 16], [60, 1, 1, 1026, 10, 1]), (20, [17], [61, 0, 1029]), (20, [7, 7], [30, 0, 1, 1, 15, -1, 1, 11]), (20, [7], [50, 3, 0, 12, 11, 15, 2, 21, 4, 7, 1, 3, 2, 0, 12, 0, 1, 0, 3, 2, 0, 11, 4, 3, 2, 0, 15, 0, 8, 3, 7, 1, 3, 2, 0, 12, 0, 0, 0, 7, 4, 3, 2, 0, 15, 0, 1, 2, 0, 11]), (20, [3, 7], [30, -1, 1, 0, 0, -1, 1, 11]), (23, [4], [0, -1]), (24, [0, 7], []), (24, [2, 9], []), (20, [11, 7], [30, 2000, 1, 0, 0, 1, 1, 11]), (20, [11, 7], [30, -2000, -1, 0, 0, -1, 1, 11]), (20, [14, 7], [50, 1, 0, 1012, 4, 6, 1, 2, 1, 0, 0, 1, 1, 3, 2, 1, 12, 0, 1]), (20, [7, 14], [60, 4, 1, 961, 12, 11, 10, 15, 1]), (20, [7], [30, -1, -1, 1, 8]), (20, [17, 7, 15, 16], [50, 2, 0, 1008, 1009, 3, 15, 2, 6, 0, 2, 0, 1, 1, 0, 1, 3, 2, 1, 8, 1, 0, 2, 6, 1, 2, 1, 0, 0, 0, 2, 7, 1, 3, 2, 1, 8, 1, 2, 1, 3, 2, 1, 9, 1, 3]), (102, [17], [0, 165008, 165009]), (8, [14], [0]), (23, [4], [0, -1]), (102, [13], [0]), (7, [12, 13], [0]), (23, [4], [0, -1])], [], [], [(20, [0, 0], [30, 0, 1, 1, 15, -1, 1, 11]), (20, [0], [50, 3, 0, 12, 11, 15, 2, 21, 4, 7, 1, 3, 2, 0, 12, 0, 1, 0, 3, 2, 0, 11, 4, 3, 2, 0, 15, 0, 8, 3, 7, 1, 3, 2, 0, 12, 0, 0, 0, 7, 4, 3, 2, 0, 15, 0, 1, 2, 0, 11]), (20, [3, 0], [30, 0, 1, 0, 0, -1, 1, 11]), (20, [0, 3], [50, 3, 0, 8, 12, 11, 3, 7, 0, 2, 0, 1, 2, 0, 8, 3, 7, 1, 3, 2, 0, 12, 0, 0, 0, 6, 4, 2, 1, 1, 0, 1, 2, 0, 11]), (20, [0, 4], [50, 1, 0, 8, 3, 7, 0, 2, 0, 1, 2, 0, 8, 0, 2, 0, 0, 1, 1]), (20, [18, 2], [30, 0, 1, 0, 0, -1, 0, 0]), (20, [18], [30, 0, -1, 0, 0]), (20, [0, 4, 18, 5, 6], [60, 9, 2, 1014, 10, 11, 12, 13, 14, 15, 8, 9, 5, 1, 2])], [], [])
theorem oo_Mo_of_at_s5003_5 {kA : Nat → ClassId} : or_ok PRD kA GG o_Mo_of_at_s5003_5 := by
  refine or_mk fun A ta ws vs hD hth hl => ?_
  intro t0 r0 t2 k2 t3 k3 t4 k4 t5 k5 t6 k6 t7 r7 t9 k9 t11 k11 t12 k12 t13 k13 t14 k14 t15 k15 t16 k16 t17 k17 t18 k18 f0 f1 f2 f3 f4 f5 f6 f7 f8 f9 f10 f11 f12 f13 f14 f15 ta1 w1 le1 s1 f17 f18 ta2 w2 le2 s2 f20 f21
  replace f0 := shm_361 f0
  replace f1 := shm_103 f1
  replace f2 := shm_1724 f2
  replace f4 := shm_1437 f4
  replace f5 := shm_1438 f5
  replace f6 := shm_2005 f6
  replace f8 := shm_5 f8
  replace f12 := shm_1856 f12
  replace f14 := shm_305 f14
  replace f15 := shm_306 f15
  have q7 : n_v vs 7 = n_v vs 0 := f8.symm
  simp only [q7] at f0 f1 f2 f4 f5 f6 f12 f14 f15
  have cr_0_1 := fdq_39 hD hth r0
  have g0 : v_iv (n_v vs 16) = w_fi ws (n_v vs 0) 13 := congrArg v_iv f0
  have g1 : v_iv (n_v vs 12) = w_fi ws (n_v vs 0) 12 := congrArg v_iv f1
  have hK_0_1 := elq_7 hD hth cr_0_1
  have kz_0_8 := fdq_34 hD hth r0
  have kz_0_9 := fdq_44 hD hth r0
  have kz_0_10 := fdq_43 hD hth r0
  have kz_0_11 := fdq_237 hD hth r0
  have kz_0_12 := fdq_187 hD hth r0
  have kz_0_13 := fdq_238 hD hth r0
  have kz_0_14 := fdq_188 hD hth r0
  have kz_0_15 := fdq_239 hD hth r0
  have nf0 : fc_1 PRD (20, [0, 0], [30, 0, 1, 1, 15, -1, 1, 11]) ws (vs) := ⟨nf_in hl rfl, sgq_1437 (vc_Mo_of_at_s5003_5_0 (v_iv (n_v vs 14)) (v_iv (n_v vs 15)) (v_iv (n_v vs 16)) (v_iv (n_v vs 17)) (w_fi ws (n_v vs 0) 12) (w_ei ws (w_ar ws (n_v vs 0) 1)) (w_fi ws (n_v vs 0) 15) (w_fi ws (n_v vs 0) 11) (w_fi ws (n_v vs 0) 8) (w_fi ws (n_v vs 0) 9) k14 k15 k16 k17 f4 f5 f12 f15 hK_0_1 kz_0_8 kz_0_9 kz_0_11 kz_0_12 kz_0_15)⟩
  have nf1 : fc_1 PRD (20, [0], [50, 3, 0, 12, 11, 15, 2, 21, 4, 7, 1, 3, 2, 0, 12, 0, 1, 0, 3, 2, 0, 11, 4, 3, 2, 0, 15, 0, 8, 3, 7, 1, 3, 2, 0, 12, 0, 0, 0, 7, 4, 3, 2, 0, 15, 0, 1, 2, 0, 11]) ws (vs) := ⟨nf_in hl rfl, sgq_1438 (vc_Mo_of_at_s5003_5_1 (v_iv (n_v vs 14)) (v_iv (n_v vs 15)) (v_iv (n_v vs 16)) (v_iv (n_v vs 17)) (w_fi ws (n_v vs 0) 12) (w_ei ws (w_ar ws (n_v vs 0) 1)) (w_fi ws (n_v vs 0) 15) (w_fi ws (n_v vs 0) 11) (w_fi ws (n_v vs 0) 8) (w_fi ws (n_v vs 0) 9) k14 k15 k16 k17 f5 f12 f15 hK_0_1 kz_0_8 kz_0_9 kz_0_11 kz_0_12 kz_0_15)⟩
  have nf2 : fc_1 PRD (20, [3, 0], [30, 0, 1, 0, 0, -1, 1, 11]) ws (vs) := ⟨nf_in hl rfl, sgq_1431 (vc_Mo_of_at_s5003_5_2 (v_iv (n_v vs 3)) (v_iv (n_v vs 14)) (v_iv (n_v vs 15)) (v_iv (n_v vs 16)) (v_iv (n_v vs 17)) (w_fi ws (n_v vs 0) 12) (w_ei ws (w_ar ws (n_v vs 0) 1)) (w_fi ws (n_v vs 0) 15) (w_fi ws (n_v vs 0) 11) (w_fi ws (n_v vs 0) 8) (w_fi ws (n_v vs 0) 9) k3 k14 k15 k16 k17 f5 f6 f12 f15 hK_0_1 kz_0_8 kz_0_9 kz_0_11 kz_0_12 kz_0_15)⟩
  have nf3 : fc_1 PRD (20, [0, 3], [50, 3, 0, 8, 12, 11, 3, 7, 0, 2, 0, 1, 2, 0, 8, 3, 7, 1, 3, 2, 0, 12, 0, 0, 0, 6, 4, 2, 1, 1, 0, 1, 2, 0, 11]) ws (vs) := ⟨nf_in hl rfl, sgq_1722 (vc_Mo_of_at_s5003_5_3 (v_iv (n_v vs 3)) (v_iv (n_v vs 14)) (v_iv (n_v vs 15)) (v_iv (n_v vs 16)) (v_iv (n_v vs 17)) (w_fi ws (n_v vs 0) 12) (w_ei ws (w_ar ws (n_v vs 0) 1)) (w_fi ws (n_v vs 0) 15) (w_fi ws (n_v vs 0) 11) (w_fi ws (n_v vs 0) 8) (w_fi ws (n_v vs 0) 9) k3 k14 k15 k16 k17 f5 f12 f14 f15 hK_0_1 kz_0_8 kz_0_9 kz_0_11 kz_0_12 kz_0_15)⟩
  have nf4 : fc_1 PRD (20, [0, 4], [50, 1, 0, 8, 3, 7, 0, 2, 0, 1, 2, 0, 8, 0, 2, 0, 0, 1, 1]) ws (vs) := ⟨nf_in hl rfl, sgq_2000 (vc_Mo_of_at_s5003_5_4 (v_iv (n_v vs 4)) (v_iv (n_v vs 14)) (v_iv (n_v vs 15)) (v_iv (n_v vs 16)) (v_iv (n_v vs 17)) (w_fi ws (n_v vs 0) 12) (w_ei ws (w_ar ws (n_v vs 0) 1)) (w_fi ws (n_v vs 0) 15) (w_fi ws (n_v vs 0) 11) (w_fi ws (n_v vs 0) 8) (w_fi ws (n_v vs 0) 9) k4 k14 k15 k16 k17 f5 f12 f14 f15 hK_0_1 kz_0_8 kz_0_9 kz_0_11 kz_0_12 kz_0_15)⟩
  have nf5 : fc_1 PRD (20, [18, 2], [30, 0, 1, 0, 0, -1, 0, 0]) ws (vs) := ⟨nf_in hl rfl, sgq_201 (vc_Mo_of_at_s5003_5_5 (v_iv (n_v vs 2)) (v_iv (n_v vs 14)) (v_iv (n_v vs 15)) (v_iv (n_v vs 16)) (v_iv (n_v vs 17)) (v_iv (n_v vs 18)) (w_fi ws (n_v vs 0) 12) (w_ei ws (w_ar ws (n_v vs 0) 1)) (w_fi ws (n_v vs 0) 15) (w_fi ws (n_v vs 0) 11) (w_fi ws (n_v vs 0) 8) (w_fi ws (n_v vs 0) 9) k2 k14 k15 k16 k17 k18 f5 f12 f15 hK_0_1 kz_0_8 kz_0_9 kz_0_11 kz_0_12 kz_0_15)⟩
  have nf6 : fc_1 PRD (20, [18], [30, 0, -1, 0, 0]) ws (vs) := ⟨nf_in hl rfl, sgq_2002 (vc_Mo_of_at_s5003_5_6 (v_iv (n_v vs 14)) (v_iv (n_v vs 15)) (v_iv (n_v vs 16)) (v_iv (n_v vs 17)) (v_iv (n_v vs 18)) (w_fi ws (n_v vs 0) 12) (w_ei ws (w_ar ws (n_v vs 0) 1)) (w_fi ws (n_v vs 0) 15) (w_fi ws (n_v vs 0) 11) (w_fi ws (n_v vs 0) 8) (w_fi ws (n_v vs 0) 9) k14 k15 k16 k17 k18 f5 f12 f15 hK_0_1 kz_0_8 kz_0_9 kz_0_11 kz_0_12 kz_0_15)⟩
  have nf7 : fc_1 PRD (20, [0, 4, 18, 5, 6], [60, 9, 2, 1014, 10, 11, 12, 13, 14, 15, 8, 9, 5, 1, 2]) ws (vs) := ⟨nf_in hl rfl, sgq_2016 (vc_Mo_of_at_s5003_5_7 (v_iv (n_v vs 4)) (v_iv (n_v vs 5)) (v_iv (n_v vs 6)) (v_iv (n_v vs 12)) (v_iv (n_v vs 15)) (v_iv (n_v vs 16)) (v_iv (n_v vs 17)) (v_iv (n_v vs 18)) (w_fi ws (n_v vs 0) 13) (w_fi ws (n_v vs 0) 12) (w_ei ws (w_ar ws (n_v vs 0) 1)) (w_fi ws (n_v vs 0) 10) (w_fi ws (n_v vs 0) 15) (w_fi ws (n_v vs 0) 11) (w_fi ws (n_v vs 0) 8) (w_fi ws (n_v vs 0) 9) (w_fi ws (n_v vs 0) 14) (w_ei ws (w_ar ws (n_v vs 0) 2)) (w_fi ws (n_v vs 0) 5) k4 k5 k6 k12 k15 k16 k17 k18 g0 g1 f2 (shm_1725 f3) f15 kz_0_8 kz_0_9 kz_0_10 kz_0_11 kz_0_12 kz_0_13 kz_0_14 kz_0_15)⟩
  refine ⟨(fun _ h => (by cases h)), [], trivial, ?_, (fun _ h => (by cases h))⟩
  rw [List.append_nil]
  exact List.forall_mem_cons.mpr ⟨⟨show (20 : Nat) < 100 from by decide, nf0⟩, List.forall_mem_cons.mpr ⟨⟨show (20 : Nat) < 100 from by decide, nf1⟩, List.forall_mem_cons.mpr ⟨⟨show (20 : Nat) < 100 from by decide, nf2⟩, List.forall_mem_cons.mpr ⟨⟨show (20 : Nat) < 100 from by decide, nf3⟩, List.forall_mem_cons.mpr ⟨⟨show (20 : Nat) < 100 from by decide, nf4⟩, List.forall_mem_cons.mpr ⟨⟨show (20 : Nat) < 100 from by decide, nf5⟩, List.forall_mem_cons.mpr ⟨⟨show (20 : Nat) < 100 from by decide, nf6⟩, List.forall_mem_cons.mpr ⟨⟨show (20 : Nat) < 100 from by decide, nf7⟩, (fun _ h => (by cases h))⟩⟩⟩⟩⟩⟩⟩⟩
set_option maxHeartbeats 4000000 in
theorem vc_Mo_of_at_s5003_6_0 (x14 : Int) (kind_0 : Int) (from_0 : Int) (pos_0 : Int) (tape_0 : Int → Int) (gx : Int) (k14 : 1 ≤ x14 ∧ x14 ≤ 1) (f4 : ((kind_0 = 1) → (pos_0 ≤ (from_0 + 8))) ∧ ((kind_0 = 0) ∨ ((from_0 + 1) ≤ pos_0))) (f14 : (x14 = 1) → (kind_0 = 1)) (hK_0_1 : ∀ j : Int, 0 ≤ j → j < 2000 → (-128) ≤ tape_0 j ∧ tape_0 j ≤ 127) (kz_0_11 : 0 ≤ pos_0 ∧ pos_0 ≤ 2000) (kz_0_12 : 0 ≤ kind_0 ∧ kind_0 ≤ 4) (kz_0_15 : 0 ≤ from_0 ∧ from_0 ≤ 2000) (ex2 : gx = pos_0) : 1 * gx + ((-1) * pos_0 + 0) ≤ 0 := by
  first | with_reducible assumption | ((have f4_c0 := f4.1); (have f4_c1 := f4.2); (try and_intros) <;> first | with_reducible assumption | (clear f4_c0 f4_c1 f4 hK_0_1 f14; omega)) | ((have f4_c0 := f4.1); (have f4_c1 := f4.2); (first | have f14_b := f14 (by clear f4_c0 f4_c1 f4 hK_0_1 f14; omega) | skip); (first | have f14_d := f14 (by with_reducible assumption) | skip); (try and_intros) <;> first | with_reducible assumption | (clear f4_c0 f4_c1 f4 hK_0_1 f14; omega)) | omega
set_option maxHeartbeats 4000000 in
theorem vc_Mo_of_at_s5003_6_1 (x14 : Int) (kind_0 : Int) (from_0 : Int) (pos_0 : Int) (tape_0 : Int → Int) (gx : Int) (k14 : 1 ≤ x14 ∧ x14 ≤ 1) (f4 : ((kind_0 = 1) → (pos_0 ≤ (from_0 + 8))) ∧ ((kind_0 = 0) ∨ ((from_0 + 1) ≤ pos_0))) (f14 : (x14 = 1) → (kind_0 = 1)) (hK_0_1 : ∀ j : Int, 0 ≤ j → j < 2000 → (-128) ≤ tape_0 j ∧ tape_0 j ≤ 127) (kz_0_11 : 0 ≤ pos_0 ∧ pos_0 ≤ 2000) (kz_0_12 : 0 ≤ kind_0 ∧ kind_0 ≤ 4) (kz_0_15 : 0 ≤ from_0 ∧ from_0 ≤ 2000) (ex2 : gx = pos_0) : gx = pos_0 := by
  first | with_reducible assumption | ((have f4_c0 := f4.1); (have f4_c1 := f4.2); (try and_intros) <;> first | with_reducible assumption | (clear f4_c0 f4_c1 f4 hK_0_1 f14; omega)) | ((have f4_c0 := f4.1); (have f4_c1 := f4.2); (first | have f14_b := f14 (by clear f4_c0 f4_c1 f4 hK_0_1 f14; omega) | skip); (first | have f14_d := f14 (by with_reducible assumption) | skip); (try and_intros) <;> first | with_reducible assumption | (clear f4_c0 f4_c1 f4 hK_0_1 f14; omega)) | omega
set_option maxHeartbeats 4000000 in
theorem vc_Mo_of_at_s5003_6_2 (x4 : Int) (x5 : Int) (x6 : Int) (x10 : Int) (x12 : Int) (kind_0 : Int) (from_0 : Int) (pos_0 : Int) (tape_0 : Int → Int) (all_0 : Int → Int) (limit_0 : Int) (place_0 : Int) (value_0 : Int) (fault_0 : Int) (r_0 : Int) (gx : Int) (k4 : (-1) ≤ x4 ∧ x4 ≤ 48) (k5 : 0 ≤ x5 ∧ x5 ≤ 7) (k6 : 0 ≤ x6 ∧ x6 ≤ 4) (k10 : (-49) ≤ x10 ∧ x10 ≤ 0) (k12 : 1 ≤ x12 ∧ x12 ≤ 1) (g0 : x12 = kind_0) (f9 : zOIw (limit_0) (pos_0) (kind_0) (place_0) (value_0) (from_0) (fault_0) (r_0) (tape_0) (all_0) (x4) (x10) (x5) (x6)) (kz_0_8 : 0 ≤ fault_0 ∧ fault_0 ≤ 5) (kz_0_10 : 0 ≤ limit_0 ∧ limit_0 ≤ 2000) (kz_0_11 : 0 ≤ pos_0 ∧ pos_0 ≤ 2000) (kz_0_12 : 0 ≤ kind_0 ∧ kind_0 ≤ 4) (kz_0_13 : 0 ≤ place_0 ∧ place_0 ≤ 2000) (kz_0_14 : (-49) ≤ value_0 ∧ value_0 ≤ 1048575) (kz_0_15 : 0 ≤ from_0 ∧ from_0 ≤ 2000) (ex2 : gx = pos_0) : ZLM (limit_0) (pos_0) := by
  first | subst g0 | skip
  first | subst ex2 | skip
  first
    | exact ob_0_s ‹zOBs _ _ _ _ _ _ _ _ _ _ _ _ _ _› (sgq_t (C := 91) ‹SGQ _ _ _ _ _› (by omega) (by omega)).1
    | exact ob_0_w ‹zOBw _ _ _ _ _ _ _ _ _ _ _ _ _ _› (sgq_t (C := 91) ‹SGQ _ _ _ _ _› (by omega) (by omega)).1
    | exact (oi_0_s ‹zOIs _ _ _ _ _ _ _ _ _ _ _ _ _ _›).2
    | exact (oi_0_w ‹zOIw _ _ _ _ _ _ _ _ _ _ _ _ _ _›).2
    | exact o11_0_s ‹zO11s _ _ _ _ _ _ _ _ _ _ _ _ _ _› (by omega)
    | exact o11_0_w ‹zO11w _ _ _ _ _ _ _ _ _ _ _ _ _ _› (by omega)
    | (exfalso; omega)
set_option maxHeartbeats 4000000 in
theorem vc_Mo_of_at_s5003_6_3 (x3 : Int) (x14 : Int) (kind_0 : Int) (from_0 : Int) (pos_0 : Int) (tape_0 : Int → Int) (gx : Int) (k3 : 0 ≤ x3 ∧ x3 ≤ 2000) (k14 : 1 ≤ x14 ∧ x14 ≤ 1) (f4 : ((kind_0 = 1) → (pos_0 ≤ (from_0 + 8))) ∧ ((kind_0 = 0) ∨ ((from_0 + 1) ≤ pos_0))) (f5 : 1 * x3 + ((-1) * pos_0 + 0) ≤ (-1)) (f14 : (x14 = 1) → (kind_0 = 1)) (hK_0_1 : ∀ j : Int, 0 ≤ j → j < 2000 → (-128) ≤ tape_0 j ∧ tape_0 j ≤ 127) (kz_0_11 : 0 ≤ pos_0 ∧ pos_0 ≤ 2000) (kz_0_12 : 0 ≤ kind_0 ∧ kind_0 ≤ 4) (kz_0_15 : 0 ≤ from_0 ∧ from_0 ≤ 2000) (ex2 : gx = pos_0) : 1 * x3 + ((-1) * gx + 0) ≤ (-1) := by
  first | with_reducible assumption | ((have f4_c0 := f4.1); (have f4_c1 := f4.2); (try and_intros) <;> first | with_reducible assumption | (clear f4_c0 f4_c1 f4 hK_0_1 f14; omega)) | ((have f4_c0 := f4.1); (have f4_c1 := f4.2); (first | have f14_b := f14 (by clear f4_c0 f4_c1 f4 hK_0_1 f14; omega) | skip); (first | have f14_d := f14 (by with_reducible assumption) | skip); (try and_intros) <;> first | with_reducible assumption | (clear f4_c0 f4_c1 f4 hK_0_1 f14; omega)) | omega
set_option maxHeartbeats 4000000 in
theorem vc_Mo_of_at_s5003_6_4 (x11 : Int) (x14 : Int) (kind_0 : Int) (from_0 : Int) (pos_0 : Int) (tape_0 : Int → Int) (gx : Int) (k11 : 0 ≤ x11 ∧ x11 ≤ 2000) (k14 : 1 ≤ x14 ∧ x14 ≤ 1) (f4 : ((kind_0 = 1) → (pos_0 ≤ (from_0 + 8))) ∧ ((kind_0 = 0) ∨ ((from_0 + 1) ≤ pos_0))) (f12 : 1 * x11 + (1 * pos_0 + 0) ≤ 2000) (f13 : (-1) * x11 + ((-1) * pos_0 + 0) ≤ (-2000)) (f14 : (x14 = 1) → (kind_0 = 1)) (hK_0_1 : ∀ j : Int, 0 ≤ j → j < 2000 → (-128) ≤ tape_0 j ∧ tape_0 j ≤ 127) (kz_0_11 : 0 ≤ pos_0 ∧ pos_0 ≤ 2000) (kz_0_12 : 0 ≤ kind_0 ∧ kind_0 ≤ 4) (kz_0_15 : 0 ≤ from_0 ∧ from_0 ≤ 2000) (ex2 : gx = pos_0) : (-1) * x11 + ((-1) * gx + 0) ≤ (-2000) := by
  first | with_reducible assumption | ((have f4_c0 := f4.1); (have f4_c1 := f4.2); (try and_intros) <;> first | with_reducible assumption | (clear f4_c0 f4_c1 f4 hK_0_1 f14; omega)) | ((have f4_c0 := f4.1); (have f4_c1 := f4.2); (first | have f14_b := f14 (by clear f4_c0 f4_c1 f4 hK_0_1 f14; omega) | skip); (first | have f14_d := f14 (by with_reducible assumption) | skip); (try and_intros) <;> first | with_reducible assumption | (clear f4_c0 f4_c1 f4 hK_0_1 f14; omega)) | omega
set_option maxHeartbeats 4000000 in
theorem vc_Mo_of_at_s5003_6_5 (x4 : Int) (x5 : Int) (x6 : Int) (x10 : Int) (x12 : Int) (x14 : Int) (kind_0 : Int) (from_0 : Int) (pos_0 : Int) (tape_0 : Int → Int) (all_0 : Int → Int) (limit_0 : Int) (place_0 : Int) (value_0 : Int) (fault_0 : Int) (r_0 : Int) (gx : Int) (k4 : (-1) ≤ x4 ∧ x4 ≤ 48) (k5 : 0 ≤ x5 ∧ x5 ≤ 7) (k6 : 0 ≤ x6 ∧ x6 ≤ 4) (k10 : (-49) ≤ x10 ∧ x10 ≤ 0) (k12 : 1 ≤ x12 ∧ x12 ≤ 1) (k14 : 1 ≤ x14 ∧ x14 ≤ 1) (g0 : x12 = kind_0) (f1 : x10 ≤ 0) (f2 : x14 ≠ 0) (f9 : zOIw (limit_0) (pos_0) (kind_0) (place_0) (value_0) (from_0) (fault_0) (r_0) (tape_0) (all_0) (x4) (x10) (x5) (x6)) (f15 : WQw (kind_0) (pos_0) (limit_0) (from_0) (tape_0) (x14)) (kz_0_8 : 0 ≤ fault_0 ∧ fault_0 ≤ 5) (kz_0_10 : 0 ≤ limit_0 ∧ limit_0 ≤ 2000) (kz_0_11 : 0 ≤ pos_0 ∧ pos_0 ≤ 2000) (kz_0_12 : 0 ≤ kind_0 ∧ kind_0 ≤ 4) (kz_0_13 : 0 ≤ place_0 ∧ place_0 ≤ 2000) (kz_0_14 : (-49) ≤ value_0 ∧ value_0 ≤ 1048575) (kz_0_15 : 0 ≤ from_0 ∧ from_0 ≤ 2000) (ex2 : gx = pos_0) : zTS10w (limit_0) (fault_0) (r_0) (tape_0) (all_0) (x4) (x5) (x6) (gx) := by
  first | subst g0 | skip
  first | subst ex2 | skip
  first
    | exact of_eq_w ‹zOIw _ _ _ _ _ _ _ _ _ _ _ _ _ _› (by omega) ‹WQw _ _ _ _ _ _› (by omega) (by omega) (by omega)
    | (exfalso; omega)
def o_Mo_of_at_s5003_6 : or_T := (60, 15, [(0, (2, 0, 0, [165])), (3, (0, 0, 2000, [])), (4, (0, -1, 48, [])), (5, (0, 0, 7, [])), (6, (0, 0, 4, [])), (10, (0, -49, 0, [])), (11, (0, 0, 2000, [])), (12, (0, 1, 1, [])), (14, (0, 1, 1, []))], [(9, [12, 7], [12]), (8, [10], [5]), (8, [14], [1]), (20, [7], [50, 3, 0, 12, 11, 15, 2, 21, 4, 7, 1, 3, 2, 0, 12, 0, 1, 0, 3, 2, 0, 11, 4, 3, 2, 0, 15, 0, 8, 3, 7, 1, 3, 2, 0, 12, 0, 0, 0, 7, 4, 3, 2, 0, 15, 0, 1, 2, 0, 11]), (20, [3, 7], [30, -1, 1, 0, 0, -1, 1, 11]), (20, [7, 4, 10, 5, 6], [60, 8, 2, 998, 10, 11, 12, 13, 14, 15, 8, 5, 1, 2]), (24, [0, 7], []), (20, [11, 7], [30, 2000, 1, 0, 0, 1, 1, 11]), (20, [11, 7], [30, -2000, -1, 0, 0, -1, 1, 11]), (20, [14, 7], [50, 1, 0, 1012, 4, 6, 1, 2, 1, 0, 0, 1, 1, 3, 2, 1, 12, 0, 1]), (20, [7, 14], [60, 4, 1, 961, 12, 11, 10, 15, 1])], [], [(0, 0, 2000, [])], [(20, [15, 7], [30, 0, 1, 0, 0, -1, 1, 11]), (20, [15, 7], [50, 1, 0, 1011, 1, 2, 1, 0, 2, 1, 11]), (20, [7], [60, 2, 0, 947, 10, 11]), (23, [3, 15], [-1, 1, -1]), (23, [11, 15], [-2000, -1, -1]), (20, [7, 4, 5, 6, 15], [60, 3, 2, 976, 10, 8, 5, 1, 2])], [], [])
theorem oo_Mo_of_at_s5003_6 {kA : Nat → ClassId} : or_ok PRD kA GG o_Mo_of_at_s5003_6 := by
  refine or_mk fun A ta ws vs hD hth hl => ?_
  intro t0 r0 t3 k3 t4 k4 t5 k5 t6 k6 t10 k10 t11 k11 t12 k12 t14 k14 f0 f1 f2 f4 f5 f9 f10 f12 f13 f14 f15
  replace f0 := shm_103 f0
  replace f1 := shm_295 f1
  replace f2 := shm_142 f2
  replace f4 := shm_1438 f4
  replace f5 := shm_2005 f5
  replace f9 := shm_2018 f9
  replace f10 := shm_5 f10
  replace f12 := shm_2007 f12
  replace f13 := shm_2008 f13
  replace f14 := shm_1856 f14
  replace f15 := shm_1860 f15
  have q7 : n_v vs 7 = n_v vs 0 := f10.symm
  simp only [q7] at f0 f4 f5 f9 f12 f13 f14 f15
  have cr_0_1 := fdq_39 hD hth r0
  have g0 : v_iv (n_v vs 12) = w_fi ws (n_v vs 0) 12 := congrArg v_iv f0
  have hK_0_1 := elq_7 hD hth cr_0_1
  have kz_0_8 := fdq_34 hD hth r0
  have kz_0_10 := fdq_43 hD hth r0
  have kz_0_11 := fdq_237 hD hth r0
  have kz_0_12 := fdq_187 hD hth r0
  have kz_0_13 := fdq_238 hD hth r0
  have kz_0_14 := fdq_188 hD hth r0
  have kz_0_15 := fdq_239 hD hth r0
  obtain ⟨x, ex, hx⟩ := iv_ex (ta := ta) (lo := 0) (hi := 2000) (z := w_fi ws (n_v vs 0) 11) (by omega) (by omega) (by omega) (by omega)
  have ex2 : v_iv (Value.int x) = w_fi ws (n_v vs 0) 11 := ex
  have ex3 : 0 ≤ v_iv (Value.int x) ∧ v_iv (Value.int x) ≤ 2000 := tv_rng hx
  have e_3 : n_v (vs ++ [Value.int x]) 3 = n_v vs 3 := n_v_old (by rw [hl]; decide)
  have e_4 : n_v (vs ++ [Value.int x]) 4 = n_v vs 4 := n_v_old (by rw [hl]; decide)
  have e_5 : n_v (vs ++ [Value.int x]) 5 = n_v vs 5 := n_v_old (by rw [hl]; decide)
  have e_6 : n_v (vs ++ [Value.int x]) 6 = n_v vs 6 := n_v_old (by rw [hl]; decide)
  have e_7 : n_v (vs ++ [Value.int x]) 7 = n_v vs 7 := n_v_old (by rw [hl]; decide)
  have e_11 : n_v (vs ++ [Value.int x]) 11 = n_v vs 11 := n_v_old (by rw [hl]; decide)
  have e_15 : n_v (vs ++ [Value.int x]) 15 = Value.int x := n_v_new hl
  have nf0 : fc_1 PRD (20, [15, 7], [30, 0, 1, 0, 0, -1, 1, 11]) ws (vs ++ [Value.int x]) := by
    refine ⟨nf_inA hl rfl, sgq_1431 ?_⟩
    · show 1 * v_iv (n_v (vs ++ [Value.int x]) 15) + ((-1) * w_fi ws (n_v (vs ++ [Value.int x]) 7) 11 + 0) ≤ 0
      simp only [e_7, e_15, q7]
      exact vc_Mo_of_at_s5003_6_0 (v_iv (n_v vs 14)) (w_fi ws (n_v vs 0) 12) (w_fi ws (n_v vs 0) 15) (w_fi ws (n_v vs 0) 11) (w_ei ws (w_ar ws (n_v vs 0) 1)) (v_iv (Value.int x)) k14 f4 f14 hK_0_1 kz_0_11 kz_0_12 kz_0_15 ex2
  have nf1 : fc_1 PRD (20, [15, 7], [50, 1, 0, 1011, 1, 2, 1, 0, 2, 1, 11]) ws (vs ++ [Value.int x]) := by
    refine ⟨nf_inA hl rfl, sgq_1432 ?_⟩
    · show v_iv (n_v (vs ++ [Value.int x]) 15) = w_fi ws (n_v (vs ++ [Value.int x]) 7) 11
      simp only [e_7, e_15, q7]
      exact vc_Mo_of_at_s5003_6_1 (v_iv (n_v vs 14)) (w_fi ws (n_v vs 0) 12) (w_fi ws (n_v vs 0) 15) (w_fi ws (n_v vs 0) 11) (w_ei ws (w_ar ws (n_v vs 0) 1)) (v_iv (Value.int x)) k14 f4 f14 hK_0_1 kz_0_11 kz_0_12 kz_0_15 ex2
  have nf2 : fc_1 PRD (20, [7], [60, 2, 0, 947, 10, 11]) ws (vs ++ [Value.int x]) := by
    refine ⟨nf_inA hl rfl, sgq_1433 ?_⟩
    · show ZLM (w_fi ws (n_v (vs ++ [Value.int x]) 7) 10) (w_fi ws (n_v (vs ++ [Value.int x]) 7) 11)
      simp only [e_7, q7]
      exact vc_Mo_of_at_s5003_6_2 (v_iv (n_v vs 4)) (v_iv (n_v vs 5)) (v_iv (n_v vs 6)) (v_iv (n_v vs 10)) (v_iv (n_v vs 12)) (w_fi ws (n_v vs 0) 12) (w_fi ws (n_v vs 0) 15) (w_fi ws (n_v vs 0) 11) (w_ei ws (w_ar ws (n_v vs 0) 1)) (w_ei ws (w_ar ws (n_v vs 0) 2)) (w_fi ws (n_v vs 0) 10) (w_fi ws (n_v vs 0) 13) (w_fi ws (n_v vs 0) 14) (w_fi ws (n_v vs 0) 8) (w_fi ws (n_v vs 0) 5) (v_iv (Value.int x)) k4 k5 k6 k10 k12 g0 f9 kz_0_8 kz_0_10 kz_0_11 kz_0_12 kz_0_13 kz_0_14 kz_0_15 ex2
  have nf3 : fc_1 PRD (23, [3, 15], [-1, 1, -1]) ws (vs ++ [Value.int x]) := by
    refine ⟨nf_inA hl rfl, sgq_193 ?_⟩
    · show 1 * v_iv (n_v (vs ++ [Value.int x]) 3) + ((-1) * v_iv (n_v (vs ++ [Value.int x]) 15) + 0) ≤ (-1)
      simp only [e_3, e_15]
      exact vc_Mo_of_at_s5003_6_3 (v_iv (n_v vs 3)) (v_iv (n_v vs 14)) (w_fi ws (n_v vs 0) 12) (w_fi ws (n_v vs 0) 15) (w_fi ws (n_v vs 0) 11) (w_ei ws (w_ar ws (n_v vs 0) 1)) (v_iv (Value.int x)) k3 k14 f4 f5 f14 hK_0_1 kz_0_11 kz_0_12 kz_0_15 ex2
  have nf4 : fc_1 PRD (23, [11, 15], [-2000, -1, -1]) ws (vs ++ [Value.int x]) := by
    refine ⟨nf_inA hl rfl, sgq_2009 ?_⟩
    · show (-1) * v_iv (n_v (vs ++ [Value.int x]) 11) + ((-1) * v_iv (n_v (vs ++ [Value.int x]) 15) + 0) ≤ (-2000)
      simp only [e_11, e_15]
      exact vc_Mo_of_at_s5003_6_4 (v_iv (n_v vs 11)) (v_iv (n_v vs 14)) (w_fi ws (n_v vs 0) 12) (w_fi ws (n_v vs 0) 15) (w_fi ws (n_v vs 0) 11) (w_ei ws (w_ar ws (n_v vs 0) 1)) (v_iv (Value.int x)) k11 k14 f4 f12 f13 f14 hK_0_1 kz_0_11 kz_0_12 kz_0_15 ex2
  have nf5 : fc_1 PRD (20, [7, 4, 5, 6, 15], [60, 3, 2, 976, 10, 8, 5, 1, 2]) ws (vs ++ [Value.int x]) := by
    refine ⟨nf_inA hl rfl, sgq_2019 ?_⟩
    · show zTS10w (w_fi ws (n_v (vs ++ [Value.int x]) 7) 10) (w_fi ws (n_v (vs ++ [Value.int x]) 7) 8) (w_fi ws (n_v (vs ++ [Value.int x]) 7) 5) (w_ei ws (w_ar ws (n_v (vs ++ [Value.int x]) 7) 1)) (w_ei ws (w_ar ws (n_v (vs ++ [Value.int x]) 7) 2)) (v_iv (n_v (vs ++ [Value.int x]) 4)) (v_iv (n_v (vs ++ [Value.int x]) 5)) (v_iv (n_v (vs ++ [Value.int x]) 6)) (v_iv (n_v (vs ++ [Value.int x]) 15))
      simp only [e_4, e_5, e_6, e_7, e_15, q7]
      exact vc_Mo_of_at_s5003_6_5 (v_iv (n_v vs 4)) (v_iv (n_v vs 5)) (v_iv (n_v vs 6)) (v_iv (n_v vs 10)) (v_iv (n_v vs 12)) (v_iv (n_v vs 14)) (w_fi ws (n_v vs 0) 12) (w_fi ws (n_v vs 0) 15) (w_fi ws (n_v vs 0) 11) (w_ei ws (w_ar ws (n_v vs 0) 1)) (w_ei ws (w_ar ws (n_v vs 0) 2)) (w_fi ws (n_v vs 0) 10) (w_fi ws (n_v vs 0) 13) (w_fi ws (n_v vs 0) 14) (w_fi ws (n_v vs 0) 8) (w_fi ws (n_v vs 0) 5) (v_iv (Value.int x)) k4 k5 k6 k10 k12 k14 g0 f1 f2 f9 f15 kz_0_8 kz_0_10 kz_0_11 kz_0_12 kz_0_13 kz_0_14 kz_0_15 ex2
  exact ⟨(fun _ h => (by cases h)), [Value.int x], ag_one hx, List.forall_mem_cons.mpr ⟨⟨show (20 : Nat) < 100 from by decide, nf0⟩, List.forall_mem_cons.mpr ⟨⟨show (20 : Nat) < 100 from by decide, nf1⟩, List.forall_mem_cons.mpr ⟨⟨show (20 : Nat) < 100 from by decide, nf2⟩, List.forall_mem_cons.mpr ⟨⟨show (23 : Nat) < 100 from by decide, nf3⟩, List.forall_mem_cons.mpr ⟨⟨show (23 : Nat) < 100 from by decide, nf4⟩, List.forall_mem_cons.mpr ⟨⟨show (20 : Nat) < 100 from by decide, nf5⟩, (fun _ h => (by cases h))⟩⟩⟩⟩⟩⟩, (fun _ h => (by cases h))⟩
set_option maxHeartbeats 4000000 in
theorem vc_Mo_of_at_s5003_7_0 (x15 : Int) (tape_0 : Int → Int) (from_0 : Int) (pos_0 : Int) (kind_0 : Int) (gx : Int) (k15 : 0 ≤ x15 ∧ x15 ≤ 2000) (f7 : ((kind_0 = 1) → (pos_0 ≤ (from_0 + 8))) ∧ ((kind_0 = 0) ∨ ((from_0 + 1) ≤ pos_0))) (hK_0_1 : ∀ j : Int, 0 ≤ j → j < 2000 → (-128) ≤ tape_0 j ∧ tape_0 j ≤ 127) (kz_0_11 : 0 ≤ pos_0 ∧ pos_0 ≤ 2000) (kz_0_12 : 0 ≤ kind_0 ∧ kind_0 ≤ 4) (kz_0_15 : 0 ≤ from_0 ∧ from_0 ≤ 2000) (ex2 : gx = x15) : 1 * gx + ((-1) * x15 + 0) ≤ 0 := by
  first | with_reducible assumption | ((have f7_c0 := f7.1); (have f7_c1 := f7.2); (try and_intros) <;> first | with_reducible assumption | (clear f7_c0 f7_c1 f7 hK_0_1; omega)) | omega
set_option maxHeartbeats 4000000 in
theorem vc_Mo_of_at_s5003_7_1 (x15 : Int) (tape_0 : Int → Int) (from_0 : Int) (pos_0 : Int) (kind_0 : Int) (gx : Int) (k15 : 0 ≤ x15 ∧ x15 ≤ 2000) (f7 : ((kind_0 = 1) → (pos_0 ≤ (from_0 + 8))) ∧ ((kind_0 = 0) ∨ ((from_0 + 1) ≤ pos_0))) (hK_0_1 : ∀ j : Int, 0 ≤ j → j < 2000 → (-128) ≤ tape_0 j ∧ tape_0 j ≤ 127) (kz_0_11 : 0 ≤ pos_0 ∧ pos_0 ≤ 2000) (kz_0_12 : 0 ≤ kind_0 ∧ kind_0 ≤ 4) (kz_0_15 : 0 ≤ from_0 ∧ from_0 ≤ 2000) (ex2 : gx = x15) : (-1) * gx + (1 * x15 + 0) ≤ 0 := by
  first | with_reducible assumption | ((have f7_c0 := f7.1); (have f7_c1 := f7.2); (try and_intros) <;> first | with_reducible assumption | (clear f7_c0 f7_c1 f7 hK_0_1; omega)) | omega
set_option maxHeartbeats 4000000 in
theorem vc_Mo_of_at_s5003_7_2 (x4 : Int) (tape_0 : Int → Int) (from_0 : Int) (pos_0 : Int) (kind_0 : Int) (gy : Int) (k4 : (-1) ≤ x4 ∧ x4 ≤ 48) (f7 : ((kind_0 = 1) → (pos_0 ≤ (from_0 + 8))) ∧ ((kind_0 = 0) ∨ ((from_0 + 1) ≤ pos_0))) (hK_0_1 : ∀ j : Int, 0 ≤ j → j < 2000 → (-128) ≤ tape_0 j ∧ tape_0 j ≤ 127) (kz_0_11 : 0 ≤ pos_0 ∧ pos_0 ≤ 2000) (kz_0_12 : 0 ≤ kind_0 ∧ kind_0 ≤ 4) (kz_0_15 : 0 ≤ from_0 ∧ from_0 ≤ 2000) (ey2 : gy = x4) : 1 * gy + ((-1) * x4 + 0) ≤ 0 := by
  first | with_reducible assumption | ((have f7_c0 := f7.1); (have f7_c1 := f7.2); (try and_intros) <;> first | with_reducible assumption | (clear f7_c0 f7_c1 f7 hK_0_1; omega)) | omega
set_option maxHeartbeats 4000000 in
theorem vc_Mo_of_at_s5003_7_3 (x4 : Int) (tape_0 : Int → Int) (from_0 : Int) (pos_0 : Int) (kind_0 : Int) (gy : Int) (k4 : (-1) ≤ x4 ∧ x4 ≤ 48) (f7 : ((kind_0 = 1) → (pos_0 ≤ (from_0 + 8))) ∧ ((kind_0 = 0) ∨ ((from_0 + 1) ≤ pos_0))) (hK_0_1 : ∀ j : Int, 0 ≤ j → j < 2000 → (-128) ≤ tape_0 j ∧ tape_0 j ≤ 127) (kz_0_11 : 0 ≤ pos_0 ∧ pos_0 ≤ 2000) (kz_0_12 : 0 ≤ kind_0 ∧ kind_0 ≤ 4) (kz_0_15 : 0 ≤ from_0 ∧ from_0 ≤ 2000) (ey2 : gy = x4) : (-1) * gy + (1 * x4 + 0) ≤ 0 := by
  first | with_reducible assumption | ((have f7_c0 := f7.1); (have f7_c1 := f7.2); (try and_intros) <;> first | with_reducible assumption | (clear f7_c0 f7_c1 f7 hK_0_1; omega)) | omega
set_option maxHeartbeats 4000000 in
theorem vc_Mo_of_at_s5003_7_4 (x5 : Int) (tape_0 : Int → Int) (from_0 : Int) (pos_0 : Int) (kind_0 : Int) (gu : Int) (k5 : 0 ≤ x5 ∧ x5 ≤ 7) (f7 : ((kind_0 = 1) → (pos_0 ≤ (from_0 + 8))) ∧ ((kind_0 = 0) ∨ ((from_0 + 1) ≤ pos_0))) (hK_0_1 : ∀ j : Int, 0 ≤ j → j < 2000 → (-128) ≤ tape_0 j ∧ tape_0 j ≤ 127) (kz_0_11 : 0 ≤ pos_0 ∧ pos_0 ≤ 2000) (kz_0_12 : 0 ≤ kind_0 ∧ kind_0 ≤ 4) (kz_0_15 : 0 ≤ from_0 ∧ from_0 ≤ 2000) (eu2 : gu = x5) : 1 * gu + ((-1) * x5 + 0) ≤ 0 := by
  first | with_reducible assumption | ((have f7_c0 := f7.1); (have f7_c1 := f7.2); (try and_intros) <;> first | with_reducible assumption | (clear f7_c0 f7_c1 f7 hK_0_1; omega)) | omega
set_option maxHeartbeats 4000000 in
theorem vc_Mo_of_at_s5003_7_5 (x5 : Int) (tape_0 : Int → Int) (from_0 : Int) (pos_0 : Int) (kind_0 : Int) (gu : Int) (k5 : 0 ≤ x5 ∧ x5 ≤ 7) (f7 : ((kind_0 = 1) → (pos_0 ≤ (from_0 + 8))) ∧ ((kind_0 = 0) ∨ ((from_0 + 1) ≤ pos_0))) (hK_0_1 : ∀ j : Int, 0 ≤ j → j < 2000 → (-128) ≤ tape_0 j ∧ tape_0 j ≤ 127) (kz_0_11 : 0 ≤ pos_0 ∧ pos_0 ≤ 2000) (kz_0_12 : 0 ≤ kind_0 ∧ kind_0 ≤ 4) (kz_0_15 : 0 ≤ from_0 ∧ from_0 ≤ 2000) (eu2 : gu = x5) : (-1) * gu + (1 * x5 + 0) ≤ 0 := by
  first | with_reducible assumption | ((have f7_c0 := f7.1); (have f7_c1 := f7.2); (try and_intros) <;> first | with_reducible assumption | (clear f7_c0 f7_c1 f7 hK_0_1; omega)) | omega
set_option maxHeartbeats 4000000 in
theorem vc_Mo_of_at_s5003_7_6 (x6 : Int) (tape_0 : Int → Int) (from_0 : Int) (pos_0 : Int) (kind_0 : Int) (gw : Int) (k6 : 0 ≤ x6 ∧ x6 ≤ 4) (f7 : ((kind_0 = 1) → (pos_0 ≤ (from_0 + 8))) ∧ ((kind_0 = 0) ∨ ((from_0 + 1) ≤ pos_0))) (hK_0_1 : ∀ j : Int, 0 ≤ j → j < 2000 → (-128) ≤ tape_0 j ∧ tape_0 j ≤ 127) (kz_0_11 : 0 ≤ pos_0 ∧ pos_0 ≤ 2000) (kz_0_12 : 0 ≤ kind_0 ∧ kind_0 ≤ 4) (kz_0_15 : 0 ≤ from_0 ∧ from_0 ≤ 2000) (ew2 : gw = x6) : 1 * gw + ((-1) * x6 + 0) ≤ 0 := by
  first | with_reducible assumption | ((have f7_c0 := f7.1); (have f7_c1 := f7.2); (try and_intros) <;> first | with_reducible assumption | (clear f7_c0 f7_c1 f7 hK_0_1; omega)) | omega
set_option maxHeartbeats 4000000 in
theorem vc_Mo_of_at_s5003_7_7 (x6 : Int) (tape_0 : Int → Int) (from_0 : Int) (pos_0 : Int) (kind_0 : Int) (gw : Int) (k6 : 0 ≤ x6 ∧ x6 ≤ 4) (f7 : ((kind_0 = 1) → (pos_0 ≤ (from_0 + 8))) ∧ ((kind_0 = 0) ∨ ((from_0 + 1) ≤ pos_0))) (hK_0_1 : ∀ j : Int, 0 ≤ j → j < 2000 → (-128) ≤ tape_0 j ∧ tape_0 j ≤ 127) (kz_0_11 : 0 ≤ pos_0 ∧ pos_0 ≤ 2000) (kz_0_12 : 0 ≤ kind_0 ∧ kind_0 ≤ 4) (kz_0_15 : 0 ≤ from_0 ∧ from_0 ≤ 2000) (ew2 : gw = x6) : (-1) * gw + (1 * x6 + 0) ≤ 0 := by
  first | with_reducible assumption | ((have f7_c0 := f7.1); (have f7_c1 := f7.2); (try and_intros) <;> first | with_reducible assumption | (clear f7_c0 f7_c1 f7 hK_0_1; omega)) | omega
set_option maxHeartbeats 4000000 in
theorem vc_Mo_of_at_s5003_7_8 (tape_0 : Int → Int) (from_0 : Int) (pos_0 : Int) (kind_0 : Int) (f6 : 1 * from_0 + ((-1) * pos_0 + 0) ≤ 0) (f7 : ((kind_0 = 1) → (pos_0 ≤ (from_0 + 8))) ∧ ((kind_0 = 0) ∨ ((from_0 + 1) ≤ pos_0))) (hK_0_1 : ∀ j : Int, 0 ≤ j → j < 2000 → (-128) ≤ tape_0 j ∧ tape_0 j ≤ 127) (kz_0_11 : 0 ≤ pos_0 ∧ pos_0 ≤ 2000) (kz_0_12 : 0 ≤ kind_0 ∧ kind_0 ≤ 4) (kz_0_15 : 0 ≤ from_0 ∧ from_0 ≤ 2000) : 1 * from_0 + ((-1) * pos_0 + 0) ≤ 0 := by
  first | with_reducible assumption | ((have f7_c0 := f7.1); (have f7_c1 := f7.2); (try and_intros) <;> first | with_reducible assumption | (clear f7_c0 f7_c1 f7 hK_0_1; omega)) | omega
set_option maxHeartbeats 4000000 in
theorem vc_Mo_of_at_s5003_7_9 (tape_0 : Int → Int) (from_0 : Int) (pos_0 : Int) (kind_0 : Int) (f7 : ((kind_0 = 1) → (pos_0 ≤ (from_0 + 8))) ∧ ((kind_0 = 0) ∨ ((from_0 + 1) ≤ pos_0))) (hK_0_1 : ∀ j : Int, 0 ≤ j → j < 2000 → (-128) ≤ tape_0 j ∧ tape_0 j ≤ 127) (kz_0_11 : 0 ≤ pos_0 ∧ pos_0 ≤ 2000) (kz_0_12 : 0 ≤ kind_0 ∧ kind_0 ≤ 4) (kz_0_15 : 0 ≤ from_0 ∧ from_0 ≤ 2000) : ((kind_0 = 1) → (pos_0 ≤ (from_0 + 8))) ∧ ((kind_0 = 0) ∨ ((from_0 + 1) ≤ pos_0)) := by
  first | with_reducible assumption | ((have f7_c0 := f7.1); (have f7_c1 := f7.2); (try and_intros) <;> first | with_reducible assumption | (clear f7_c0 f7_c1 f7 hK_0_1; omega)) | omega
set_option maxHeartbeats 4000000 in
theorem vc_Mo_of_at_s5003_7_10 (x15 : Int) (tape_0 : Int → Int) (from_0 : Int) (pos_0 : Int) (kind_0 : Int) (gx : Int) (k15 : 0 ≤ x15 ∧ x15 ≤ 2000) (f6 : 1 * from_0 + ((-1) * pos_0 + 0) ≤ 0) (f7 : ((kind_0 = 1) → (pos_0 ≤ (from_0 + 8))) ∧ ((kind_0 = 0) ∨ ((from_0 + 1) ≤ pos_0))) (f8 : 1 * x15 + ((-1) * from_0 + 0) ≤ 0) (hK_0_1 : ∀ j : Int, 0 ≤ j → j < 2000 → (-128) ≤ tape_0 j ∧ tape_0 j ≤ 127) (kz_0_11 : 0 ≤ pos_0 ∧ pos_0 ≤ 2000) (kz_0_12 : 0 ≤ kind_0 ∧ kind_0 ≤ 4) (kz_0_15 : 0 ≤ from_0 ∧ from_0 ≤ 2000) (ex2 : gx = x15) : 1 * gx + ((-1) * pos_0 + 0) ≤ 0 := by
  first | with_reducible assumption | ((have f7_c0 := f7.1); (have f7_c1 := f7.2); (try and_intros) <;> first | with_reducible assumption | (clear f7_c0 f7_c1 f7 hK_0_1; omega)) | omega
set_option maxHeartbeats 4000000 in
theorem vc_Mo_of_at_s5003_7_11 (x15 : Int) (tape_0 : Int → Int) (fault_0 : Int) (from_0 : Int) (pos_0 : Int) (kind_0 : Int) (gx : Int) (k15 : 0 ≤ x15 ∧ x15 ≤ 2000) (f7 : ((kind_0 = 1) → (pos_0 ≤ (from_0 + 8))) ∧ ((kind_0 = 0) ∨ ((from_0 + 1) ≤ pos_0))) (f8 : 1 * x15 + ((-1) * from_0 + 0) ≤ 0) (hK_0_1 : ∀ j : Int, 0 ≤ j → j < 2000 → (-128) ≤ tape_0 j ∧ tape_0 j ≤ 127) (kz_0_8 : 0 ≤ fault_0 ∧ fault_0 ≤ 5) (kz_0_11 : 0 ≤ pos_0 ∧ pos_0 ≤ 2000) (kz_0_12 : 0 ≤ kind_0 ∧ kind_0 ≤ 4) (kz_0_15 : 0 ≤ from_0 ∧ from_0 ≤ 2000) (ex2 : gx = x15) : (1 ≤ fault_0) ∨ ((kind_0 = 0) ∨ ((gx + 1) ≤ pos_0)) := by
  first | with_reducible assumption | ((have f7_c0 := f7.1); (have f7_c1 := f7.2); (try and_intros) <;> first | with_reducible assumption | (clear f7_c0 f7_c1 f7 hK_0_1; omega)) | omega
set_option maxHeartbeats 4000000 in
theorem vc_Mo_of_at_s5003_7_12 (x4 : Int) (x5 : Int) (x6 : Int) (x15 : Int) (tape_0 : Int → Int) (all_0 : Int → Int) (limit_0 : Int) (fault_0 : Int) (r_0 : Int) (from_0 : Int) (pos_0 : Int) (kind_0 : Int) (place_0 : Int) (value_0 : Int) (faultPlace_0 : Int) (gx : Int) (gy : Int) (gu : Int) (gw : Int) (k4 : (-1) ≤ x4 ∧ x4 ≤ 48) (k5 : 0 ≤ x5 ∧ x5 ≤ 7) (k6 : 0 ≤ x6 ∧ x6 ≤ 4) (k15 : 0 ≤ x15 ∧ x15 ≤ 2000) (f2 : zTS10w (limit_0) (fault_0) (r_0) (tape_0) (all_0) (x4) (x5) (x6) (x15)) (f9 : TKR (limit_0) (pos_0) (kind_0) (place_0) (value_0) (from_0) (tape_0) (x15)) (kz_0_8 : 0 ≤ fault_0 ∧ fault_0 ≤ 5) (kz_0_9 : 0 ≤ faultPlace_0 ∧ faultPlace_0 ≤ 2000) (kz_0_10 : 0 ≤ limit_0 ∧ limit_0 ≤ 2000) (kz_0_11 : 0 ≤ pos_0 ∧ pos_0 ≤ 2000) (kz_0_12 : 0 ≤ kind_0 ∧ kind_0 ≤ 4) (kz_0_13 : 0 ≤ place_0 ∧ place_0 ≤ 2000) (kz_0_14 : (-49) ≤ value_0 ∧ value_0 ≤ 1048575) (kz_0_15 : 0 ≤ from_0 ∧ from_0 ≤ 2000) (ex2 : gx = x15) (ey2 : gy = x4) (eu2 : gu = x5) (ew2 : gw = x6) : zONew (limit_0) (pos_0) (kind_0) (place_0) (value_0) (from_0) (fault_0) (faultPlace_0) (r_0) (tape_0) (all_0) (gy) (gu) (gw) := by
  first | subst ex2 | skip
  first | subst ey2 | skip
  first | subst eu2 | skip
  first | subst ew2 | skip
  first
    | exact Or.inr (new_10 (rsq_of ‹zTS10w _ _ _ _ _ _ _ _ _› ‹TKR _ _ _ _ _ _ _ _›))
    | (exfalso; omega)
set_option maxHeartbeats 4000000 in
theorem vc_Mo_of_at_s5003_7_13 (x3 : Int) (x15 : Int) (tape_0 : Int → Int) (from_0 : Int) (pos_0 : Int) (kind_0 : Int) (gx : Int) (k3 : 0 ≤ x3 ∧ x3 ≤ 2000) (k15 : 0 ≤ x15 ∧ x15 ≤ 2000) (f0 : 1 * x3 + ((-1) * x15 + 0) ≤ (-1)) (f7 : ((kind_0 = 1) → (pos_0 ≤ (from_0 + 8))) ∧ ((kind_0 = 0) ∨ ((from_0 + 1) ≤ pos_0))) (hK_0_1 : ∀ j : Int, 0 ≤ j → j < 2000 → (-128) ≤ tape_0 j ∧ tape_0 j ≤ 127) (kz_0_11 : 0 ≤ pos_0 ∧ pos_0 ≤ 2000) (kz_0_12 : 0 ≤ kind_0 ∧ kind_0 ≤ 4) (kz_0_15 : 0 ≤ from_0 ∧ from_0 ≤ 2000) (ex2 : gx = x15) : 1 * x3 + ((-1) * gx + 0) ≤ (-1) := by
  first | with_reducible assumption | ((have f7_c0 := f7.1); (have f7_c1 := f7.2); (try and_intros) <;> first | with_reducible assumption | (clear f7_c0 f7_c1 f7 hK_0_1; omega)) | omega
set_option maxHeartbeats 4000000 in
theorem vc_Mo_of_at_s5003_7_14 (x11 : Int) (x15 : Int) (tape_0 : Int → Int) (from_0 : Int) (pos_0 : Int) (kind_0 : Int) (gx : Int) (k11 : 0 ≤ x11 ∧ x11 ≤ 2000) (k15 : 0 ≤ x15 ∧ x15 ≤ 2000) (f1 : (-1) * x11 + ((-1) * x15 + 0) ≤ (-2000)) (f7 : ((kind_0 = 1) → (pos_0 ≤ (from_0 + 8))) ∧ ((kind_0 = 0) ∨ ((from_0 + 1) ≤ pos_0))) (hK_0_1 : ∀ j : Int, 0 ≤ j → j < 2000 → (-128) ≤ tape_0 j ∧ tape_0 j ≤ 127) (kz_0_11 : 0 ≤ pos_0 ∧ pos_0 ≤ 2000) (kz_0_12 : 0 ≤ kind_0 ∧ kind_0 ≤ 4) (kz_0_15 : 0 ≤ from_0 ∧ from_0 ≤ 2000) (ex2 : gx = x15) : (-1) * x11 + ((-1) * gx + 0) ≤ (-2000) := by
  first | with_reducible assumption | ((have f7_c0 := f7.1); (have f7_c1 := f7.2); (try and_intros) <;> first | with_reducible assumption | (clear f7_c0 f7_c1 f7 hK_0_1; omega)) | omega
def o_Mo_of_at_s5003_7 : or_T := (66, 17, [(0, (2, 0, 0, [165])), (3, (0, 0, 2000, [])), (4, (0, -1, 48, [])), (5, (0, 0, 7, [])), (6, (0, 0, 4, [])), (11, (0, 0, 2000, [])), (15, (0, 0, 2000, []))], [(23, [3, 15], [-1, 1, -1]), (23, [11, 15], [-2000, -1, -1]), (20, [7, 4, 5, 6, 15], [60, 3, 2, 976, 10, 8, 5, 1, 2]), (24, [0, 7], []), (20, [7, 7], [30, 0, 1, 1, 15, -1, 1, 11]), (20, [7], [50, 3, 0, 12, 11, 15, 2, 21, 4, 7, 1, 3, 2, 0, 12, 0, 1, 0, 3, 2, 0, 11, 4, 3, 2, 0, 15, 0, 8, 3, 7, 1, 3, 2, 0, 12, 0, 0, 0, 7, 4, 3, 2, 0, 15, 0, 1, 2, 0, 11]), (20, [15, 7], [30, 0, 1, 0, 0, -1, 1, 15]), (20, [7, 15], [60, 6, 1, 948, 10, 11, 12, 13, 14, 15, 1])], [], [(0, 0, 2000, []), (0, -1, 48, []), (0, 0, 7, []), (0, 0, 4, [])], [(23, [17, 15], [0, 1, -1]), (23, [17, 15], [0, -1, 1]), (23, [18, 4], [0, 1, -1]), (23, [18, 4], [0, -1, 1]), (23, [19, 5], [0, 1, -1]), (23, [19, 5], [0, -1, 1]), (23, [20, 6], [0, 1, -1]), (23, [20, 6], [0, -1, 1]), (20, [7, 7], [30, 0, 1, 1, 15, -1, 1, 11]), (20, [7], [50, 3, 0, 12, 11, 15, 2, 21, 4, 7, 1, 3, 2, 0, 12, 0, 1, 0, 3, 2, 0, 11, 4, 3, 2, 0, 15, 0, 8, 3, 7, 1, 3, 2, 0, 12, 0, 0, 0, 7, 4, 3, 2, 0, 15, 0, 1, 2, 0, 11]), (20, [17, 7], [30, 0, 1, 0, 0, -1, 1, 11]), (20, [7, 17], [50, 3, 0, 8, 12, 11, 3, 7, 0, 2, 0, 1, 2, 0, 8, 3, 7, 1, 3, 2, 0, 12, 0, 0, 0, 6, 4, 2, 1, 1, 0, 1, 2, 0, 11]), (20, [7, 18, 19, 20], [60, 9, 2, 1020, 10, 11, 12, 13, 14, 15, 8, 9, 5, 1, 2]), (23, [3, 17], [-1, 1, -1]), (23, [11, 17], [-2000, -1, -1])], [], [])
theorem oo_Mo_of_at_s5003_7 {kA : Nat → ClassId} : or_ok PRD kA GG o_Mo_of_at_s5003_7 := by
  refine or_mk fun A ta ws vs hD hth hl => ?_
  intro t0 r0 t3 k3 t4 k4 t5 k5 t6 k6 t11 k11 t15 k15 f0 f1 f2 f4 f6 f7 f8 f9
  replace f0 := shm_193 f0
  replace f1 := shm_2009 f1
  replace f2 := shm_2019 f2
  replace f4 := shm_5 f4
  replace f6 := shm_1437 f6
  replace f7 := shm_1438 f7
  replace f8 := shm_1436 f8
  replace f9 := shm_1439 f9
  have q7 : n_v vs 7 = n_v vs 0 := f4.symm
  simp only [q7] at f2 f6 f7 f8 f9
  have cr_0_1 := fdq_39 hD hth r0
  have hK_0_1 := elq_7 hD hth cr_0_1
  have kz_0_8 := fdq_34 hD hth r0
  have kz_0_9 := fdq_44 hD hth r0
  have kz_0_10 := fdq_43 hD hth r0
  have kz_0_11 := fdq_237 hD hth r0
  have kz_0_12 := fdq_187 hD hth r0
  have kz_0_13 := fdq_238 hD hth r0
  have kz_0_14 := fdq_188 hD hth r0
  have kz_0_15 := fdq_239 hD hth r0
  obtain ⟨x, ex, hx⟩ := iv_ex (ta := ta) (lo := 0) (hi := 2000) (z := v_iv (n_v vs 15)) (by omega) (by omega) (by omega) (by omega)
  have ex2 : v_iv (Value.int x) = v_iv (n_v vs 15) := ex
  have ex3 : 0 ≤ v_iv (Value.int x) ∧ v_iv (Value.int x) ≤ 2000 := tv_rng hx
  obtain ⟨y, ey, hy⟩ := iv_ex (ta := ta) (lo := (-1)) (hi := 48) (z := v_iv (n_v vs 4)) (by omega) (by omega) (by omega) (by omega)
  have ey2 : v_iv (Value.int y) = v_iv (n_v vs 4) := ey
  have ey3 : (-1) ≤ v_iv (Value.int y) ∧ v_iv (Value.int y) ≤ 48 := tv_rng hy
  obtain ⟨u, eu, hu⟩ := iv_ex (ta := ta) (lo := 0) (hi := 7) (z := v_iv (n_v vs 5)) (by omega) (by omega) (by omega) (by omega)
  have eu2 : v_iv (Value.int u) = v_iv (n_v vs 5) := eu
  have eu3 : 0 ≤ v_iv (Value.int u) ∧ v_iv (Value.int u) ≤ 7 := tv_rng hu
  obtain ⟨w, ew, hw⟩ := iv_ex (ta := ta) (lo := 0) (hi := 4) (z := v_iv (n_v vs 6)) (by omega) (by omega) (by omega) (by omega)
  have ew2 : v_iv (Value.int w) = v_iv (n_v vs 6) := ew
  have ew3 : 0 ≤ v_iv (Value.int w) ∧ v_iv (Value.int w) ≤ 4 := tv_rng hw
  have e_3 : n_v (vs ++ [Value.int x, Value.int y, Value.int u, Value.int w]) 3 = n_v vs 3 := n_v_old (by rw [hl]; decide)
  have e_4 : n_v (vs ++ [Value.int x, Value.int y, Value.int u, Value.int w]) 4 = n_v vs 4 := n_v_old (by rw [hl]; decide)
  have e_5 : n_v (vs ++ [Value.int x, Value.int y, Value.int u, Value.int w]) 5 = n_v vs 5 := n_v_old (by rw [hl]; decide)
  have e_6 : n_v (vs ++ [Value.int x, Value.int y, Value.int u, Value.int w]) 6 = n_v vs 6 := n_v_old (by rw [hl]; decide)
  have e_7 : n_v (vs ++ [Value.int x, Value.int y, Value.int u, Value.int w]) 7 = n_v vs 7 := n_v_old (by rw [hl]; decide)
  have e_11 : n_v (vs ++ [Value.int x, Value.int y, Value.int u, Value.int w]) 11 = n_v vs 11 := n_v_old (by rw [hl]; decide)
  have e_15 : n_v (vs ++ [Value.int x, Value.int y, Value.int u, Value.int w]) 15 = n_v vs 15 := n_v_old (by rw [hl]; decide)
  have e_17 : n_v (vs ++ [Value.int x, Value.int y, Value.int u, Value.int w]) 17 = Value.int x := n_v_newk (k := 0) hl rfl
  have e_18 : n_v (vs ++ [Value.int x, Value.int y, Value.int u, Value.int w]) 18 = Value.int y := n_v_newk (k := 1) hl rfl
  have e_19 : n_v (vs ++ [Value.int x, Value.int y, Value.int u, Value.int w]) 19 = Value.int u := n_v_newk (k := 2) hl rfl
  have e_20 : n_v (vs ++ [Value.int x, Value.int y, Value.int u, Value.int w]) 20 = Value.int w := n_v_newk (k := 3) hl rfl
  have nf0 : fc_1 PRD (23, [17, 15], [0, 1, -1]) ws (vs ++ [Value.int x, Value.int y, Value.int u, Value.int w]) := by
    refine ⟨nf_inA hl rfl, sgq_7 ?_⟩
    · show 1 * v_iv (n_v (vs ++ [Value.int x, Value.int y, Value.int u, Value.int w]) 17) + ((-1) * v_iv (n_v (vs ++ [Value.int x, Value.int y, Value.int u, Value.int w]) 15) + 0) ≤ 0
      simp only [e_15, e_17]
      exact vc_Mo_of_at_s5003_7_0 (v_iv (n_v vs 15)) (w_ei ws (w_ar ws (n_v vs 0) 1)) (w_fi ws (n_v vs 0) 15) (w_fi ws (n_v vs 0) 11) (w_fi ws (n_v vs 0) 12) (v_iv (Value.int x)) k15 f7 hK_0_1 kz_0_11 kz_0_12 kz_0_15 ex2
  have nf1 : fc_1 PRD (23, [17, 15], [0, -1, 1]) ws (vs ++ [Value.int x, Value.int y, Value.int u, Value.int w]) := by
    refine ⟨nf_inA hl rfl, sgq_22 ?_⟩
    · show (-1) * v_iv (n_v (vs ++ [Value.int x, Value.int y, Value.int u, Value.int w]) 17) + (1 * v_iv (n_v (vs ++ [Value.int x, Value.int y, Value.int u, Value.int w]) 15) + 0) ≤ 0
      simp only [e_15, e_17]
      exact vc_Mo_of_at_s5003_7_1 (v_iv (n_v vs 15)) (w_ei ws (w_ar ws (n_v vs 0) 1)) (w_fi ws (n_v vs 0) 15) (w_fi ws (n_v vs 0) 11) (w_fi ws (n_v vs 0) 12) (v_iv (Value.int x)) k15 f7 hK_0_1 kz_0_11 kz_0_12 kz_0_15 ex2
  have nf2 : fc_1 PRD (23, [18, 4], [0, 1, -1]) ws (vs ++ [Value.int x, Value.int y, Value.int u, Value.int w]) := by
    refine ⟨nf_inA hl rfl, sgq_7 ?_⟩
    · show 1 * v_iv (n_v (vs ++ [Value.int x, Value.int y, Value.int u, Value.int w]) 18) + ((-1) * v_iv (n_v (vs ++ [Value.int x, Value.int y, Value.int u, Value.int w]) 4) + 0) ≤ 0
      simp only [e_4, e_18]
      exact vc_Mo_of_at_s5003_7_2 (v_iv (n_v vs 4)) (w_ei ws (w_ar ws (n_v vs 0) 1)) (w_fi ws (n_v vs 0) 15) (w_fi ws (n_v vs 0) 11) (w_fi ws (n_v vs 0) 12) (v_iv (Value.int y)) k4 f7 hK_0_1 kz_0_11 kz_0_12 kz_0_15 ey2
  have nf3 : fc_1 PRD (23, [18, 4], [0, -1, 1]) ws (vs ++ [Value.int x, Value.int y, Value.int u, Value.int w]) := by
    refine ⟨nf_inA hl rfl, sgq_22 ?_⟩
    · show (-1) * v_iv (n_v (vs ++ [Value.int x, Value.int y, Value.int u, Value.int w]) 18) + (1 * v_iv (n_v (vs ++ [Value.int x, Value.int y, Value.int u, Value.int w]) 4) + 0) ≤ 0
      simp only [e_4, e_18]
      exact vc_Mo_of_at_s5003_7_3 (v_iv (n_v vs 4)) (w_ei ws (w_ar ws (n_v vs 0) 1)) (w_fi ws (n_v vs 0) 15) (w_fi ws (n_v vs 0) 11) (w_fi ws (n_v vs 0) 12) (v_iv (Value.int y)) k4 f7 hK_0_1 kz_0_11 kz_0_12 kz_0_15 ey2
  have nf4 : fc_1 PRD (23, [19, 5], [0, 1, -1]) ws (vs ++ [Value.int x, Value.int y, Value.int u, Value.int w]) := by
    refine ⟨nf_inA hl rfl, sgq_7 ?_⟩
    · show 1 * v_iv (n_v (vs ++ [Value.int x, Value.int y, Value.int u, Value.int w]) 19) + ((-1) * v_iv (n_v (vs ++ [Value.int x, Value.int y, Value.int u, Value.int w]) 5) + 0) ≤ 0
      simp only [e_5, e_19]
      exact vc_Mo_of_at_s5003_7_4 (v_iv (n_v vs 5)) (w_ei ws (w_ar ws (n_v vs 0) 1)) (w_fi ws (n_v vs 0) 15) (w_fi ws (n_v vs 0) 11) (w_fi ws (n_v vs 0) 12) (v_iv (Value.int u)) k5 f7 hK_0_1 kz_0_11 kz_0_12 kz_0_15 eu2
  have nf5 : fc_1 PRD (23, [19, 5], [0, -1, 1]) ws (vs ++ [Value.int x, Value.int y, Value.int u, Value.int w]) := by
    refine ⟨nf_inA hl rfl, sgq_22 ?_⟩
    · show (-1) * v_iv (n_v (vs ++ [Value.int x, Value.int y, Value.int u, Value.int w]) 19) + (1 * v_iv (n_v (vs ++ [Value.int x, Value.int y, Value.int u, Value.int w]) 5) + 0) ≤ 0
      simp only [e_5, e_19]
      exact vc_Mo_of_at_s5003_7_5 (v_iv (n_v vs 5)) (w_ei ws (w_ar ws (n_v vs 0) 1)) (w_fi ws (n_v vs 0) 15) (w_fi ws (n_v vs 0) 11) (w_fi ws (n_v vs 0) 12) (v_iv (Value.int u)) k5 f7 hK_0_1 kz_0_11 kz_0_12 kz_0_15 eu2
  have nf6 : fc_1 PRD (23, [20, 6], [0, 1, -1]) ws (vs ++ [Value.int x, Value.int y, Value.int u, Value.int w]) := by
    refine ⟨nf_inA hl rfl, sgq_7 ?_⟩
    · show 1 * v_iv (n_v (vs ++ [Value.int x, Value.int y, Value.int u, Value.int w]) 20) + ((-1) * v_iv (n_v (vs ++ [Value.int x, Value.int y, Value.int u, Value.int w]) 6) + 0) ≤ 0
      simp only [e_6, e_20]
      exact vc_Mo_of_at_s5003_7_6 (v_iv (n_v vs 6)) (w_ei ws (w_ar ws (n_v vs 0) 1)) (w_fi ws (n_v vs 0) 15) (w_fi ws (n_v vs 0) 11) (w_fi ws (n_v vs 0) 12) (v_iv (Value.int w)) k6 f7 hK_0_1 kz_0_11 kz_0_12 kz_0_15 ew2
  have nf7 : fc_1 PRD (23, [20, 6], [0, -1, 1]) ws (vs ++ [Value.int x, Value.int y, Value.int u, Value.int w]) := by
    refine ⟨nf_inA hl rfl, sgq_22 ?_⟩
    · show (-1) * v_iv (n_v (vs ++ [Value.int x, Value.int y, Value.int u, Value.int w]) 20) + (1 * v_iv (n_v (vs ++ [Value.int x, Value.int y, Value.int u, Value.int w]) 6) + 0) ≤ 0
      simp only [e_6, e_20]
      exact vc_Mo_of_at_s5003_7_7 (v_iv (n_v vs 6)) (w_ei ws (w_ar ws (n_v vs 0) 1)) (w_fi ws (n_v vs 0) 15) (w_fi ws (n_v vs 0) 11) (w_fi ws (n_v vs 0) 12) (v_iv (Value.int w)) k6 f7 hK_0_1 kz_0_11 kz_0_12 kz_0_15 ew2
  have nf8 : fc_1 PRD (20, [7, 7], [30, 0, 1, 1, 15, -1, 1, 11]) ws (vs ++ [Value.int x, Value.int y, Value.int u, Value.int w]) := by
    refine ⟨nf_inA hl rfl, sgq_1437 ?_⟩
    · show 1 * w_fi ws (n_v (vs ++ [Value.int x, Value.int y, Value.int u, Value.int w]) 7) 15 + ((-1) * w_fi ws (n_v (vs ++ [Value.int x, Value.int y, Value.int u, Value.int w]) 7) 11 + 0) ≤ 0
      simp only [e_7, q7]
      exact vc_Mo_of_at_s5003_7_8 (w_ei ws (w_ar ws (n_v vs 0) 1)) (w_fi ws (n_v vs 0) 15) (w_fi ws (n_v vs 0) 11) (w_fi ws (n_v vs 0) 12) f6 f7 hK_0_1 kz_0_11 kz_0_12 kz_0_15
  have nf9 : fc_1 PRD (20, [7], [50, 3, 0, 12, 11, 15, 2, 21, 4, 7, 1, 3, 2, 0, 12, 0, 1, 0, 3, 2, 0, 11, 4, 3, 2, 0, 15, 0, 8, 3, 7, 1, 3, 2, 0, 12, 0, 0, 0, 7, 4, 3, 2, 0, 15, 0, 1, 2, 0, 11]) ws (vs ++ [Value.int x, Value.int y, Value.int u, Value.int w]) := by
    refine ⟨nf_inA hl rfl, sgq_1438 ?_⟩
    · show ((w_fi ws (n_v (vs ++ [Value.int x, Value.int y, Value.int u, Value.int w]) 7) 12 = 1) → (w_fi ws (n_v (vs ++ [Value.int x, Value.int y, Value.int u, Value.int w]) 7) 11 ≤ (w_fi ws (n_v (vs ++ [Value.int x, Value.int y, Value.int u, Value.int w]) 7) 15 + 8))) ∧ ((w_fi ws (n_v (vs ++ [Value.int x, Value.int y, Value.int u, Value.int w]) 7) 12 = 0) ∨ ((w_fi ws (n_v (vs ++ [Value.int x, Value.int y, Value.int u, Value.int w]) 7) 15 + 1) ≤ w_fi ws (n_v (vs ++ [Value.int x, Value.int y, Value.int u, Value.int w]) 7) 11))
      simp only [e_7, q7]
      exact vc_Mo_of_at_s5003_7_9 (w_ei ws (w_ar ws (n_v vs 0) 1)) (w_fi ws (n_v vs 0) 15) (w_fi ws (n_v vs 0) 11) (w_fi ws (n_v vs 0) 12) f7 hK_0_1 kz_0_11 kz_0_12 kz_0_15
  have nf10 : fc_1 PRD (20, [17, 7], [30, 0, 1, 0, 0, -1, 1, 11]) ws (vs ++ [Value.int x, Value.int y, Value.int u, Value.int w]) := by
    refine ⟨nf_inA hl rfl, sgq_1431 ?_⟩
    · show 1 * v_iv (n_v (vs ++ [Value.int x, Value.int y, Value.int u, Value.int w]) 17) + ((-1) * w_fi ws (n_v (vs ++ [Value.int x, Value.int y, Value.int u, Value.int w]) 7) 11 + 0) ≤ 0
      simp only [e_7, e_17, q7]
      exact vc_Mo_of_at_s5003_7_10 (v_iv (n_v vs 15)) (w_ei ws (w_ar ws (n_v vs 0) 1)) (w_fi ws (n_v vs 0) 15) (w_fi ws (n_v vs 0) 11) (w_fi ws (n_v vs 0) 12) (v_iv (Value.int x)) k15 f6 f7 f8 hK_0_1 kz_0_11 kz_0_12 kz_0_15 ex2
  have nf11 : fc_1 PRD (20, [7, 17], [50, 3, 0, 8, 12, 11, 3, 7, 0, 2, 0, 1, 2, 0, 8, 3, 7, 1, 3, 2, 0, 12, 0, 0, 0, 6, 4, 2, 1, 1, 0, 1, 2, 0, 11]) ws (vs ++ [Value.int x, Value.int y, Value.int u, Value.int w]) := by
    refine ⟨nf_inA hl rfl, sgq_1722 ?_⟩
    · show (1 ≤ w_fi ws (n_v (vs ++ [Value.int x, Value.int y, Value.int u, Value.int w]) 7) 8) ∨ ((w_fi ws (n_v (vs ++ [Value.int x, Value.int y, Value.int u, Value.int w]) 7) 12 = 0) ∨ ((v_iv (n_v (vs ++ [Value.int x, Value.int y, Value.int u, Value.int w]) 17) + 1) ≤ w_fi ws (n_v (vs ++ [Value.int x, Value.int y, Value.int u, Value.int w]) 7) 11))
      simp only [e_7, e_17, q7]
      exact vc_Mo_of_at_s5003_7_11 (v_iv (n_v vs 15)) (w_ei ws (w_ar ws (n_v vs 0) 1)) (w_fi ws (n_v vs 0) 8) (w_fi ws (n_v vs 0) 15) (w_fi ws (n_v vs 0) 11) (w_fi ws (n_v vs 0) 12) (v_iv (Value.int x)) k15 f7 f8 hK_0_1 kz_0_8 kz_0_11 kz_0_12 kz_0_15 ex2
  have nf12 : fc_1 PRD (20, [7, 18, 19, 20], [60, 9, 2, 1020, 10, 11, 12, 13, 14, 15, 8, 9, 5, 1, 2]) ws (vs ++ [Value.int x, Value.int y, Value.int u, Value.int w]) := by
    refine ⟨nf_inA hl rfl, sgq_1743 ?_⟩
    · show zONew (w_fi ws (n_v (vs ++ [Value.int x, Value.int y, Value.int u, Value.int w]) 7) 10) (w_fi ws (n_v (vs ++ [Value.int x, Value.int y, Value.int u, Value.int w]) 7) 11) (w_fi ws (n_v (vs ++ [Value.int x, Value.int y, Value.int u, Value.int w]) 7) 12) (w_fi ws (n_v (vs ++ [Value.int x, Value.int y, Value.int u, Value.int w]) 7) 13) (w_fi ws (n_v (vs ++ [Value.int x, Value.int y, Value.int u, Value.int w]) 7) 14) (w_fi ws (n_v (vs ++ [Value.int x, Value.int y, Value.int u, Value.int w]) 7) 15) (w_fi ws (n_v (vs ++ [Value.int x, Value.int y, Value.int u, Value.int w]) 7) 8) (w_fi ws (n_v (vs ++ [Value.int x, Value.int y, Value.int u, Value.int w]) 7) 9) (w_fi ws (n_v (vs ++ [Value.int x, Value.int y, Value.int u, Value.int w]) 7) 5) (w_ei ws (w_ar ws (n_v (vs ++ [Value.int x, Value.int y, Value.int u, Value.int w]) 7) 1)) (w_ei ws (w_ar ws (n_v (vs ++ [Value.int x, Value.int y, Value.int u, Value.int w]) 7) 2)) (v_iv (n_v (vs ++ [Value.int x, Value.int y, Value.int u, Value.int w]) 18)) (v_iv (n_v (vs ++ [Value.int x, Value.int y, Value.int u, Value.int w]) 19)) (v_iv (n_v (vs ++ [Value.int x, Value.int y, Value.int u, Value.int w]) 20))
      simp only [e_7, e_18, e_19, e_20, q7]
      exact vc_Mo_of_at_s5003_7_12 (v_iv (n_v vs 4)) (v_iv (n_v vs 5)) (v_iv (n_v vs 6)) (v_iv (n_v vs 15)) (w_ei ws (w_ar ws (n_v vs 0) 1)) (w_ei ws (w_ar ws (n_v vs 0) 2)) (w_fi ws (n_v vs 0) 10) (w_fi ws (n_v vs 0) 8) (w_fi ws (n_v vs 0) 5) (w_fi ws (n_v vs 0) 15) (w_fi ws (n_v vs 0) 11) (w_fi ws (n_v vs 0) 12) (w_fi ws (n_v vs 0) 13) (w_fi ws (n_v vs 0) 14) (w_fi ws (n_v vs 0) 9) (v_iv (Value.int x)) (v_iv (Value.int y)) (v_iv (Value.int u)) (v_iv (Value.int w)) k4 k5 k6 k15 f2 f9 kz_0_8 kz_0_9 kz_0_10 kz_0_11 kz_0_12 kz_0_13 kz_0_14 kz_0_15 ex2 ey2 eu2 ew2
  have nf13 : fc_1 PRD (23, [3, 17], [-1, 1, -1]) ws (vs ++ [Value.int x, Value.int y, Value.int u, Value.int w]) := by
    refine ⟨nf_inA hl rfl, sgq_193 ?_⟩
    · show 1 * v_iv (n_v (vs ++ [Value.int x, Value.int y, Value.int u, Value.int w]) 3) + ((-1) * v_iv (n_v (vs ++ [Value.int x, Value.int y, Value.int u, Value.int w]) 17) + 0) ≤ (-1)
      simp only [e_3, e_17]
      exact vc_Mo_of_at_s5003_7_13 (v_iv (n_v vs 3)) (v_iv (n_v vs 15)) (w_ei ws (w_ar ws (n_v vs 0) 1)) (w_fi ws (n_v vs 0) 15) (w_fi ws (n_v vs 0) 11) (w_fi ws (n_v vs 0) 12) (v_iv (Value.int x)) k3 k15 f0 f7 hK_0_1 kz_0_11 kz_0_12 kz_0_15 ex2
  have nf14 : fc_1 PRD (23, [11, 17], [-2000, -1, -1]) ws (vs ++ [Value.int x, Value.int y, Value.int u, Value.int w]) := by
    refine ⟨nf_inA hl rfl, sgq_2009 ?_⟩
    · show (-1) * v_iv (n_v (vs ++ [Value.int x, Value.int y, Value.int u, Value.int w]) 11) + ((-1) * v_iv (n_v (vs ++ [Value.int x, Value.int y, Value.int u, Value.int w]) 17) + 0) ≤ (-2000)
      simp only [e_11, e_17]
      exact vc_Mo_of_at_s5003_7_14 (v_iv (n_v vs 11)) (v_iv (n_v vs 15)) (w_ei ws (w_ar ws (n_v vs 0) 1)) (w_fi ws (n_v vs 0) 15) (w_fi ws (n_v vs 0) 11) (w_fi ws (n_v vs 0) 12) (v_iv (Value.int x)) k11 k15 f1 f7 hK_0_1 kz_0_11 kz_0_12 kz_0_15 ex2
  exact ⟨(fun _ h => (by cases h)), [Value.int x, Value.int y, Value.int u, Value.int w], ag_four hx hy hu hw, List.forall_mem_cons.mpr ⟨⟨show (23 : Nat) < 100 from by decide, nf0⟩, List.forall_mem_cons.mpr ⟨⟨show (23 : Nat) < 100 from by decide, nf1⟩, List.forall_mem_cons.mpr ⟨⟨show (23 : Nat) < 100 from by decide, nf2⟩, List.forall_mem_cons.mpr ⟨⟨show (23 : Nat) < 100 from by decide, nf3⟩, List.forall_mem_cons.mpr ⟨⟨show (23 : Nat) < 100 from by decide, nf4⟩, List.forall_mem_cons.mpr ⟨⟨show (23 : Nat) < 100 from by decide, nf5⟩, List.forall_mem_cons.mpr ⟨⟨show (23 : Nat) < 100 from by decide, nf6⟩, List.forall_mem_cons.mpr ⟨⟨show (23 : Nat) < 100 from by decide, nf7⟩, List.forall_mem_cons.mpr ⟨⟨show (20 : Nat) < 100 from by decide, nf8⟩, List.forall_mem_cons.mpr ⟨⟨show (20 : Nat) < 100 from by decide, nf9⟩, List.forall_mem_cons.mpr ⟨⟨show (20 : Nat) < 100 from by decide, nf10⟩, List.forall_mem_cons.mpr ⟨⟨show (20 : Nat) < 100 from by decide, nf11⟩, List.forall_mem_cons.mpr ⟨⟨show (20 : Nat) < 100 from by decide, nf12⟩, List.forall_mem_cons.mpr ⟨⟨show (23 : Nat) < 100 from by decide, nf13⟩, List.forall_mem_cons.mpr ⟨⟨show (23 : Nat) < 100 from by decide, nf14⟩, (fun _ h => (by cases h))⟩⟩⟩⟩⟩⟩⟩⟩⟩⟩⟩⟩⟩⟩⟩, (fun _ h => (by cases h))⟩
set_option maxHeartbeats 4000000 in
theorem vc_Mo_of_at_s5003_8_0 (x17 : Int) (fault_0 : Int) (from_0 : Int) (pos_0 : Int) (kind_0 : Int) (tape_0 : Int → Int) (k17 : 0 ≤ x17 ∧ x17 ≤ 2000) (f19 : 1 * from_0 + ((-1) * pos_0 + 0) ≤ 0) (f20 : ((kind_0 = 1) → (pos_0 ≤ (from_0 + 8))) ∧ ((kind_0 = 0) ∨ ((from_0 + 1) ≤ pos_0))) (f22 : (1 ≤ fault_0) ∨ ((x17 + 1) ≤ pos_0)) (hK_0_1 : ∀ j : Int, 0 ≤ j → j < 2000 → (-128) ≤ tape_0 j ∧ tape_0 j ≤ 127) (kz_0_8 : 0 ≤ fault_0 ∧ fault_0 ≤ 5) (kz_0_11 : 0 ≤ pos_0 ∧ pos_0 ≤ 2000) (kz_0_12 : 0 ≤ kind_0 ∧ kind_0 ≤ 4) (kz_0_15 : 0 ≤ from_0 ∧ from_0 ≤ 2000) : 1 * from_0 + ((-1) * pos_0 + 0) ≤ 0 := by
  first | with_reducible assumption | ((have f20_c0 := f20.1); (have f20_c1 := f20.2); (try and_intros) <;> first | with_reducible assumption | (clear f20_c0 f20_c1 f20 f22 hK_0_1; omega)) | ((have f20_c0 := f20.1); (have f20_c1 := f20.2); (try and_intros) <;> first | with_reducible assumption | (clear f20_c0 f20_c1 f20 hK_0_1; omega)) | omega
set_option maxHeartbeats 4000000 in
theorem vc_Mo_of_at_s5003_8_1 (x17 : Int) (fault_0 : Int) (from_0 : Int) (pos_0 : Int) (kind_0 : Int) (tape_0 : Int → Int) (k17 : 0 ≤ x17 ∧ x17 ≤ 2000) (f20 : ((kind_0 = 1) → (pos_0 ≤ (from_0 + 8))) ∧ ((kind_0 = 0) ∨ ((from_0 + 1) ≤ pos_0))) (f22 : (1 ≤ fault_0) ∨ ((x17 + 1) ≤ pos_0)) (hK_0_1 : ∀ j : Int, 0 ≤ j → j < 2000 → (-128) ≤ tape_0 j ∧ tape_0 j ≤ 127) (kz_0_8 : 0 ≤ fault_0 ∧ fault_0 ≤ 5) (kz_0_11 : 0 ≤ pos_0 ∧ pos_0 ≤ 2000) (kz_0_12 : 0 ≤ kind_0 ∧ kind_0 ≤ 4) (kz_0_15 : 0 ≤ from_0 ∧ from_0 ≤ 2000) : ((kind_0 = 1) → (pos_0 ≤ (from_0 + 8))) ∧ ((kind_0 = 0) ∨ ((from_0 + 1) ≤ pos_0)) := by
  first | with_reducible assumption | ((have f20_c0 := f20.1); (have f20_c1 := f20.2); (try and_intros) <;> first | with_reducible assumption | (clear f20_c0 f20_c1 f20 f22 hK_0_1; omega)) | ((have f20_c0 := f20.1); (have f20_c1 := f20.2); (try and_intros) <;> first | with_reducible assumption | (clear f20_c0 f20_c1 f20 hK_0_1; omega)) | omega
set_option maxHeartbeats 4000000 in
theorem vc_Mo_of_at_s5003_8_2 (x3 : Int) (x17 : Int) (fault_0 : Int) (from_0 : Int) (pos_0 : Int) (kind_0 : Int) (tape_0 : Int → Int) (k3 : 0 ≤ x3 ∧ x3 ≤ 2000) (k17 : 0 ≤ x17 ∧ x17 ≤ 2000) (f12 : 1 * x3 + ((-1) * x17 + 0) ≤ (-1)) (f20 : ((kind_0 = 1) → (pos_0 ≤ (from_0 + 8))) ∧ ((kind_0 = 0) ∨ ((from_0 + 1) ≤ pos_0))) (f21 : 1 * x17 + ((-1) * pos_0 + 0) ≤ 0) (f22 : (1 ≤ fault_0) ∨ ((x17 + 1) ≤ pos_0)) (hK_0_1 : ∀ j : Int, 0 ≤ j → j < 2000 → (-128) ≤ tape_0 j ∧ tape_0 j ≤ 127) (kz_0_8 : 0 ≤ fault_0 ∧ fault_0 ≤ 5) (kz_0_11 : 0 ≤ pos_0 ∧ pos_0 ≤ 2000) (kz_0_12 : 0 ≤ kind_0 ∧ kind_0 ≤ 4) (kz_0_15 : 0 ≤ from_0 ∧ from_0 ≤ 2000) : 1 * x3 + ((-1) * pos_0 + 0) ≤ 0 := by
  first | with_reducible assumption | ((have f20_c0 := f20.1); (have f20_c1 := f20.2); (try and_intros) <;> first | with_reducible assumption | (clear f20_c0 f20_c1 f20 f22 hK_0_1; omega)) | ((have f20_c0 := f20.1); (have f20_c1 := f20.2); (try and_intros) <;> first | with_reducible assumption | (clear f20_c0 f20_c1 f20 hK_0_1; omega)) | omega
set_option maxHeartbeats 4000000 in
theorem vc_Mo_of_at_s5003_8_3 (x3 : Int) (x17 : Int) (x21 : Int) (fault_0 : Int) (from_0 : Int) (pos_0 : Int) (kind_0 : Int) (tape_0 : Int → Int) (k3 : 0 ≤ x3 ∧ x3 ≤ 2000) (k17 : 0 ≤ x17 ∧ x17 ≤ 2000) (k21 : 1 ≤ x21 ∧ x21 ≤ 5) (g1 : x21 = fault_0) (f20 : ((kind_0 = 1) → (pos_0 ≤ (from_0 + 8))) ∧ ((kind_0 = 0) ∨ ((from_0 + 1) ≤ pos_0))) (f22 : (1 ≤ fault_0) ∨ ((x17 + 1) ≤ pos_0)) (hK_0_1 : ∀ j : Int, 0 ≤ j → j < 2000 → (-128) ≤ tape_0 j ∧ tape_0 j ≤ 127) (kz_0_8 : 0 ≤ fault_0 ∧ fault_0 ≤ 5) (kz_0_11 : 0 ≤ pos_0 ∧ pos_0 ≤ 2000) (kz_0_12 : 0 ≤ kind_0 ∧ kind_0 ≤ 4) (kz_0_15 : 0 ≤ from_0 ∧ from_0 ≤ 2000) : (1 ≤ fault_0) ∨ ((kind_0 = 0) ∨ ((x3 + 1) ≤ pos_0)) := by
  first | with_reducible assumption | ((have f20_c0 := f20.1); (have f20_c1 := f20.2); (try and_intros) <;> first | with_reducible assumption | (clear f20_c0 f20_c1 f20 f22 hK_0_1; omega)) | ((have f20_c0 := f20.1); (have f20_c1 := f20.2); (try and_intros) <;> first | with_reducible assumption | (clear f20_c0 f20_c1 f20 hK_0_1; omega)) | omega
set_option maxHeartbeats 4000000 in
theorem vc_Mo_of_at_s5003_8_4 (x4 : Int) (x17 : Int) (x21 : Int) (fault_0 : Int) (from_0 : Int) (pos_0 : Int) (kind_0 : Int) (tape_0 : Int → Int) (k4 : (-1) ≤ x4 ∧ x4 ≤ 48) (k17 : 0 ≤ x17 ∧ x17 ≤ 2000) (k21 : 1 ≤ x21 ∧ x21 ≤ 5) (g1 : x21 = fault_0) (f20 : ((kind_0 = 1) → (pos_0 ≤ (from_0 + 8))) ∧ ((kind_0 = 0) ∨ ((from_0 + 1) ≤ pos_0))) (f22 : (1 ≤ fault_0) ∨ ((x17 + 1) ≤ pos_0)) (hK_0_1 : ∀ j : Int, 0 ≤ j → j < 2000 → (-128) ≤ tape_0 j ∧ tape_0 j ≤ 127) (kz_0_8 : 0 ≤ fault_0 ∧ fault_0 ≤ 5) (kz_0_11 : 0 ≤ pos_0 ∧ pos_0 ≤ 2000) (kz_0_12 : 0 ≤ kind_0 ∧ kind_0 ≤ 4) (kz_0_15 : 0 ≤ from_0 ∧ from_0 ≤ 2000) : (1 ≤ fault_0) ∨ (0 ≤ x4) := by
  first | with_reducible assumption | ((have f20_c0 := f20.1); (have f20_c1 := f20.2); (try and_intros) <;> first | with_reducible assumption | (clear f20_c0 f20_c1 f20 f22 hK_0_1; omega)) | ((have f20_c0 := f20.1); (have f20_c1 := f20.2); (try and_intros) <;> first | with_reducible assumption | (clear f20_c0 f20_c1 f20 hK_0_1; omega)) | omega
set_option maxHeartbeats 4000000 in
theorem vc_Mo_of_at_s5003_8_5 (x2 : Int) (x17 : Int) (x22 : Int) (fault_0 : Int) (from_0 : Int) (pos_0 : Int) (kind_0 : Int) (tape_0 : Int → Int) (k2 : 9 ≤ x2 ∧ x2 ≤ 9) (k17 : 0 ≤ x17 ∧ x17 ≤ 2000) (k22 : 0 ≤ x22 ∧ x22 ≤ 0) (f20 : ((kind_0 = 1) → (pos_0 ≤ (from_0 + 8))) ∧ ((kind_0 = 0) ∨ ((from_0 + 1) ≤ pos_0))) (f22 : (1 ≤ fault_0) ∨ ((x17 + 1) ≤ pos_0)) (hK_0_1 : ∀ j : Int, 0 ≤ j → j < 2000 → (-128) ≤ tape_0 j ∧ tape_0 j ≤ 127) (kz_0_8 : 0 ≤ fault_0 ∧ fault_0 ≤ 5) (kz_0_11 : 0 ≤ pos_0 ∧ pos_0 ≤ 2000) (kz_0_12 : 0 ≤ kind_0 ∧ kind_0 ≤ 4) (kz_0_15 : 0 ≤ from_0 ∧ from_0 ≤ 2000) : 1 * x22 + ((-1) * x2 + 0) ≤ 0 := by
  first | with_reducible assumption | ((have f20_c0 := f20.1); (have f20_c1 := f20.2); (try and_intros) <;> first | with_reducible assumption | (clear f20_c0 f20_c1 f20 f22 hK_0_1; omega)) | ((have f20_c0 := f20.1); (have f20_c1 := f20.2); (try and_intros) <;> first | with_reducible assumption | (clear f20_c0 f20_c1 f20 hK_0_1; omega)) | omega
set_option maxHeartbeats 4000000 in
theorem vc_Mo_of_at_s5003_8_6 (x17 : Int) (x22 : Int) (fault_0 : Int) (from_0 : Int) (pos_0 : Int) (kind_0 : Int) (tape_0 : Int → Int) (k17 : 0 ≤ x17 ∧ x17 ≤ 2000) (k22 : 0 ≤ x22 ∧ x22 ≤ 0) (f20 : ((kind_0 = 1) → (pos_0 ≤ (from_0 + 8))) ∧ ((kind_0 = 0) ∨ ((from_0 + 1) ≤ pos_0))) (f22 : (1 ≤ fault_0) ∨ ((x17 + 1) ≤ pos_0)) (hK_0_1 : ∀ j : Int, 0 ≤ j → j < 2000 → (-128) ≤ tape_0 j ∧ tape_0 j ≤ 127) (kz_0_8 : 0 ≤ fault_0 ∧ fault_0 ≤ 5) (kz_0_11 : 0 ≤ pos_0 ∧ pos_0 ≤ 2000) (kz_0_12 : 0 ≤ kind_0 ∧ kind_0 ≤ 4) (kz_0_15 : 0 ≤ from_0 ∧ from_0 ≤ 2000) : (-1) * x22 + 0 ≤ 0 := by
  first | with_reducible assumption | ((have f20_c0 := f20.1); (have f20_c1 := f20.2); (try and_intros) <;> first | with_reducible assumption | (clear f20_c0 f20_c1 f20 f22 hK_0_1; omega)) | ((have f20_c0 := f20.1); (have f20_c1 := f20.2); (try and_intros) <;> first | with_reducible assumption | (clear f20_c0 f20_c1 f20 hK_0_1; omega)) | omega
set_option maxHeartbeats 4000000 in
theorem vc_Mo_of_at_s5003_8_7 (x4 : Int) (x5 : Int) (x6 : Int) (x15 : Int) (x17 : Int) (x18 : Int) (x19 : Int) (x20 : Int) (x21 : Int) (x22 : Int) (fault_0 : Int) (from_0 : Int) (pos_0 : Int) (kind_0 : Int) (tape_0 : Int → Int) (all_0 : Int → Int) (limit_0 : Int) (place_0 : Int) (value_0 : Int) (faultPlace_0 : Int) (r_0 : Int) (k4 : (-1) ≤ x4 ∧ x4 ≤ 48) (k5 : 0 ≤ x5 ∧ x5 ≤ 7) (k6 : 0 ≤ x6 ∧ x6 ≤ 4) (k15 : 0 ≤ x15 ∧ x15 ≤ 2000) (k17 : 0 ≤ x17 ∧ x17 ≤ 2000) (k18 : (-1) ≤ x18 ∧ x18 ≤ 48) (k19 : 0 ≤ x19 ∧ x19 ≤ 7) (k20 : 0 ≤ x20 ∧ x20 ≤ 4) (k21 : 1 ≤ x21 ∧ x21 ≤ 5) (k22 : 0 ≤ x22 ∧ x22 ≤ 0) (g1 : x21 = fault_0) (f4 : 1 * x17 + ((-1) * x15 + 0) ≤ 0) (f5 : (-1) * x17 + (1 * x15 + 0) ≤ 0) (f6 : 1 * x18 + ((-1) * x4 + 0) ≤ 0) (f7 : (-1) * x18 + (1 * x4 + 0) ≤ 0) (f8 : 1 * x19 + ((-1) * x5 + 0) ≤ 0) (f9 : (-1) * x19 + (1 * x5 + 0) ≤ 0) (f10 : 1 * x20 + ((-1) * x6 + 0) ≤ 0) (f11 : (-1) * x20 + (1 * x6 + 0) ≤ 0) (f23 : zO11w (limit_0) (pos_0) (kind_0) (place_0) (value_0) (from_0) (fault_0) (faultPlace_0) (r_0) (tape_0) (all_0) (x18) (x19) (x20)) (kz_0_8 : 0 ≤ fault_0 ∧ fault_0 ≤ 5) (kz_0_9 : 0 ≤ faultPlace_0 ∧ faultPlace_0 ≤ 2000) (kz_0_10 : 0 ≤ limit_0 ∧ limit_0 ≤ 2000) (kz_0_11 : 0 ≤ pos_0 ∧ pos_0 ≤ 2000) (kz_0_12 : 0 ≤ kind_0 ∧ kind_0 ≤ 4) (kz_0_13 : 0 ≤ place_0 ∧ place_0 ≤ 2000) (kz_0_14 : (-49) ≤ value_0 ∧ value_0 ≤ 1048575) (kz_0_15 : 0 ≤ from_0 ∧ from_0 ≤ 2000) : zOFw (limit_0) (pos_0) (kind_0) (place_0) (value_0) (from_0) (fault_0) (faultPlace_0) (r_0) (tape_0) (all_0) (x4) (x22) (x5) (x6) := by
  first | (have el_x17 : x17 = x15 := by omega); subst el_x17 | skip
  first | (have el_x18 : x18 = x4 := by omega); subst el_x18 | skip
  first | (have el_x19 : x19 = x5 := by omega); subst el_x19 | skip
  first | (have el_x20 : x20 = x6 := by omega); subst el_x20 | skip
  first | subst g1 | skip
  first
    | exact of_no_w ‹zOBw _ _ _ _ _ _ _ _ _ _ _ _ _ _› ‹SGQ _ _ _ _ _› (by omega) (by omega) (by omega)
    | exact Or.inl ⟨by omega, fs_w ‹FSX _ _ _ _› ‹ZH0 _› (by assumption)⟩
    | (refine Or.inl ⟨by omega, fs_w ?_ ?_ (by assumption)⟩ <;> assumption)
    | exact Or.inl ⟨by omega, or_l ‹zO11w _ _ _ _ _ _ _ _ _ _ _ _ _ _› (fun q => by have := q.1; omega)⟩
    | exact Or.inr (Or.inr ⟨by omega, ‹zRP13w _ _ _ _ _ _ _ _ _ _ _ _ _ _›⟩)
    | (exfalso; omega)
def o_Mo_of_at_s5003_8 : or_T := (129, 23, [(0, (2, 0, 0, [165])), (2, (0, 9, 9, [])), (3, (0, 0, 2000, [])), (4, (0, -1, 48, [])), (5, (0, 0, 7, [])), (6, (0, 0, 4, [])), (15, (0, 0, 2000, [])), (17, (0, 0, 2000, [])), (18, (0, -1, 48, [])), (19, (0, 0, 7, [])), (20, (0, 0, 4, [])), (21, (0, 1, 5, [])), (22, (0, 0, 0, []))], [(9, [21, 7], [8]), (23, [17, 15], [0, 1, -1]), (23, [17, 15], [0, -1, 1]), (23, [18, 4], [0, 1, -1]), (23, [18, 4], [0, -1, 1]), (23, [19, 5], [0, 1, -1]), (23, [19, 5], [0, -1, 1]), (23, [20, 6], [0, 1, -1]), (23, [20, 6], [0, -1, 1]), (23, [3, 17], [-1, 1, -1]), (24, [0, 7], []), (20, [7, 7], [30, 0, 1, 1, 15, -1, 1, 11]), (20, [7], [50, 3, 0, 12, 11, 15, 2, 21, 4, 7, 1, 3, 2, 0, 12, 0, 1, 0, 3, 2, 0, 11, 4, 3, 2, 0, 15, 0, 8, 3, 7, 1, 3, 2, 0, 12, 0, 0, 0, 7, 4, 3, 2, 0, 15, 0, 1, 2, 0, 11]), (20, [17, 7], [30, 0, 1, 0, 0, -1, 1, 11]), (20, [7, 17], [50, 2, 0, 8, 11, 3, 7, 0, 2, 0, 1, 2, 0, 8, 0, 6, 4, 2, 1, 1, 0, 1, 2, 0, 11]), (20, [7, 18, 19, 20], [60, 9, 2, 1025, 10, 11, 12, 13, 14, 15, 8, 9, 5, 1, 2])], [], [], [(20, [0, 0], [30, 0, 1, 1, 15, -1, 1, 11]), (20, [0], [50, 3, 0, 12, 11, 15, 2, 21, 4, 7, 1, 3, 2, 0, 12, 0, 1, 0, 3, 2, 0, 11, 4, 3, 2, 0, 15, 0, 8, 3, 7, 1, 3, 2, 0, 12, 0, 0, 0, 7, 4, 3, 2, 0, 15, 0, 1, 2, 0, 11]), (20, [3, 0], [30, 0, 1, 0, 0, -1, 1, 11]), (20, [0, 3], [50, 3, 0, 8, 12, 11, 3, 7, 0, 2, 0, 1, 2, 0, 8, 3, 7, 1, 3, 2, 0, 12, 0, 0, 0, 6, 4, 2, 1, 1, 0, 1, 2, 0, 11]), (20, [0, 4], [50, 1, 0, 8, 3, 7, 0, 2, 0, 1, 2, 0, 8, 0, 2, 0, 0, 1, 1]), (20, [22, 2], [30, 0, 1, 0, 0, -1, 0, 0]), (20, [22], [30, 0, -1, 0, 0]), (20, [0, 4, 22, 5, 6], [60, 9, 2, 1014, 10, 11, 12, 13, 14, 15, 8, 9, 5, 1, 2])], [], [])
theorem oo_Mo_of_at_s5003_8 {kA : Nat → ClassId} : or_ok PRD kA GG o_Mo_of_at_s5003_8 := by
  refine or_mk fun A ta ws vs hD hth hl => ?_
  intro t0 r0 t2 k2 t3 k3 t4 k4 t5 k5 t6 k6 t15 k15 t17 k17 t18 k18 t19 k19 t20 k20 t21 k21 t22 k22 f1 f4 f5 f6 f7 f8 f9 f10 f11 f12 f17 f19 f20 f21 f22 f23
  replace f1 := shm_293 f1
  replace f17 := shm_5 f17
  replace f19 := shm_1437 f19
  replace f20 := shm_1438 f20
  replace f21 := shm_1431 f21
  replace f22 := shm_1726 f22
  replace f23 := shm_1744 f23
  have q7 : n_v vs 7 = n_v vs 0 := f17.symm
  simp only [q7] at f1 f19 f20 f21 f22 f23
  have cr_0_1 := fdq_39 hD hth r0
  have g1 : v_iv (n_v vs 21) = w_fi ws (n_v vs 0) 8 := congrArg v_iv f1
  have hK_0_1 := elq_7 hD hth cr_0_1
  have kz_0_8 := fdq_34 hD hth r0
  have kz_0_9 := fdq_44 hD hth r0
  have kz_0_10 := fdq_43 hD hth r0
  have kz_0_11 := fdq_237 hD hth r0
  have kz_0_12 := fdq_187 hD hth r0
  have kz_0_13 := fdq_238 hD hth r0
  have kz_0_14 := fdq_188 hD hth r0
  have kz_0_15 := fdq_239 hD hth r0
  have nf0 : fc_1 PRD (20, [0, 0], [30, 0, 1, 1, 15, -1, 1, 11]) ws (vs) := ⟨nf_in hl rfl, sgq_1437 (vc_Mo_of_at_s5003_8_0 (v_iv (n_v vs 17)) (w_fi ws (n_v vs 0) 8) (w_fi ws (n_v vs 0) 15) (w_fi ws (n_v vs 0) 11) (w_fi ws (n_v vs 0) 12) (w_ei ws (w_ar ws (n_v vs 0) 1)) k17 f19 f20 f22 hK_0_1 kz_0_8 kz_0_11 kz_0_12 kz_0_15)⟩
  have nf1 : fc_1 PRD (20, [0], [50, 3, 0, 12, 11, 15, 2, 21, 4, 7, 1, 3, 2, 0, 12, 0, 1, 0, 3, 2, 0, 11, 4, 3, 2, 0, 15, 0, 8, 3, 7, 1, 3, 2, 0, 12, 0, 0, 0, 7, 4, 3, 2, 0, 15, 0, 1, 2, 0, 11]) ws (vs) := ⟨nf_in hl rfl, sgq_1438 (vc_Mo_of_at_s5003_8_1 (v_iv (n_v vs 17)) (w_fi ws (n_v vs 0) 8) (w_fi ws (n_v vs 0) 15) (w_fi ws (n_v vs 0) 11) (w_fi ws (n_v vs 0) 12) (w_ei ws (w_ar ws (n_v vs 0) 1)) k17 f20 f22 hK_0_1 kz_0_8 kz_0_11 kz_0_12 kz_0_15)⟩
  have nf2 : fc_1 PRD (20, [3, 0], [30, 0, 1, 0, 0, -1, 1, 11]) ws (vs) := ⟨nf_in hl rfl, sgq_1431 (vc_Mo_of_at_s5003_8_2 (v_iv (n_v vs 3)) (v_iv (n_v vs 17)) (w_fi ws (n_v vs 0) 8) (w_fi ws (n_v vs 0) 15) (w_fi ws (n_v vs 0) 11) (w_fi ws (n_v vs 0) 12) (w_ei ws (w_ar ws (n_v vs 0) 1)) k3 k17 (shm_193 f12) f20 f21 f22 hK_0_1 kz_0_8 kz_0_11 kz_0_12 kz_0_15)⟩
  have nf3 : fc_1 PRD (20, [0, 3], [50, 3, 0, 8, 12, 11, 3, 7, 0, 2, 0, 1, 2, 0, 8, 3, 7, 1, 3, 2, 0, 12, 0, 0, 0, 6, 4, 2, 1, 1, 0, 1, 2, 0, 11]) ws (vs) := ⟨nf_in hl rfl, sgq_1722 (vc_Mo_of_at_s5003_8_3 (v_iv (n_v vs 3)) (v_iv (n_v vs 17)) (v_iv (n_v vs 21)) (w_fi ws (n_v vs 0) 8) (w_fi ws (n_v vs 0) 15) (w_fi ws (n_v vs 0) 11) (w_fi ws (n_v vs 0) 12) (w_ei ws (w_ar ws (n_v vs 0) 1)) k3 k17 k21 g1 f20 f22 hK_0_1 kz_0_8 kz_0_11 kz_0_12 kz_0_15)⟩
  have nf4 : fc_1 PRD (20, [0, 4], [50, 1, 0, 8, 3, 7, 0, 2, 0, 1, 2, 0, 8, 0, 2, 0, 0, 1, 1]) ws (vs) := ⟨nf_in hl rfl, sgq_2000 (vc_Mo_of_at_s5003_8_4 (v_iv (n_v vs 4)) (v_iv (n_v vs 17)) (v_iv (n_v vs 21)) (w_fi ws (n_v vs 0) 8) (w_fi ws (n_v vs 0) 15) (w_fi ws (n_v vs 0) 11) (w_fi ws (n_v vs 0) 12) (w_ei ws (w_ar ws (n_v vs 0) 1)) k4 k17 k21 g1 f20 f22 hK_0_1 kz_0_8 kz_0_11 kz_0_12 kz_0_15)⟩
  have nf5 : fc_1 PRD (20, [22, 2], [30, 0, 1, 0, 0, -1, 0, 0]) ws (vs) := ⟨nf_in hl rfl, sgq_201 (vc_Mo_of_at_s5003_8_5 (v_iv (n_v vs 2)) (v_iv (n_v vs 17)) (v_iv (n_v vs 22)) (w_fi ws (n_v vs 0) 8) (w_fi ws (n_v vs 0) 15) (w_fi ws (n_v vs 0) 11) (w_fi ws (n_v vs 0) 12) (w_ei ws (w_ar ws (n_v vs 0) 1)) k2 k17 k22 f20 f22 hK_0_1 kz_0_8 kz_0_11 kz_0_12 kz_0_15)⟩
  have nf6 : fc_1 PRD (20, [22], [30, 0, -1, 0, 0]) ws (vs) := ⟨nf_in hl rfl, sgq_2002 (vc_Mo_of_at_s5003_8_6 (v_iv (n_v vs 17)) (v_iv (n_v vs 22)) (w_fi ws (n_v vs 0) 8) (w_fi ws (n_v vs 0) 15) (w_fi ws (n_v vs 0) 11) (w_fi ws (n_v vs 0) 12) (w_ei ws (w_ar ws (n_v vs 0) 1)) k17 k22 f20 f22 hK_0_1 kz_0_8 kz_0_11 kz_0_12 kz_0_15)⟩
  have nf7 : fc_1 PRD (20, [0, 4, 22, 5, 6], [60, 9, 2, 1014, 10, 11, 12, 13, 14, 15, 8, 9, 5, 1, 2]) ws (vs) := ⟨nf_in hl rfl, sgq_2016 (vc_Mo_of_at_s5003_8_7 (v_iv (n_v vs 4)) (v_iv (n_v vs 5)) (v_iv (n_v vs 6)) (v_iv (n_v vs 15)) (v_iv (n_v vs 17)) (v_iv (n_v vs 18)) (v_iv (n_v vs 19)) (v_iv (n_v vs 20)) (v_iv (n_v vs 21)) (v_iv (n_v vs 22)) (w_fi ws (n_v vs 0) 8) (w_fi ws (n_v vs 0) 15) (w_fi ws (n_v vs 0) 11) (w_fi ws (n_v vs 0) 12) (w_ei ws (w_ar ws (n_v vs 0) 1)) (w_ei ws (w_ar ws (n_v vs 0) 2)) (w_fi ws (n_v vs 0) 10) (w_fi ws (n_v vs 0) 13) (w_fi ws (n_v vs 0) 14) (w_fi ws (n_v vs 0) 9) (w_fi ws (n_v vs 0) 5) k4 k5 k6 k15 k17 k18 k19 k20 k21 k22 g1 (shm_7 f4) (shm_22 f5) (shm_7 f6) (shm_22 f7) (shm_7 f8) (shm_22 f9) (shm_7 f10) (shm_22 f11) f23 kz_0_8 kz_0_9 kz_0_10 kz_0_11 kz_0_12 kz_0_13 kz_0_14 kz_0_15)⟩
  refine ⟨(fun _ h => (by cases h)), [], trivial, ?_, (fun _ h => (by cases h))⟩
  rw [List.append_nil]
  exact List.forall_mem_cons.mpr ⟨⟨show (20 : Nat) < 100 from by decide, nf0⟩, List.forall_mem_cons.mpr ⟨⟨show (20 : Nat) < 100 from by decide, nf1⟩, List.forall_mem_cons.mpr ⟨⟨show (20 : Nat) < 100 from by decide, nf2⟩, List.forall_mem_cons.mpr ⟨⟨show (20 : Nat) < 100 from by decide, nf3⟩, List.forall_mem_cons.mpr ⟨⟨show (20 : Nat) < 100 from by decide, nf4⟩, List.forall_mem_cons.mpr ⟨⟨show (20 : Nat) < 100 from by decide, nf5⟩, List.forall_mem_cons.mpr ⟨⟨show (20 : Nat) < 100 from by decide, nf6⟩, List.forall_mem_cons.mpr ⟨⟨show (20 : Nat) < 100 from by decide, nf7⟩, (fun _ h => (by cases h))⟩⟩⟩⟩⟩⟩⟩⟩
set_option maxHeartbeats 4000000 in
theorem vc_Mo_of_at_s5003_9_0 (x4 : Int) (x5 : Int) (x6 : Int) (x15 : Int) (x17 : Int) (x18 : Int) (x19 : Int) (x20 : Int) (x21 : Int) (x22 : Int) (x24 : Int) (x27 : Int) (x28 : Int) (place_0 : Int) (value_0 : Int) (fault_0 : Int) (kind_0 : Int) (from_0 : Int) (pos_0 : Int) (tape_0 : Int → Int) (all_0 : Int → Int) (limit_0 : Int) (faultPlace_0 : Int) (r_0 : Int) (gx : Int) (k4 : (-1) ≤ x4 ∧ x4 ≤ 48) (k5 : 0 ≤ x5 ∧ x5 ≤ 7) (k6 : 0 ≤ x6 ∧ x6 ≤ 4) (k15 : 0 ≤ x15 ∧ x15 ≤ 2000) (k17 : 0 ≤ x17 ∧ x17 ≤ 2000) (k18 : (-1) ≤ x18 ∧ x18 ≤ 48) (k19 : 0 ≤ x19 ∧ x19 ≤ 7) (k20 : 0 ≤ x20 ∧ x20 ≤ 4) (k21 : 0 ≤ x21 ∧ x21 ≤ 0) (k22 : 2 ≤ x22 ∧ x22 ≤ 2) (k24 : (-49) ≤ x24 ∧ x24 ≤ 0) (k27 : 5 ≤ x27 ∧ x27 ≤ 5) (k28 : 0 ≤ x28 ∧ x28 ≤ 2000) (g0 : x28 = place_0) (g1 : x24 = value_0) (g3 : x21 = fault_0) (g5 : x22 = kind_0) (f6 : x21 = 0) (f7 : 1 * x17 + ((-1) * x15 + 0) ≤ 0) (f8 : (-1) * x17 + (1 * x15 + 0) ≤ 0) (f9 : 1 * x18 + ((-1) * x4 + 0) ≤ 0) (f10 : (-1) * x18 + (1 * x4 + 0) ≤ 0) (f11 : 1 * x19 + ((-1) * x5 + 0) ≤ 0) (f12 : (-1) * x19 + (1 * x5 + 0) ≤ 0) (f13 : 1 * x20 + ((-1) * x6 + 0) ≤ 0) (f14 : (-1) * x20 + (1 * x6 + 0) ≤ 0) (f26 : zO11w (limit_0) (pos_0) (kind_0) (place_0) (value_0) (from_0) (fault_0) (faultPlace_0) (r_0) (tape_0) (all_0) (x18) (x19) (x20)) (kz_0_8 : 0 ≤ fault_0 ∧ fault_0 ≤ 5) (kz_0_9 : 0 ≤ faultPlace_0 ∧ faultPlace_0 ≤ 2000) (kz_0_10 : 0 ≤ limit_0 ∧ limit_0 ≤ 2000) (kz_0_11 : 0 ≤ pos_0 ∧ pos_0 ≤ 2000) (kz_0_12 : 0 ≤ kind_0 ∧ kind_0 ≤ 4) (kz_0_13 : 0 ≤ place_0 ∧ place_0 ≤ 2000) (kz_0_14 : (-49) ≤ value_0 ∧ value_0 ≤ 1048575) (kz_0_15 : 0 ≤ from_0 ∧ from_0 ≤ 2000) (ex2 : gx = fault_0) : FSX (limit_0) (tape_0) (x27) (x28) := by
  first | (have el_x17 : x17 = x15 := by omega); subst el_x17 | skip
  first | (have el_x18 : x18 = x4 := by omega); subst el_x18 | skip
  first | (have el_x19 : x19 = x5 := by omega); subst el_x19 | skip
  first | (have el_x20 : x20 = x6 := by omega); subst el_x20 | skip
  first | subst g0 | skip
  first | subst g1 | skip
  first | subst g3 | skip
  first | subst g5 | skip
  first | subst ex2 | skip
  first
    | exact fsx_cg (of_nv_s ‹zO11s _ _ _ _ _ _ _ _ _ _ _ _ _ _› (by omega) (by omega) (by omega)) (by omega) (by omega)
    | exact fsx_cg (of_nv_w ‹zO11w _ _ _ _ _ _ _ _ _ _ _ _ _ _› (by omega) (by omega) (by omega)) (by omega) (by omega)
    | (exfalso; omega)
set_option maxHeartbeats 4000000 in
theorem vc_Mo_of_at_s5003_9_1 (x17 : Int) (x21 : Int) (fault_0 : Int) (kind_0 : Int) (from_0 : Int) (pos_0 : Int) (tape_0 : Int → Int) (gx : Int) (k17 : 0 ≤ x17 ∧ x17 ≤ 2000) (k21 : 0 ≤ x21 ∧ x21 ≤ 0) (g3 : x21 = fault_0) (f23 : ((kind_0 = 1) → (pos_0 ≤ (from_0 + 8))) ∧ ((kind_0 = 0) ∨ ((from_0 + 1) ≤ pos_0))) (f25 : (1 ≤ fault_0) ∨ ((x17 + 1) ≤ pos_0)) (hK_0_1 : ∀ j : Int, 0 ≤ j → j < 2000 → (-128) ≤ tape_0 j ∧ tape_0 j ≤ 127) (kz_0_8 : 0 ≤ fault_0 ∧ fault_0 ≤ 5) (kz_0_11 : 0 ≤ pos_0 ∧ pos_0 ≤ 2000) (kz_0_12 : 0 ≤ kind_0 ∧ kind_0 ≤ 4) (kz_0_15 : 0 ≤ from_0 ∧ from_0 ≤ 2000) (ex2 : gx = fault_0) : 1 * fault_0 + ((-1) * gx + 0) ≤ 0 := by
  first | with_reducible assumption | ((have f23_c0 := f23.1); (have f23_c1 := f23.2); (try and_intros) <;> first | with_reducible assumption | (clear f23_c0 f23_c1 f23 f25 hK_0_1; omega)) | ((have f23_c0 := f23.1); (have f23_c1 := f23.2); (try and_intros) <;> first | with_reducible assumption | (clear f23_c0 f23_c1 f23 hK_0_1; omega)) | omega
set_option maxHeartbeats 4000000 in
theorem vc_Mo_of_at_s5003_9_2 (x17 : Int) (x21 : Int) (fault_0 : Int) (kind_0 : Int) (from_0 : Int) (pos_0 : Int) (tape_0 : Int → Int) (gx : Int) (k17 : 0 ≤ x17 ∧ x17 ≤ 2000) (k21 : 0 ≤ x21 ∧ x21 ≤ 0) (g3 : x21 = fault_0) (f23 : ((kind_0 = 1) → (pos_0 ≤ (from_0 + 8))) ∧ ((kind_0 = 0) ∨ ((from_0 + 1) ≤ pos_0))) (f25 : (1 ≤ fault_0) ∨ ((x17 + 1) ≤ pos_0)) (hK_0_1 : ∀ j : Int, 0 ≤ j → j < 2000 → (-128) ≤ tape_0 j ∧ tape_0 j ≤ 127) (kz_0_8 : 0 ≤ fault_0 ∧ fault_0 ≤ 5) (kz_0_11 : 0 ≤ pos_0 ∧ pos_0 ≤ 2000) (kz_0_12 : 0 ≤ kind_0 ∧ kind_0 ≤ 4) (kz_0_15 : 0 ≤ from_0 ∧ from_0 ≤ 2000) (ex2 : gx = fault_0) : (-1) * fault_0 + (1 * gx + 0) ≤ 0 := by
  first | with_reducible assumption | ((have f23_c0 := f23.1); (have f23_c1 := f23.2); (try and_intros) <;> first | with_reducible assumption | (clear f23_c0 f23_c1 f23 f25 hK_0_1; omega)) | ((have f23_c0 := f23.1); (have f23_c1 := f23.2); (try and_intros) <;> first | with_reducible assumption | (clear f23_c0 f23_c1 f23 hK_0_1; omega)) | omega
set_option maxHeartbeats 4000000 in
theorem vc_Mo_of_at_s5003_9_3 (x21 : Int) (fault_0 : Int) (gx : Int) (k21 : 0 ≤ x21 ∧ x21 ≤ 0) (g3 : x21 = fault_0) (kz_0_8 : 0 ≤ fault_0 ∧ fault_0 ≤ 5) (ex2 : gx = fault_0) : ZH0 (gx) := by
  first
    | exact ⟨by omega, by omega, trivial⟩
    | (have h := (oi_0_s ‹zOIs _ _ _ _ _ _ _ _ _ _ _ _ _ _›).1; exact ⟨by omega, by omega, trivial⟩)
    | (have h := (oi_0_w ‹zOIw _ _ _ _ _ _ _ _ _ _ _ _ _ _›).1; exact ⟨by omega, by omega, trivial⟩)
    | (exfalso; omega)
def o_Mo_of_at_s5003_9 : or_T := (118, 29, [(0, (2, 0, 0, [165])), (2, (0, 9, 9, [])), (3, (0, 0, 2000, [])), (4, (0, -1, 48, [])), (5, (0, 0, 7, [])), (6, (0, 0, 4, [])), (7, (2, 0, 0, [165])), (9, (0, 9, 9, [])), (11, (0, 0, 2000, [])), (15, (0, 0, 2000, [])), (17, (0, 0, 2000, [])), (18, (0, -1, 48, [])), (19, (0, 0, 7, [])), (20, (0, 0, 4, [])), (21, (0, 0, 0, [])), (22, (0, 2, 2, [])), (23, (0, 2, 2, [])), (24, (0, -49, 0, [])), (27, (0, 5, 5, [])), (28, (0, 0, 2000, []))], [(9, [28, 7], [13]), (9, [24, 7], [14]), (8, [21], [0]), (9, [21, 7], [8]), (7, [22, 23], [0]), (9, [22, 7], [12]), (8, [21], [0]), (23, [17, 15], [0, 1, -1]), (23, [17, 15], [0, -1, 1]), (23, [18, 4], [0, 1, -1]), (23, [18, 4], [0, -1, 1]), (23, [19, 5], [0, 1, -1]), (23, [19, 5], [0, -1, 1]), (23, [20, 6], [0, 1, -1]), (23, [20, 6], [0, -1, 1]), (23, [3, 17], [-1, 1, -1]), (23, [11, 17], [-2000, -1, -1]), (23, [3, 15], [-1, 1, -1]), (23, [11, 15], [-2000, -1, -1]), (23, [4], [0, -1]), (24, [0, 7], []), (24, [2, 9], []), (20, [7, 7], [30, 0, 1, 1, 15, -1, 1, 11]), (20, [7], [50, 3, 0, 12, 11, 15, 2, 21, 4, 7, 1, 3, 2, 0, 12, 0, 1, 0, 3, 2, 0, 11, 4, 3, 2, 0, 15, 0, 8, 3, 7, 1, 3, 2, 0, 12, 0, 0, 0, 7, 4, 3, 2, 0, 15, 0, 1, 2, 0, 11]), (20, [17, 7], [30, 0, 1, 0, 0, -1, 1, 11]), (20, [7, 17], [50, 2, 0, 8, 11, 3, 7, 0, 2, 0, 1, 2, 0, 8, 0, 6, 4, 2, 1, 1, 0, 1, 2, 0, 11]), (20, [7, 18, 19, 20], [60, 9, 2, 1025, 10, 11, 12, 13, 14, 15, 8, 9, 5, 1, 2]), (102, [20], [0, 165008, 165009, 165011, 165012, 165013, 165014, 165015]), (23, [17, 15], [0, 1, -1]), (23, [17, 15], [0, -1, 1]), (23, [18, 4], [0, 1, -1]), (23, [18, 4], [0, -1, 1]), (23, [19, 5], [0, 1, -1]), (23, [19, 5], [0, -1, 1]), (23, [20, 6], [0, 1, -1]), (23, [20, 6], [0, -1, 1]), (23, [3, 17], [-1, 1, -1]), (23, [11, 17], [-2000, -1, -1]), (23, [3, 15], [-1, 1, -1]), (23, [11, 15], [-2000, -1, -1]), (23, [4], [0, -1]), (102, [15], [0, 165011, 165012, 165013, 165014, 165015]), (23, [3, 15], [-1, 1, -1]), (23, [11, 15], [-2000, -1, -1]), (23, [4], [0, -1]), (102, [13], [0]), (23, [4], [0, -1])], [], [(0, 0, 5, [])], [(20, [7, 27, 28], [60, 1, 1, 1026, 10, 1]), (20, [7, 29], [30, 0, 1, 1, 8, -1, 0, 0]), (20, [7, 29], [30, 0, -1, 1, 8, 1, 0, 0]), (20, [29], [61, 0, 1029])], [], [])
theorem oo_Mo_of_at_s5003_9 {kA : Nat → ClassId} : or_ok PRD kA GG o_Mo_of_at_s5003_9 := by
  refine or_mk fun A ta ws vs hD hth hl => ?_
  intro t0 r0 t2 k2 t3 k3 t4 k4 t5 k5 t6 k6 t7 r7 t9 k9 t11 k11 t15 k15 t17 k17 t18 k18 t19 k19 t20 k20 t21 k21 t22 k22 t23 k23 t24 k24 t27 k27 t28 k28 f0 f1 f2 f3 f4 f5 f6 f7 f8 f9 f10 f11 f12 f13 f14 f15 f16 f17 f18 f19 f20 f21 f22 f23 f24 f25 f26 ta1 w1 le1 s1 f28 f29 f30 f31 f32 f33 f34 f35 f36 f37 f38 f39 f40 ta2 w2 le2 s2 f42 f43 f44 ta3 w3 le3 s3 f46
  replace f0 := shm_361 f0
  replace f1 := shm_115 f1
  replace f3 := shm_293 f3
  replace f5 := shm_103 f5
  replace f6 := shm_192 f6
  replace f7 := shm_7 f7
  replace f8 := shm_22 f8
  replace f9 := shm_7 f9
  replace f10 := shm_22 f10
  replace f11 := shm_7 f11
  replace f12 := shm_22 f12
  replace f13 := shm_7 f13
  replace f14 := shm_22 f14
  replace f20 := shm_5 f20
  replace f23 := shm_1438 f23
  replace f25 := shm_1726 f25
  replace f26 := shm_1744 f26
  have q7 : n_v vs 7 = n_v vs 0 := f20.symm
  simp only [q7] at f0 f1 f3 f5 f23 f25 f26
  have cr_0_1 := fdq_39 hD hth r0
  have g0 : v_iv (n_v vs 28) = w_fi ws (n_v vs 0) 13 := congrArg v_iv f0
  have g1 : v_iv (n_v vs 24) = w_fi ws (n_v vs 0) 14 := congrArg v_iv f1
  have g3 : v_iv (n_v vs 21) = w_fi ws (n_v vs 0) 8 := congrArg v_iv f3
  have g5 : v_iv (n_v vs 22) = w_fi ws (n_v vs 0) 12 := congrArg v_iv f5
  have hK_0_1 := elq_7 hD hth cr_0_1
  have kz_0_8 := fdq_34 hD hth r0
  have kz_0_9 := fdq_44 hD hth r0
  have kz_0_10 := fdq_43 hD hth r0
  have kz_0_11 := fdq_237 hD hth r0
  have kz_0_12 := fdq_187 hD hth r0
  have kz_0_13 := fdq_238 hD hth r0
  have kz_0_14 := fdq_188 hD hth r0
  have kz_0_15 := fdq_239 hD hth r0
  obtain ⟨x, ex, hx⟩ := iv_ex (ta := ta) (lo := 0) (hi := 5) (z := w_fi ws (n_v vs 0) 8) (by omega) (by omega) (by omega) (by omega)
  have ex2 : v_iv (Value.int x) = w_fi ws (n_v vs 0) 8 := ex
  have ex3 : 0 ≤ v_iv (Value.int x) ∧ v_iv (Value.int x) ≤ 5 := tv_rng hx
  have e_7 : n_v (vs ++ [Value.int x]) 7 = n_v vs 7 := n_v_old (by rw [hl]; decide)
  have e_27 : n_v (vs ++ [Value.int x]) 27 = n_v vs 27 := n_v_old (by rw [hl]; decide)
  have e_28 : n_v (vs ++ [Value.int x]) 28 = n_v vs 28 := n_v_old (by rw [hl]; decide)
  have e_29 : n_v (vs ++ [Value.int x]) 29 = Value.int x := n_v_new hl
  have nf0 : fc_1 PRD (20, [7, 27, 28], [60, 1, 1, 1026, 10, 1]) ws (vs ++ [Value.int x]) := by
    refine ⟨nf_inA hl rfl, sgq_1724 ?_⟩
    · show FSX (w_fi ws (n_v (vs ++ [Value.int x]) 7) 10) (w_ei ws (w_ar ws (n_v (vs ++ [Value.int x]) 7) 1)) (v_iv (n_v (vs ++ [Value.int x]) 27)) (v_iv (n_v (vs ++ [Value.int x]) 28))
      simp only [e_7, e_27, e_28, q7]
      exact vc_Mo_of_at_s5003_9_0 (v_iv (n_v vs 4)) (v_iv (n_v vs 5)) (v_iv (n_v vs 6)) (v_iv (n_v vs 15)) (v_iv (n_v vs 17)) (v_iv (n_v vs 18)) (v_iv (n_v vs 19)) (v_iv (n_v vs 20)) (v_iv (n_v vs 21)) (v_iv (n_v vs 22)) (v_iv (n_v vs 24)) (v_iv (n_v vs 27)) (v_iv (n_v vs 28)) (w_fi ws (n_v vs 0) 13) (w_fi ws (n_v vs 0) 14) (w_fi ws (n_v vs 0) 8) (w_fi ws (n_v vs 0) 12) (w_fi ws (n_v vs 0) 15) (w_fi ws (n_v vs 0) 11) (w_ei ws (w_ar ws (n_v vs 0) 1)) (w_ei ws (w_ar ws (n_v vs 0) 2)) (w_fi ws (n_v vs 0) 10) (w_fi ws (n_v vs 0) 9) (w_fi ws (n_v vs 0) 5) (v_iv (Value.int x)) k4 k5 k6 k15 k17 k18 k19 k20 k21 k22 k24 k27 k28 g0 g1 g3 g5 f6 f7 f8 f9 f10 f11 f12 f13 f14 f26 kz_0_8 kz_0_9 kz_0_10 kz_0_11 kz_0_12 kz_0_13 kz_0_14 kz_0_15 ex2
  have nf1 : fc_1 PRD (20, [7, 29], [30, 0, 1, 1, 8, -1, 0, 0]) ws (vs ++ [Value.int x]) := by
    refine ⟨nf_inA hl rfl, sgq_303 ?_⟩
    · show 1 * w_fi ws (n_v (vs ++ [Value.int x]) 7) 8 + ((-1) * v_iv (n_v (vs ++ [Value.int x]) 29) + 0) ≤ 0
      simp only [e_7, e_29, q7]
      exact vc_Mo_of_at_s5003_9_1 (v_iv (n_v vs 17)) (v_iv (n_v vs 21)) (w_fi ws (n_v vs 0) 8) (w_fi ws (n_v vs 0) 12) (w_fi ws (n_v vs 0) 15) (w_fi ws (n_v vs 0) 11) (w_ei ws (w_ar ws (n_v vs 0) 1)) (v_iv (Value.int x)) k17 k21 g3 f23 f25 hK_0_1 kz_0_8 kz_0_11 kz_0_12 kz_0_15 ex2
  have nf2 : fc_1 PRD (20, [7, 29], [30, 0, -1, 1, 8, 1, 0, 0]) ws (vs ++ [Value.int x]) := by
    refine ⟨nf_inA hl rfl, sgq_304 ?_⟩
    · show (-1) * w_fi ws (n_v (vs ++ [Value.int x]) 7) 8 + (1 * v_iv (n_v (vs ++ [Value.int x]) 29) + 0) ≤ 0
      simp only [e_7, e_29, q7]
      exact vc_Mo_of_at_s5003_9_2 (v_iv (n_v vs 17)) (v_iv (n_v vs 21)) (w_fi ws (n_v vs 0) 8) (w_fi ws (n_v vs 0) 12) (w_fi ws (n_v vs 0) 15) (w_fi ws (n_v vs 0) 11) (w_ei ws (w_ar ws (n_v vs 0) 1)) (v_iv (Value.int x)) k17 k21 g3 f23 f25 hK_0_1 kz_0_8 kz_0_11 kz_0_12 kz_0_15 ex2
  have nf3 : fc_1 PRD (20, [29], [61, 0, 1029]) ws (vs ++ [Value.int x]) := by
    refine ⟨nf_inA hl rfl, sgq_1725 ?_⟩
    · show ZH0 (v_iv (n_v (vs ++ [Value.int x]) 29))
      rw [e_29]
      exact vc_Mo_of_at_s5003_9_3 (v_iv (n_v vs 21)) (w_fi ws (n_v vs 0) 8) (v_iv (Value.int x)) k21 g3 kz_0_8 ex2
  exact ⟨(fun _ h => (by cases h)), [Value.int x], ag_one hx, List.forall_mem_cons.mpr ⟨⟨show (20 : Nat) < 100 from by decide, nf0⟩, List.forall_mem_cons.mpr ⟨⟨show (20 : Nat) < 100 from by decide, nf1⟩, List.forall_mem_cons.mpr ⟨⟨show (20 : Nat) < 100 from by decide, nf2⟩, List.forall_mem_cons.mpr ⟨⟨show (20 : Nat) < 100 from by decide, nf3⟩, (fun _ h => (by cases h))⟩⟩⟩⟩, (fun _ h => (by cases h))⟩
set_option maxHeartbeats 4000000 in
theorem vc_Mo_of_at_s5003_10_0 (x2 : Int) (x24 : Int) (x27 : Int) (x28 : Int) (x29 : Int) (x30 : Int) (kind_0 : Int) (fault_0 : Int) (tape_0 : Int → Int) (from_0 : Int) (pos_0 : Int) (faultPlace_0 : Int) (k2 : 9 ≤ x2 ∧ x2 ≤ 9) (k24 : (-49) ≤ x24 ∧ x24 ≤ 0) (k27 : 5 ≤ x27 ∧ x27 ≤ 5) (k28 : 0 ≤ x28 ∧ x28 ≤ 2000) (k29 : 0 ≤ x29 ∧ x29 ≤ 5) (k30 : 0 ≤ x30 ∧ x30 ≤ 0) (g4 : x30 = fault_0) (f18 : ((kind_0 = 1) → (pos_0 ≤ (from_0 + 8))) ∧ ((kind_0 = 0) ∨ ((from_0 + 1) ≤ pos_0))) (f20 : (-1) * fault_0 + 0 ≤ (-1)) (f21 : ((1 ≤ x29) ∧ (fault_0 = x29)) ∨ ((x29 = 0) ∧ ((fault_0 = x27) ∧ (faultPlace_0 = x28)))) (hK_0_1 : ∀ j : Int, 0 ≤ j → j < 2000 → (-128) ≤ tape_0 j ∧ tape_0 j ≤ 127) (kz_0_8 : 0 ≤ fault_0 ∧ fault_0 ≤ 5) (kz_0_9 : 0 ≤ faultPlace_0 ∧ faultPlace_0 ≤ 2000) (kz_0_11 : 0 ≤ pos_0 ∧ pos_0 ≤ 2000) (kz_0_12 : 0 ≤ kind_0 ∧ kind_0 ≤ 4) (kz_0_15 : 0 ≤ from_0 ∧ from_0 ≤ 2000) : 1 * x24 + ((-1) * x2 + 0) ≤ 0 := by
  first | with_reducible assumption | ((have f18_c0 := f18.1); (have f18_c1 := f18.2); (try and_intros) <;> first | with_reducible assumption | (clear f18_c0 f18_c1 f18 f21 hK_0_1; omega)) | ((have f18_c0 := f18.1); (have f18_c1 := f18.2); (try and_intros) <;> first | with_reducible assumption | (clear f18_c0 f18_c1 f18 hK_0_1; omega)) | omega
set_option maxHeartbeats 4000000 in
theorem vc_Mo_of_at_s5003_10_1 (x24 : Int) (x27 : Int) (x28 : Int) (x29 : Int) (x30 : Int) (kind_0 : Int) (fault_0 : Int) (tape_0 : Int → Int) (from_0 : Int) (pos_0 : Int) (faultPlace_0 : Int) (k24 : (-49) ≤ x24 ∧ x24 ≤ 0) (k27 : 5 ≤ x27 ∧ x27 ≤ 5) (k28 : 0 ≤ x28 ∧ x28 ≤ 2000) (k29 : 0 ≤ x29 ∧ x29 ≤ 5) (k30 : 0 ≤ x30 ∧ x30 ≤ 0) (g4 : x30 = fault_0) (f18 : ((kind_0 = 1) → (pos_0 ≤ (from_0 + 8))) ∧ ((kind_0 = 0) ∨ ((from_0 + 1) ≤ pos_0))) (f20 : (-1) * fault_0 + 0 ≤ (-1)) (f21 : ((1 ≤ x29) ∧ (fault_0 = x29)) ∨ ((x29 = 0) ∧ ((fault_0 = x27) ∧ (faultPlace_0 = x28)))) (hK_0_1 : ∀ j : Int, 0 ≤ j → j < 2000 → (-128) ≤ tape_0 j ∧ tape_0 j ≤ 127) (kz_0_8 : 0 ≤ fault_0 ∧ fault_0 ≤ 5) (kz_0_9 : 0 ≤ faultPlace_0 ∧ faultPlace_0 ≤ 2000) (kz_0_11 : 0 ≤ pos_0 ∧ pos_0 ≤ 2000) (kz_0_12 : 0 ≤ kind_0 ∧ kind_0 ≤ 4) (kz_0_15 : 0 ≤ from_0 ∧ from_0 ≤ 2000) : (-1) * x24 + 0 ≤ 0 := by
  first | with_reducible assumption | ((have f18_c0 := f18.1); (have f18_c1 := f18.2); (try and_intros) <;> first | with_reducible assumption | (clear f18_c0 f18_c1 f18 f21 hK_0_1; omega)) | ((have f18_c0 := f18.1); (have f18_c1 := f18.2); (try and_intros) <;> first | with_reducible assumption | (clear f18_c0 f18_c1 f18 hK_0_1; omega)) | omega
def o_Mo_of_at_s5003_10 : or_T := (135, 31, [(0, (2, 0, 0, [165])), (2, (0, 9, 9, [])), (3, (0, 0, 2000, [])), (7, (2, 0, 0, [165])), (9, (0, 9, 9, [])), (10, (0, -49, 0, [])), (11, (0, 0, 2000, [])), (15, (0, 0, 2000, [])), (17, (0, 0, 2000, [])), (22, (0, 2, 2, [])), (23, (0, 2, 2, [])), (24, (0, -49, 0, [])), (27, (0, 5, 5, [])), (28, (0, 0, 2000, [])), (29, (0, 0, 5, [])), (30, (0, 0, 0, []))], [(9, [28, 7], [13]), (9, [22, 7], [12]), (9, [24, 7], [14]), (8, [30], [5]), (9, [30, 7], [8]), (20, [7, 27, 28], [60, 1, 1, 1026, 10, 1]), (20, [29], [61, 0, 1029]), (23, [17, 15], [0, 1, -1]), (23, [17, 15], [0, -1, 1]), (23, [3, 17], [-1, 1, -1]), (23, [11, 17], [-2000, -1, -1]), (23, [3, 15], [-1, 1, -1]), (23, [11, 15], [-2000, -1, -1]), (23, [10, 9], [0, 1, -1]), (23, [10], [0, -1]), (24, [0, 7], []), (24, [2, 9], []), (20, [7, 7], [30, 0, 1, 1, 15, -1, 1, 11]), (20, [7], [50, 3, 0, 12, 11, 15, 2, 21, 4, 7, 1, 3, 2, 0, 12, 0, 1, 0, 3, 2, 0, 11, 4, 3, 2, 0, 15, 0, 8, 3, 7, 1, 3, 2, 0, 12, 0, 0, 0, 7, 4, 3, 2, 0, 15, 0, 1, 2, 0, 11]), (20, [17, 7], [30, 0, 1, 0, 0, -1, 1, 11]), (20, [7], [30, -1, -1, 1, 8]), (20, [29, 7, 27, 28], [50, 2, 0, 1008, 1009, 3, 15, 2, 6, 0, 2, 0, 1, 1, 0, 1, 3, 2, 1, 8, 1, 0, 2, 6, 1, 2, 1, 0, 0, 0, 2, 7, 1, 3, 2, 1, 8, 1, 2, 1, 3, 2, 1, 9, 1, 3]), (102, [29], [0, 165008, 165009]), (7, [22, 23], [0]), (23, [17, 15], [0, 1, -1]), (23, [17, 15], [0, -1, 1]), (23, [3, 17], [-1, 1, -1]), (23, [11, 17], [-2000, -1, -1]), (23, [3, 15], [-1, 1, -1]), (23, [11, 15], [-2000, -1, -1]), (23, [10, 9], [0, 1, -1]), (23, [10], [0, -1]), (102, [20], [0, 165008, 165009, 165011, 165012, 165013, 165014, 165015]), (23, [17, 15], [0, 1, -1]), (23, [17, 15], [0, -1, 1]), (23, [3, 17], [-1, 1, -1]), (23, [11, 17], [-2000, -1, -1]), (23, [3, 15], [-1, 1, -1]), (23, [11, 15], [-2000, -1, -1]), (23, [10, 9], [0, 1, -1]), (23, [10], [0, -1]), (102, [15], [0, 165011, 165012, 165013, 165014, 165015]), (23, [3, 15], [-1, 1, -1]), (23, [11, 15], [-2000, -1, -1]), (8, [10], [5]), (23, [10, 9], [0, 1, -1]), (23, [10], [0, -1]), (102, [13], [0]), (23, [10, 9], [0, 1, -1]), (23, [10], [0, -1])], [], [], [(23, [24, 9], [0, 1, -1]), (23, [24], [0, -1])], [], [])
theorem oo_Mo_of_at_s5003_10 {kA : Nat → ClassId} : or_ok PRD kA GG o_Mo_of_at_s5003_10 := by
  refine or_mk fun A ta ws vs hD hth hl => ?_
  intro t0 r0 t2 k2 t3 k3 t7 r7 t9 k9 t10 k10 t11 k11 t15 k15 t17 k17 t22 k22 t23 k23 t24 k24 t27 k27 t28 k28 t29 k29 t30 k30 f0 f1 f2 f3 f4 f5 f6 f7 f8 f9 f10 f11 f12 f13 f14 f15 f16 f17 f18 f19 f20 f21 ta1 w1 le1 s1 f23 f24 f25 f26 f27 f28 f29 f30 f31 ta2 w2 le2 s2 f33 f34 f35 f36 f37 f38 f39 f40 ta3 w3 le3 s3 f42 f43 f44 f45 f46 ta4 w4 le4 s4 f48 f49
  replace f4 := shm_293 f4
  replace f15 := shm_5 f15
  replace f16 := shm_5 f16
  replace f18 := shm_1438 f18
  replace f20 := shm_305 f20
  replace f21 := shm_306 f21
  have q7 : n_v vs 7 = n_v vs 0 := f15.symm
  have q9 : n_v vs 9 = n_v vs 2 := f16.symm
  simp only [q7] at f4 f18 f20 f21
  have cr_0_1 := fdq_39 hD hth r0
  have g4 : v_iv (n_v vs 30) = w_fi ws (n_v vs 0) 8 := congrArg v_iv f4
  have hK_0_1 := elq_7 hD hth cr_0_1
  have kz_0_8 := fdq_34 hD hth r0
  have kz_0_9 := fdq_44 hD hth r0
  have kz_0_11 := fdq_237 hD hth r0
  have kz_0_12 := fdq_187 hD hth r0
  have kz_0_15 := fdq_239 hD hth r0
  have nf0 : fc_1 PRD (23, [24, 9], [0, 1, -1]) ws (vs) := by
    refine ⟨nf_in hl rfl, sgq_7 ?_⟩
    · show 1 * v_iv (n_v vs 24) + ((-1) * v_iv (n_v vs 9) + 0) ≤ 0
      rw [q9]
      exact vc_Mo_of_at_s5003_10_0 (v_iv (n_v vs 2)) (v_iv (n_v vs 24)) (v_iv (n_v vs 27)) (v_iv (n_v vs 28)) (v_iv (n_v vs 29)) (v_iv (n_v vs 30)) (w_fi ws (n_v vs 0) 12) (w_fi ws (n_v vs 0) 8) (w_ei ws (w_ar ws (n_v vs 0) 1)) (w_fi ws (n_v vs 0) 15) (w_fi ws (n_v vs 0) 11) (w_fi ws (n_v vs 0) 9) k2 k24 k27 k28 k29 k30 g4 f18 f20 f21 hK_0_1 kz_0_8 kz_0_9 kz_0_11 kz_0_12 kz_0_15
  have nf1 : fc_1 PRD (23, [24], [0, -1]) ws (vs) := ⟨nf_in hl rfl, sgq_1043 (vc_Mo_of_at_s5003_10_1 (v_iv (n_v vs 24)) (v_iv (n_v vs 27)) (v_iv (n_v vs 28)) (v_iv (n_v vs 29)) (v_iv (n_v vs 30)) (w_fi ws (n_v vs 0) 12) (w_fi ws (n_v vs 0) 8) (w_ei ws (w_ar ws (n_v vs 0) 1)) (w_fi ws (n_v vs 0) 15) (w_fi ws (n_v vs 0) 11) (w_fi ws (n_v vs 0) 9) k24 k27 k28 k29 k30 g4 f18 f20 f21 hK_0_1 kz_0_8 kz_0_9 kz_0_11 kz_0_12 kz_0_15)⟩
  refine ⟨(fun _ h => (by cases h)), [], trivial, ?_, (fun _ h => (by cases h))⟩
  rw [List.append_nil]
  exact List.forall_mem_cons.mpr ⟨⟨show (23 : Nat) < 100 from by decide, nf0⟩, List.forall_mem_cons.mpr ⟨⟨show (23 : Nat) < 100 from by decide, nf1⟩, (fun _ h => (by cases h))⟩⟩
set_option maxHeartbeats 4000000 in
theorem vc_Mo_of_at_s5003_11_0 (x27 : Int) (x28 : Int) (x29 : Int) (x30 : Int) (kind_0 : Int) (fault_0 : Int) (tape_0 : Int → Int) (from_0 : Int) (pos_0 : Int) (faultPlace_0 : Int) (gx : Int) (k27 : 5 ≤ x27 ∧ x27 ≤ 5) (k28 : 0 ≤ x28 ∧ x28 ≤ 2000) (k29 : 0 ≤ x29 ∧ x29 ≤ 5) (k30 : 0 ≤ x30 ∧ x30 ≤ 0) (g6 : x30 = fault_0) (f27 : ((kind_0 = 1) → (pos_0 ≤ (from_0 + 8))) ∧ ((kind_0 = 0) ∨ ((from_0 + 1) ≤ pos_0))) (f29 : (-1) * fault_0 + 0 ≤ (-1)) (f30 : ((1 ≤ x29) ∧ (fault_0 = x29)) ∨ ((x29 = 0) ∧ ((fault_0 = x27) ∧ (faultPlace_0 = x28)))) (hK_0_1 : ∀ j : Int, 0 ≤ j → j < 2000 → (-128) ≤ tape_0 j ∧ tape_0 j ≤ 127) (kz_0_8 : 0 ≤ fault_0 ∧ fault_0 ≤ 5) (kz_0_9 : 0 ≤ faultPlace_0 ∧ faultPlace_0 ≤ 2000) (kz_0_11 : 0 ≤ pos_0 ∧ pos_0 ≤ 2000) (kz_0_12 : 0 ≤ kind_0 ∧ kind_0 ≤ 4) (kz_0_15 : 0 ≤ from_0 ∧ from_0 ≤ 2000) : 1 * gx + ((-1) * pos_0 + 0) ≤ 0 := by
  first | with_reducible assumption | ((have f27_c0 := f27.1); (have f27_c1 := f27.2); (try and_intros) <;> first | with_reducible assumption | (clear f27_c0 f27_c1 f27 f30 hK_0_1; omega)) | ((have f27_c0 := f27.1); (have f27_c1 := f27.2); (try and_intros) <;> first | with_reducible assumption | (clear f27_c0 f27_c1 f27 hK_0_1; omega)) | omega
set_option maxHeartbeats 4000000 in
theorem vc_Mo_of_at_s5003_11_1 (x27 : Int) (x28 : Int) (x29 : Int) (kind_0 : Int) (fault_0 : Int) (tape_0 : Int → Int) (from_0 : Int) (pos_0 : Int) (faultPlace_0 : Int) (gx : Int) (k27 : 5 ≤ x27 ∧ x27 ≤ 5) (k28 : 0 ≤ x28 ∧ x28 ≤ 2000) (k29 : 0 ≤ x29 ∧ x29 ≤ 5) (f27 : ((kind_0 = 1) → (pos_0 ≤ (from_0 + 8))) ∧ ((kind_0 = 0) ∨ ((from_0 + 1) ≤ pos_0))) (f30 : ((1 ≤ x29) ∧ (fault_0 = x29)) ∨ ((x29 = 0) ∧ ((fault_0 = x27) ∧ (faultPlace_0 = x28)))) (hK_0_1 : ∀ j : Int, 0 ≤ j → j < 2000 → (-128) ≤ tape_0 j ∧ tape_0 j ≤ 127) (kz_0_8 : 0 ≤ fault_0 ∧ fault_0 ≤ 5) (kz_0_9 : 0 ≤ faultPlace_0 ∧ faultPlace_0 ≤ 2000) (kz_0_11 : 0 ≤ pos_0 ∧ pos_0 ≤ 2000) (kz_0_12 : 0 ≤ kind_0 ∧ kind_0 ≤ 4) (kz_0_15 : 0 ≤ from_0 ∧ from_0 ≤ 2000) (ex2 : gx = pos_0) : gx = pos_0 := by
  first | with_reducible assumption | ((have f27_c0 := f27.1); (have f27_c1 := f27.2); (try and_intros) <;> first | with_reducible assumption | (clear f27_c0 f27_c1 f27 f30 hK_0_1; omega)) | ((have f27_c0 := f27.1); (have f27_c1 := f27.2); (try and_intros) <;> first | with_reducible assumption | (clear f27_c0 f27_c1 f27 hK_0_1; omega)) | omega
set_option maxHeartbeats 4000000 in
theorem vc_Mo_of_at_s5003_11_2 (x4 : Int) (x5 : Int) (x6 : Int) (x15 : Int) (x17 : Int) (x18 : Int) (x19 : Int) (x20 : Int) (x22 : Int) (x24 : Int) (x28 : Int) (x30 : Int) (place_0 : Int) (kind_0 : Int) (value_0 : Int) (fault_0 : Int) (limit_0 : Int) (pos_0 : Int) (gx : Int) (k22 : 2 ≤ x22 ∧ x22 ≤ 2) (k24 : (-49) ≤ x24 ∧ x24 ≤ 0) (k28 : 0 ≤ x28 ∧ x28 ≤ 2000) (k30 : 0 ≤ x30 ∧ x30 ≤ 0) (g0 : x28 = place_0) (g1 : x22 = kind_0) (g4 : x24 = value_0) (g6 : x30 = fault_0) (f29 : (-1) * fault_0 + 0 ≤ (-1)) (kz_0_8 : 0 ≤ fault_0 ∧ fault_0 ≤ 5) (kz_0_10 : 0 ≤ limit_0 ∧ limit_0 ≤ 2000) (kz_0_11 : 0 ≤ pos_0 ∧ pos_0 ≤ 2000) (kz_0_12 : 0 ≤ kind_0 ∧ kind_0 ≤ 4) (kz_0_13 : 0 ≤ place_0 ∧ place_0 ≤ 2000) (kz_0_14 : (-49) ≤ value_0 ∧ value_0 ≤ 1048575) (ex2 : gx = pos_0) : ZLM (limit_0) (pos_0) := by
  first | (have el_x17 : x17 = x15 := by omega); subst el_x17 | skip
  first | (have el_x18 : x18 = x4 := by omega); subst el_x18 | skip
  first | (have el_x19 : x19 = x5 := by omega); subst el_x19 | skip
  first | (have el_x20 : x20 = x6 := by omega); subst el_x20 | skip
  first | subst g0 | skip
  first | subst g1 | skip
  first | subst g4 | skip
  first | subst g6 | skip
  first | subst ex2 | skip
  first
    | exact ob_0_s ‹zOBs _ _ _ _ _ _ _ _ _ _ _ _ _ _› (sgq_t (C := 91) ‹SGQ _ _ _ _ _› (by omega) (by omega)).1
    | exact ob_0_w ‹zOBw _ _ _ _ _ _ _ _ _ _ _ _ _ _› (sgq_t (C := 91) ‹SGQ _ _ _ _ _› (by omega) (by omega)).1
    | exact (oi_0_s ‹zOIs _ _ _ _ _ _ _ _ _ _ _ _ _ _›).2
    | exact (oi_0_w ‹zOIw _ _ _ _ _ _ _ _ _ _ _ _ _ _›).2
    | exact o11_0_s ‹zO11s _ _ _ _ _ _ _ _ _ _ _ _ _ _› (by omega)
    | exact o11_0_w ‹zO11w _ _ _ _ _ _ _ _ _ _ _ _ _ _› (by omega)
    | (exfalso; omega)
set_option maxHeartbeats 4000000 in
theorem vc_Mo_of_at_s5003_11_3 (x3 : Int) (x27 : Int) (x28 : Int) (x29 : Int) (x30 : Int) (kind_0 : Int) (fault_0 : Int) (tape_0 : Int → Int) (from_0 : Int) (pos_0 : Int) (faultPlace_0 : Int) (gx : Int) (k3 : 0 ≤ x3 ∧ x3 ≤ 2000) (k27 : 5 ≤ x27 ∧ x27 ≤ 5) (k28 : 0 ≤ x28 ∧ x28 ≤ 2000) (k29 : 0 ≤ x29 ∧ x29 ≤ 5) (k30 : 0 ≤ x30 ∧ x30 ≤ 0) (g6 : x30 = fault_0) (f27 : ((kind_0 = 1) → (pos_0 ≤ (from_0 + 8))) ∧ ((kind_0 = 0) ∨ ((from_0 + 1) ≤ pos_0))) (f29 : (-1) * fault_0 + 0 ≤ (-1)) (f30 : ((1 ≤ x29) ∧ (fault_0 = x29)) ∨ ((x29 = 0) ∧ ((fault_0 = x27) ∧ (faultPlace_0 = x28)))) (hK_0_1 : ∀ j : Int, 0 ≤ j → j < 2000 → (-128) ≤ tape_0 j ∧ tape_0 j ≤ 127) (kz_0_8 : 0 ≤ fault_0 ∧ fault_0 ≤ 5) (kz_0_9 : 0 ≤ faultPlace_0 ∧ faultPlace_0 ≤ 2000) (kz_0_11 : 0 ≤ pos_0 ∧ pos_0 ≤ 2000) (kz_0_12 : 0 ≤ kind_0 ∧ kind_0 ≤ 4) (kz_0_15 : 0 ≤ from_0 ∧ from_0 ≤ 2000) : 1 * x3 + ((-1) * gx + 0) ≤ (-1) := by
  first | with_reducible assumption | ((have f27_c0 := f27.1); (have f27_c1 := f27.2); (try and_intros) <;> first | with_reducible assumption | (clear f27_c0 f27_c1 f27 f30 hK_0_1; omega)) | ((have f27_c0 := f27.1); (have f27_c1 := f27.2); (try and_intros) <;> first | with_reducible assumption | (clear f27_c0 f27_c1 f27 hK_0_1; omega)) | omega
set_option maxHeartbeats 4000000 in
theorem vc_Mo_of_at_s5003_11_4 (x11 : Int) (x27 : Int) (x28 : Int) (x29 : Int) (x30 : Int) (kind_0 : Int) (fault_0 : Int) (tape_0 : Int → Int) (from_0 : Int) (pos_0 : Int) (faultPlace_0 : Int) (gx : Int) (k11 : 0 ≤ x11 ∧ x11 ≤ 2000) (k27 : 5 ≤ x27 ∧ x27 ≤ 5) (k28 : 0 ≤ x28 ∧ x28 ≤ 2000) (k29 : 0 ≤ x29 ∧ x29 ≤ 5) (k30 : 0 ≤ x30 ∧ x30 ≤ 0) (g6 : x30 = fault_0) (f27 : ((kind_0 = 1) → (pos_0 ≤ (from_0 + 8))) ∧ ((kind_0 = 0) ∨ ((from_0 + 1) ≤ pos_0))) (f29 : (-1) * fault_0 + 0 ≤ (-1)) (f30 : ((1 ≤ x29) ∧ (fault_0 = x29)) ∨ ((x29 = 0) ∧ ((fault_0 = x27) ∧ (faultPlace_0 = x28)))) (hK_0_1 : ∀ j : Int, 0 ≤ j → j < 2000 → (-128) ≤ tape_0 j ∧ tape_0 j ≤ 127) (kz_0_8 : 0 ≤ fault_0 ∧ fault_0 ≤ 5) (kz_0_9 : 0 ≤ faultPlace_0 ∧ faultPlace_0 ≤ 2000) (kz_0_11 : 0 ≤ pos_0 ∧ pos_0 ≤ 2000) (kz_0_12 : 0 ≤ kind_0 ∧ kind_0 ≤ 4) (kz_0_15 : 0 ≤ from_0 ∧ from_0 ≤ 2000) : (-1) * x11 + ((-1) * gx + 0) ≤ (-2001) := by
  first | with_reducible assumption | ((have f27_c0 := f27.1); (have f27_c1 := f27.2); (try and_intros) <;> first | with_reducible assumption | (clear f27_c0 f27_c1 f27 f30 hK_0_1; omega)) | ((have f27_c0 := f27.1); (have f27_c1 := f27.2); (try and_intros) <;> first | with_reducible assumption | (clear f27_c0 f27_c1 f27 hK_0_1; omega)) | omega
set_option maxHeartbeats 4000000 in
theorem vc_Mo_of_at_s5003_11_5 (x4 : Int) (x5 : Int) (x6 : Int) (x15 : Int) (x17 : Int) (x18 : Int) (x19 : Int) (x20 : Int) (x22 : Int) (x24 : Int) (x28 : Int) (x30 : Int) (place_0 : Int) (kind_0 : Int) (value_0 : Int) (fault_0 : Int) (tape_0 : Int → Int) (limit_0 : Int) (pos_0 : Int) (gx : Int) (all_0 : Int → Int) (r_0 : Int) (k4 : (-1) ≤ x4 ∧ x4 ≤ 48) (k5 : 0 ≤ x5 ∧ x5 ≤ 7) (k6 : 0 ≤ x6 ∧ x6 ≤ 4) (k22 : 2 ≤ x22 ∧ x22 ≤ 2) (k24 : (-49) ≤ x24 ∧ x24 ≤ 0) (k28 : 0 ≤ x28 ∧ x28 ≤ 2000) (k30 : 0 ≤ x30 ∧ x30 ≤ 0) (g0 : x28 = place_0) (g1 : x22 = kind_0) (g4 : x24 = value_0) (g6 : x30 = fault_0) (f29 : (-1) * fault_0 + 0 ≤ (-1)) (kz_0_8 : 0 ≤ fault_0 ∧ fault_0 ≤ 5) (kz_0_10 : 0 ≤ limit_0 ∧ limit_0 ≤ 2000) (kz_0_11 : 0 ≤ pos_0 ∧ pos_0 ≤ 2000) (kz_0_12 : 0 ≤ kind_0 ∧ kind_0 ≤ 4) (kz_0_13 : 0 ≤ place_0 ∧ place_0 ≤ 2000) (kz_0_14 : (-49) ≤ value_0 ∧ value_0 ≤ 1048575) (ex2 : gx = pos_0) : zU12w (limit_0) (fault_0) (r_0) (tape_0) (all_0) (x4) (x24) (x5) (x6) (gx) := by
  first | (have el_x17 : x17 = x15 := by omega); subst el_x17 | skip
  first | (have el_x18 : x18 = x4 := by omega); subst el_x18 | skip
  first | (have el_x19 : x19 = x5 := by omega); subst el_x19 | skip
  first | (have el_x20 : x20 = x6 := by omega); subst el_x20 | skip
  first | subst g0 | skip
  first | subst g1 | skip
  first | subst g4 | skip
  first | subst g6 | skip
  first | subst ex2 | skip
  first
    | exact of_val_w ‹zO11w _ _ _ _ _ _ _ _ _ _ _ _ _ _› (by omega) (by omega) (by omega) (by omega) (by omega)
    | (exfalso; omega)
def o_Mo_of_at_s5003_11 : or_T := (136, 31, [(0, (2, 0, 0, [165])), (2, (0, 9, 9, [])), (3, (0, 0, 2000, [])), (4, (0, -1, 48, [])), (5, (0, 0, 7, [])), (6, (0, 0, 4, [])), (7, (2, 0, 0, [165])), (9, (0, 9, 9, [])), (10, (0, -49, 0, [])), (11, (0, 0, 2000, [])), (15, (0, 0, 2000, [])), (17, (0, 0, 2000, [])), (18, (0, -1, 48, [])), (19, (0, 0, 7, [])), (20, (0, 0, 4, [])), (22, (0, 2, 2, [])), (23, (0, 2, 2, [])), (24, (0, -49, 0, [])), (27, (0, 5, 5, [])), (28, (0, 0, 2000, [])), (29, (0, 0, 5, [])), (30, (0, 0, 0, []))], [(9, [28, 7], [13]), (9, [22, 7], [12]), (23, [24, 9], [0, 1, -1]), (23, [24], [0, -1]), (9, [24, 7], [14]), (8, [30], [5]), (9, [30, 7], [8]), (20, [7, 27, 28], [60, 1, 1, 1026, 10, 1]), (20, [29], [61, 0, 1029]), (23, [17, 15], [0, 1, -1]), (23, [17, 15], [0, -1, 1]), (23, [18, 4], [0, 1, -1]), (23, [18, 4], [0, -1, 1]), (23, [19, 5], [0, 1, -1]), (23, [19, 5], [0, -1, 1]), (23, [20, 6], [0, 1, -1]), (23, [20, 6], [0, -1, 1]), (23, [3, 17], [-1, 1, -1]), (23, [11, 17], [-2000, -1, -1]), (23, [3, 15], [-1, 1, -1]), (23, [11, 15], [-2000, -1, -1]), (23, [10, 9], [0, 1, -1]), (23, [10], [0, -1]), (23, [4], [0, -1]), (24, [0, 7], []), (24, [2, 9], []), (20, [7, 7], [30, 0, 1, 1, 15, -1, 1, 11]), (20, [7], [50, 3, 0, 12, 11, 15, 2, 21, 4, 7, 1, 3, 2, 0, 12, 0, 1, 0, 3, 2, 0, 11, 4, 3, 2, 0, 15, 0, 8, 3, 7, 1, 3, 2, 0, 12, 0, 0, 0, 7, 4, 3, 2, 0, 15, 0, 1, 2, 0, 11]), (20, [17, 7], [30, 0, 1, 0, 0, -1, 1, 11]), (20, [7], [30, -1, -1, 1, 8]), (20, [29, 7, 27, 28], [50, 2, 0, 1008, 1009, 3, 15, 2, 6, 0, 2, 0, 1, 1, 0, 1, 3, 2, 1, 8, 1, 0, 2, 6, 1, 2, 1, 0, 0, 0, 2, 7, 1, 3, 2, 1, 8, 1, 2, 1, 3, 2, 1, 9, 1, 3]), (102, [29], [0, 165008, 165009]), (7, [22, 23], [0]), (23, [17, 15], [0, 1, -1]), (23, [17, 15], [0, -1, 1]), (23, [18, 4], [0, 1, -1]), (23, [18, 4], [0, -1, 1]), (23, [19, 5], [0, 1, -1]), (23, [19, 5], [0, -1, 1]), (23, [20, 6], [0, 1, -1]), (23, [20, 6], [0, -1, 1]), (23, [3, 17], [-1, 1, -1]), (23, [11, 17], [-2000, -1, -1]), (23, [3, 15], [-1, 1, -1]), (23, [11, 15], [-2000, -1, -1]), (23, [10, 9], [0, 1, -1]), (23, [10], [0, -1]), (23, [4], [0, -1]), (102, [20], [0, 165008, 165009, 165011, 165012, 165013, 165014, 165015]), (23, [17, 15], [0, 1, -1]), (23, [17, 15], [0, -1, 1]), (23, [18, 4], [0, 1, -1]), (23, [18, 4], [0, -1, 1]), (23, [19, 5], [0, 1, -1]), (23, [19, 5], [0, -1, 1]), (23, [20, 6], [0, 1, -1]), (23, [20, 6], [0, -1, 1]), (23, [3, 17], [-1, 1, -1]), (23, [11, 17], [-2000, -1, -1]), (23, [3, 15], [-1, 1, -1]), (23, [11, 15], [-2000, -1, -1]), (23, [10, 9], [0, 1, -1]), (23, [10], [0, -1]), (23, [4], [0, -1]), (102, [15], [0, 165011, 165012, 165013, 165014, 165015]), (23, [3, 15], [-1, 1, -1]), (23, [11, 15], [-2000, -1, -1]), (8, [10], [5]), (23, [10, 9], [0, 1, -1]), (23, [10], [0, -1]), (23, [4], [0, -1]), (102, [13], [0]), (23, [10, 9], [0, 1, -1]), (23, [10], [0, -1]), (23, [4], [0, -1])], [], [(0, 0, 2000, [])], [(20, [31, 7], [30, 0, 1, 0, 0, -1, 1, 11]), (20, [31, 7], [50, 1, 0, 1011, 1, 2, 1, 0, 2, 1, 11]), (20, [7], [60, 2, 0, 947, 10, 11]), (23, [3, 31], [-1, 1, -1]), (23, [11, 31], [-2001, -1, -1]), (20, [7, 4, 24, 5, 6, 31], [60, 3, 2, 987, 10, 8, 5, 1, 2])], [], [])
theorem oo_Mo_of_at_s5003_11 {kA : Nat → ClassId} : or_ok PRD kA GG o_Mo_of_at_s5003_11 := by
  refine or_mk fun A ta ws vs hD hth hl => ?_
  intro t0 r0 t2 k2 t3 k3 t4 k4 t5 k5 t6 k6 t7 r7 t9 k9 t10 k10 t11 k11 t15 k15 t17 k17 t18 k18 t19 k19 t20 k20 t22 k22 t23 k23 t24 k24 t27 k27 t28 k28 t29 k29 t30 k30 f0 f1 f2 f3 f4 f5 f6 f7 f8 f9 f10 f11 f12 f13 f14 f15 f16 f17 f18 f19 f20 f21 f22 f23 f24 f25 f26 f27 f28 f29 f30 ta1 w1 le1 s1 f32 f33 f34 f35 f36 f37 f38 f39 f40 f41 f42 f43 f44 f45 f46 f47 ta2 w2 le2 s2 f49 f50 f51 f52 f53 f54 f55 f56 f57 f58 f59 f60 f61 f62 f63 ta3 w3 le3 s3 f65 f66 f67 f68 f69 f70 ta4 w4 le4 s4 f72 f73 f74
  replace f0 := shm_361 f0
  replace f1 := shm_103 f1
  replace f4 := shm_115 f4
  replace f6 := shm_293 f6
  replace f24 := shm_5 f24
  replace f27 := shm_1438 f27
  replace f29 := shm_305 f29
  replace f30 := shm_306 f30
  have q7 : n_v vs 7 = n_v vs 0 := f24.symm
  simp only [q7] at f0 f1 f4 f6 f27 f29 f30
  have cr_0_1 := fdq_39 hD hth r0
  have g0 : v_iv (n_v vs 28) = w_fi ws (n_v vs 0) 13 := congrArg v_iv f0
  have g1 : v_iv (n_v vs 22) = w_fi ws (n_v vs 0) 12 := congrArg v_iv f1
  have g4 : v_iv (n_v vs 24) = w_fi ws (n_v vs 0) 14 := congrArg v_iv f4
  have g6 : v_iv (n_v vs 30) = w_fi ws (n_v vs 0) 8 := congrArg v_iv f6
  have hK_0_1 := elq_7 hD hth cr_0_1
  have kz_0_8 := fdq_34 hD hth r0
  have kz_0_9 := fdq_44 hD hth r0
  have kz_0_10 := fdq_43 hD hth r0
  have kz_0_11 := fdq_237 hD hth r0
  have kz_0_12 := fdq_187 hD hth r0
  have kz_0_13 := fdq_238 hD hth r0
  have kz_0_14 := fdq_188 hD hth r0
  have kz_0_15 := fdq_239 hD hth r0
  obtain ⟨x, ex, hx⟩ := iv_ex (ta := ta) (lo := 0) (hi := 2000) (z := w_fi ws (n_v vs 0) 11) (by omega) (by omega) (by omega) (by omega)
  have ex2 : v_iv (Value.int x) = w_fi ws (n_v vs 0) 11 := ex
  have ex3 : 0 ≤ v_iv (Value.int x) ∧ v_iv (Value.int x) ≤ 2000 := tv_rng hx
  have e_3 : n_v (vs ++ [Value.int x]) 3 = n_v vs 3 := n_v_old (by rw [hl]; decide)
  have e_4 : n_v (vs ++ [Value.int x]) 4 = n_v vs 4 := n_v_old (by rw [hl]; decide)
  have e_5 : n_v (vs ++ [Value.int x]) 5 = n_v vs 5 := n_v_old (by rw [hl]; decide)
  have e_6 : n_v (vs ++ [Value.int x]) 6 = n_v vs 6 := n_v_old (by rw [hl]; decide)
  have e_7 : n_v (vs ++ [Value.int x]) 7 = n_v vs 7 := n_v_old (by rw [hl]; decide)
  have e_11 : n_v (vs ++ [Value.int x]) 11 = n_v vs 11 := n_v_old (by rw [hl]; decide)
  have e_24 : n_v (vs ++ [Value.int x]) 24 = n_v vs 24 := n_v_old (by rw [hl]; decide)
  have e_31 : n_v (vs ++ [Value.int x]) 31 = Value.int x := n_v_new hl
  have nf0 : fc_1 PRD (20, [31, 7], [30, 0, 1, 0, 0, -1, 1, 11]) ws (vs ++ [Value.int x]) := by
    refine ⟨nf_inA hl rfl, sgq_1431 ?_⟩
    · show 1 * v_iv (n_v (vs ++ [Value.int x]) 31) + ((-1) * w_fi ws (n_v (vs ++ [Value.int x]) 7) 11 + 0) ≤ 0
      simp only [e_7, e_31, q7]
      exact vc_Mo_of_at_s5003_11_0 (v_iv (n_v vs 27)) (v_iv (n_v vs 28)) (v_iv (n_v vs 29)) (v_iv (n_v vs 30)) (w_fi ws (n_v vs 0) 12) (w_fi ws (n_v vs 0) 8) (w_ei ws (w_ar ws (n_v vs 0) 1)) (w_fi ws (n_v vs 0) 15) (w_fi ws (n_v vs 0) 11) (w_fi ws (n_v vs 0) 9) (v_iv (Value.int x)) k27 k28 k29 k30 g6 f27 f29 f30 hK_0_1 kz_0_8 kz_0_9 kz_0_11 kz_0_12 kz_0_15
  have nf1 : fc_1 PRD (20, [31, 7], [50, 1, 0, 1011, 1, 2, 1, 0, 2, 1, 11]) ws (vs ++ [Value.int x]) := by
    refine ⟨nf_inA hl rfl, sgq_1432 ?_⟩
    · show v_iv (n_v (vs ++ [Value.int x]) 31) = w_fi ws (n_v (vs ++ [Value.int x]) 7) 11
      simp only [e_7, e_31, q7]
      exact vc_Mo_of_at_s5003_11_1 (v_iv (n_v vs 27)) (v_iv (n_v vs 28)) (v_iv (n_v vs 29)) (w_fi ws (n_v vs 0) 12) (w_fi ws (n_v vs 0) 8) (w_ei ws (w_ar ws (n_v vs 0) 1)) (w_fi ws (n_v vs 0) 15) (w_fi ws (n_v vs 0) 11) (w_fi ws (n_v vs 0) 9) (v_iv (Value.int x)) k27 k28 k29 f27 f30 hK_0_1 kz_0_8 kz_0_9 kz_0_11 kz_0_12 kz_0_15 ex2
  have nf2 : fc_1 PRD (20, [7], [60, 2, 0, 947, 10, 11]) ws (vs ++ [Value.int x]) := by
    refine ⟨nf_inA hl rfl, sgq_1433 ?_⟩
    · show ZLM (w_fi ws (n_v (vs ++ [Value.int x]) 7) 10) (w_fi ws (n_v (vs ++ [Value.int x]) 7) 11)
      simp only [e_7, q7]
      exact vc_Mo_of_at_s5003_11_2 (v_iv (n_v vs 4)) (v_iv (n_v vs 5)) (v_iv (n_v vs 6)) (v_iv (n_v vs 15)) (v_iv (n_v vs 17)) (v_iv (n_v vs 18)) (v_iv (n_v vs 19)) (v_iv (n_v vs 20)) (v_iv (n_v vs 22)) (v_iv (n_v vs 24)) (v_iv (n_v vs 28)) (v_iv (n_v vs 30)) (w_fi ws (n_v vs 0) 13) (w_fi ws (n_v vs 0) 12) (w_fi ws (n_v vs 0) 14) (w_fi ws (n_v vs 0) 8) (w_fi ws (n_v vs 0) 10) (w_fi ws (n_v vs 0) 11) (v_iv (Value.int x)) k22 k24 k28 k30 g0 g1 g4 g6 f29 kz_0_8 kz_0_10 kz_0_11 kz_0_12 kz_0_13 kz_0_14 ex2
  have nf3 : fc_1 PRD (23, [3, 31], [-1, 1, -1]) ws (vs ++ [Value.int x]) := by
    refine ⟨nf_inA hl rfl, sgq_193 ?_⟩
    · show 1 * v_iv (n_v (vs ++ [Value.int x]) 3) + ((-1) * v_iv (n_v (vs ++ [Value.int x]) 31) + 0) ≤ (-1)
      simp only [e_3, e_31]
      exact vc_Mo_of_at_s5003_11_3 (v_iv (n_v vs 3)) (v_iv (n_v vs 27)) (v_iv (n_v vs 28)) (v_iv (n_v vs 29)) (v_iv (n_v vs 30)) (w_fi ws (n_v vs 0) 12) (w_fi ws (n_v vs 0) 8) (w_ei ws (w_ar ws (n_v vs 0) 1)) (w_fi ws (n_v vs 0) 15) (w_fi ws (n_v vs 0) 11) (w_fi ws (n_v vs 0) 9) (v_iv (Value.int x)) k3 k27 k28 k29 k30 g6 f27 f29 f30 hK_0_1 kz_0_8 kz_0_9 kz_0_11 kz_0_12 kz_0_15
  have nf4 : fc_1 PRD (23, [11, 31], [-2001, -1, -1]) ws (vs ++ [Value.int x]) := by
    refine ⟨nf_inA hl rfl, sgq_2011 ?_⟩
    · show (-1) * v_iv (n_v (vs ++ [Value.int x]) 11) + ((-1) * v_iv (n_v (vs ++ [Value.int x]) 31) + 0) ≤ (-2001)
      simp only [e_11, e_31]
      exact vc_Mo_of_at_s5003_11_4 (v_iv (n_v vs 11)) (v_iv (n_v vs 27)) (v_iv (n_v vs 28)) (v_iv (n_v vs 29)) (v_iv (n_v vs 30)) (w_fi ws (n_v vs 0) 12) (w_fi ws (n_v vs 0) 8) (w_ei ws (w_ar ws (n_v vs 0) 1)) (w_fi ws (n_v vs 0) 15) (w_fi ws (n_v vs 0) 11) (w_fi ws (n_v vs 0) 9) (v_iv (Value.int x)) k11 k27 k28 k29 k30 g6 f27 f29 f30 hK_0_1 kz_0_8 kz_0_9 kz_0_11 kz_0_12 kz_0_15
  have nf5 : fc_1 PRD (20, [7, 4, 24, 5, 6, 31], [60, 3, 2, 987, 10, 8, 5, 1, 2]) ws (vs ++ [Value.int x]) := by
    refine ⟨nf_inA hl rfl, sgq_2020 ?_⟩
    · show zU12w (w_fi ws (n_v (vs ++ [Value.int x]) 7) 10) (w_fi ws (n_v (vs ++ [Value.int x]) 7) 8) (w_fi ws (n_v (vs ++ [Value.int x]) 7) 5) (w_ei ws (w_ar ws (n_v (vs ++ [Value.int x]) 7) 1)) (w_ei ws (w_ar ws (n_v (vs ++ [Value.int x]) 7) 2)) (v_iv (n_v (vs ++ [Value.int x]) 4)) (v_iv (n_v (vs ++ [Value.int x]) 24)) (v_iv (n_v (vs ++ [Value.int x]) 5)) (v_iv (n_v (vs ++ [Value.int x]) 6)) (v_iv (n_v (vs ++ [Value.int x]) 31))
      simp only [e_4, e_5, e_6, e_7, e_24, e_31, q7]
      exact vc_Mo_of_at_s5003_11_5 (v_iv (n_v vs 4)) (v_iv (n_v vs 5)) (v_iv (n_v vs 6)) (v_iv (n_v vs 15)) (v_iv (n_v vs 17)) (v_iv (n_v vs 18)) (v_iv (n_v vs 19)) (v_iv (n_v vs 20)) (v_iv (n_v vs 22)) (v_iv (n_v vs 24)) (v_iv (n_v vs 28)) (v_iv (n_v vs 30)) (w_fi ws (n_v vs 0) 13) (w_fi ws (n_v vs 0) 12) (w_fi ws (n_v vs 0) 14) (w_fi ws (n_v vs 0) 8) (w_ei ws (w_ar ws (n_v vs 0) 1)) (w_fi ws (n_v vs 0) 10) (w_fi ws (n_v vs 0) 11) (v_iv (Value.int x)) (w_ei ws (w_ar ws (n_v vs 0) 2)) (w_fi ws (n_v vs 0) 5) k4 k5 k6 k22 k24 k28 k30 g0 g1 g4 g6 f29 kz_0_8 kz_0_10 kz_0_11 kz_0_12 kz_0_13 kz_0_14 ex2
  exact ⟨(fun _ h => (by cases h)), [Value.int x], ag_one hx, List.forall_mem_cons.mpr ⟨⟨show (20 : Nat) < 100 from by decide, nf0⟩, List.forall_mem_cons.mpr ⟨⟨show (20 : Nat) < 100 from by decide, nf1⟩, List.forall_mem_cons.mpr ⟨⟨show (20 : Nat) < 100 from by decide, nf2⟩, List.forall_mem_cons.mpr ⟨⟨show (23 : Nat) < 100 from by decide, nf3⟩, List.forall_mem_cons.mpr ⟨⟨show (23 : Nat) < 100 from by decide, nf4⟩, List.forall_mem_cons.mpr ⟨⟨show (20 : Nat) < 100 from by decide, nf5⟩, (fun _ h => (by cases h))⟩⟩⟩⟩⟩⟩, (fun _ h => (by cases h))⟩
set_option maxHeartbeats 4000000 in
theorem vc_Mo_of_at_s5003_12_0 (x27 : Int) (x28 : Int) (x29 : Int) (fault_0 : Int) (tape_0 : Int → Int) (faultPlace_0 : Int) (from_0 : Int) (pos_0 : Int) (kind_0 : Int) (k27 : 5 ≤ x27 ∧ x27 ≤ 5) (k28 : 0 ≤ x28 ∧ x28 ≤ 2000) (k29 : 0 ≤ x29 ∧ x29 ≤ 5) (f26 : ((1 ≤ x29) ∧ (fault_0 = x29)) ∨ ((x29 = 0) ∧ ((fault_0 = x27) ∧ (faultPlace_0 = x28)))) (f27 : 1 * from_0 + ((-1) * pos_0 + 0) ≤ 0) (f28 : ((kind_0 = 1) → (pos_0 ≤ (from_0 + 8))) ∧ ((kind_0 = 0) ∨ ((from_0 + 1) ≤ pos_0))) (hK_0_1 : ∀ j : Int, 0 ≤ j → j < 2000 → (-128) ≤ tape_0 j ∧ tape_0 j ≤ 127) (kz_0_8 : 0 ≤ fault_0 ∧ fault_0 ≤ 5) (kz_0_9 : 0 ≤ faultPlace_0 ∧ faultPlace_0 ≤ 2000) (kz_0_11 : 0 ≤ pos_0 ∧ pos_0 ≤ 2000) (kz_0_12 : 0 ≤ kind_0 ∧ kind_0 ≤ 4) (kz_0_15 : 0 ≤ from_0 ∧ from_0 ≤ 2000) : 1 * from_0 + ((-1) * pos_0 + 0) ≤ 0 := by
  first | with_reducible assumption | ((have f28_c0 := f28.1); (have f28_c1 := f28.2); (try and_intros) <;> first | with_reducible assumption | (clear f26 f28_c0 f28_c1 f28 hK_0_1; omega)) | ((have f28_c0 := f28.1); (have f28_c1 := f28.2); (try and_intros) <;> first | with_reducible assumption | (clear f28_c0 f28_c1 f28 hK_0_1; omega)) | omega
set_option maxHeartbeats 4000000 in
theorem vc_Mo_of_at_s5003_12_1 (x27 : Int) (x28 : Int) (x29 : Int) (fault_0 : Int) (tape_0 : Int → Int) (faultPlace_0 : Int) (from_0 : Int) (pos_0 : Int) (kind_0 : Int) (k27 : 5 ≤ x27 ∧ x27 ≤ 5) (k28 : 0 ≤ x28 ∧ x28 ≤ 2000) (k29 : 0 ≤ x29 ∧ x29 ≤ 5) (f26 : ((1 ≤ x29) ∧ (fault_0 = x29)) ∨ ((x29 = 0) ∧ ((fault_0 = x27) ∧ (faultPlace_0 = x28)))) (f28 : ((kind_0 = 1) → (pos_0 ≤ (from_0 + 8))) ∧ ((kind_0 = 0) ∨ ((from_0 + 1) ≤ pos_0))) (hK_0_1 : ∀ j : Int, 0 ≤ j → j < 2000 → (-128) ≤ tape_0 j ∧ tape_0 j ≤ 127) (kz_0_8 : 0 ≤ fault_0 ∧ fault_0 ≤ 5) (kz_0_9 : 0 ≤ faultPlace_0 ∧ faultPlace_0 ≤ 2000) (kz_0_11 : 0 ≤ pos_0 ∧ pos_0 ≤ 2000) (kz_0_12 : 0 ≤ kind_0 ∧ kind_0 ≤ 4) (kz_0_15 : 0 ≤ from_0 ∧ from_0 ≤ 2000) : ((kind_0 = 1) → (pos_0 ≤ (from_0 + 8))) ∧ ((kind_0 = 0) ∨ ((from_0 + 1) ≤ pos_0)) := by
  first | with_reducible assumption | ((have f28_c0 := f28.1); (have f28_c1 := f28.2); (try and_intros) <;> first | with_reducible assumption | (clear f26 f28_c0 f28_c1 f28 hK_0_1; omega)) | ((have f28_c0 := f28.1); (have f28_c1 := f28.2); (try and_intros) <;> first | with_reducible assumption | (clear f28_c0 f28_c1 f28 hK_0_1; omega)) | omega
set_option maxHeartbeats 4000000 in
theorem vc_Mo_of_at_s5003_12_2 (x3 : Int) (x27 : Int) (x28 : Int) (x29 : Int) (x30 : Int) (fault_0 : Int) (tape_0 : Int → Int) (faultPlace_0 : Int) (from_0 : Int) (pos_0 : Int) (kind_0 : Int) (k3 : 0 ≤ x3 ∧ x3 ≤ 2000) (k27 : 5 ≤ x27 ∧ x27 ≤ 5) (k28 : 0 ≤ x28 ∧ x28 ≤ 2000) (k29 : 0 ≤ x29 ∧ x29 ≤ 5) (k30 : 0 ≤ x30 ∧ x30 ≤ 0) (g0 : x30 = fault_0) (f25 : (-1) * fault_0 + 0 ≤ (-1)) (f26 : ((1 ≤ x29) ∧ (fault_0 = x29)) ∨ ((x29 = 0) ∧ ((fault_0 = x27) ∧ (faultPlace_0 = x28)))) (f28 : ((kind_0 = 1) → (pos_0 ≤ (from_0 + 8))) ∧ ((kind_0 = 0) ∨ ((from_0 + 1) ≤ pos_0))) (hK_0_1 : ∀ j : Int, 0 ≤ j → j < 2000 → (-128) ≤ tape_0 j ∧ tape_0 j ≤ 127) (kz_0_8 : 0 ≤ fault_0 ∧ fault_0 ≤ 5) (kz_0_9 : 0 ≤ faultPlace_0 ∧ faultPlace_0 ≤ 2000) (kz_0_11 : 0 ≤ pos_0 ∧ pos_0 ≤ 2000) (kz_0_12 : 0 ≤ kind_0 ∧ kind_0 ≤ 4) (kz_0_15 : 0 ≤ from_0 ∧ from_0 ≤ 2000) : 1 * x3 + ((-1) * pos_0 + 0) ≤ (-1) := by
  first | with_reducible assumption | ((have f28_c0 := f28.1); (have f28_c1 := f28.2); (try and_intros) <;> first | with_reducible assumption | (clear f26 f28_c0 f28_c1 f28 hK_0_1; omega)) | ((have f28_c0 := f28.1); (have f28_c1 := f28.2); (try and_intros) <;> first | with_reducible assumption | (clear f28_c0 f28_c1 f28 hK_0_1; omega)) | omega
set_option maxHeartbeats 4000000 in
theorem vc_Mo_of_at_s5003_12_3 (x2 : Int) (x24 : Int) (x27 : Int) (x28 : Int) (x29 : Int) (fault_0 : Int) (tape_0 : Int → Int) (faultPlace_0 : Int) (from_0 : Int) (pos_0 : Int) (kind_0 : Int) (k2 : 9 ≤ x2 ∧ x2 ≤ 9) (k24 : (-49) ≤ x24 ∧ x24 ≤ 0) (k27 : 5 ≤ x27 ∧ x27 ≤ 5) (k28 : 0 ≤ x28 ∧ x28 ≤ 2000) (k29 : 0 ≤ x29 ∧ x29 ≤ 5) (f26 : ((1 ≤ x29) ∧ (fault_0 = x29)) ∨ ((x29 = 0) ∧ ((fault_0 = x27) ∧ (faultPlace_0 = x28)))) (f28 : ((kind_0 = 1) → (pos_0 ≤ (from_0 + 8))) ∧ ((kind_0 = 0) ∨ ((from_0 + 1) ≤ pos_0))) (f34 : 1 * x24 + ((-1) * x2 + 0) ≤ 0) (hK_0_1 : ∀ j : Int, 0 ≤ j → j < 2000 → (-128) ≤ tape_0 j ∧ tape_0 j ≤ 127) (kz_0_8 : 0 ≤ fault_0 ∧ fault_0 ≤ 5) (kz_0_9 : 0 ≤ faultPlace_0 ∧ faultPlace_0 ≤ 2000) (kz_0_11 : 0 ≤ pos_0 ∧ pos_0 ≤ 2000) (kz_0_12 : 0 ≤ kind_0 ∧ kind_0 ≤ 4) (kz_0_15 : 0 ≤ from_0 ∧ from_0 ≤ 2000) : 1 * x24 + ((-1) * x2 + 0) ≤ 0 := by
  first | with_reducible assumption | ((have f28_c0 := f28.1); (have f28_c1 := f28.2); (try and_intros) <;> first | with_reducible assumption | (clear f26 f28_c0 f28_c1 f28 hK_0_1; omega)) | ((have f28_c0 := f28.1); (have f28_c1 := f28.2); (try and_intros) <;> first | with_reducible assumption | (clear f28_c0 f28_c1 f28 hK_0_1; omega)) | omega
set_option maxHeartbeats 4000000 in
theorem vc_Mo_of_at_s5003_12_4 (x24 : Int) (x27 : Int) (x28 : Int) (x29 : Int) (fault_0 : Int) (tape_0 : Int → Int) (faultPlace_0 : Int) (from_0 : Int) (pos_0 : Int) (kind_0 : Int) (k24 : (-49) ≤ x24 ∧ x24 ≤ 0) (k27 : 5 ≤ x27 ∧ x27 ≤ 5) (k28 : 0 ≤ x28 ∧ x28 ≤ 2000) (k29 : 0 ≤ x29 ∧ x29 ≤ 5) (f26 : ((1 ≤ x29) ∧ (fault_0 = x29)) ∨ ((x29 = 0) ∧ ((fault_0 = x27) ∧ (faultPlace_0 = x28)))) (f28 : ((kind_0 = 1) → (pos_0 ≤ (from_0 + 8))) ∧ ((kind_0 = 0) ∨ ((from_0 + 1) ≤ pos_0))) (f35 : (-1) * x24 + 0 ≤ 0) (hK_0_1 : ∀ j : Int, 0 ≤ j → j < 2000 → (-128) ≤ tape_0 j ∧ tape_0 j ≤ 127) (kz_0_8 : 0 ≤ fault_0 ∧ fault_0 ≤ 5) (kz_0_9 : 0 ≤ faultPlace_0 ∧ faultPlace_0 ≤ 2000) (kz_0_11 : 0 ≤ pos_0 ∧ pos_0 ≤ 2000) (kz_0_12 : 0 ≤ kind_0 ∧ kind_0 ≤ 4) (kz_0_15 : 0 ≤ from_0 ∧ from_0 ≤ 2000) : (-1) * x24 + 0 ≤ 0 := by
  first | with_reducible assumption | ((have f28_c0 := f28.1); (have f28_c1 := f28.2); (try and_intros) <;> first | with_reducible assumption | (clear f26 f28_c0 f28_c1 f28 hK_0_1; omega)) | ((have f28_c0 := f28.1); (have f28_c1 := f28.2); (try and_intros) <;> first | with_reducible assumption | (clear f28_c0 f28_c1 f28 hK_0_1; omega)) | omega
set_option maxHeartbeats 4000000 in
theorem vc_Mo_of_at_s5003_12_5 (x4 : Int) (x27 : Int) (x28 : Int) (x29 : Int) (fault_0 : Int) (tape_0 : Int → Int) (faultPlace_0 : Int) (from_0 : Int) (pos_0 : Int) (kind_0 : Int) (k4 : (-1) ≤ x4 ∧ x4 ≤ 48) (k27 : 5 ≤ x27 ∧ x27 ≤ 5) (k28 : 0 ≤ x28 ∧ x28 ≤ 2000) (k29 : 0 ≤ x29 ∧ x29 ≤ 5) (f26 : ((1 ≤ x29) ∧ (fault_0 = x29)) ∨ ((x29 = 0) ∧ ((fault_0 = x27) ∧ (faultPlace_0 = x28)))) (f28 : ((kind_0 = 1) → (pos_0 ≤ (from_0 + 8))) ∧ ((kind_0 = 0) ∨ ((from_0 + 1) ≤ pos_0))) (f94 : (-1) * x4 + 0 ≤ 0) (hK_0_1 : ∀ j : Int, 0 ≤ j → j < 2000 → (-128) ≤ tape_0 j ∧ tape_0 j ≤ 127) (kz_0_8 : 0 ≤ fault_0 ∧ fault_0 ≤ 5) (kz_0_9 : 0 ≤ faultPlace_0 ∧ faultPlace_0 ≤ 2000) (kz_0_11 : 0 ≤ pos_0 ∧ pos_0 ≤ 2000) (kz_0_12 : 0 ≤ kind_0 ∧ kind_0 ≤ 4) (kz_0_15 : 0 ≤ from_0 ∧ from_0 ≤ 2000) : (-1) * x4 + 0 ≤ 0 := by
  first | with_reducible assumption | ((have f28_c0 := f28.1); (have f28_c1 := f28.2); (try and_intros) <;> first | with_reducible assumption | (clear f26 f28_c0 f28_c1 f28 hK_0_1; omega)) | ((have f28_c0 := f28.1); (have f28_c1 := f28.2); (try and_intros) <;> first | with_reducible assumption | (clear f28_c0 f28_c1 f28 hK_0_1; omega)) | omega
set_option maxHeartbeats 4000000 in
theorem vc_Mo_of_at_s5003_12_6 (x27 : Int) (x28 : Int) (x29 : Int) (x30 : Int) (fault_0 : Int) (tape_0 : Int → Int) (faultPlace_0 : Int) (from_0 : Int) (pos_0 : Int) (kind_0 : Int) (gx : Int) (k27 : 5 ≤ x27 ∧ x27 ≤ 5) (k28 : 0 ≤ x28 ∧ x28 ≤ 2000) (k29 : 0 ≤ x29 ∧ x29 ≤ 5) (k30 : 0 ≤ x30 ∧ x30 ≤ 0) (g0 : x30 = fault_0) (f25 : (-1) * fault_0 + 0 ≤ (-1)) (f26 : ((1 ≤ x29) ∧ (fault_0 = x29)) ∨ ((x29 = 0) ∧ ((fault_0 = x27) ∧ (faultPlace_0 = x28)))) (f28 : ((kind_0 = 1) → (pos_0 ≤ (from_0 + 8))) ∧ ((kind_0 = 0) ∨ ((from_0 + 1) ≤ pos_0))) (hK_0_1 : ∀ j : Int, 0 ≤ j → j < 2000 → (-128) ≤ tape_0 j ∧ tape_0 j ≤ 127) (kz_0_8 : 0 ≤ fault_0 ∧ fault_0 ≤ 5) (kz_0_9 : 0 ≤ faultPlace_0 ∧ faultPlace_0 ≤ 2000) (kz_0_11 : 0 ≤ pos_0 ∧ pos_0 ≤ 2000) (kz_0_12 : 0 ≤ kind_0 ∧ kind_0 ≤ 4) (kz_0_15 : 0 ≤ from_0 ∧ from_0 ≤ 2000) : (-1) * gx + ((-1) * pos_0 + 0) ≤ (-2001) := by
  first | with_reducible assumption | ((have f28_c0 := f28.1); (have f28_c1 := f28.2); (try and_intros) <;> first | with_reducible assumption | (clear f26 f28_c0 f28_c1 f28 hK_0_1; omega)) | ((have f28_c0 := f28.1); (have f28_c1 := f28.2); (try and_intros) <;> first | with_reducible assumption | (clear f28_c0 f28_c1 f28 hK_0_1; omega)) | omega
set_option maxHeartbeats 4000000 in
theorem vc_Mo_of_at_s5003_12_7 (x4 : Int) (x5 : Int) (x6 : Int) (x15 : Int) (x17 : Int) (x18 : Int) (x19 : Int) (x20 : Int) (x24 : Int) (x30 : Int) (x31 : Int) (fault_0 : Int) (tape_0 : Int → Int) (all_0 : Int → Int) (limit_0 : Int) (r_0 : Int) (from_0 : Int) (pos_0 : Int) (kind_0 : Int) (place_0 : Int) (value_0 : Int) (k4 : (-1) ≤ x4 ∧ x4 ≤ 48) (k5 : 0 ≤ x5 ∧ x5 ≤ 7) (k6 : 0 ≤ x6 ∧ x6 ≤ 4) (k24 : (-49) ≤ x24 ∧ x24 ≤ 0) (k30 : 0 ≤ x30 ∧ x30 ≤ 0) (k31 : 0 ≤ x31 ∧ x31 ≤ 2000) (g0 : x30 = fault_0) (f3 : zU12w (limit_0) (fault_0) (r_0) (tape_0) (all_0) (x4) (x24) (x5) (x6) (x31)) (f25 : (-1) * fault_0 + 0 ≤ (-1)) (f30 : TKR (limit_0) (pos_0) (kind_0) (place_0) (value_0) (from_0) (tape_0) (x31)) (kz_0_8 : 0 ≤ fault_0 ∧ fault_0 ≤ 5) (kz_0_10 : 0 ≤ limit_0 ∧ limit_0 ≤ 2000) (kz_0_11 : 0 ≤ pos_0 ∧ pos_0 ≤ 2000) (kz_0_12 : 0 ≤ kind_0 ∧ kind_0 ≤ 4) (kz_0_13 : 0 ≤ place_0 ∧ place_0 ≤ 2000) (kz_0_14 : (-49) ≤ value_0 ∧ value_0 ≤ 1048575) (kz_0_15 : 0 ≤ from_0 ∧ from_0 ≤ 2000) : zO12w (limit_0) (pos_0) (kind_0) (place_0) (value_0) (from_0) (fault_0) (r_0) (tape_0) (all_0) (x4) (x24) (x5) (x6) := by
  first | (have el_x17 : x17 = x15 := by omega); subst el_x17 | skip
  first | (have el_x18 : x18 = x4 := by omega); subst el_x18 | skip
  first | (have el_x19 : x19 = x5 := by omega); subst el_x19 | skip
  first | (have el_x20 : x20 = x6 := by omega); subst el_x20 | skip
  first | subst g0 | skip
  first
    | exact of_12_w ‹zU12w _ _ _ _ _ _ _ _ _ _› ‹TKR _ _ _ _ _ _ _ _›
    | (exfalso; omega)
def o_Mo_of_at_s5003_12 : or_T := (139, 32, [(0, (2, 0, 0, [165])), (2, (0, 9, 9, [])), (3, (0, 0, 2000, [])), (4, (0, -1, 48, [])), (5, (0, 0, 7, [])), (6, (0, 0, 4, [])), (7, (2, 0, 0, [165])), (9, (0, 9, 9, [])), (10, (0, -49, 0, [])), (11, (0, 0, 2000, [])), (15, (0, 0, 2000, [])), (17, (0, 0, 2000, [])), (18, (0, -1, 48, [])), (19, (0, 0, 7, [])), (20, (0, 0, 4, [])), (24, (0, -49, 0, [])), (27, (0, 5, 5, [])), (28, (0, 0, 2000, [])), (29, (0, 0, 5, [])), (30, (0, 0, 0, [])), (31, (0, 0, 2000, []))], [(9, [30, 7], [8]), (23, [3, 31], [-1, 1, -1]), (23, [11, 31], [-2001, -1, -1]), (20, [7, 4, 24, 5, 6, 31], [60, 3, 2, 987, 10, 8, 5, 1, 2]), (23, [24, 9], [0, 1, -1]), (23, [24], [0, -1]), (20, [7, 27, 28], [60, 1, 1, 1026, 10, 1]), (20, [29], [61, 0, 1029]), (23, [17, 15], [0, 1, -1]), (23, [17, 15], [0, -1, 1]), (23, [18, 4], [0, 1, -1]), (23, [18, 4], [0, -1, 1]), (23, [19, 5], [0, 1, -1]), (23, [19, 5], [0, -1, 1]), (23, [20, 6], [0, 1, -1]), (23, [20, 6], [0, -1, 1]), (23, [3, 17], [-1, 1, -1]), (23, [11, 17], [-2000, -1, -1]), (23, [3, 15], [-1, 1, -1]), (23, [11, 15], [-2000, -1, -1]), (23, [10, 9], [0, 1, -1]), (23, [10], [0, -1]), (23, [4], [0, -1]), (24, [0, 7], []), (24, [2, 9], []), (20, [7], [30, -1, -1, 1, 8]), (20, [29, 7, 27, 28], [50, 2, 0, 1008, 1009, 3, 15, 2, 6, 0, 2, 0, 1, 1, 0, 1, 3, 2, 1, 8, 1, 0, 2, 6, 1, 2, 1, 0, 0, 0, 2, 7, 1, 3, 2, 1, 8, 1, 2, 1, 3, 2, 1, 9, 1, 3]), (20, [7, 7], [30, 0, 1, 1, 15, -1, 1, 11]), (20, [7], [50, 3, 0, 12, 11, 15, 2, 21, 4, 7, 1, 3, 2, 0, 12, 0, 1, 0, 3, 2, 0, 11, 4, 3, 2, 0, 15, 0, 8, 3, 7, 1, 3, 2, 0, 12, 0, 0, 0, 7, 4, 3, 2, 0, 15, 0, 1, 2, 0, 11]), (20, [31, 7], [30, 0, 1, 0, 0, -1, 1, 15]), (20, [7, 31], [60, 6, 1, 948, 10, 11, 12, 13, 14, 15, 1]), (102, [31], [0, 165011, 165012, 165013, 165014, 165015]), (23, [3, 31], [-1, 1, -1]), (23, [11, 31], [-2001, -1, -1]), (23, [24, 9], [0, 1, -1]), (23, [24], [0, -1]), (8, [30], [5]), (23, [17, 15], [0, 1, -1]), (23, [17, 15], [0, -1, 1]), (23, [18, 4], [0, 1, -1]), (23, [18, 4], [0, -1, 1]), (23, [19, 5], [0, 1, -1]), (23, [19, 5], [0, -1, 1]), (23, [20, 6], [0, 1, -1]), (23, [20, 6], [0, -1, 1]), (23, [3, 17], [-1, 1, -1]), (23, [11, 17], [-2000, -1, -1]), (23, [3, 15], [-1, 1, -1]), (23, [11, 15], [-2000, -1, -1]), (23, [10, 9], [0, 1, -1]), (23, [10], [0, -1]), (23, [4], [0, -1]), (102, [29], [0, 165008, 165009]), (23, [17, 15], [0, 1, -1]), (23, [17, 15], [0, -1, 1]), (23, [18, 4], [0, 1, -1]), (23, [18, 4], [0, -1, 1]), (23, [19, 5], [0, 1, -1]), (23, [19, 5], [0, -1, 1]), (23, [20, 6], [0, 1, -1]), (23, [20, 6], [0, -1, 1]), (23, [3, 17], [-1, 1, -1]), (23, [11, 17], [-2000, -1, -1]), (23, [3, 15], [-1, 1, -1]), (23, [11, 15], [-2000, -1, -1]), (23, [10, 9], [0, 1, -1]), (23, [10], [0, -1]), (23, [4], [0, -1]), (102, [20], [0, 165008, 165009, 165011, 165012, 165013, 165014, 165015]), (23, [17, 15], [0, 1, -1]), (23, [17, 15], [0, -1, 1]), (23, [18, 4], [0, 1, -1]), (23, [18, 4], [0, -1, 1]), (23, [19, 5], [0, 1, -1]), (23, [19, 5], [0, -1, 1]), (23, [20, 6], [0, 1, -1]), (23, [20, 6], [0, -1, 1]), (23, [3, 17], [-1, 1, -1]), (23, [11, 17], [-2000, -1, -1]), (23, [3, 15], [-1, 1, -1]), (23, [11, 15], [-2000, -1, -1]), (23, [10, 9], [0, 1, -1]), (23, [10], [0, -1]), (23, [4], [0, -1]), (102, [15], [0, 165011, 165012, 165013, 165014, 165015]), (23, [3, 15], [-1, 1, -1]), (23, [11, 15], [-2000, -1, -1]), (8, [10], [5]), (23, [10, 9], [0, 1, -1]), (23, [10], [0, -1]), (23, [4], [0, -1]), (102, [13], [0]), (23, [10, 9], [0, 1, -1]), (23, [10], [0, -1]), (23, [4], [0, -1])], [], [(0, 0, 2000, [])], [(20, [7, 7], [30, 0, 1, 1, 15, -1, 1, 11]), (20, [7], [50, 3, 0, 12, 11, 15, 2, 21, 4, 7, 1, 3, 2, 0, 12, 0, 1, 0, 3, 2, 0, 11, 4, 3, 2, 0, 15, 0, 8, 3, 7, 1, 3, 2, 0, 12, 0, 0, 0, 7, 4, 3, 2, 0, 15, 0, 1, 2, 0, 11]), (20, [3, 7], [30, -1, 1, 0, 0, -1, 1, 11]), (23, [24, 9], [0, 1, -1]), (23, [24], [0, -1]), (23, [4], [0, -1]), (20, [32, 7], [30, -2001, -1, 0, 0, -1, 1, 11]), (20, [7, 4, 24, 5, 6], [60, 8, 2, 1000, 10, 11, 12, 13, 14, 15, 8, 5, 1, 2]), (24, [0, 7], []), (24, [2, 9], [])], [(32, 11, 0, 0)], [])
theorem oo_Mo_of_at_s5003_12 {kA : Nat → ClassId} : or_ok PRD kA GG o_Mo_of_at_s5003_12 := by
  refine or_mk fun A ta ws vs hD hth hl => ?_
  intro t0 r0 t2 k2 t3 k3 t4 k4 t5 k5 t6 k6 t7 r7 t9 k9 t10 k10 t11 k11 t15 k15 t17 k17 t18 k18 t19 k19 t20 k20 t24 k24 t27 k27 t28 k28 t29 k29 t30 k30 t31 k31 f0 f1 f2 f3 f4 f5 f6 f7 f8 f9 f10 f11 f12 f13 f14 f15 f16 f17 f18 f19 f20 f21 f22 f23 f24 f25 f26 f27 f28 f29 f30 ta1 w1 le1 s1 f32 f33 f34 f35 f36 f37 f38 f39 f40 f41 f42 f43 f44 f45 f46 f47 f48 f49 f50 f51 ta2 w2 le2 s2 f53 f54 f55 f56 f57 f58 f59 f60 f61 f62 f63 f64 f65 f66 f67 ta3 w3 le3 s3 f69 f70 f71 f72 f73 f74 f75 f76 f77 f78 f79 f80 f81 f82 f83 ta4 w4 le4 s4 f85 f86 f87 f88 f89 f90 ta5 w5 le5 s5 f92 f93 f94
  replace f0 := shm_293 f0
  replace f1 := shm_193 f1
  replace f2 := shm_2011 f2
  replace f3 := shm_2020 f3
  replace f4 := shm_7 f4
  replace f5 := shm_1043 f5
  replace f6 := shm_1724 f6
  replace f7 := shm_1725 f7
  replace f8 := shm_7 f8
  replace f9 := shm_22 f9
  replace f10 := shm_7 f10
  replace f11 := shm_22 f11
  replace f12 := shm_7 f12
  replace f13 := shm_22 f13
  replace f14 := shm_7 f14
  replace f15 := shm_22 f15
  replace f16 := shm_193 f16
  replace f17 := shm_2009 f17
  replace f18 := shm_193 f18
  replace f19 := shm_2009 f19
  replace f20 := shm_7 f20
  replace f21 := shm_1043 f21
  replace f22 := shm_1043 f22
  replace f23 := shm_5 f23
  replace f24 := shm_5 f24
  replace f25 := shm_305 f25
  replace f26 := shm_306 f26
  replace f27 := shm_1437 f27
  replace f28 := shm_1438 f28
  replace f29 := shm_1436 f29
  replace f30 := shm_1439 f30
  replace f32 := shm_193 f32
  replace f33 := shm_2011 f33
  replace f34 := shm_7 f34
  replace f35 := shm_1043 f35
  replace f36 := shm_295 f36
  replace f37 := shm_7 f37
  replace f38 := shm_22 f38
  replace f39 := shm_7 f39
  replace f40 := shm_22 f40
  replace f41 := shm_7 f41
  replace f42 := shm_22 f42
  replace f43 := shm_7 f43
  replace f44 := shm_22 f44
  replace f45 := shm_193 f45
  replace f46 := shm_2009 f46
  replace f47 := shm_193 f47
  replace f48 := shm_2009 f48
  replace f49 := shm_7 f49
  replace f50 := shm_1043 f50
  replace f51 := shm_1043 f51
  replace f53 := shm_7 f53
  replace f54 := shm_22 f54
  replace f55 := shm_7 f55
  replace f56 := shm_22 f56
  replace f57 := shm_7 f57
  replace f58 := shm_22 f58
  replace f59 := shm_7 f59
  replace f60 := shm_22 f60
  replace f61 := shm_193 f61
  replace f62 := shm_2009 f62
  replace f63 := shm_193 f63
  replace f64 := shm_2009 f64
  replace f65 := shm_7 f65
  replace f66 := shm_1043 f66
  replace f67 := shm_1043 f67
  replace f69 := shm_7 f69
  replace f70 := shm_22 f70
  replace f71 := shm_7 f71
  replace f72 := shm_22 f72
  replace f73 := shm_7 f73
  replace f74 := shm_22 f74
  replace f75 := shm_7 f75
  replace f76 := shm_22 f76
  replace f77 := shm_193 f77
  replace f78 := shm_2009 f78
  replace f79 := shm_193 f79
  replace f80 := shm_2009 f80
  replace f81 := shm_7 f81
  replace f82 := shm_1043 f82
  replace f83 := shm_1043 f83
  replace f85 := shm_193 f85
  replace f86 := shm_2009 f86
  replace f87 := shm_295 f87
  replace f88 := shm_7 f88
  replace f89 := shm_1043 f89
  replace f90 := shm_1043 f90
  replace f92 := shm_7 f92
  replace f93 := shm_1043 f93
  replace f94 := shm_1043 f94
  have q7 : n_v vs 7 = n_v vs 0 := f23.symm
  have q9 : n_v vs 9 = n_v vs 2 := f24.symm
  simp only [q7, q9] at f0 f3 f4 f6 f20 f25 f26 f27 f28 f29 f30 f34 f49 f65 f81 f88 f92
  have cr_0_1 := fdq_39 hD hth r0
  have cr_0_2 := fdq_10 hD hth r0
  have g0 : v_iv (n_v vs 30) = w_fi ws (n_v vs 0) 8 := congrArg v_iv f0
  have hK_0_1 := elq_7 hD hth cr_0_1
  have kz_0_8 := fdq_34 hD hth r0
  have kz_0_9 := fdq_44 hD hth r0
  have kz_0_10 := fdq_43 hD hth r0
  have kz_0_11 := fdq_237 hD hth r0
  have kz_0_12 := fdq_187 hD hth r0
  have kz_0_13 := fdq_238 hD hth r0
  have kz_0_14 := fdq_188 hD hth r0
  have kz_0_15 := fdq_239 hD hth r0
  obtain ⟨x, ex, hx⟩ := iv_ex (ta := ta) (lo := 0) (hi := 2000) (z := 0 + (1 * v_iv (n_v vs 11) + 0)) (by omega) (by omega) (by omega) (by omega)
  have ex2 : v_iv (Value.int x) = 0 + (1 * v_iv (n_v vs 11) + 0) := ex
  have ex3 : 0 ≤ v_iv (Value.int x) ∧ v_iv (Value.int x) ≤ 2000 := tv_rng hx
  have e_0 : n_v (vs ++ [Value.int x]) 0 = n_v vs 0 := n_v_old (by rw [hl]; decide)
  have e_2 : n_v (vs ++ [Value.int x]) 2 = n_v vs 2 := n_v_old (by rw [hl]; decide)
  have e_3 : n_v (vs ++ [Value.int x]) 3 = n_v vs 3 := n_v_old (by rw [hl]; decide)
  have e_4 : n_v (vs ++ [Value.int x]) 4 = n_v vs 4 := n_v_old (by rw [hl]; decide)
  have e_5 : n_v (vs ++ [Value.int x]) 5 = n_v vs 5 := n_v_old (by rw [hl]; decide)
  have e_6 : n_v (vs ++ [Value.int x]) 6 = n_v vs 6 := n_v_old (by rw [hl]; decide)
  have e_7 : n_v (vs ++ [Value.int x]) 7 = n_v vs 7 := n_v_old (by rw [hl]; decide)
  have e_9 : n_v (vs ++ [Value.int x]) 9 = n_v vs 9 := n_v_old (by rw [hl]; decide)
  have e_24 : n_v (vs ++ [Value.int x]) 24 = n_v vs 24 := n_v_old (by rw [hl]; decide)
  have e_32 : n_v (vs ++ [Value.int x]) 32 = Value.int x := n_v_new hl
  have nf0 : fc_1 PRD (20, [7, 7], [30, 0, 1, 1, 15, -1, 1, 11]) ws (vs ++ [Value.int x]) := by
    refine ⟨nf_inA hl rfl, sgq_1437 ?_⟩
    · show 1 * w_fi ws (n_v (vs ++ [Value.int x]) 7) 15 + ((-1) * w_fi ws (n_v (vs ++ [Value.int x]) 7) 11 + 0) ≤ 0
      simp only [e_7, q7]
      exact vc_Mo_of_at_s5003_12_0 (v_iv (n_v vs 27)) (v_iv (n_v vs 28)) (v_iv (n_v vs 29)) (w_fi ws (n_v vs 0) 8) (w_ei ws (w_ar ws (n_v vs 0) 1)) (w_fi ws (n_v vs 0) 9) (w_fi ws (n_v vs 0) 15) (w_fi ws (n_v vs 0) 11) (w_fi ws (n_v vs 0) 12) k27 k28 k29 f26 f27 f28 hK_0_1 kz_0_8 kz_0_9 kz_0_11 kz_0_12 kz_0_15
  have nf1 : fc_1 PRD (20, [7], [50, 3, 0, 12, 11, 15, 2, 21, 4, 7, 1, 3, 2, 0, 12, 0, 1, 0, 3, 2, 0, 11, 4, 3, 2, 0, 15, 0, 8, 3, 7, 1, 3, 2, 0, 12, 0, 0, 0, 7, 4, 3, 2, 0, 15, 0, 1, 2, 0, 11]) ws (vs ++ [Value.int x]) := by
    refine ⟨nf_inA hl rfl, sgq_1438 ?_⟩
    · show ((w_fi ws (n_v (vs ++ [Value.int x]) 7) 12 = 1) → (w_fi ws (n_v (vs ++ [Value.int x]) 7) 11 ≤ (w_fi ws (n_v (vs ++ [Value.int x]) 7) 15 + 8))) ∧ ((w_fi ws (n_v (vs ++ [Value.int x]) 7) 12 = 0) ∨ ((w_fi ws (n_v (vs ++ [Value.int x]) 7) 15 + 1) ≤ w_fi ws (n_v (vs ++ [Value.int x]) 7) 11))
      simp only [e_7, q7]
      exact vc_Mo_of_at_s5003_12_1 (v_iv (n_v vs 27)) (v_iv (n_v vs 28)) (v_iv (n_v vs 29)) (w_fi ws (n_v vs 0) 8) (w_ei ws (w_ar ws (n_v vs 0) 1)) (w_fi ws (n_v vs 0) 9) (w_fi ws (n_v vs 0) 15) (w_fi ws (n_v vs 0) 11) (w_fi ws (n_v vs 0) 12) k27 k28 k29 f26 f28 hK_0_1 kz_0_8 kz_0_9 kz_0_11 kz_0_12 kz_0_15
  have nf2 : fc_1 PRD (20, [3, 7], [30, -1, 1, 0, 0, -1, 1, 11]) ws (vs ++ [Value.int x]) := by
    refine ⟨nf_inA hl rfl, sgq_2005 ?_⟩
    · show 1 * v_iv (n_v (vs ++ [Value.int x]) 3) + ((-1) * w_fi ws (n_v (vs ++ [Value.int x]) 7) 11 + 0) ≤ (-1)
      simp only [e_3, e_7, q7]
      exact vc_Mo_of_at_s5003_12_2 (v_iv (n_v vs 3)) (v_iv (n_v vs 27)) (v_iv (n_v vs 28)) (v_iv (n_v vs 29)) (v_iv (n_v vs 30)) (w_fi ws (n_v vs 0) 8) (w_ei ws (w_ar ws (n_v vs 0) 1)) (w_fi ws (n_v vs 0) 9) (w_fi ws (n_v vs 0) 15) (w_fi ws (n_v vs 0) 11) (w_fi ws (n_v vs 0) 12) k3 k27 k28 k29 k30 g0 f25 f26 f28 hK_0_1 kz_0_8 kz_0_9 kz_0_11 kz_0_12 kz_0_15
  have nf3 : fc_1 PRD (23, [24, 9], [0, 1, -1]) ws (vs ++ [Value.int x]) := by
    refine ⟨nf_inA hl rfl, sgq_7 ?_⟩
    · show 1 * v_iv (n_v (vs ++ [Value.int x]) 24) + ((-1) * v_iv (n_v (vs ++ [Value.int x]) 9) + 0) ≤ 0
      simp only [e_9, e_24, q9]
      exact vc_Mo_of_at_s5003_12_3 (v_iv (n_v vs 2)) (v_iv (n_v vs 24)) (v_iv (n_v vs 27)) (v_iv (n_v vs 28)) (v_iv (n_v vs 29)) (w_fi ws (n_v vs 0) 8) (w_ei ws (w_ar ws (n_v vs 0) 1)) (w_fi ws (n_v vs 0) 9) (w_fi ws (n_v vs 0) 15) (w_fi ws (n_v vs 0) 11) (w_fi ws (n_v vs 0) 12) k2 k24 k27 k28 k29 f26 f28 f34 hK_0_1 kz_0_8 kz_0_9 kz_0_11 kz_0_12 kz_0_15
  have nf4 : fc_1 PRD (23, [24], [0, -1]) ws (vs ++ [Value.int x]) := by
    refine ⟨nf_inA hl rfl, sgq_1043 ?_⟩
    · show (-1) * v_iv (n_v (vs ++ [Value.int x]) 24) + 0 ≤ 0
      rw [e_24]
      exact vc_Mo_of_at_s5003_12_4 (v_iv (n_v vs 24)) (v_iv (n_v vs 27)) (v_iv (n_v vs 28)) (v_iv (n_v vs 29)) (w_fi ws (n_v vs 0) 8) (w_ei ws (w_ar ws (n_v vs 0) 1)) (w_fi ws (n_v vs 0) 9) (w_fi ws (n_v vs 0) 15) (w_fi ws (n_v vs 0) 11) (w_fi ws (n_v vs 0) 12) k24 k27 k28 k29 f26 f28 f35 hK_0_1 kz_0_8 kz_0_9 kz_0_11 kz_0_12 kz_0_15
  have nf5 : fc_1 PRD (23, [4], [0, -1]) ws (vs ++ [Value.int x]) := by
    refine ⟨nf_inA hl rfl, sgq_1043 ?_⟩
    · show (-1) * v_iv (n_v (vs ++ [Value.int x]) 4) + 0 ≤ 0
      rw [e_4]
      exact vc_Mo_of_at_s5003_12_5 (v_iv (n_v vs 4)) (v_iv (n_v vs 27)) (v_iv (n_v vs 28)) (v_iv (n_v vs 29)) (w_fi ws (n_v vs 0) 8) (w_ei ws (w_ar ws (n_v vs 0) 1)) (w_fi ws (n_v vs 0) 9) (w_fi ws (n_v vs 0) 15) (w_fi ws (n_v vs 0) 11) (w_fi ws (n_v vs 0) 12) k4 k27 k28 k29 f26 f28 f94 hK_0_1 kz_0_8 kz_0_9 kz_0_11 kz_0_12 kz_0_15
  have nf6 : fc_1 PRD (20, [32, 7], [30, -2001, -1, 0, 0, -1, 1, 11]) ws (vs ++ [Value.int x]) := by
    refine ⟨nf_inA hl rfl, sgq_2013 ?_⟩
    · show (-1) * v_iv (n_v (vs ++ [Value.int x]) 32) + ((-1) * w_fi ws (n_v (vs ++ [Value.int x]) 7) 11 + 0) ≤ (-2001)
      simp only [e_7, e_32, q7]
      exact vc_Mo_of_at_s5003_12_6 (v_iv (n_v vs 27)) (v_iv (n_v vs 28)) (v_iv (n_v vs 29)) (v_iv (n_v vs 30)) (w_fi ws (n_v vs 0) 8) (w_ei ws (w_ar ws (n_v vs 0) 1)) (w_fi ws (n_v vs 0) 9) (w_fi ws (n_v vs 0) 15) (w_fi ws (n_v vs 0) 11) (w_fi ws (n_v vs 0) 12) (v_iv (Value.int x)) k27 k28 k29 k30 g0 f25 f26 f28 hK_0_1 kz_0_8 kz_0_9 kz_0_11 kz_0_12 kz_0_15
  have nf7 : fc_1 PRD (20, [7, 4, 24, 5, 6], [60, 8, 2, 1000, 10, 11, 12, 13, 14, 15, 8, 5, 1, 2]) ws (vs ++ [Value.int x]) := by
    refine ⟨nf_inA hl rfl, sgq_2021 ?_⟩
    · show zO12w (w_fi ws (n_v (vs ++ [Value.int x]) 7) 10) (w_fi ws (n_v (vs ++ [Value.int x]) 7) 11) (w_fi ws (n_v (vs ++ [Value.int x]) 7) 12) (w_fi ws (n_v (vs ++ [Value.int x]) 7) 13) (w_fi ws (n_v (vs ++ [Value.int x]) 7) 14) (w_fi ws (n_v (vs ++ [Value.int x]) 7) 15) (w_fi ws (n_v (vs ++ [Value.int x]) 7) 8) (w_fi ws (n_v (vs ++ [Value.int x]) 7) 5) (w_ei ws (w_ar ws (n_v (vs ++ [Value.int x]) 7) 1)) (w_ei ws (w_ar ws (n_v (vs ++ [Value.int x]) 7) 2)) (v_iv (n_v (vs ++ [Value.int x]) 4)) (v_iv (n_v (vs ++ [Value.int x]) 24)) (v_iv (n_v (vs ++ [Value.int x]) 5)) (v_iv (n_v (vs ++ [Value.int x]) 6))
      simp only [e_4, e_5, e_6, e_7, e_24, q7]
      exact vc_Mo_of_at_s5003_12_7 (v_iv (n_v vs 4)) (v_iv (n_v vs 5)) (v_iv (n_v vs 6)) (v_iv (n_v vs 15)) (v_iv (n_v vs 17)) (v_iv (n_v vs 18)) (v_iv (n_v vs 19)) (v_iv (n_v vs 20)) (v_iv (n_v vs 24)) (v_iv (n_v vs 30)) (v_iv (n_v vs 31)) (w_fi ws (n_v vs 0) 8) (w_ei ws (w_ar ws (n_v vs 0) 1)) (w_ei ws (w_ar ws (n_v vs 0) 2)) (w_fi ws (n_v vs 0) 10) (w_fi ws (n_v vs 0) 5) (w_fi ws (n_v vs 0) 15) (w_fi ws (n_v vs 0) 11) (w_fi ws (n_v vs 0) 12) (w_fi ws (n_v vs 0) 13) (w_fi ws (n_v vs 0) 14) k4 k5 k6 k24 k30 k31 g0 f3 f25 f30 kz_0_8 kz_0_10 kz_0_11 kz_0_12 kz_0_13 kz_0_14 kz_0_15
  have nf8 : fc_1 PRD (24, [0, 7], []) ws (vs ++ [Value.int x]) := by
    refine ⟨nf_inA hl rfl, sgq_5 ?_⟩
    · show n_v (vs ++ [Value.int x]) 0 = n_v (vs ++ [Value.int x]) 7
      first | rfl | simp only [e_0, e_7, q7, q9]
  have nf9 : fc_1 PRD (24, [2, 9], []) ws (vs ++ [Value.int x]) := by
    refine ⟨nf_inA hl rfl, sgq_5 ?_⟩
    · show n_v (vs ++ [Value.int x]) 2 = n_v (vs ++ [Value.int x]) 9
      first | rfl | simp only [e_2, e_9, q7, q9]
  obtain ⟨x0, e0, _, _⟩ := tv_int t11 rfl
  have e1 : v_iv (n_v vs 11) = x0.toInt := by rw [e0]; rfl
  have ho : sy_ofs (vs ++ [Value.int x]) (32, 11, 0, 0) := by
    refine ⟨x, x0, by rw [List.getElem?_append_right (by rw [hl]; decide), hl]; rfl, ?_, ?_, ?_⟩
    · rw [List.getElem?_append_left (by rw [hl]; decide)]; exact n_v_some (by rw [hl]; decide) e0
    · show x0.toInt + 0 ≤ x.toInt; omega
    · show x.toInt ≤ x0.toInt + 0; omega
  exact ⟨(fun _ h => (by cases h)), [Value.int x], ag_one hx, List.forall_mem_cons.mpr ⟨⟨show (20 : Nat) < 100 from by decide, nf0⟩, List.forall_mem_cons.mpr ⟨⟨show (20 : Nat) < 100 from by decide, nf1⟩, List.forall_mem_cons.mpr ⟨⟨show (20 : Nat) < 100 from by decide, nf2⟩, List.forall_mem_cons.mpr ⟨⟨show (23 : Nat) < 100 from by decide, nf3⟩, List.forall_mem_cons.mpr ⟨⟨show (23 : Nat) < 100 from by decide, nf4⟩, List.forall_mem_cons.mpr ⟨⟨show (23 : Nat) < 100 from by decide, nf5⟩, List.forall_mem_cons.mpr ⟨⟨show (20 : Nat) < 100 from by decide, nf6⟩, List.forall_mem_cons.mpr ⟨⟨show (20 : Nat) < 100 from by decide, nf7⟩, List.forall_mem_cons.mpr ⟨⟨show (24 : Nat) < 100 from by decide, nf8⟩, List.forall_mem_cons.mpr ⟨⟨show (24 : Nat) < 100 from by decide, nf9⟩, (fun _ h => (by cases h))⟩⟩⟩⟩⟩⟩⟩⟩⟩⟩, List.forall_mem_cons.mpr ⟨ho, (fun _ h => (by cases h))⟩⟩
set_option maxHeartbeats 4000000 in
theorem vc_Mo_of_at_s5003_13_0 (x27 : Int) (x28 : Int) (x29 : Int) (kind_0 : Int) (fault_0 : Int) (tape_0 : Int → Int) (from_0 : Int) (pos_0 : Int) (faultPlace_0 : Int) (k27 : 5 ≤ x27 ∧ x27 ≤ 5) (k28 : 0 ≤ x28 ∧ x28 ≤ 2000) (k29 : 0 ≤ x29 ∧ x29 ≤ 5) (f22 : 1 * from_0 + ((-1) * pos_0 + 0) ≤ 0) (f23 : ((kind_0 = 1) → (pos_0 ≤ (from_0 + 8))) ∧ ((kind_0 = 0) ∨ ((from_0 + 1) ≤ pos_0))) (f26 : ((1 ≤ x29) ∧ (fault_0 = x29)) ∨ ((x29 = 0) ∧ ((fault_0 = x27) ∧ (faultPlace_0 = x28)))) (hK_0_1 : ∀ j : Int, 0 ≤ j → j < 2000 → (-128) ≤ tape_0 j ∧ tape_0 j ≤ 127) (kz_0_8 : 0 ≤ fault_0 ∧ fault_0 ≤ 5) (kz_0_9 : 0 ≤ faultPlace_0 ∧ faultPlace_0 ≤ 2000) (kz_0_11 : 0 ≤ pos_0 ∧ pos_0 ≤ 2000) (kz_0_12 : 0 ≤ kind_0 ∧ kind_0 ≤ 4) (kz_0_15 : 0 ≤ from_0 ∧ from_0 ≤ 2000) : 1 * from_0 + ((-1) * pos_0 + 0) ≤ 0 := by
  first | with_reducible assumption | ((have f23_c0 := f23.1); (have f23_c1 := f23.2); (try and_intros) <;> first | with_reducible assumption | (clear f23_c0 f23_c1 f23 f26 hK_0_1; omega)) | ((have f23_c0 := f23.1); (have f23_c1 := f23.2); (try and_intros) <;> first | with_reducible assumption | (clear f23_c0 f23_c1 f23 hK_0_1; omega)) | omega
set_option maxHeartbeats 4000000 in
theorem vc_Mo_of_at_s5003_13_1 (x27 : Int) (x28 : Int) (x29 : Int) (kind_0 : Int) (fault_0 : Int) (tape_0 : Int → Int) (from_0 : Int) (pos_0 : Int) (faultPlace_0 : Int) (k27 : 5 ≤ x27 ∧ x27 ≤ 5) (k28 : 0 ≤ x28 ∧ x28 ≤ 2000) (k29 : 0 ≤ x29 ∧ x29 ≤ 5) (f23 : ((kind_0 = 1) → (pos_0 ≤ (from_0 + 8))) ∧ ((kind_0 = 0) ∨ ((from_0 + 1) ≤ pos_0))) (f26 : ((1 ≤ x29) ∧ (fault_0 = x29)) ∨ ((x29 = 0) ∧ ((fault_0 = x27) ∧ (faultPlace_0 = x28)))) (hK_0_1 : ∀ j : Int, 0 ≤ j → j < 2000 → (-128) ≤ tape_0 j ∧ tape_0 j ≤ 127) (kz_0_8 : 0 ≤ fault_0 ∧ fault_0 ≤ 5) (kz_0_9 : 0 ≤ faultPlace_0 ∧ faultPlace_0 ≤ 2000) (kz_0_11 : 0 ≤ pos_0 ∧ pos_0 ≤ 2000) (kz_0_12 : 0 ≤ kind_0 ∧ kind_0 ≤ 4) (kz_0_15 : 0 ≤ from_0 ∧ from_0 ≤ 2000) : ((kind_0 = 1) → (pos_0 ≤ (from_0 + 8))) ∧ ((kind_0 = 0) ∨ ((from_0 + 1) ≤ pos_0)) := by
  first | with_reducible assumption | ((have f23_c0 := f23.1); (have f23_c1 := f23.2); (try and_intros) <;> first | with_reducible assumption | (clear f23_c0 f23_c1 f23 f26 hK_0_1; omega)) | ((have f23_c0 := f23.1); (have f23_c1 := f23.2); (try and_intros) <;> first | with_reducible assumption | (clear f23_c0 f23_c1 f23 hK_0_1; omega)) | omega
set_option maxHeartbeats 4000000 in
theorem vc_Mo_of_at_s5003_13_2 (x3 : Int) (x17 : Int) (x27 : Int) (x28 : Int) (x29 : Int) (kind_0 : Int) (fault_0 : Int) (tape_0 : Int → Int) (from_0 : Int) (pos_0 : Int) (faultPlace_0 : Int) (k3 : 0 ≤ x3 ∧ x3 ≤ 2000) (k17 : 0 ≤ x17 ∧ x17 ≤ 2000) (k27 : 5 ≤ x27 ∧ x27 ≤ 5) (k28 : 0 ≤ x28 ∧ x28 ≤ 2000) (k29 : 0 ≤ x29 ∧ x29 ≤ 5) (f15 : 1 * x3 + ((-1) * x17 + 0) ≤ (-1)) (f23 : ((kind_0 = 1) → (pos_0 ≤ (from_0 + 8))) ∧ ((kind_0 = 0) ∨ ((from_0 + 1) ≤ pos_0))) (f24 : 1 * x17 + ((-1) * pos_0 + 0) ≤ 0) (f26 : ((1 ≤ x29) ∧ (fault_0 = x29)) ∨ ((x29 = 0) ∧ ((fault_0 = x27) ∧ (faultPlace_0 = x28)))) (hK_0_1 : ∀ j : Int, 0 ≤ j → j < 2000 → (-128) ≤ tape_0 j ∧ tape_0 j ≤ 127) (kz_0_8 : 0 ≤ fault_0 ∧ fault_0 ≤ 5) (kz_0_9 : 0 ≤ faultPlace_0 ∧ faultPlace_0 ≤ 2000) (kz_0_11 : 0 ≤ pos_0 ∧ pos_0 ≤ 2000) (kz_0_12 : 0 ≤ kind_0 ∧ kind_0 ≤ 4) (kz_0_15 : 0 ≤ from_0 ∧ from_0 ≤ 2000) : 1 * x3 + ((-1) * pos_0 + 0) ≤ 0 := by
  first | with_reducible assumption | ((have f23_c0 := f23.1); (have f23_c1 := f23.2); (try and_intros) <;> first | with_reducible assumption | (clear f23_c0 f23_c1 f23 f26 hK_0_1; omega)) | ((have f23_c0 := f23.1); (have f23_c1 := f23.2); (try and_intros) <;> first | with_reducible assumption | (clear f23_c0 f23_c1 f23 hK_0_1; omega)) | omega
set_option maxHeartbeats 4000000 in
theorem vc_Mo_of_at_s5003_13_3 (x3 : Int) (x27 : Int) (x28 : Int) (x29 : Int) (x30 : Int) (kind_0 : Int) (fault_0 : Int) (tape_0 : Int → Int) (from_0 : Int) (pos_0 : Int) (faultPlace_0 : Int) (k3 : 0 ≤ x3 ∧ x3 ≤ 2000) (k27 : 5 ≤ x27 ∧ x27 ≤ 5) (k28 : 0 ≤ x28 ∧ x28 ≤ 2000) (k29 : 0 ≤ x29 ∧ x29 ≤ 5) (k30 : 1 ≤ x30 ∧ x30 ≤ 5) (g4 : x30 = fault_0) (f23 : ((kind_0 = 1) → (pos_0 ≤ (from_0 + 8))) ∧ ((kind_0 = 0) ∨ ((from_0 + 1) ≤ pos_0))) (f26 : ((1 ≤ x29) ∧ (fault_0 = x29)) ∨ ((x29 = 0) ∧ ((fault_0 = x27) ∧ (faultPlace_0 = x28)))) (hK_0_1 : ∀ j : Int, 0 ≤ j → j < 2000 → (-128) ≤ tape_0 j ∧ tape_0 j ≤ 127) (kz_0_8 : 0 ≤ fault_0 ∧ fault_0 ≤ 5) (kz_0_9 : 0 ≤ faultPlace_0 ∧ faultPlace_0 ≤ 2000) (kz_0_11 : 0 ≤ pos_0 ∧ pos_0 ≤ 2000) (kz_0_12 : 0 ≤ kind_0 ∧ kind_0 ≤ 4) (kz_0_15 : 0 ≤ from_0 ∧ from_0 ≤ 2000) : (1 ≤ fault_0) ∨ ((kind_0 = 0) ∨ ((x3 + 1) ≤ pos_0)) := by
  first | with_reducible assumption | ((have f23_c0 := f23.1); (have f23_c1 := f23.2); (try and_intros) <;> first | with_reducible assumption | (clear f23_c0 f23_c1 f23 f26 hK_0_1; omega)) | ((have f23_c0 := f23.1); (have f23_c1 := f23.2); (try and_intros) <;> first | with_reducible assumption | (clear f23_c0 f23_c1 f23 hK_0_1; omega)) | omega
set_option maxHeartbeats 4000000 in
theorem vc_Mo_of_at_s5003_13_4 (x4 : Int) (x27 : Int) (x28 : Int) (x29 : Int) (x30 : Int) (kind_0 : Int) (fault_0 : Int) (tape_0 : Int → Int) (from_0 : Int) (pos_0 : Int) (faultPlace_0 : Int) (k4 : (-1) ≤ x4 ∧ x4 ≤ 48) (k27 : 5 ≤ x27 ∧ x27 ≤ 5) (k28 : 0 ≤ x28 ∧ x28 ≤ 2000) (k29 : 0 ≤ x29 ∧ x29 ≤ 5) (k30 : 1 ≤ x30 ∧ x30 ≤ 5) (g4 : x30 = fault_0) (f23 : ((kind_0 = 1) → (pos_0 ≤ (from_0 + 8))) ∧ ((kind_0 = 0) ∨ ((from_0 + 1) ≤ pos_0))) (f26 : ((1 ≤ x29) ∧ (fault_0 = x29)) ∨ ((x29 = 0) ∧ ((fault_0 = x27) ∧ (faultPlace_0 = x28)))) (hK_0_1 : ∀ j : Int, 0 ≤ j → j < 2000 → (-128) ≤ tape_0 j ∧ tape_0 j ≤ 127) (kz_0_8 : 0 ≤ fault_0 ∧ fault_0 ≤ 5) (kz_0_9 : 0 ≤ faultPlace_0 ∧ faultPlace_0 ≤ 2000) (kz_0_11 : 0 ≤ pos_0 ∧ pos_0 ≤ 2000) (kz_0_12 : 0 ≤ kind_0 ∧ kind_0 ≤ 4) (kz_0_15 : 0 ≤ from_0 ∧ from_0 ≤ 2000) : (1 ≤ fault_0) ∨ (0 ≤ x4) := by
  first | with_reducible assumption | ((have f23_c0 := f23.1); (have f23_c1 := f23.2); (try and_intros) <;> first | with_reducible assumption | (clear f23_c0 f23_c1 f23 f26 hK_0_1; omega)) | ((have f23_c0 := f23.1); (have f23_c1 := f23.2); (try and_intros) <;> first | with_reducible assumption | (clear f23_c0 f23_c1 f23 hK_0_1; omega)) | omega
set_option maxHeartbeats 4000000 in
theorem vc_Mo_of_at_s5003_13_5 (x2 : Int) (x27 : Int) (x28 : Int) (x29 : Int) (x31 : Int) (kind_0 : Int) (fault_0 : Int) (tape_0 : Int → Int) (from_0 : Int) (pos_0 : Int) (faultPlace_0 : Int) (k2 : 9 ≤ x2 ∧ x2 ≤ 9) (k27 : 5 ≤ x27 ∧ x27 ≤ 5) (k28 : 0 ≤ x28 ∧ x28 ≤ 2000) (k29 : 0 ≤ x29 ∧ x29 ≤ 5) (k31 : 0 ≤ x31 ∧ x31 ≤ 0) (f23 : ((kind_0 = 1) → (pos_0 ≤ (from_0 + 8))) ∧ ((kind_0 = 0) ∨ ((from_0 + 1) ≤ pos_0))) (f26 : ((1 ≤ x29) ∧ (fault_0 = x29)) ∨ ((x29 = 0) ∧ ((fault_0 = x27) ∧ (faultPlace_0 = x28)))) (hK_0_1 : ∀ j : Int, 0 ≤ j → j < 2000 → (-128) ≤ tape_0 j ∧ tape_0 j ≤ 127) (kz_0_8 : 0 ≤ fault_0 ∧ fault_0 ≤ 5) (kz_0_9 : 0 ≤ faultPlace_0 ∧ faultPlace_0 ≤ 2000) (kz_0_11 : 0 ≤ pos_0 ∧ pos_0 ≤ 2000) (kz_0_12 : 0 ≤ kind_0 ∧ kind_0 ≤ 4) (kz_0_15 : 0 ≤ from_0 ∧ from_0 ≤ 2000) : 1 * x31 + ((-1) * x2 + 0) ≤ 0 := by
  first | with_reducible assumption | ((have f23_c0 := f23.1); (have f23_c1 := f23.2); (try and_intros) <;> first | with_reducible assumption | (clear f23_c0 f23_c1 f23 f26 hK_0_1; omega)) | ((have f23_c0 := f23.1); (have f23_c1 := f23.2); (try and_intros) <;> first | with_reducible assumption | (clear f23_c0 f23_c1 f23 hK_0_1; omega)) | omega
set_option maxHeartbeats 4000000 in
theorem vc_Mo_of_at_s5003_13_6 (x27 : Int) (x28 : Int) (x29 : Int) (x31 : Int) (kind_0 : Int) (fault_0 : Int) (tape_0 : Int → Int) (from_0 : Int) (pos_0 : Int) (faultPlace_0 : Int) (k27 : 5 ≤ x27 ∧ x27 ≤ 5) (k28 : 0 ≤ x28 ∧ x28 ≤ 2000) (k29 : 0 ≤ x29 ∧ x29 ≤ 5) (k31 : 0 ≤ x31 ∧ x31 ≤ 0) (f23 : ((kind_0 = 1) → (pos_0 ≤ (from_0 + 8))) ∧ ((kind_0 = 0) ∨ ((from_0 + 1) ≤ pos_0))) (f26 : ((1 ≤ x29) ∧ (fault_0 = x29)) ∨ ((x29 = 0) ∧ ((fault_0 = x27) ∧ (faultPlace_0 = x28)))) (hK_0_1 : ∀ j : Int, 0 ≤ j → j < 2000 → (-128) ≤ tape_0 j ∧ tape_0 j ≤ 127) (kz_0_8 : 0 ≤ fault_0 ∧ fault_0 ≤ 5) (kz_0_9 : 0 ≤ faultPlace_0 ∧ faultPlace_0 ≤ 2000) (kz_0_11 : 0 ≤ pos_0 ∧ pos_0 ≤ 2000) (kz_0_12 : 0 ≤ kind_0 ∧ kind_0 ≤ 4) (kz_0_15 : 0 ≤ from_0 ∧ from_0 ≤ 2000) : (-1) * x31 + 0 ≤ 0 := by
  first | with_reducible assumption | ((have f23_c0 := f23.1); (have f23_c1 := f23.2); (try and_intros) <;> first | with_reducible assumption | (clear f23_c0 f23_c1 f23 f26 hK_0_1; omega)) | ((have f23_c0 := f23.1); (have f23_c1 := f23.2); (try and_intros) <;> first | with_reducible assumption | (clear f23_c0 f23_c1 f23 hK_0_1; omega)) | omega
set_option maxHeartbeats 4000000 in
theorem vc_Mo_of_at_s5003_13_7 (x4 : Int) (x5 : Int) (x6 : Int) (x15 : Int) (x17 : Int) (x18 : Int) (x19 : Int) (x20 : Int) (x22 : Int) (x24 : Int) (x27 : Int) (x28 : Int) (x29 : Int) (x30 : Int) (x31 : Int) (place_0 : Int) (value_0 : Int) (kind_0 : Int) (fault_0 : Int) (tape_0 : Int → Int) (limit_0 : Int) (from_0 : Int) (pos_0 : Int) (faultPlace_0 : Int) (all_0 : Int → Int) (r_0 : Int) (k4 : (-1) ≤ x4 ∧ x4 ≤ 48) (k5 : 0 ≤ x5 ∧ x5 ≤ 7) (k6 : 0 ≤ x6 ∧ x6 ≤ 4) (k15 : 0 ≤ x15 ∧ x15 ≤ 2000) (k17 : 0 ≤ x17 ∧ x17 ≤ 2000) (k18 : (-1) ≤ x18 ∧ x18 ≤ 48) (k19 : 0 ≤ x19 ∧ x19 ≤ 7) (k20 : 0 ≤ x20 ∧ x20 ≤ 4) (k22 : 2 ≤ x22 ∧ x22 ≤ 2) (k24 : (-49) ≤ x24 ∧ x24 ≤ 0) (k27 : 5 ≤ x27 ∧ x27 ≤ 5) (k28 : 0 ≤ x28 ∧ x28 ≤ 2000) (k29 : 0 ≤ x29 ∧ x29 ≤ 5) (k30 : 1 ≤ x30 ∧ x30 ≤ 5) (k31 : 0 ≤ x31 ∧ x31 ≤ 0) (g0 : x28 = place_0) (g1 : x24 = value_0) (g2 : x22 = kind_0) (g4 : x30 = fault_0) (f5 : FSX (limit_0) (tape_0) (x27) (x28)) (f6 : ZH0 (x29)) (f7 : 1 * x17 + ((-1) * x15 + 0) ≤ 0) (f8 : (-1) * x17 + (1 * x15 + 0) ≤ 0) (f9 : 1 * x18 + ((-1) * x4 + 0) ≤ 0) (f10 : (-1) * x18 + (1 * x4 + 0) ≤ 0) (f11 : 1 * x19 + ((-1) * x5 + 0) ≤ 0) (f12 : (-1) * x19 + (1 * x5 + 0) ≤ 0) (f13 : 1 * x20 + ((-1) * x6 + 0) ≤ 0) (f14 : (-1) * x20 + (1 * x6 + 0) ≤ 0) (f26 : ((1 ≤ x29) ∧ (fault_0 = x29)) ∨ ((x29 = 0) ∧ ((fault_0 = x27) ∧ (faultPlace_0 = x28)))) (kz_0_8 : 0 ≤ fault_0 ∧ fault_0 ≤ 5) (kz_0_9 : 0 ≤ faultPlace_0 ∧ faultPlace_0 ≤ 2000) (kz_0_10 : 0 ≤ limit_0 ∧ limit_0 ≤ 2000) (kz_0_11 : 0 ≤ pos_0 ∧ pos_0 ≤ 2000) (kz_0_12 : 0 ≤ kind_0 ∧ kind_0 ≤ 4) (kz_0_13 : 0 ≤ place_0 ∧ place_0 ≤ 2000) (kz_0_14 : (-49) ≤ value_0 ∧ value_0 ≤ 1048575) (kz_0_15 : 0 ≤ from_0 ∧ from_0 ≤ 2000) : zOFw (limit_0) (pos_0) (kind_0) (place_0) (value_0) (from_0) (fault_0) (faultPlace_0) (r_0) (tape_0) (all_0) (x4) (x31) (x5) (x6) := by
  first | (have el_x17 : x17 = x15 := by omega); subst el_x17 | skip
  first | (have el_x18 : x18 = x4 := by omega); subst el_x18 | skip
  first | (have el_x19 : x19 = x5 := by omega); subst el_x19 | skip
  first | (have el_x20 : x20 = x6 := by omega); subst el_x20 | skip
  first | subst g0 | skip
  first | subst g1 | skip
  first | subst g2 | skip
  first | subst g4 | skip
  first
    | exact of_no_w ‹zOBw _ _ _ _ _ _ _ _ _ _ _ _ _ _› ‹SGQ _ _ _ _ _› (by omega) (by omega) (by omega)
    | exact Or.inl ⟨by omega, fs_w ‹FSX _ _ _ _› ‹ZH0 _› (by assumption)⟩
    | (refine Or.inl ⟨by omega, fs_w ?_ ?_ (by assumption)⟩ <;> assumption)
    | exact Or.inl ⟨by omega, or_l ‹zO11w _ _ _ _ _ _ _ _ _ _ _ _ _ _› (fun q => by have := q.1; omega)⟩
    | exact Or.inr (Or.inr ⟨by omega, ‹zRP13w _ _ _ _ _ _ _ _ _ _ _ _ _ _›⟩)
    | (exfalso; omega)
def o_Mo_of_at_s5003_13 : or_T := (129, 32, [(0, (2, 0, 0, [165])), (2, (0, 9, 9, [])), (3, (0, 0, 2000, [])), (4, (0, -1, 48, [])), (5, (0, 0, 7, [])), (6, (0, 0, 4, [])), (7, (2, 0, 0, [165])), (9, (0, 9, 9, [])), (11, (0, 0, 2000, [])), (15, (0, 0, 2000, [])), (17, (0, 0, 2000, [])), (18, (0, -1, 48, [])), (19, (0, 0, 7, [])), (20, (0, 0, 4, [])), (22, (0, 2, 2, [])), (23, (0, 2, 2, [])), (24, (0, -49, 0, [])), (27, (0, 5, 5, [])), (28, (0, 0, 2000, [])), (29, (0, 0, 5, [])), (30, (0, 1, 5, [])), (31, (0, 0, 0, []))], [(9, [28, 7], [13]), (9, [24, 7], [14]), (9, [22, 7], [12]), (8, [30], [4]), (9, [30, 7], [8]), (20, [7, 27, 28], [60, 1, 1, 1026, 10, 1]), (20, [29], [61, 0, 1029]), (23, [17, 15], [0, 1, -1]), (23, [17, 15], [0, -1, 1]), (23, [18, 4], [0, 1, -1]), (23, [18, 4], [0, -1, 1]), (23, [19, 5], [0, 1, -1]), (23, [19, 5], [0, -1, 1]), (23, [20, 6], [0, 1, -1]), (23, [20, 6], [0, -1, 1]), (23, [3, 17], [-1, 1, -1]), (23, [11, 17], [-2000, -1, -1]), (23, [3, 15], [-1, 1, -1]), (23, [11, 15], [-2000, -1, -1]), (23, [4], [0, -1]), (24, [0, 7], []), (24, [2, 9], []), (20, [7, 7], [30, 0, 1, 1, 15, -1, 1, 11]), (20, [7], [50, 3, 0, 12, 11, 15, 2, 21, 4, 7, 1, 3, 2, 0, 12, 0, 1, 0, 3, 2, 0, 11, 4, 3, 2, 0, 15, 0, 8, 3, 7, 1, 3, 2, 0, 12, 0, 0, 0, 7, 4, 3, 2, 0, 15, 0, 1, 2, 0, 11]), (20, [17, 7], [30, 0, 1, 0, 0, -1, 1, 11]), (20, [7], [30, -1, -1, 1, 8]), (20, [29, 7, 27, 28], [50, 2, 0, 1008, 1009, 3, 15, 2, 6, 0, 2, 0, 1, 1, 0, 1, 3, 2, 1, 8, 1, 0, 2, 6, 1, 2, 1, 0, 0, 0, 2, 7, 1, 3, 2, 1, 8, 1, 2, 1, 3, 2, 1, 9, 1, 3]), (102, [29], [0, 165008, 165009]), (7, [22, 23], [0]), (23, [17, 15], [0, 1, -1]), (23, [17, 15], [0, -1, 1]), (23, [18, 4], [0, 1, -1]), (23, [18, 4], [0, -1, 1]), (23, [19, 5], [0, 1, -1]), (23, [19, 5], [0, -1, 1]), (23, [20, 6], [0, 1, -1]), (23, [20, 6], [0, -1, 1]), (23, [3, 17], [-1, 1, -1]), (23, [11, 17], [-2000, -1, -1]), (23, [3, 15], [-1, 1, -1]), (23, [11, 15], [-2000, -1, -1]), (23, [4], [0, -1]), (102, [20], [0, 165008, 165009, 165011, 165012, 165013, 165014, 165015]), (23, [17, 15], [0, 1, -1]), (23, [17, 15], [0, -1, 1]), (23, [18, 4], [0, 1, -1]), (23, [18, 4], [0, -1, 1]), (23, [19, 5], [0, 1, -1]), (23, [19, 5], [0, -1, 1]), (23, [20, 6], [0, 1, -1]), (23, [20, 6], [0, -1, 1]), (23, [3, 17], [-1, 1, -1]), (23, [11, 17], [-2000, -1, -1]), (23, [3, 15], [-1, 1, -1]), (23, [11, 15], [-2000, -1, -1]), (23, [4], [0, -1]), (102, [15], [0, 165011, 165012, 165013, 165014, 165015]), (23, [3, 15], [-1, 1, -1]), (23, [11, 15], [-2000, -1, -1]), (23, [4], [0, -1]), (102, [13], [0]), (23, [4], [0, -1])], [], [], [(20, [0, 0], [30, 0, 1, 1, 15, -1, 1, 11]), (20, [0], [50, 3, 0, 12, 11, 15, 2, 21, 4, 7, 1, 3, 2, 0, 12, 0, 1, 0, 3, 2, 0, 11, 4, 3, 2, 0, 15, 0, 8, 3, 7, 1, 3, 2, 0, 12, 0, 0, 0, 7, 4, 3, 2, 0, 15, 0, 1, 2, 0, 11]), (20, [3, 0], [30, 0, 1, 0, 0, -1, 1, 11]), (20, [0, 3], [50, 3, 0, 8, 12, 11, 3, 7, 0, 2, 0, 1, 2, 0, 8, 3, 7, 1, 3, 2, 0, 12, 0, 0, 0, 6, 4, 2, 1, 1, 0, 1, 2, 0, 11]), (20, [0, 4], [50, 1, 0, 8, 3, 7, 0, 2, 0, 1, 2, 0, 8, 0, 2, 0, 0, 1, 1]), (20, [31, 2], [30, 0, 1, 0, 0, -1, 0, 0]), (20, [31], [30, 0, -1, 0, 0]), (20, [0, 4, 31, 5, 6], [60, 9, 2, 1014, 10, 11, 12, 13, 14, 15, 8, 9, 5, 1, 2])], [], [])
theorem oo_Mo_of_at_s5003_13 {kA : Nat → ClassId} : or_ok PRD kA GG o_Mo_of_at_s5003_13 := by
  refine or_mk fun A ta ws vs hD hth hl => ?_
  intro t0 r0 t2 k2 t3 k3 t4 k4 t5 k5 t6 k6 t7 r7 t9 k9 t11 k11 t15 k15 t17 k17 t18 k18 t19 k19 t20 k20 t22 k22 t23 k23 t24 k24 t27 k27 t28 k28 t29 k29 t30 k30 t31 k31 f0 f1 f2 f3 f4 f5 f6 f7 f8 f9 f10 f11 f12 f13 f14 f15 f16 f17 f18 f19 f20 f21 f22 f23 f24 f25 f26 ta1 w1 le1 s1 f28 f29 f30 f31 f32 f33 f34 f35 f36 f37 f38 f39 f40 f41 ta2 w2 le2 s2 f43 f44 f45 f46 f47 f48 f49 f50 f51 f52 f53 f54 f55 ta3 w3 le3 s3 f57 f58 f59 ta4 w4 le4 s4 f61
  replace f0 := shm_361 f0
  replace f1 := shm_115 f1
  replace f2 := shm_103 f2
  replace f4 := shm_293 f4
  replace f5 := shm_1724 f5
  replace f20 := shm_5 f20
  replace f22 := shm_1437 f22
  replace f23 := shm_1438 f23
  replace f24 := shm_1431 f24
  replace f26 := shm_306 f26
  have q7 : n_v vs 7 = n_v vs 0 := f20.symm
  simp only [q7] at f0 f1 f2 f4 f5 f22 f23 f24 f26
  have cr_0_1 := fdq_39 hD hth r0
  have g0 : v_iv (n_v vs 28) = w_fi ws (n_v vs 0) 13 := congrArg v_iv f0
  have g1 : v_iv (n_v vs 24) = w_fi ws (n_v vs 0) 14 := congrArg v_iv f1
  have g2 : v_iv (n_v vs 22) = w_fi ws (n_v vs 0) 12 := congrArg v_iv f2
  have g4 : v_iv (n_v vs 30) = w_fi ws (n_v vs 0) 8 := congrArg v_iv f4
  have hK_0_1 := elq_7 hD hth cr_0_1
  have kz_0_8 := fdq_34 hD hth r0
  have kz_0_9 := fdq_44 hD hth r0
  have kz_0_10 := fdq_43 hD hth r0
  have kz_0_11 := fdq_237 hD hth r0
  have kz_0_12 := fdq_187 hD hth r0
  have kz_0_13 := fdq_238 hD hth r0
  have kz_0_14 := fdq_188 hD hth r0
  have kz_0_15 := fdq_239 hD hth r0
  have nf0 : fc_1 PRD (20, [0, 0], [30, 0, 1, 1, 15, -1, 1, 11]) ws (vs) := ⟨nf_in hl rfl, sgq_1437 (vc_Mo_of_at_s5003_13_0 (v_iv (n_v vs 27)) (v_iv (n_v vs 28)) (v_iv (n_v vs 29)) (w_fi ws (n_v vs 0) 12) (w_fi ws (n_v vs 0) 8) (w_ei ws (w_ar ws (n_v vs 0) 1)) (w_fi ws (n_v vs 0) 15) (w_fi ws (n_v vs 0) 11) (w_fi ws (n_v vs 0) 9) k27 k28 k29 f22 f23 f26 hK_0_1 kz_0_8 kz_0_9 kz_0_11 kz_0_12 kz_0_15)⟩
  have nf1 : fc_1 PRD (20, [0], [50, 3, 0, 12, 11, 15, 2, 21, 4, 7, 1, 3, 2, 0, 12, 0, 1, 0, 3, 2, 0, 11, 4, 3, 2, 0, 15, 0, 8, 3, 7, 1, 3, 2, 0, 12, 0, 0, 0, 7, 4, 3, 2, 0, 15, 0, 1, 2, 0, 11]) ws (vs) := ⟨nf_in hl rfl, sgq_1438 (vc_Mo_of_at_s5003_13_1 (v_iv (n_v vs 27)) (v_iv (n_v vs 28)) (v_iv (n_v vs 29)) (w_fi ws (n_v vs 0) 12) (w_fi ws (n_v vs 0) 8) (w_ei ws (w_ar ws (n_v vs 0) 1)) (w_fi ws (n_v vs 0) 15) (w_fi ws (n_v vs 0) 11) (w_fi ws (n_v vs 0) 9) k27 k28 k29 f23 f26 hK_0_1 kz_0_8 kz_0_9 kz_0_11 kz_0_12 kz_0_15)⟩
  have nf2 : fc_1 PRD (20, [3, 0], [30, 0, 1, 0, 0, -1, 1, 11]) ws (vs) := ⟨nf_in hl rfl, sgq_1431 (vc_Mo_of_at_s5003_13_2 (v_iv (n_v vs 3)) (v_iv (n_v vs 17)) (v_iv (n_v vs 27)) (v_iv (n_v vs 28)) (v_iv (n_v vs 29)) (w_fi ws (n_v vs 0) 12) (w_fi ws (n_v vs 0) 8) (w_ei ws (w_ar ws (n_v vs 0) 1)) (w_fi ws (n_v vs 0) 15) (w_fi ws (n_v vs 0) 11) (w_fi ws (n_v vs 0) 9) k3 k17 k27 k28 k29 (shm_193 f15) f23 f24 f26 hK_0_1 kz_0_8 kz_0_9 kz_0_11 kz_0_12 kz_0_15)⟩
  have nf3 : fc_1 PRD (20, [0, 3], [50, 3, 0, 8, 12, 11, 3, 7, 0, 2, 0, 1, 2, 0, 8, 3, 7, 1, 3, 2, 0, 12, 0, 0, 0, 6, 4, 2, 1, 1, 0, 1, 2, 0, 11]) ws (vs) := ⟨nf_in hl rfl, sgq_1722 (vc_Mo_of_at_s5003_13_3 (v_iv (n_v vs 3)) (v_iv (n_v vs 27)) (v_iv (n_v vs 28)) (v_iv (n_v vs 29)) (v_iv (n_v vs 30)) (w_fi ws (n_v vs 0) 12) (w_fi ws (n_v vs 0) 8) (w_ei ws (w_ar ws (n_v vs 0) 1)) (w_fi ws (n_v vs 0) 15) (w_fi ws (n_v vs 0) 11) (w_fi ws (n_v vs 0) 9) k3 k27 k28 k29 k30 g4 f23 f26 hK_0_1 kz_0_8 kz_0_9 kz_0_11 kz_0_12 kz_0_15)⟩
  have nf4 : fc_1 PRD (20, [0, 4], [50, 1, 0, 8, 3, 7, 0, 2, 0, 1, 2, 0, 8, 0, 2, 0, 0, 1, 1]) ws (vs) := ⟨nf_in hl rfl, sgq_2000 (vc_Mo_of_at_s5003_13_4 (v_iv (n_v vs 4)) (v_iv (n_v vs 27)) (v_iv (n_v vs 28)) (v_iv (n_v vs 29)) (v_iv (n_v vs 30)) (w_fi ws (n_v vs 0) 12) (w_fi ws (n_v vs 0) 8) (w_ei ws (w_ar ws (n_v vs 0) 1)) (w_fi ws (n_v vs 0) 15) (w_fi ws (n_v vs 0) 11) (w_fi ws (n_v vs 0) 9) k4 k27 k28 k29 k30 g4 f23 f26 hK_0_1 kz_0_8 kz_0_9 kz_0_11 kz_0_12 kz_0_15)⟩
  have nf5 : fc_1 PRD (20, [31, 2], [30, 0, 1, 0, 0, -1, 0, 0]) ws (vs) := ⟨nf_in hl rfl, sgq_201 (vc_Mo_of_at_s5003_13_5 (v_iv (n_v vs 2)) (v_iv (n_v vs 27)) (v_iv (n_v vs 28)) (v_iv (n_v vs 29)) (v_iv (n_v vs 31)) (w_fi ws (n_v vs 0) 12) (w_fi ws (n_v vs 0) 8) (w_ei ws (w_ar ws (n_v vs 0) 1)) (w_fi ws (n_v vs 0) 15) (w_fi ws (n_v vs 0) 11) (w_fi ws (n_v vs 0) 9) k2 k27 k28 k29 k31 f23 f26 hK_0_1 kz_0_8 kz_0_9 kz_0_11 kz_0_12 kz_0_15)⟩
  have nf6 : fc_1 PRD (20, [31], [30, 0, -1, 0, 0]) ws (vs) := ⟨nf_in hl rfl, sgq_2002 (vc_Mo_of_at_s5003_13_6 (v_iv (n_v vs 27)) (v_iv (n_v vs 28)) (v_iv (n_v vs 29)) (v_iv (n_v vs 31)) (w_fi ws (n_v vs 0) 12) (w_fi ws (n_v vs 0) 8) (w_ei ws (w_ar ws (n_v vs 0) 1)) (w_fi ws (n_v vs 0) 15) (w_fi ws (n_v vs 0) 11) (w_fi ws (n_v vs 0) 9) k27 k28 k29 k31 f23 f26 hK_0_1 kz_0_8 kz_0_9 kz_0_11 kz_0_12 kz_0_15)⟩
  have nf7 : fc_1 PRD (20, [0, 4, 31, 5, 6], [60, 9, 2, 1014, 10, 11, 12, 13, 14, 15, 8, 9, 5, 1, 2]) ws (vs) := ⟨nf_in hl rfl, sgq_2016 (vc_Mo_of_at_s5003_13_7 (v_iv (n_v vs 4)) (v_iv (n_v vs 5)) (v_iv (n_v vs 6)) (v_iv (n_v vs 15)) (v_iv (n_v vs 17)) (v_iv (n_v vs 18)) (v_iv (n_v vs 19)) (v_iv (n_v vs 20)) (v_iv (n_v vs 22)) (v_iv (n_v vs 24)) (v_iv (n_v vs 27)) (v_iv (n_v vs 28)) (v_iv (n_v vs 29)) (v_iv (n_v vs 30)) (v_iv (n_v vs 31)) (w_fi ws (n_v vs 0) 13) (w_fi ws (n_v vs 0) 14) (w_fi ws (n_v vs 0) 12) (w_fi ws (n_v vs 0) 8) (w_ei ws (w_ar ws (n_v vs 0) 1)) (w_fi ws (n_v vs 0) 10) (w_fi ws (n_v vs 0) 15) (w_fi ws (n_v vs 0) 11) (w_fi ws (n_v vs 0) 9) (w_ei ws (w_ar ws (n_v vs 0) 2)) (w_fi ws (n_v vs 0) 5) k4 k5 k6 k15 k17 k18 k19 k20 k22 k24 k27 k28 k29 k30 k31 g0 g1 g2 g4 f5 (shm_1725 f6) (shm_7 f7) (shm_22 f8) (shm_7 f9) (shm_22 f10) (shm_7 f11) (shm_22 f12) (shm_7 f13) (shm_22 f14) f26 kz_0_8 kz_0_9 kz_0_10 kz_0_11 kz_0_12 kz_0_13 kz_0_14 kz_0_15)⟩
  refine ⟨(fun _ h => (by cases h)), [], trivial, ?_, (fun _ h => (by cases h))⟩
  rw [List.append_nil]
  exact List.forall_mem_cons.mpr ⟨⟨show (20 : Nat) < 100 from by decide, nf0⟩, List.forall_mem_cons.mpr ⟨⟨show (20 : Nat) < 100 from by decide, nf1⟩, List.forall_mem_cons.mpr ⟨⟨show (20 : Nat) < 100 from by decide, nf2⟩, List.forall_mem_cons.mpr ⟨⟨show (20 : Nat) < 100 from by decide, nf3⟩, List.forall_mem_cons.mpr ⟨⟨show (20 : Nat) < 100 from by decide, nf4⟩, List.forall_mem_cons.mpr ⟨⟨show (20 : Nat) < 100 from by decide, nf5⟩, List.forall_mem_cons.mpr ⟨⟨show (20 : Nat) < 100 from by decide, nf6⟩, List.forall_mem_cons.mpr ⟨⟨show (20 : Nat) < 100 from by decide, nf7⟩, (fun _ h => (by cases h))⟩⟩⟩⟩⟩⟩⟩⟩
set_option maxHeartbeats 4000000 in
theorem vc_Mo_of_at_s5003_14_0 (x4 : Int) (x5 : Int) (x6 : Int) (x15 : Int) (x17 : Int) (x18 : Int) (x19 : Int) (x20 : Int) (x21 : Int) (x22 : Int) (x24 : Int) (x27 : Int) (x28 : Int) (place_0 : Int) (value_0 : Int) (fault_0 : Int) (kind_0 : Int) (from_0 : Int) (pos_0 : Int) (tape_0 : Int → Int) (all_0 : Int → Int) (limit_0 : Int) (faultPlace_0 : Int) (r_0 : Int) (gx : Int) (k4 : (-1) ≤ x4 ∧ x4 ≤ 48) (k5 : 0 ≤ x5 ∧ x5 ≤ 7) (k6 : 0 ≤ x6 ∧ x6 ≤ 4) (k15 : 0 ≤ x15 ∧ x15 ≤ 2000) (k17 : 0 ≤ x17 ∧ x17 ≤ 2000) (k18 : (-1) ≤ x18 ∧ x18 ≤ 48) (k19 : 0 ≤ x19 ∧ x19 ≤ 7) (k20 : 0 ≤ x20 ∧ x20 ≤ 4) (k21 : 0 ≤ x21 ∧ x21 ≤ 0) (k22 : 2 ≤ x22 ∧ x22 ≤ 2) (k24 : 10 ≤ x24 ∧ x24 ≤ 1048575) (k27 : 5 ≤ x27 ∧ x27 ≤ 5) (k28 : 0 ≤ x28 ∧ x28 ≤ 2000) (g0 : x28 = place_0) (g1 : x24 = value_0) (g3 : x21 = fault_0) (g5 : x22 = kind_0) (f6 : x21 = 0) (f7 : 1 * x17 + ((-1) * x15 + 0) ≤ 0) (f8 : (-1) * x17 + (1 * x15 + 0) ≤ 0) (f9 : 1 * x18 + ((-1) * x4 + 0) ≤ 0) (f10 : (-1) * x18 + (1 * x4 + 0) ≤ 0) (f11 : 1 * x19 + ((-1) * x5 + 0) ≤ 0) (f12 : (-1) * x19 + (1 * x5 + 0) ≤ 0) (f13 : 1 * x20 + ((-1) * x6 + 0) ≤ 0) (f14 : (-1) * x20 + (1 * x6 + 0) ≤ 0) (f26 : zO11w (limit_0) (pos_0) (kind_0) (place_0) (value_0) (from_0) (fault_0) (faultPlace_0) (r_0) (tape_0) (all_0) (x18) (x19) (x20)) (kz_0_8 : 0 ≤ fault_0 ∧ fault_0 ≤ 5) (kz_0_9 : 0 ≤ faultPlace_0 ∧ faultPlace_0 ≤ 2000) (kz_0_10 : 0 ≤ limit_0 ∧ limit_0 ≤ 2000) (kz_0_11 : 0 ≤ pos_0 ∧ pos_0 ≤ 2000) (kz_0_12 : 0 ≤ kind_0 ∧ kind_0 ≤ 4) (kz_0_13 : 0 ≤ place_0 ∧ place_0 ≤ 2000) (kz_0_14 : (-49) ≤ value_0 ∧ value_0 ≤ 1048575) (kz_0_15 : 0 ≤ from_0 ∧ from_0 ≤ 2000) (ex2 : gx = fault_0) : FSX (limit_0) (tape_0) (x27) (x28) := by
  first | (have el_x17 : x17 = x15 := by omega); subst el_x17 | skip
  first | (have el_x18 : x18 = x4 := by omega); subst el_x18 | skip
  first | (have el_x19 : x19 = x5 := by omega); subst el_x19 | skip
  first | (have el_x20 : x20 = x6 := by omega); subst el_x20 | skip
  first | subst g0 | skip
  first | subst g1 | skip
  first | subst g3 | skip
  first | subst g5 | skip
  first | subst ex2 | skip
  first
    | exact fsx_cg (of_nv_s ‹zO11s _ _ _ _ _ _ _ _ _ _ _ _ _ _› (by omega) (by omega) (by omega)) (by omega) (by omega)
    | exact fsx_cg (of_nv_w ‹zO11w _ _ _ _ _ _ _ _ _ _ _ _ _ _› (by omega) (by omega) (by omega)) (by omega) (by omega)
    | (exfalso; omega)
set_option maxHeartbeats 4000000 in
theorem vc_Mo_of_at_s5003_14_1 (x17 : Int) (x21 : Int) (fault_0 : Int) (kind_0 : Int) (from_0 : Int) (pos_0 : Int) (tape_0 : Int → Int) (gx : Int) (k17 : 0 ≤ x17 ∧ x17 ≤ 2000) (k21 : 0 ≤ x21 ∧ x21 ≤ 0) (g3 : x21 = fault_0) (f23 : ((kind_0 = 1) → (pos_0 ≤ (from_0 + 8))) ∧ ((kind_0 = 0) ∨ ((from_0 + 1) ≤ pos_0))) (f25 : (1 ≤ fault_0) ∨ ((x17 + 1) ≤ pos_0)) (hK_0_1 : ∀ j : Int, 0 ≤ j → j < 2000 → (-128) ≤ tape_0 j ∧ tape_0 j ≤ 127) (kz_0_8 : 0 ≤ fault_0 ∧ fault_0 ≤ 5) (kz_0_11 : 0 ≤ pos_0 ∧ pos_0 ≤ 2000) (kz_0_12 : 0 ≤ kind_0 ∧ kind_0 ≤ 4) (kz_0_15 : 0 ≤ from_0 ∧ from_0 ≤ 2000) (ex2 : gx = fault_0) : 1 * fault_0 + ((-1) * gx + 0) ≤ 0 := by
  first | with_reducible assumption | ((have f23_c0 := f23.1); (have f23_c1 := f23.2); (try and_intros) <;> first | with_reducible assumption | (clear f23_c0 f23_c1 f23 f25 hK_0_1; omega)) | ((have f23_c0 := f23.1); (have f23_c1 := f23.2); (try and_intros) <;> first | with_reducible assumption | (clear f23_c0 f23_c1 f23 hK_0_1; omega)) | omega
set_option maxHeartbeats 4000000 in
theorem vc_Mo_of_at_s5003_14_2 (x17 : Int) (x21 : Int) (fault_0 : Int) (kind_0 : Int) (from_0 : Int) (pos_0 : Int) (tape_0 : Int → Int) (gx : Int) (k17 : 0 ≤ x17 ∧ x17 ≤ 2000) (k21 : 0 ≤ x21 ∧ x21 ≤ 0) (g3 : x21 = fault_0) (f23 : ((kind_0 = 1) → (pos_0 ≤ (from_0 + 8))) ∧ ((kind_0 = 0) ∨ ((from_0 + 1) ≤ pos_0))) (f25 : (1 ≤ fault_0) ∨ ((x17 + 1) ≤ pos_0)) (hK_0_1 : ∀ j : Int, 0 ≤ j → j < 2000 → (-128) ≤ tape_0 j ∧ tape_0 j ≤ 127) (kz_0_8 : 0 ≤ fault_0 ∧ fault_0 ≤ 5) (kz_0_11 : 0 ≤ pos_0 ∧ pos_0 ≤ 2000) (kz_0_12 : 0 ≤ kind_0 ∧ kind_0 ≤ 4) (kz_0_15 : 0 ≤ from_0 ∧ from_0 ≤ 2000) (ex2 : gx = fault_0) : (-1) * fault_0 + (1 * gx + 0) ≤ 0 := by
  first | with_reducible assumption | ((have f23_c0 := f23.1); (have f23_c1 := f23.2); (try and_intros) <;> first | with_reducible assumption | (clear f23_c0 f23_c1 f23 f25 hK_0_1; omega)) | ((have f23_c0 := f23.1); (have f23_c1 := f23.2); (try and_intros) <;> first | with_reducible assumption | (clear f23_c0 f23_c1 f23 hK_0_1; omega)) | omega
set_option maxHeartbeats 4000000 in
theorem vc_Mo_of_at_s5003_14_3 (x21 : Int) (fault_0 : Int) (gx : Int) (k21 : 0 ≤ x21 ∧ x21 ≤ 0) (g3 : x21 = fault_0) (kz_0_8 : 0 ≤ fault_0 ∧ fault_0 ≤ 5) (ex2 : gx = fault_0) : ZH0 (gx) := by
  first
    | exact ⟨by omega, by omega, trivial⟩
    | (have h := (oi_0_s ‹zOIs _ _ _ _ _ _ _ _ _ _ _ _ _ _›).1; exact ⟨by omega, by omega, trivial⟩)
    | (have h := (oi_0_w ‹zOIw _ _ _ _ _ _ _ _ _ _ _ _ _ _›).1; exact ⟨by omega, by omega, trivial⟩)
    | (exfalso; omega)
def o_Mo_of_at_s5003_14 : or_T := (118, 29, [(0, (2, 0, 0, [165])), (2, (0, 9, 9, [])), (3, (0, 0, 2000, [])), (4, (0, -1, 48, [])), (5, (0, 0, 7, [])), (6, (0, 0, 4, [])), (7, (2, 0, 0, [165])), (9, (0, 9, 9, [])), (11, (0, 0, 2000, [])), (15, (0, 0, 2000, [])), (17, (0, 0, 2000, [])), (18, (0, -1, 48, [])), (19, (0, 0, 7, [])), (20, (0, 0, 4, [])), (21, (0, 0, 0, [])), (22, (0, 2, 2, [])), (23, (0, 2, 2, [])), (24, (0, 10, 1048575, [])), (27, (0, 5, 5, [])), (28, (0, 0, 2000, []))], [(9, [28, 7], [13]), (9, [24, 7], [14]), (8, [21], [0]), (9, [21, 7], [8]), (7, [22, 23], [0]), (9, [22, 7], [12]), (8, [21], [0]), (23, [17, 15], [0, 1, -1]), (23, [17, 15], [0, -1, 1]), (23, [18, 4], [0, 1, -1]), (23, [18, 4], [0, -1, 1]), (23, [19, 5], [0, 1, -1]), (23, [19, 5], [0, -1, 1]), (23, [20, 6], [0, 1, -1]), (23, [20, 6], [0, -1, 1]), (23, [3, 17], [-1, 1, -1]), (23, [11, 17], [-2000, -1, -1]), (23, [3, 15], [-1, 1, -1]), (23, [11, 15], [-2000, -1, -1]), (23, [4], [0, -1]), (24, [0, 7], []), (24, [2, 9], []), (20, [7, 7], [30, 0, 1, 1, 15, -1, 1, 11]), (20, [7], [50, 3, 0, 12, 11, 15, 2, 21, 4, 7, 1, 3, 2, 0, 12, 0, 1, 0, 3, 2, 0, 11, 4, 3, 2, 0, 15, 0, 8, 3, 7, 1, 3, 2, 0, 12, 0, 0, 0, 7, 4, 3, 2, 0, 15, 0, 1, 2, 0, 11]), (20, [17, 7], [30, 0, 1, 0, 0, -1, 1, 11]), (20, [7, 17], [50, 2, 0, 8, 11, 3, 7, 0, 2, 0, 1, 2, 0, 8, 0, 6, 4, 2, 1, 1, 0, 1, 2, 0, 11]), (20, [7, 18, 19, 20], [60, 9, 2, 1025, 10, 11, 12, 13, 14, 15, 8, 9, 5, 1, 2]), (102, [20], [0, 165008, 165009, 165011, 165012, 165013, 165014, 165015]), (23, [17, 15], [0, 1, -1]), (23, [17, 15], [0, -1, 1]), (23, [18, 4], [0, 1, -1]), (23, [18, 4], [0, -1, 1]), (23, [19, 5], [0, 1, -1]), (23, [19, 5], [0, -1, 1]), (23, [20, 6], [0, 1, -1]), (23, [20, 6], [0, -1, 1]), (23, [3, 17], [-1, 1, -1]), (23, [11, 17], [-2000, -1, -1]), (23, [3, 15], [-1, 1, -1]), (23, [11, 15], [-2000, -1, -1]), (23, [4], [0, -1]), (102, [15], [0, 165011, 165012, 165013, 165014, 165015]), (23, [3, 15], [-1, 1, -1]), (23, [11, 15], [-2000, -1, -1]), (23, [4], [0, -1]), (102, [13], [0]), (23, [4], [0, -1])], [], [(0, 0, 5, [])], [(20, [7, 27, 28], [60, 1, 1, 1026, 10, 1]), (20, [7, 29], [30, 0, 1, 1, 8, -1, 0, 0]), (20, [7, 29], [30, 0, -1, 1, 8, 1, 0, 0]), (20, [29], [61, 0, 1029])], [], [])
theorem oo_Mo_of_at_s5003_14 {kA : Nat → ClassId} : or_ok PRD kA GG o_Mo_of_at_s5003_14 := by
  refine or_mk fun A ta ws vs hD hth hl => ?_
  intro t0 r0 t2 k2 t3 k3 t4 k4 t5 k5 t6 k6 t7 r7 t9 k9 t11 k11 t15 k15 t17 k17 t18 k18 t19 k19 t20 k20 t21 k21 t22 k22 t23 k23 t24 k24 t27 k27 t28 k28 f0 f1 f2 f3 f4 f5 f6 f7 f8 f9 f10 f11 f12 f13 f14 f15 f16 f17 f18 f19 f20 f21 f22 f23 f24 f25 f26 ta1 w1 le1 s1 f28 f29 f30 f31 f32 f33 f34 f35 f36 f37 f38 f39 f40 ta2 w2 le2 s2 f42 f43 f44 ta3 w3 le3 s3 f46
  replace f0 := shm_361 f0
  replace f1 := shm_115 f1
  replace f3 := shm_293 f3
  replace f5 := shm_103 f5
  replace f6 := shm_192 f6
  replace f7 := shm_7 f7
  replace f8 := shm_22 f8
  replace f9 := shm_7 f9
  replace f10 := shm_22 f10
  replace f11 := shm_7 f11
  replace f12 := shm_22 f12
  replace f13 := shm_7 f13
  replace f14 := shm_22 f14
  replace f20 := shm_5 f20
  replace f23 := shm_1438 f23
  replace f25 := shm_1726 f25
  replace f26 := shm_1744 f26
  have q7 : n_v vs 7 = n_v vs 0 := f20.symm
  simp only [q7] at f0 f1 f3 f5 f23 f25 f26
  have cr_0_1 := fdq_39 hD hth r0
  have g0 : v_iv (n_v vs 28) = w_fi ws (n_v vs 0) 13 := congrArg v_iv f0
  have g1 : v_iv (n_v vs 24) = w_fi ws (n_v vs 0) 14 := congrArg v_iv f1
  have g3 : v_iv (n_v vs 21) = w_fi ws (n_v vs 0) 8 := congrArg v_iv f3
  have g5 : v_iv (n_v vs 22) = w_fi ws (n_v vs 0) 12 := congrArg v_iv f5
  have hK_0_1 := elq_7 hD hth cr_0_1
  have kz_0_8 := fdq_34 hD hth r0
  have kz_0_9 := fdq_44 hD hth r0
  have kz_0_10 := fdq_43 hD hth r0
  have kz_0_11 := fdq_237 hD hth r0
  have kz_0_12 := fdq_187 hD hth r0
  have kz_0_13 := fdq_238 hD hth r0
  have kz_0_14 := fdq_188 hD hth r0
  have kz_0_15 := fdq_239 hD hth r0
  obtain ⟨x, ex, hx⟩ := iv_ex (ta := ta) (lo := 0) (hi := 5) (z := w_fi ws (n_v vs 0) 8) (by omega) (by omega) (by omega) (by omega)
  have ex2 : v_iv (Value.int x) = w_fi ws (n_v vs 0) 8 := ex
  have ex3 : 0 ≤ v_iv (Value.int x) ∧ v_iv (Value.int x) ≤ 5 := tv_rng hx
  have e_7 : n_v (vs ++ [Value.int x]) 7 = n_v vs 7 := n_v_old (by rw [hl]; decide)
  have e_27 : n_v (vs ++ [Value.int x]) 27 = n_v vs 27 := n_v_old (by rw [hl]; decide)
  have e_28 : n_v (vs ++ [Value.int x]) 28 = n_v vs 28 := n_v_old (by rw [hl]; decide)
  have e_29 : n_v (vs ++ [Value.int x]) 29 = Value.int x := n_v_new hl
  have nf0 : fc_1 PRD (20, [7, 27, 28], [60, 1, 1, 1026, 10, 1]) ws (vs ++ [Value.int x]) := by
    refine ⟨nf_inA hl rfl, sgq_1724 ?_⟩
    · show FSX (w_fi ws (n_v (vs ++ [Value.int x]) 7) 10) (w_ei ws (w_ar ws (n_v (vs ++ [Value.int x]) 7) 1)) (v_iv (n_v (vs ++ [Value.int x]) 27)) (v_iv (n_v (vs ++ [Value.int x]) 28))
      simp only [e_7, e_27, e_28, q7]
      exact vc_Mo_of_at_s5003_14_0 (v_iv (n_v vs 4)) (v_iv (n_v vs 5)) (v_iv (n_v vs 6)) (v_iv (n_v vs 15)) (v_iv (n_v vs 17)) (v_iv (n_v vs 18)) (v_iv (n_v vs 19)) (v_iv (n_v vs 20)) (v_iv (n_v vs 21)) (v_iv (n_v vs 22)) (v_iv (n_v vs 24)) (v_iv (n_v vs 27)) (v_iv (n_v vs 28)) (w_fi ws (n_v vs 0) 13) (w_fi ws (n_v vs 0) 14) (w_fi ws (n_v vs 0) 8) (w_fi ws (n_v vs 0) 12) (w_fi ws (n_v vs 0) 15) (w_fi ws (n_v vs 0) 11) (w_ei ws (w_ar ws (n_v vs 0) 1)) (w_ei ws (w_ar ws (n_v vs 0) 2)) (w_fi ws (n_v vs 0) 10) (w_fi ws (n_v vs 0) 9) (w_fi ws (n_v vs 0) 5) (v_iv (Value.int x)) k4 k5 k6 k15 k17 k18 k19 k20 k21 k22 k24 k27 k28 g0 g1 g3 g5 f6 f7 f8 f9 f10 f11 f12 f13 f14 f26 kz_0_8 kz_0_9 kz_0_10 kz_0_11 kz_0_12 kz_0_13 kz_0_14 kz_0_15 ex2
  have nf1 : fc_1 PRD (20, [7, 29], [30, 0, 1, 1, 8, -1, 0, 0]) ws (vs ++ [Value.int x]) := by
    refine ⟨nf_inA hl rfl, sgq_303 ?_⟩
    · show 1 * w_fi ws (n_v (vs ++ [Value.int x]) 7) 8 + ((-1) * v_iv (n_v (vs ++ [Value.int x]) 29) + 0) ≤ 0
      simp only [e_7, e_29, q7]
      exact vc_Mo_of_at_s5003_14_1 (v_iv (n_v vs 17)) (v_iv (n_v vs 21)) (w_fi ws (n_v vs 0) 8) (w_fi ws (n_v vs 0) 12) (w_fi ws (n_v vs 0) 15) (w_fi ws (n_v vs 0) 11) (w_ei ws (w_ar ws (n_v vs 0) 1)) (v_iv (Value.int x)) k17 k21 g3 f23 f25 hK_0_1 kz_0_8 kz_0_11 kz_0_12 kz_0_15 ex2
  have nf2 : fc_1 PRD (20, [7, 29], [30, 0, -1, 1, 8, 1, 0, 0]) ws (vs ++ [Value.int x]) := by
    refine ⟨nf_inA hl rfl, sgq_304 ?_⟩
    · show (-1) * w_fi ws (n_v (vs ++ [Value.int x]) 7) 8 + (1 * v_iv (n_v (vs ++ [Value.int x]) 29) + 0) ≤ 0
      simp only [e_7, e_29, q7]
      exact vc_Mo_of_at_s5003_14_2 (v_iv (n_v vs 17)) (v_iv (n_v vs 21)) (w_fi ws (n_v vs 0) 8) (w_fi ws (n_v vs 0) 12) (w_fi ws (n_v vs 0) 15) (w_fi ws (n_v vs 0) 11) (w_ei ws (w_ar ws (n_v vs 0) 1)) (v_iv (Value.int x)) k17 k21 g3 f23 f25 hK_0_1 kz_0_8 kz_0_11 kz_0_12 kz_0_15 ex2
  have nf3 : fc_1 PRD (20, [29], [61, 0, 1029]) ws (vs ++ [Value.int x]) := by
    refine ⟨nf_inA hl rfl, sgq_1725 ?_⟩
    · show ZH0 (v_iv (n_v (vs ++ [Value.int x]) 29))
      rw [e_29]
      exact vc_Mo_of_at_s5003_14_3 (v_iv (n_v vs 21)) (w_fi ws (n_v vs 0) 8) (v_iv (Value.int x)) k21 g3 kz_0_8 ex2
  exact ⟨(fun _ h => (by cases h)), [Value.int x], ag_one hx, List.forall_mem_cons.mpr ⟨⟨show (20 : Nat) < 100 from by decide, nf0⟩, List.forall_mem_cons.mpr ⟨⟨show (20 : Nat) < 100 from by decide, nf1⟩, List.forall_mem_cons.mpr ⟨⟨show (20 : Nat) < 100 from by decide, nf2⟩, List.forall_mem_cons.mpr ⟨⟨show (20 : Nat) < 100 from by decide, nf3⟩, (fun _ h => (by cases h))⟩⟩⟩⟩, (fun _ h => (by cases h))⟩
set_option maxHeartbeats 4000000 in
theorem vc_Mo_of_at_s5003_15_0 (x2 : Int) (x24 : Int) (x27 : Int) (x28 : Int) (x29 : Int) (x30 : Int) (kind_0 : Int) (fault_0 : Int) (tape_0 : Int → Int) (from_0 : Int) (pos_0 : Int) (faultPlace_0 : Int) (k2 : 9 ≤ x2 ∧ x2 ≤ 9) (k24 : 10 ≤ x24 ∧ x24 ≤ 1048575) (k27 : 5 ≤ x27 ∧ x27 ≤ 5) (k28 : 0 ≤ x28 ∧ x28 ≤ 2000) (k29 : 0 ≤ x29 ∧ x29 ≤ 5) (k30 : 0 ≤ x30 ∧ x30 ≤ 0) (g4 : x30 = fault_0) (f18 : ((kind_0 = 1) → (pos_0 ≤ (from_0 + 8))) ∧ ((kind_0 = 0) ∨ ((from_0 + 1) ≤ pos_0))) (f20 : (-1) * fault_0 + 0 ≤ (-1)) (f21 : ((1 ≤ x29) ∧ (fault_0 = x29)) ∨ ((x29 = 0) ∧ ((fault_0 = x27) ∧ (faultPlace_0 = x28)))) (hK_0_1 : ∀ j : Int, 0 ≤ j → j < 2000 → (-128) ≤ tape_0 j ∧ tape_0 j ≤ 127) (kz_0_8 : 0 ≤ fault_0 ∧ fault_0 ≤ 5) (kz_0_9 : 0 ≤ faultPlace_0 ∧ faultPlace_0 ≤ 2000) (kz_0_11 : 0 ≤ pos_0 ∧ pos_0 ≤ 2000) (kz_0_12 : 0 ≤ kind_0 ∧ kind_0 ≤ 4) (kz_0_15 : 0 ≤ from_0 ∧ from_0 ≤ 2000) : 1 * x24 + ((-1) * x2 + 0) ≤ 0 := by
  first | with_reducible assumption | ((have f18_c0 := f18.1); (have f18_c1 := f18.2); (try and_intros) <;> first | with_reducible assumption | (clear f18_c0 f18_c1 f18 f21 hK_0_1; omega)) | ((have f18_c0 := f18.1); (have f18_c1 := f18.2); (try and_intros) <;> first | with_reducible assumption | (clear f18_c0 f18_c1 f18 hK_0_1; omega)) | omega
set_option maxHeartbeats 4000000 in
theorem vc_Mo_of_at_s5003_15_1 (x24 : Int) (x27 : Int) (x28 : Int) (x29 : Int) (x30 : Int) (kind_0 : Int) (fault_0 : Int) (tape_0 : Int → Int) (from_0 : Int) (pos_0 : Int) (faultPlace_0 : Int) (k24 : 10 ≤ x24 ∧ x24 ≤ 1048575) (k27 : 5 ≤ x27 ∧ x27 ≤ 5) (k28 : 0 ≤ x28 ∧ x28 ≤ 2000) (k29 : 0 ≤ x29 ∧ x29 ≤ 5) (k30 : 0 ≤ x30 ∧ x30 ≤ 0) (g4 : x30 = fault_0) (f18 : ((kind_0 = 1) → (pos_0 ≤ (from_0 + 8))) ∧ ((kind_0 = 0) ∨ ((from_0 + 1) ≤ pos_0))) (f20 : (-1) * fault_0 + 0 ≤ (-1)) (f21 : ((1 ≤ x29) ∧ (fault_0 = x29)) ∨ ((x29 = 0) ∧ ((fault_0 = x27) ∧ (faultPlace_0 = x28)))) (hK_0_1 : ∀ j : Int, 0 ≤ j → j < 2000 → (-128) ≤ tape_0 j ∧ tape_0 j ≤ 127) (kz_0_8 : 0 ≤ fault_0 ∧ fault_0 ≤ 5) (kz_0_9 : 0 ≤ faultPlace_0 ∧ faultPlace_0 ≤ 2000) (kz_0_11 : 0 ≤ pos_0 ∧ pos_0 ≤ 2000) (kz_0_12 : 0 ≤ kind_0 ∧ kind_0 ≤ 4) (kz_0_15 : 0 ≤ from_0 ∧ from_0 ≤ 2000) : (-1) * x24 + 0 ≤ 0 := by
  first | with_reducible assumption | ((have f18_c0 := f18.1); (have f18_c1 := f18.2); (try and_intros) <;> first | with_reducible assumption | (clear f18_c0 f18_c1 f18 f21 hK_0_1; omega)) | ((have f18_c0 := f18.1); (have f18_c1 := f18.2); (try and_intros) <;> first | with_reducible assumption | (clear f18_c0 f18_c1 f18 hK_0_1; omega)) | omega
def o_Mo_of_at_s5003_15 : or_T := (135, 31, [(0, (2, 0, 0, [165])), (2, (0, 9, 9, [])), (3, (0, 0, 2000, [])), (7, (2, 0, 0, [165])), (9, (0, 9, 9, [])), (10, (0, -49, 0, [])), (11, (0, 0, 2000, [])), (15, (0, 0, 2000, [])), (17, (0, 0, 2000, [])), (22, (0, 2, 2, [])), (23, (0, 2, 2, [])), (24, (0, 10, 1048575, [])), (27, (0, 5, 5, [])), (28, (0, 0, 2000, [])), (29, (0, 0, 5, [])), (30, (0, 0, 0, []))], [(9, [28, 7], [13]), (9, [22, 7], [12]), (9, [24, 7], [14]), (8, [30], [5]), (9, [30, 7], [8]), (20, [7, 27, 28], [60, 1, 1, 1026, 10, 1]), (20, [29], [61, 0, 1029]), (23, [17, 15], [0, 1, -1]), (23, [17, 15], [0, -1, 1]), (23, [3, 17], [-1, 1, -1]), (23, [11, 17], [-2000, -1, -1]), (23, [3, 15], [-1, 1, -1]), (23, [11, 15], [-2000, -1, -1]), (23, [10, 9], [0, 1, -1]), (23, [10], [0, -1]), (24, [0, 7], []), (24, [2, 9], []), (20, [7, 7], [30, 0, 1, 1, 15, -1, 1, 11]), (20, [7], [50, 3, 0, 12, 11, 15, 2, 21, 4, 7, 1, 3, 2, 0, 12, 0, 1, 0, 3, 2, 0, 11, 4, 3, 2, 0, 15, 0, 8, 3, 7, 1, 3, 2, 0, 12, 0, 0, 0, 7, 4, 3, 2, 0, 15, 0, 1, 2, 0, 11]), (20, [17, 7], [30, 0, 1, 0, 0, -1, 1, 11]), (20, [7], [30, -1, -1, 1, 8]), (20, [29, 7, 27, 28], [50, 2, 0, 1008, 1009, 3, 15, 2, 6, 0, 2, 0, 1, 1, 0, 1, 3, 2, 1, 8, 1, 0, 2, 6, 1, 2, 1, 0, 0, 0, 2, 7, 1, 3, 2, 1, 8, 1, 2, 1, 3, 2, 1, 9, 1, 3]), (102, [29], [0, 165008, 165009]), (7, [22, 23], [0]), (23, [17, 15], [0, 1, -1]), (23, [17, 15], [0, -1, 1]), (23, [3, 17], [-1, 1, -1]), (23, [11, 17], [-2000, -1, -1]), (23, [3, 15], [-1, 1, -1]), (23, [11, 15], [-2000, -1, -1]), (23, [10, 9], [0, 1, -1]), (23, [10], [0, -1]), (102, [20], [0, 165008, 165009, 165011, 165012, 165013, 165014, 165015]), (23, [17, 15], [0, 1, -1]), (23, [17, 15], [0, -1, 1]), (23, [3, 17], [-1, 1, -1]), (23, [11, 17], [-2000, -1, -1]), (23, [3, 15], [-1, 1, -1]), (23, [11, 15], [-2000, -1, -1]), (23, [10, 9], [0, 1, -1]), (23, [10], [0, -1]), (102, [15], [0, 165011, 165012, 165013, 165014, 165015]), (23, [3, 15], [-1, 1, -1]), (23, [11, 15], [-2000, -1, -1]), (8, [10], [5]), (23, [10, 9], [0, 1, -1]), (23, [10], [0, -1]), (102, [13], [0]), (23, [10, 9], [0, 1, -1]), (23, [10], [0, -1])], [], [], [(23, [24, 9], [0, 1, -1]), (23, [24], [0, -1])], [], [])
theorem oo_Mo_of_at_s5003_15 {kA : Nat → ClassId} : or_ok PRD kA GG o_Mo_of_at_s5003_15 := by
  refine or_mk fun A ta ws vs hD hth hl => ?_
  intro t0 r0 t2 k2 t3 k3 t7 r7 t9 k9 t10 k10 t11 k11 t15 k15 t17 k17 t22 k22 t23 k23 t24 k24 t27 k27 t28 k28 t29 k29 t30 k30 f0 f1 f2 f3 f4 f5 f6 f7 f8 f9 f10 f11 f12 f13 f14 f15 f16 f17 f18 f19 f20 f21 ta1 w1 le1 s1 f23 f24 f25 f26 f27 f28 f29 f30 f31 ta2 w2 le2 s2 f33 f34 f35 f36 f37 f38 f39 f40 ta3 w3 le3 s3 f42 f43 f44 f45 f46 ta4 w4 le4 s4 f48 f49
  replace f4 := shm_293 f4
  replace f15 := shm_5 f15
  replace f16 := shm_5 f16
  replace f18 := shm_1438 f18
  replace f20 := shm_305 f20
  replace f21 := shm_306 f21
  have q7 : n_v vs 7 = n_v vs 0 := f15.symm
  have q9 : n_v vs 9 = n_v vs 2 := f16.symm
  simp only [q7] at f4 f18 f20 f21
  have cr_0_1 := fdq_39 hD hth r0
  have g4 : v_iv (n_v vs 30) = w_fi ws (n_v vs 0) 8 := congrArg v_iv f4
  have hK_0_1 := elq_7 hD hth cr_0_1
  have kz_0_8 := fdq_34 hD hth r0
  have kz_0_9 := fdq_44 hD hth r0
  have kz_0_11 := fdq_237 hD hth r0
  have kz_0_12 := fdq_187 hD hth r0
  have kz_0_15 := fdq_239 hD hth r0
  have nf0 : fc_1 PRD (23, [24, 9], [0, 1, -1]) ws (vs) := by
    refine ⟨nf_in hl rfl, sgq_7 ?_⟩
    · show 1 * v_iv (n_v vs 24) + ((-1) * v_iv (n_v vs 9) + 0) ≤ 0
      rw [q9]
      exact vc_Mo_of_at_s5003_15_0 (v_iv (n_v vs 2)) (v_iv (n_v vs 24)) (v_iv (n_v vs 27)) (v_iv (n_v vs 28)) (v_iv (n_v vs 29)) (v_iv (n_v vs 30)) (w_fi ws (n_v vs 0) 12) (w_fi ws (n_v vs 0) 8) (w_ei ws (w_ar ws (n_v vs 0) 1)) (w_fi ws (n_v vs 0) 15) (w_fi ws (n_v vs 0) 11) (w_fi ws (n_v vs 0) 9) k2 k24 k27 k28 k29 k30 g4 f18 f20 f21 hK_0_1 kz_0_8 kz_0_9 kz_0_11 kz_0_12 kz_0_15
  have nf1 : fc_1 PRD (23, [24], [0, -1]) ws (vs) := ⟨nf_in hl rfl, sgq_1043 (vc_Mo_of_at_s5003_15_1 (v_iv (n_v vs 24)) (v_iv (n_v vs 27)) (v_iv (n_v vs 28)) (v_iv (n_v vs 29)) (v_iv (n_v vs 30)) (w_fi ws (n_v vs 0) 12) (w_fi ws (n_v vs 0) 8) (w_ei ws (w_ar ws (n_v vs 0) 1)) (w_fi ws (n_v vs 0) 15) (w_fi ws (n_v vs 0) 11) (w_fi ws (n_v vs 0) 9) k24 k27 k28 k29 k30 g4 f18 f20 f21 hK_0_1 kz_0_8 kz_0_9 kz_0_11 kz_0_12 kz_0_15)⟩
  refine ⟨(fun _ h => (by cases h)), [], trivial, ?_, (fun _ h => (by cases h))⟩
  rw [List.append_nil]
  exact List.forall_mem_cons.mpr ⟨⟨show (23 : Nat) < 100 from by decide, nf0⟩, List.forall_mem_cons.mpr ⟨⟨show (23 : Nat) < 100 from by decide, nf1⟩, (fun _ h => (by cases h))⟩⟩
set_option maxHeartbeats 4000000 in
theorem vc_Mo_of_at_s5003_16_0 (x2 : Int) (x24 : Int) (x27 : Int) (x28 : Int) (x29 : Int) (kind_0 : Int) (fault_0 : Int) (tape_0 : Int → Int) (from_0 : Int) (pos_0 : Int) (faultPlace_0 : Int) (gx : Int) (k2 : 9 ≤ x2 ∧ x2 ≤ 9) (k24 : 10 ≤ x24 ∧ x24 ≤ 1048575) (k27 : 5 ≤ x27 ∧ x27 ≤ 5) (k28 : 0 ≤ x28 ∧ x28 ≤ 2000) (k29 : 0 ≤ x29 ∧ x29 ≤ 5) (f2 : 1 * x24 + ((-1) * x2 + 0) ≤ 0) (f27 : ((kind_0 = 1) → (pos_0 ≤ (from_0 + 8))) ∧ ((kind_0 = 0) ∨ ((from_0 + 1) ≤ pos_0))) (f30 : ((1 ≤ x29) ∧ (fault_0 = x29)) ∨ ((x29 = 0) ∧ ((fault_0 = x27) ∧ (faultPlace_0 = x28)))) (hK_0_1 : ∀ j : Int, 0 ≤ j → j < 2000 → (-128) ≤ tape_0 j ∧ tape_0 j ≤ 127) (kz_0_8 : 0 ≤ fault_0 ∧ fault_0 ≤ 5) (kz_0_9 : 0 ≤ faultPlace_0 ∧ faultPlace_0 ≤ 2000) (kz_0_11 : 0 ≤ pos_0 ∧ pos_0 ≤ 2000) (kz_0_12 : 0 ≤ kind_0 ∧ kind_0 ≤ 4) (kz_0_15 : 0 ≤ from_0 ∧ from_0 ≤ 2000) : 1 * gx + ((-1) * pos_0 + 0) ≤ 0 := by
  first | with_reducible assumption | ((have f27_c0 := f27.1); (have f27_c1 := f27.2); (try and_intros) <;> first | with_reducible assumption | (clear f27_c0 f27_c1 f27 f30 hK_0_1; omega)) | ((have f27_c0 := f27.1); (have f27_c1 := f27.2); (try and_intros) <;> first | with_reducible assumption | (clear f27_c0 f27_c1 f27 hK_0_1; omega)) | omega
set_option maxHeartbeats 4000000 in
theorem vc_Mo_of_at_s5003_16_1 (x27 : Int) (x28 : Int) (x29 : Int) (kind_0 : Int) (fault_0 : Int) (tape_0 : Int → Int) (from_0 : Int) (pos_0 : Int) (faultPlace_0 : Int) (gx : Int) (k27 : 5 ≤ x27 ∧ x27 ≤ 5) (k28 : 0 ≤ x28 ∧ x28 ≤ 2000) (k29 : 0 ≤ x29 ∧ x29 ≤ 5) (f27 : ((kind_0 = 1) → (pos_0 ≤ (from_0 + 8))) ∧ ((kind_0 = 0) ∨ ((from_0 + 1) ≤ pos_0))) (f30 : ((1 ≤ x29) ∧ (fault_0 = x29)) ∨ ((x29 = 0) ∧ ((fault_0 = x27) ∧ (faultPlace_0 = x28)))) (hK_0_1 : ∀ j : Int, 0 ≤ j → j < 2000 → (-128) ≤ tape_0 j ∧ tape_0 j ≤ 127) (kz_0_8 : 0 ≤ fault_0 ∧ fault_0 ≤ 5) (kz_0_9 : 0 ≤ faultPlace_0 ∧ faultPlace_0 ≤ 2000) (kz_0_11 : 0 ≤ pos_0 ∧ pos_0 ≤ 2000) (kz_0_12 : 0 ≤ kind_0 ∧ kind_0 ≤ 4) (kz_0_15 : 0 ≤ from_0 ∧ from_0 ≤ 2000) (ex2 : gx = pos_0) : gx = pos_0 := by
  first | with_reducible assumption | ((have f27_c0 := f27.1); (have f27_c1 := f27.2); (try and_intros) <;> first | with_reducible assumption | (clear f27_c0 f27_c1 f27 f30 hK_0_1; omega)) | ((have f27_c0 := f27.1); (have f27_c1 := f27.2); (try and_intros) <;> first | with_reducible assumption | (clear f27_c0 f27_c1 f27 hK_0_1; omega)) | omega
set_option maxHeartbeats 4000000 in
theorem vc_Mo_of_at_s5003_16_2 (x2 : Int) (x4 : Int) (x5 : Int) (x6 : Int) (x15 : Int) (x17 : Int) (x18 : Int) (x19 : Int) (x20 : Int) (x22 : Int) (x24 : Int) (x28 : Int) (x30 : Int) (place_0 : Int) (kind_0 : Int) (value_0 : Int) (fault_0 : Int) (limit_0 : Int) (pos_0 : Int) (gx : Int) (k2 : 9 ≤ x2 ∧ x2 ≤ 9) (k22 : 2 ≤ x22 ∧ x22 ≤ 2) (k24 : 10 ≤ x24 ∧ x24 ≤ 1048575) (k28 : 0 ≤ x28 ∧ x28 ≤ 2000) (k30 : 0 ≤ x30 ∧ x30 ≤ 0) (g0 : x28 = place_0) (g1 : x22 = kind_0) (f2 : 1 * x24 + ((-1) * x2 + 0) ≤ 0) (g4 : x24 = value_0) (g6 : x30 = fault_0) (kz_0_8 : 0 ≤ fault_0 ∧ fault_0 ≤ 5) (kz_0_10 : 0 ≤ limit_0 ∧ limit_0 ≤ 2000) (kz_0_11 : 0 ≤ pos_0 ∧ pos_0 ≤ 2000) (kz_0_12 : 0 ≤ kind_0 ∧ kind_0 ≤ 4) (kz_0_13 : 0 ≤ place_0 ∧ place_0 ≤ 2000) (kz_0_14 : (-49) ≤ value_0 ∧ value_0 ≤ 1048575) (ex2 : gx = pos_0) : ZLM (limit_0) (pos_0) := by
  first | (have el_x17 : x17 = x15 := by omega); subst el_x17 | skip
  first | (have el_x18 : x18 = x4 := by omega); subst el_x18 | skip
  first | (have el_x19 : x19 = x5 := by omega); subst el_x19 | skip
  first | (have el_x20 : x20 = x6 := by omega); subst el_x20 | skip
  first | subst g0 | skip
  first | subst g1 | skip
  first | subst g4 | skip
  first | subst g6 | skip
  first | subst ex2 | skip
  first
    | exact ob_0_s ‹zOBs _ _ _ _ _ _ _ _ _ _ _ _ _ _› (sgq_t (C := 91) ‹SGQ _ _ _ _ _› (by omega) (by omega)).1
    | exact ob_0_w ‹zOBw _ _ _ _ _ _ _ _ _ _ _ _ _ _› (sgq_t (C := 91) ‹SGQ _ _ _ _ _› (by omega) (by omega)).1
    | exact (oi_0_s ‹zOIs _ _ _ _ _ _ _ _ _ _ _ _ _ _›).2
    | exact (oi_0_w ‹zOIw _ _ _ _ _ _ _ _ _ _ _ _ _ _›).2
    | exact o11_0_s ‹zO11s _ _ _ _ _ _ _ _ _ _ _ _ _ _› (by omega)
    | exact o11_0_w ‹zO11w _ _ _ _ _ _ _ _ _ _ _ _ _ _› (by omega)
    | (exfalso; omega)
set_option maxHeartbeats 4000000 in
theorem vc_Mo_of_at_s5003_16_3 (x2 : Int) (x3 : Int) (x24 : Int) (x27 : Int) (x28 : Int) (x29 : Int) (kind_0 : Int) (fault_0 : Int) (tape_0 : Int → Int) (from_0 : Int) (pos_0 : Int) (faultPlace_0 : Int) (gx : Int) (k2 : 9 ≤ x2 ∧ x2 ≤ 9) (k3 : 0 ≤ x3 ∧ x3 ≤ 2000) (k24 : 10 ≤ x24 ∧ x24 ≤ 1048575) (k27 : 5 ≤ x27 ∧ x27 ≤ 5) (k28 : 0 ≤ x28 ∧ x28 ≤ 2000) (k29 : 0 ≤ x29 ∧ x29 ≤ 5) (f2 : 1 * x24 + ((-1) * x2 + 0) ≤ 0) (f27 : ((kind_0 = 1) → (pos_0 ≤ (from_0 + 8))) ∧ ((kind_0 = 0) ∨ ((from_0 + 1) ≤ pos_0))) (f30 : ((1 ≤ x29) ∧ (fault_0 = x29)) ∨ ((x29 = 0) ∧ ((fault_0 = x27) ∧ (faultPlace_0 = x28)))) (hK_0_1 : ∀ j : Int, 0 ≤ j → j < 2000 → (-128) ≤ tape_0 j ∧ tape_0 j ≤ 127) (kz_0_8 : 0 ≤ fault_0 ∧ fault_0 ≤ 5) (kz_0_9 : 0 ≤ faultPlace_0 ∧ faultPlace_0 ≤ 2000) (kz_0_11 : 0 ≤ pos_0 ∧ pos_0 ≤ 2000) (kz_0_12 : 0 ≤ kind_0 ∧ kind_0 ≤ 4) (kz_0_15 : 0 ≤ from_0 ∧ from_0 ≤ 2000) : 1 * x3 + ((-1) * gx + 0) ≤ (-1) := by
  first | with_reducible assumption | ((have f27_c0 := f27.1); (have f27_c1 := f27.2); (try and_intros) <;> first | with_reducible assumption | (clear f27_c0 f27_c1 f27 f30 hK_0_1; omega)) | ((have f27_c0 := f27.1); (have f27_c1 := f27.2); (try and_intros) <;> first | with_reducible assumption | (clear f27_c0 f27_c1 f27 hK_0_1; omega)) | omega
set_option maxHeartbeats 4000000 in
theorem vc_Mo_of_at_s5003_16_4 (x2 : Int) (x11 : Int) (x24 : Int) (x27 : Int) (x28 : Int) (x29 : Int) (kind_0 : Int) (fault_0 : Int) (tape_0 : Int → Int) (from_0 : Int) (pos_0 : Int) (faultPlace_0 : Int) (gx : Int) (k2 : 9 ≤ x2 ∧ x2 ≤ 9) (k11 : 0 ≤ x11 ∧ x11 ≤ 2000) (k24 : 10 ≤ x24 ∧ x24 ≤ 1048575) (k27 : 5 ≤ x27 ∧ x27 ≤ 5) (k28 : 0 ≤ x28 ∧ x28 ≤ 2000) (k29 : 0 ≤ x29 ∧ x29 ≤ 5) (f2 : 1 * x24 + ((-1) * x2 + 0) ≤ 0) (f27 : ((kind_0 = 1) → (pos_0 ≤ (from_0 + 8))) ∧ ((kind_0 = 0) ∨ ((from_0 + 1) ≤ pos_0))) (f30 : ((1 ≤ x29) ∧ (fault_0 = x29)) ∨ ((x29 = 0) ∧ ((fault_0 = x27) ∧ (faultPlace_0 = x28)))) (hK_0_1 : ∀ j : Int, 0 ≤ j → j < 2000 → (-128) ≤ tape_0 j ∧ tape_0 j ≤ 127) (kz_0_8 : 0 ≤ fault_0 ∧ fault_0 ≤ 5) (kz_0_9 : 0 ≤ faultPlace_0 ∧ faultPlace_0 ≤ 2000) (kz_0_11 : 0 ≤ pos_0 ∧ pos_0 ≤ 2000) (kz_0_12 : 0 ≤ kind_0 ∧ kind_0 ≤ 4) (kz_0_15 : 0 ≤ from_0 ∧ from_0 ≤ 2000) : (-1) * x11 + ((-1) * gx + 0) ≤ (-2001) := by
  first | with_reducible assumption | ((have f27_c0 := f27.1); (have f27_c1 := f27.2); (try and_intros) <;> first | with_reducible assumption | (clear f27_c0 f27_c1 f27 f30 hK_0_1; omega)) | ((have f27_c0 := f27.1); (have f27_c1 := f27.2); (try and_intros) <;> first | with_reducible assumption | (clear f27_c0 f27_c1 f27 hK_0_1; omega)) | omega
set_option maxHeartbeats 4000000 in
theorem vc_Mo_of_at_s5003_16_5 (x2 : Int) (x4 : Int) (x5 : Int) (x6 : Int) (x15 : Int) (x17 : Int) (x18 : Int) (x19 : Int) (x20 : Int) (x22 : Int) (x24 : Int) (x28 : Int) (x30 : Int) (place_0 : Int) (kind_0 : Int) (value_0 : Int) (fault_0 : Int) (tape_0 : Int → Int) (limit_0 : Int) (pos_0 : Int) (gx : Int) (all_0 : Int → Int) (r_0 : Int) (k2 : 9 ≤ x2 ∧ x2 ≤ 9) (k4 : (-1) ≤ x4 ∧ x4 ≤ 48) (k5 : 0 ≤ x5 ∧ x5 ≤ 7) (k6 : 0 ≤ x6 ∧ x6 ≤ 4) (k22 : 2 ≤ x22 ∧ x22 ≤ 2) (k24 : 10 ≤ x24 ∧ x24 ≤ 1048575) (k28 : 0 ≤ x28 ∧ x28 ≤ 2000) (k30 : 0 ≤ x30 ∧ x30 ≤ 0) (g0 : x28 = place_0) (g1 : x22 = kind_0) (f2 : 1 * x24 + ((-1) * x2 + 0) ≤ 0) (g4 : x24 = value_0) (g6 : x30 = fault_0) (kz_0_8 : 0 ≤ fault_0 ∧ fault_0 ≤ 5) (kz_0_10 : 0 ≤ limit_0 ∧ limit_0 ≤ 2000) (kz_0_11 : 0 ≤ pos_0 ∧ pos_0 ≤ 2000) (kz_0_12 : 0 ≤ kind_0 ∧ kind_0 ≤ 4) (kz_0_13 : 0 ≤ place_0 ∧ place_0 ≤ 2000) (kz_0_14 : (-49) ≤ value_0 ∧ value_0 ≤ 1048575) (ex2 : gx = pos_0) : zU12w (limit_0) (fault_0) (r_0) (tape_0) (all_0) (x4) (x24) (x5) (x6) (gx) := by
  first | (have el_x17 : x17 = x15 := by omega); subst el_x17 | skip
  first | (have el_x18 : x18 = x4 := by omega); subst el_x18 | skip
  first | (have el_x19 : x19 = x5 := by omega); subst el_x19 | skip
  first | (have el_x20 : x20 = x6 := by omega); subst el_x20 | skip
  first | subst g0 | skip
  first | subst g1 | skip
  first | subst g4 | skip
  first | subst g6 | skip
  first | subst ex2 | skip
  first
    | exact of_val_w ‹zO11w _ _ _ _ _ _ _ _ _ _ _ _ _ _› (by omega) (by omega) (by omega) (by omega) (by omega)
    | (exfalso; omega)
def o_Mo_of_at_s5003_16 : or_T := (136, 31, [(0, (2, 0, 0, [165])), (2, (0, 9, 9, [])), (3, (0, 0, 2000, [])), (4, (0, -1, 48, [])), (5, (0, 0, 7, [])), (6, (0, 0, 4, [])), (7, (2, 0, 0, [165])), (9, (0, 9, 9, [])), (10, (0, -49, 0, [])), (11, (0, 0, 2000, [])), (15, (0, 0, 2000, [])), (17, (0, 0, 2000, [])), (18, (0, -1, 48, [])), (19, (0, 0, 7, [])), (20, (0, 0, 4, [])), (22, (0, 2, 2, [])), (23, (0, 2, 2, [])), (24, (0, 10, 1048575, [])), (27, (0, 5, 5, [])), (28, (0, 0, 2000, [])), (29, (0, 0, 5, [])), (30, (0, 0, 0, []))], [(9, [28, 7], [13]), (9, [22, 7], [12]), (23, [24, 9], [0, 1, -1]), (23, [24], [0, -1]), (9, [24, 7], [14]), (8, [30], [5]), (9, [30, 7], [8]), (20, [7, 27, 28], [60, 1, 1, 1026, 10, 1]), (20, [29], [61, 0, 1029]), (23, [17, 15], [0, 1, -1]), (23, [17, 15], [0, -1, 1]), (23, [18, 4], [0, 1, -1]), (23, [18, 4], [0, -1, 1]), (23, [19, 5], [0, 1, -1]), (23, [19, 5], [0, -1, 1]), (23, [20, 6], [0, 1, -1]), (23, [20, 6], [0, -1, 1]), (23, [3, 17], [-1, 1, -1]), (23, [11, 17], [-2000, -1, -1]), (23, [3, 15], [-1, 1, -1]), (23, [11, 15], [-2000, -1, -1]), (23, [10, 9], [0, 1, -1]), (23, [10], [0, -1]), (23, [4], [0, -1]), (24, [0, 7], []), (24, [2, 9], []), (20, [7, 7], [30, 0, 1, 1, 15, -1, 1, 11]), (20, [7], [50, 3, 0, 12, 11, 15, 2, 21, 4, 7, 1, 3, 2, 0, 12, 0, 1, 0, 3, 2, 0, 11, 4, 3, 2, 0, 15, 0, 8, 3, 7, 1, 3, 2, 0, 12, 0, 0, 0, 7, 4, 3, 2, 0, 15, 0, 1, 2, 0, 11]), (20, [17, 7], [30, 0, 1, 0, 0, -1, 1, 11]), (20, [7], [30, -1, -1, 1, 8]), (20, [29, 7, 27, 28], [50, 2, 0, 1008, 1009, 3, 15, 2, 6, 0, 2, 0, 1, 1, 0, 1, 3, 2, 1, 8, 1, 0, 2, 6, 1, 2, 1, 0, 0, 0, 2, 7, 1, 3, 2, 1, 8, 1, 2, 1, 3, 2, 1, 9, 1, 3]), (102, [29], [0, 165008, 165009]), (7, [22, 23], [0]), (23, [17, 15], [0, 1, -1]), (23, [17, 15], [0, -1, 1]), (23, [18, 4], [0, 1, -1]), (23, [18, 4], [0, -1, 1]), (23, [19, 5], [0, 1, -1]), (23, [19, 5], [0, -1, 1]), (23, [20, 6], [0, 1, -1]), (23, [20, 6], [0, -1, 1]), (23, [3, 17], [-1, 1, -1]), (23, [11, 17], [-2000, -1, -1]), (23, [3, 15], [-1, 1, -1]), (23, [11, 15], [-2000, -1, -1]), (23, [10, 9], [0, 1, -1]), (23, [10], [0, -1]), (23, [4], [0, -1]), (102, [20], [0, 165008, 165009, 165011, 165012, 165013, 165014, 165015]), (23, [17, 15], [0, 1, -1]), (23, [17, 15], [0, -1, 1]), (23, [18, 4], [0, 1, -1]), (23, [18, 4], [0, -1, 1]), (23, [19, 5], [0, 1, -1]), (23, [19, 5], [0, -1, 1]), (23, [20, 6], [0, 1, -1]), (23, [20, 6], [0, -1, 1]), (23, [3, 17], [-1, 1, -1]), (23, [11, 17], [-2000, -1, -1]), (23, [3, 15], [-1, 1, -1]), (23, [11, 15], [-2000, -1, -1]), (23, [10, 9], [0, 1, -1]), (23, [10], [0, -1]), (23, [4], [0, -1]), (102, [15], [0, 165011, 165012, 165013, 165014, 165015]), (23, [3, 15], [-1, 1, -1]), (23, [11, 15], [-2000, -1, -1]), (8, [10], [5]), (23, [10, 9], [0, 1, -1]), (23, [10], [0, -1]), (23, [4], [0, -1]), (102, [13], [0]), (23, [10, 9], [0, 1, -1]), (23, [10], [0, -1]), (23, [4], [0, -1])], [], [(0, 0, 2000, [])], [(20, [31, 7], [30, 0, 1, 0, 0, -1, 1, 11]), (20, [31, 7], [50, 1, 0, 1011, 1, 2, 1, 0, 2, 1, 11]), (20, [7], [60, 2, 0, 947, 10, 11]), (23, [3, 31], [-1, 1, -1]), (23, [11, 31], [-2001, -1, -1]), (20, [7, 4, 24, 5, 6, 31], [60, 3, 2, 987, 10, 8, 5, 1, 2])], [], [])
theorem oo_Mo_of_at_s5003_16 {kA : Nat → ClassId} : or_ok PRD kA GG o_Mo_of_at_s5003_16 := by
  refine or_mk fun A ta ws vs hD hth hl => ?_
  intro t0 r0 t2 k2 t3 k3 t4 k4 t5 k5 t6 k6 t7 r7 t9 k9 t10 k10 t11 k11 t15 k15 t17 k17 t18 k18 t19 k19 t20 k20 t22 k22 t23 k23 t24 k24 t27 k27 t28 k28 t29 k29 t30 k30 f0 f1 f2 f3 f4 f5 f6 f7 f8 f9 f10 f11 f12 f13 f14 f15 f16 f17 f18 f19 f20 f21 f22 f23 f24 f25 f26 f27 f28 f29 f30 ta1 w1 le1 s1 f32 f33 f34 f35 f36 f37 f38 f39 f40 f41 f42 f43 f44 f45 f46 f47 ta2 w2 le2 s2 f49 f50 f51 f52 f53 f54 f55 f56 f57 f58 f59 f60 f61 f62 f63 ta3 w3 le3 s3 f65 f66 f67 f68 f69 f70 ta4 w4 le4 s4 f72 f73 f74
  replace f0 := shm_361 f0
  replace f1 := shm_103 f1
  replace f2 := shm_7 f2
  replace f4 := shm_115 f4
  replace f6 := shm_293 f6
  replace f24 := shm_5 f24
  replace f25 := shm_5 f25
  replace f27 := shm_1438 f27
  replace f30 := shm_306 f30
  have q7 : n_v vs 7 = n_v vs 0 := f24.symm
  have q9 : n_v vs 9 = n_v vs 2 := f25.symm
  simp only [q7, q9] at f0 f1 f2 f4 f6 f27 f30
  have cr_0_1 := fdq_39 hD hth r0
  have g0 : v_iv (n_v vs 28) = w_fi ws (n_v vs 0) 13 := congrArg v_iv f0
  have g1 : v_iv (n_v vs 22) = w_fi ws (n_v vs 0) 12 := congrArg v_iv f1
  have g4 : v_iv (n_v vs 24) = w_fi ws (n_v vs 0) 14 := congrArg v_iv f4
  have g6 : v_iv (n_v vs 30) = w_fi ws (n_v vs 0) 8 := congrArg v_iv f6
  have hK_0_1 := elq_7 hD hth cr_0_1
  have kz_0_8 := fdq_34 hD hth r0
  have kz_0_9 := fdq_44 hD hth r0
  have kz_0_10 := fdq_43 hD hth r0
  have kz_0_11 := fdq_237 hD hth r0
  have kz_0_12 := fdq_187 hD hth r0
  have kz_0_13 := fdq_238 hD hth r0
  have kz_0_14 := fdq_188 hD hth r0
  have kz_0_15 := fdq_239 hD hth r0
  obtain ⟨x, ex, hx⟩ := iv_ex (ta := ta) (lo := 0) (hi := 2000) (z := w_fi ws (n_v vs 0) 11) (by omega) (by omega) (by omega) (by omega)
  have ex2 : v_iv (Value.int x) = w_fi ws (n_v vs 0) 11 := ex
  have ex3 : 0 ≤ v_iv (Value.int x) ∧ v_iv (Value.int x) ≤ 2000 := tv_rng hx
  have e_3 : n_v (vs ++ [Value.int x]) 3 = n_v vs 3 := n_v_old (by rw [hl]; decide)
  have e_4 : n_v (vs ++ [Value.int x]) 4 = n_v vs 4 := n_v_old (by rw [hl]; decide)
  have e_5 : n_v (vs ++ [Value.int x]) 5 = n_v vs 5 := n_v_old (by rw [hl]; decide)
  have e_6 : n_v (vs ++ [Value.int x]) 6 = n_v vs 6 := n_v_old (by rw [hl]; decide)
  have e_7 : n_v (vs ++ [Value.int x]) 7 = n_v vs 7 := n_v_old (by rw [hl]; decide)
  have e_11 : n_v (vs ++ [Value.int x]) 11 = n_v vs 11 := n_v_old (by rw [hl]; decide)
  have e_24 : n_v (vs ++ [Value.int x]) 24 = n_v vs 24 := n_v_old (by rw [hl]; decide)
  have e_31 : n_v (vs ++ [Value.int x]) 31 = Value.int x := n_v_new hl
  have nf0 : fc_1 PRD (20, [31, 7], [30, 0, 1, 0, 0, -1, 1, 11]) ws (vs ++ [Value.int x]) := by
    refine ⟨nf_inA hl rfl, sgq_1431 ?_⟩
    · show 1 * v_iv (n_v (vs ++ [Value.int x]) 31) + ((-1) * w_fi ws (n_v (vs ++ [Value.int x]) 7) 11 + 0) ≤ 0
      simp only [e_7, e_31, q7]
      exact vc_Mo_of_at_s5003_16_0 (v_iv (n_v vs 2)) (v_iv (n_v vs 24)) (v_iv (n_v vs 27)) (v_iv (n_v vs 28)) (v_iv (n_v vs 29)) (w_fi ws (n_v vs 0) 12) (w_fi ws (n_v vs 0) 8) (w_ei ws (w_ar ws (n_v vs 0) 1)) (w_fi ws (n_v vs 0) 15) (w_fi ws (n_v vs 0) 11) (w_fi ws (n_v vs 0) 9) (v_iv (Value.int x)) k2 k24 k27 k28 k29 f2 f27 f30 hK_0_1 kz_0_8 kz_0_9 kz_0_11 kz_0_12 kz_0_15
  have nf1 : fc_1 PRD (20, [31, 7], [50, 1, 0, 1011, 1, 2, 1, 0, 2, 1, 11]) ws (vs ++ [Value.int x]) := by
    refine ⟨nf_inA hl rfl, sgq_1432 ?_⟩
    · show v_iv (n_v (vs ++ [Value.int x]) 31) = w_fi ws (n_v (vs ++ [Value.int x]) 7) 11
      simp only [e_7, e_31, q7]
      exact vc_Mo_of_at_s5003_16_1 (v_iv (n_v vs 27)) (v_iv (n_v vs 28)) (v_iv (n_v vs 29)) (w_fi ws (n_v vs 0) 12) (w_fi ws (n_v vs 0) 8) (w_ei ws (w_ar ws (n_v vs 0) 1)) (w_fi ws (n_v vs 0) 15) (w_fi ws (n_v vs 0) 11) (w_fi ws (n_v vs 0) 9) (v_iv (Value.int x)) k27 k28 k29 f27 f30 hK_0_1 kz_0_8 kz_0_9 kz_0_11 kz_0_12 kz_0_15 ex2
  have nf2 : fc_1 PRD (20, [7], [60, 2, 0, 947, 10, 11]) ws (vs ++ [Value.int x]) := by
    refine ⟨nf_inA hl rfl, sgq_1433 ?_⟩
    · show ZLM (w_fi ws (n_v (vs ++ [Value.int x]) 7) 10) (w_fi ws (n_v (vs ++ [Value.int x]) 7) 11)
      simp only [e_7, q7]
      exact vc_Mo_of_at_s5003_16_2 (v_iv (n_v vs 2)) (v_iv (n_v vs 4)) (v_iv (n_v vs 5)) (v_iv (n_v vs 6)) (v_iv (n_v vs 15)) (v_iv (n_v vs 17)) (v_iv (n_v vs 18)) (v_iv (n_v vs 19)) (v_iv (n_v vs 20)) (v_iv (n_v vs 22)) (v_iv (n_v vs 24)) (v_iv (n_v vs 28)) (v_iv (n_v vs 30)) (w_fi ws (n_v vs 0) 13) (w_fi ws (n_v vs 0) 12) (w_fi ws (n_v vs 0) 14) (w_fi ws (n_v vs 0) 8) (w_fi ws (n_v vs 0) 10) (w_fi ws (n_v vs 0) 11) (v_iv (Value.int x)) k2 k22 k24 k28 k30 g0 g1 f2 g4 g6 kz_0_8 kz_0_10 kz_0_11 kz_0_12 kz_0_13 kz_0_14 ex2
  have nf3 : fc_1 PRD (23, [3, 31], [-1, 1, -1]) ws (vs ++ [Value.int x]) := by
    refine ⟨nf_inA hl rfl, sgq_193 ?_⟩
    · show 1 * v_iv (n_v (vs ++ [Value.int x]) 3) + ((-1) * v_iv (n_v (vs ++ [Value.int x]) 31) + 0) ≤ (-1)
      simp only [e_3, e_31]
      exact vc_Mo_of_at_s5003_16_3 (v_iv (n_v vs 2)) (v_iv (n_v vs 3)) (v_iv (n_v vs 24)) (v_iv (n_v vs 27)) (v_iv (n_v vs 28)) (v_iv (n_v vs 29)) (w_fi ws (n_v vs 0) 12) (w_fi ws (n_v vs 0) 8) (w_ei ws (w_ar ws (n_v vs 0) 1)) (w_fi ws (n_v vs 0) 15) (w_fi ws (n_v vs 0) 11) (w_fi ws (n_v vs 0) 9) (v_iv (Value.int x)) k2 k3 k24 k27 k28 k29 f2 f27 f30 hK_0_1 kz_0_8 kz_0_9 kz_0_11 kz_0_12 kz_0_15
  have nf4 : fc_1 PRD (23, [11, 31], [-2001, -1, -1]) ws (vs ++ [Value.int x]) := by
    refine ⟨nf_inA hl rfl, sgq_2011 ?_⟩
    · show (-1) * v_iv (n_v (vs ++ [Value.int x]) 11) + ((-1) * v_iv (n_v (vs ++ [Value.int x]) 31) + 0) ≤ (-2001)
      simp only [e_11, e_31]
      exact vc_Mo_of_at_s5003_16_4 (v_iv (n_v vs 2)) (v_iv (n_v vs 11)) (v_iv (n_v vs 24)) (v_iv (n_v vs 27)) (v_iv (n_v vs 28)) (v_iv (n_v vs 29)) (w_fi ws (n_v vs 0) 12) (w_fi ws (n_v vs 0) 8) (w_ei ws (w_ar ws (n_v vs 0) 1)) (w_fi ws (n_v vs 0) 15) (w_fi ws (n_v vs 0) 11) (w_fi ws (n_v vs 0) 9) (v_iv (Value.int x)) k2 k11 k24 k27 k28 k29 f2 f27 f30 hK_0_1 kz_0_8 kz_0_9 kz_0_11 kz_0_12 kz_0_15
  have nf5 : fc_1 PRD (20, [7, 4, 24, 5, 6, 31], [60, 3, 2, 987, 10, 8, 5, 1, 2]) ws (vs ++ [Value.int x]) := by
    refine ⟨nf_inA hl rfl, sgq_2020 ?_⟩
    · show zU12w (w_fi ws (n_v (vs ++ [Value.int x]) 7) 10) (w_fi ws (n_v (vs ++ [Value.int x]) 7) 8) (w_fi ws (n_v (vs ++ [Value.int x]) 7) 5) (w_ei ws (w_ar ws (n_v (vs ++ [Value.int x]) 7) 1)) (w_ei ws (w_ar ws (n_v (vs ++ [Value.int x]) 7) 2)) (v_iv (n_v (vs ++ [Value.int x]) 4)) (v_iv (n_v (vs ++ [Value.int x]) 24)) (v_iv (n_v (vs ++ [Value.int x]) 5)) (v_iv (n_v (vs ++ [Value.int x]) 6)) (v_iv (n_v (vs ++ [Value.int x]) 31))
      simp only [e_4, e_5, e_6, e_7, e_24, e_31, q7]
      exact vc_Mo_of_at_s5003_16_5 (v_iv (n_v vs 2)) (v_iv (n_v vs 4)) (v_iv (n_v vs 5)) (v_iv (n_v vs 6)) (v_iv (n_v vs 15)) (v_iv (n_v vs 17)) (v_iv (n_v vs 18)) (v_iv (n_v vs 19)) (v_iv (n_v vs 20)) (v_iv (n_v vs 22)) (v_iv (n_v vs 24)) (v_iv (n_v vs 28)) (v_iv (n_v vs 30)) (w_fi ws (n_v vs 0) 13) (w_fi ws (n_v vs 0) 12) (w_fi ws (n_v vs 0) 14) (w_fi ws (n_v vs 0) 8) (w_ei ws (w_ar ws (n_v vs 0) 1)) (w_fi ws (n_v vs 0) 10) (w_fi ws (n_v vs 0) 11) (v_iv (Value.int x)) (w_ei ws (w_ar ws (n_v vs 0) 2)) (w_fi ws (n_v vs 0) 5) k2 k4 k5 k6 k22 k24 k28 k30 g0 g1 f2 g4 g6 kz_0_8 kz_0_10 kz_0_11 kz_0_12 kz_0_13 kz_0_14 ex2
  exact ⟨(fun _ h => (by cases h)), [Value.int x], ag_one hx, List.forall_mem_cons.mpr ⟨⟨show (20 : Nat) < 100 from by decide, nf0⟩, List.forall_mem_cons.mpr ⟨⟨show (20 : Nat) < 100 from by decide, nf1⟩, List.forall_mem_cons.mpr ⟨⟨show (20 : Nat) < 100 from by decide, nf2⟩, List.forall_mem_cons.mpr ⟨⟨show (23 : Nat) < 100 from by decide, nf3⟩, List.forall_mem_cons.mpr ⟨⟨show (23 : Nat) < 100 from by decide, nf4⟩, List.forall_mem_cons.mpr ⟨⟨show (20 : Nat) < 100 from by decide, nf5⟩, (fun _ h => (by cases h))⟩⟩⟩⟩⟩⟩, (fun _ h => (by cases h))⟩

set_option maxHeartbeats 4000000 in
theorem vc_Mo_of_at_s5003_17_0 (x27 : Int) (x28 : Int) (x29 : Int) (fault_0 : Int) (tape_0 : Int → Int) (faultPlace_0 : Int) (from_0 : Int) (pos_0 : Int) (kind_0 : Int) (k27 : 5 ≤ x27 ∧ x27 ≤ 5) (k28 : 0 ≤ x28 ∧ x28 ≤ 2000) (k29 : 0 ≤ x29 ∧ x29 ≤ 5) (f26 : ((1 ≤ x29) ∧ (fault_0 = x29)) ∨ ((x29 = 0) ∧ ((fault_0 = x27) ∧ (faultPlace_0 = x28)))) (f27 : 1 * from_0 + ((-1) * pos_0 + 0) ≤ 0) (f28 : ((kind_0 = 1) → (pos_0 ≤ (from_0 + 8))) ∧ ((kind_0 = 0) ∨ ((from_0 + 1) ≤ pos_0))) (hK_0_1 : ∀ j : Int, 0 ≤ j → j < 2000 → (-128) ≤ tape_0 j ∧ tape_0 j ≤ 127) (kz_0_8 : 0 ≤ fault_0 ∧ fault_0 ≤ 5) (kz_0_9 : 0 ≤ faultPlace_0 ∧ faultPlace_0 ≤ 2000) (kz_0_11 : 0 ≤ pos_0 ∧ pos_0 ≤ 2000) (kz_0_12 : 0 ≤ kind_0 ∧ kind_0 ≤ 4) (kz_0_15 : 0 ≤ from_0 ∧ from_0 ≤ 2000) : 1 * from_0 + ((-1) * pos_0 + 0) ≤ 0 := by
  first | with_reducible assumption | ((have f28_c0 := f28.1); (have f28_c1 := f28.2); (try and_intros) <;> first | with_reducible assumption | (clear f26 f28_c0 f28_c1 f28 hK_0_1; omega)) | ((have f28_c0 := f28.1); (have f28_c1 := f28.2); (try and_intros) <;> first | with_reducible assumption | (clear f28_c0 f28_c1 f28 hK_0_1; omega)) | omega
set_option maxHeartbeats 4000000 in
theorem vc_Mo_of_at_s5003_17_1 (x27 : Int) (x28 : Int) (x29 : Int) (fault_0 : Int) (tape_0 : Int → Int) (faultPlace_0 : Int) (from_0 : Int) (pos_0 : Int) (kind_0 : Int) (k27 : 5 ≤ x27 ∧ x27 ≤ 5) (k28 : 0 ≤ x28 ∧ x28 ≤ 2000) (k29 : 0 ≤ x29 ∧ x29 ≤ 5) (f26 : ((1 ≤ x29) ∧ (fault_0 = x29)) ∨ ((x29 = 0) ∧ ((fault_0 = x27) ∧ (faultPlace_0 = x28)))) (f28 : ((kind_0 = 1) → (pos_0 ≤ (from_0 + 8))) ∧ ((kind_0 = 0) ∨ ((from_0 + 1) ≤ pos_0))) (hK_0_1 : ∀ j : Int, 0 ≤ j → j < 2000 → (-128) ≤ tape_0 j ∧ tape_0 j ≤ 127) (kz_0_8 : 0 ≤ fault_0 ∧ fault_0 ≤ 5) (kz_0_9 : 0 ≤ faultPlace_0 ∧ faultPlace_0 ≤ 2000) (kz_0_11 : 0 ≤ pos_0 ∧ pos_0 ≤ 2000) (kz_0_12 : 0 ≤ kind_0 ∧ kind_0 ≤ 4) (kz_0_15 : 0 ≤ from_0 ∧ from_0 ≤ 2000) : ((kind_0 = 1) → (pos_0 ≤ (from_0 + 8))) ∧ ((kind_0 = 0) ∨ ((from_0 + 1) ≤ pos_0)) := by
  first | with_reducible assumption | ((have f28_c0 := f28.1); (have f28_c1 := f28.2); (try and_intros) <;> first | with_reducible assumption | (clear f26 f28_c0 f28_c1 f28 hK_0_1; omega)) | ((have f28_c0 := f28.1); (have f28_c1 := f28.2); (try and_intros) <;> first | with_reducible assumption | (clear f28_c0 f28_c1 f28 hK_0_1; omega)) | omega
set_option maxHeartbeats 4000000 in
theorem vc_Mo_of_at_s5003_17_2 (x2 : Int) (x3 : Int) (x24 : Int) (x27 : Int) (x28 : Int) (x29 : Int) (fault_0 : Int) (tape_0 : Int → Int) (faultPlace_0 : Int) (from_0 : Int) (pos_0 : Int) (kind_0 : Int) (k2 : 9 ≤ x2 ∧ x2 ≤ 9) (k3 : 0 ≤ x3 ∧ x3 ≤ 2000) (k24 : 10 ≤ x24 ∧ x24 ≤ 1048575) (k27 : 5 ≤ x27 ∧ x27 ≤ 5) (k28 : 0 ≤ x28 ∧ x28 ≤ 2000) (k29 : 0 ≤ x29 ∧ x29 ≤ 5) (f4 : 1 * x24 + ((-1) * x2 + 0) ≤ 0) (f26 : ((1 ≤ x29) ∧ (fault_0 = x29)) ∨ ((x29 = 0) ∧ ((fault_0 = x27) ∧ (faultPlace_0 = x28)))) (f28 : ((kind_0 = 1) → (pos_0 ≤ (from_0 + 8))) ∧ ((kind_0 = 0) ∨ ((from_0 + 1) ≤ pos_0))) (hK_0_1 : ∀ j : Int, 0 ≤ j → j < 2000 → (-128) ≤ tape_0 j ∧ tape_0 j ≤ 127) (kz_0_8 : 0 ≤ fault_0 ∧ fault_0 ≤ 5) (kz_0_9 : 0 ≤ faultPlace_0 ∧ faultPlace_0 ≤ 2000) (kz_0_11 : 0 ≤ pos_0 ∧ pos_0 ≤ 2000) (kz_0_12 : 0 ≤ kind_0 ∧ kind_0 ≤ 4) (kz_0_15 : 0 ≤ from_0 ∧ from_0 ≤ 2000) : 1 * x3 + ((-1) * pos_0 + 0) ≤ (-1) := by
  first | with_reducible assumption | ((have f28_c0 := f28.1); (have f28_c1 := f28.2); (try and_intros) <;> first | with_reducible assumption | (clear f26 f28_c0 f28_c1 f28 hK_0_1; omega)) | ((have f28_c0 := f28.1); (have f28_c1 := f28.2); (try and_intros) <;> first | with_reducible assumption | (clear f28_c0 f28_c1 f28 hK_0_1; omega)) | omega
set_option maxHeartbeats 4000000 in
theorem vc_Mo_of_at_s5003_17_3 (x2 : Int) (x24 : Int) (x27 : Int) (x28 : Int) (x29 : Int) (fault_0 : Int) (tape_0 : Int → Int) (faultPlace_0 : Int) (from_0 : Int) (pos_0 : Int) (kind_0 : Int) (k2 : 9 ≤ x2 ∧ x2 ≤ 9) (k24 : 10 ≤ x24 ∧ x24 ≤ 1048575) (k27 : 5 ≤ x27 ∧ x27 ≤ 5) (k28 : 0 ≤ x28 ∧ x28 ≤ 2000) (k29 : 0 ≤ x29 ∧ x29 ≤ 5) (f26 : ((1 ≤ x29) ∧ (fault_0 = x29)) ∨ ((x29 = 0) ∧ ((fault_0 = x27) ∧ (faultPlace_0 = x28)))) (f28 : ((kind_0 = 1) → (pos_0 ≤ (from_0 + 8))) ∧ ((kind_0 = 0) ∨ ((from_0 + 1) ≤ pos_0))) (f34 : 1 * x24 + ((-1) * x2 + 0) ≤ 0) (hK_0_1 : ∀ j : Int, 0 ≤ j → j < 2000 → (-128) ≤ tape_0 j ∧ tape_0 j ≤ 127) (kz_0_8 : 0 ≤ fault_0 ∧ fault_0 ≤ 5) (kz_0_9 : 0 ≤ faultPlace_0 ∧ faultPlace_0 ≤ 2000) (kz_0_11 : 0 ≤ pos_0 ∧ pos_0 ≤ 2000) (kz_0_12 : 0 ≤ kind_0 ∧ kind_0 ≤ 4) (kz_0_15 : 0 ≤ from_0 ∧ from_0 ≤ 2000) : 1 * x24 + ((-1) * x2 + 0) ≤ 0 := by
  first | with_reducible assumption | ((have f28_c0 := f28.1); (have f28_c1 := f28.2); (try and_intros) <;> first | with_reducible assumption | (clear f26 f28_c0 f28_c1 f28 hK_0_1; omega)) | ((have f28_c0 := f28.1); (have f28_c1 := f28.2); (try and_intros) <;> first | with_reducible assumption | (clear f28_c0 f28_c1 f28 hK_0_1; omega)) | omega
set_option maxHeartbeats 4000000 in
theorem vc_Mo_of_at_s5003_17_4 (x24 : Int) (x27 : Int) (x28 : Int) (x29 : Int) (fault_0 : Int) (tape_0 : Int → Int) (faultPlace_0 : Int) (from_0 : Int) (pos_0 : Int) (kind_0 : Int) (k24 : 10 ≤ x24 ∧ x24 ≤ 1048575) (k27 : 5 ≤ x27 ∧ x27 ≤ 5) (k28 : 0 ≤ x28 ∧ x28 ≤ 2000) (k29 : 0 ≤ x29 ∧ x29 ≤ 5) (f26 : ((1 ≤ x29) ∧ (fault_0 = x29)) ∨ ((x29 = 0) ∧ ((fault_0 = x27) ∧ (faultPlace_0 = x28)))) (f28 : ((kind_0 = 1) → (pos_0 ≤ (from_0 + 8))) ∧ ((kind_0 = 0) ∨ ((from_0 + 1) ≤ pos_0))) (f35 : (-1) * x24 + 0 ≤ 0) (hK_0_1 : ∀ j : Int, 0 ≤ j → j < 2000 → (-128) ≤ tape_0 j ∧ tape_0 j ≤ 127) (kz_0_8 : 0 ≤ fault_0 ∧ fault_0 ≤ 5) (kz_0_9 : 0 ≤ faultPlace_0 ∧ faultPlace_0 ≤ 2000) (kz_0_11 : 0 ≤ pos_0 ∧ pos_0 ≤ 2000) (kz_0_12 : 0 ≤ kind_0 ∧ kind_0 ≤ 4) (kz_0_15 : 0 ≤ from_0 ∧ from_0 ≤ 2000) : (-1) * x24 + 0 ≤ 0 := by
  first | with_reducible assumption | ((have f28_c0 := f28.1); (have f28_c1 := f28.2); (try and_intros) <;> first | with_reducible assumption | (clear f26 f28_c0 f28_c1 f28 hK_0_1; omega)) | ((have f28_c0 := f28.1); (have f28_c1 := f28.2); (try and_intros) <;> first | with_reducible assumption | (clear f28_c0 f28_c1 f28 hK_0_1; omega)) | omega
set_option maxHeartbeats 4000000 in
theorem vc_Mo_of_at_s5003_17_5 (x4 : Int) (x27 : Int) (x28 : Int) (x29 : Int) (fault_0 : Int) (tape_0 : Int → Int) (faultPlace_0 : Int) (from_0 : Int) (pos_0 : Int) (kind_0 : Int) (k4 : (-1) ≤ x4 ∧ x4 ≤ 48) (k27 : 5 ≤ x27 ∧ x27 ≤ 5) (k28 : 0 ≤ x28 ∧ x28 ≤ 2000) (k29 : 0 ≤ x29 ∧ x29 ≤ 5) (f26 : ((1 ≤ x29) ∧ (fault_0 = x29)) ∨ ((x29 = 0) ∧ ((fault_0 = x27) ∧ (faultPlace_0 = x28)))) (f28 : ((kind_0 = 1) → (pos_0 ≤ (from_0 + 8))) ∧ ((kind_0 = 0) ∨ ((from_0 + 1) ≤ pos_0))) (f94 : (-1) * x4 + 0 ≤ 0) (hK_0_1 : ∀ j : Int, 0 ≤ j → j < 2000 → (-128) ≤ tape_0 j ∧ tape_0 j ≤ 127) (kz_0_8 : 0 ≤ fault_0 ∧ fault_0 ≤ 5) (kz_0_9 : 0 ≤ faultPlace_0 ∧ faultPlace_0 ≤ 2000) (kz_0_11 : 0 ≤ pos_0 ∧ pos_0 ≤ 2000) (kz_0_12 : 0 ≤ kind_0 ∧ kind_0 ≤ 4) (kz_0_15 : 0 ≤ from_0 ∧ from_0 ≤ 2000) : (-1) * x4 + 0 ≤ 0 := by
  first | with_reducible assumption | ((have f28_c0 := f28.1); (have f28_c1 := f28.2); (try and_intros) <;> first | with_reducible assumption | (clear f26 f28_c0 f28_c1 f28 hK_0_1; omega)) | ((have f28_c0 := f28.1); (have f28_c1 := f28.2); (try and_intros) <;> first | with_reducible assumption | (clear f28_c0 f28_c1 f28 hK_0_1; omega)) | omega
set_option maxHeartbeats 4000000 in
theorem vc_Mo_of_at_s5003_17_6 (x2 : Int) (x24 : Int) (x27 : Int) (x28 : Int) (x29 : Int) (fault_0 : Int) (tape_0 : Int → Int) (faultPlace_0 : Int) (from_0 : Int) (pos_0 : Int) (kind_0 : Int) (gx : Int) (k2 : 9 ≤ x2 ∧ x2 ≤ 9) (k24 : 10 ≤ x24 ∧ x24 ≤ 1048575) (k27 : 5 ≤ x27 ∧ x27 ≤ 5) (k28 : 0 ≤ x28 ∧ x28 ≤ 2000) (k29 : 0 ≤ x29 ∧ x29 ≤ 5) (f4 : 1 * x24 + ((-1) * x2 + 0) ≤ 0) (f26 : ((1 ≤ x29) ∧ (fault_0 = x29)) ∨ ((x29 = 0) ∧ ((fault_0 = x27) ∧ (faultPlace_0 = x28)))) (f28 : ((kind_0 = 1) → (pos_0 ≤ (from_0 + 8))) ∧ ((kind_0 = 0) ∨ ((from_0 + 1) ≤ pos_0))) (hK_0_1 : ∀ j : Int, 0 ≤ j → j < 2000 → (-128) ≤ tape_0 j ∧ tape_0 j ≤ 127) (kz_0_8 : 0 ≤ fault_0 ∧ fault_0 ≤ 5) (kz_0_9 : 0 ≤ faultPlace_0 ∧ faultPlace_0 ≤ 2000) (kz_0_11 : 0 ≤ pos_0 ∧ pos_0 ≤ 2000) (kz_0_12 : 0 ≤ kind_0 ∧ kind_0 ≤ 4) (kz_0_15 : 0 ≤ from_0 ∧ from_0 ≤ 2000) : (-1) * gx + ((-1) * pos_0 + 0) ≤ (-2001) := by
  first | with_reducible assumption | ((have f28_c0 := f28.1); (have f28_c1 := f28.2); (try and_intros) <;> first | with_reducible assumption | (clear f26 f28_c0 f28_c1 f28 hK_0_1; omega)) | ((have f28_c0 := f28.1); (have f28_c1 := f28.2); (try and_intros) <;> first | with_reducible assumption | (clear f28_c0 f28_c1 f28 hK_0_1; omega)) | omega
set_option maxHeartbeats 4000000 in
theorem vc_Mo_of_at_s5003_17_7 (x2 : Int) (x4 : Int) (x5 : Int) (x6 : Int) (x15 : Int) (x17 : Int) (x18 : Int) (x19 : Int) (x20 : Int) (x24 : Int) (x30 : Int) (x31 : Int) (fault_0 : Int) (tape_0 : Int → Int) (all_0 : Int → Int) (limit_0 : Int) (r_0 : Int) (from_0 : Int) (pos_0 : Int) (kind_0 : Int) (place_0 : Int) (value_0 : Int) (k2 : 9 ≤ x2 ∧ x2 ≤ 9) (k4 : (-1) ≤ x4 ∧ x4 ≤ 48) (k5 : 0 ≤ x5 ∧ x5 ≤ 7) (k6 : 0 ≤ x6 ∧ x6 ≤ 4) (k24 : 10 ≤ x24 ∧ x24 ≤ 1048575) (k30 : 0 ≤ x30 ∧ x30 ≤ 0) (k31 : 0 ≤ x31 ∧ x31 ≤ 2000) (g0 : x30 = fault_0) (f3 : zU12w (limit_0) (fault_0) (r_0) (tape_0) (all_0) (x4) (x24) (x5) (x6) (x31)) (f4 : 1 * x24 + ((-1) * x2 + 0) ≤ 0) (f30 : TKR (limit_0) (pos_0) (kind_0) (place_0) (value_0) (from_0) (tape_0) (x31)) (kz_0_8 : 0 ≤ fault_0 ∧ fault_0 ≤ 5) (kz_0_10 : 0 ≤ limit_0 ∧ limit_0 ≤ 2000) (kz_0_11 : 0 ≤ pos_0 ∧ pos_0 ≤ 2000) (kz_0_12 : 0 ≤ kind_0 ∧ kind_0 ≤ 4) (kz_0_13 : 0 ≤ place_0 ∧ place_0 ≤ 2000) (kz_0_14 : (-49) ≤ value_0 ∧ value_0 ≤ 1048575) (kz_0_15 : 0 ≤ from_0 ∧ from_0 ≤ 2000) : zO12w (limit_0) (pos_0) (kind_0) (place_0) (value_0) (from_0) (fault_0) (r_0) (tape_0) (all_0) (x4) (x24) (x5) (x6) := by
  first | (have el_x17 : x17 = x15 := by omega); subst el_x17 | skip
  first | (have el_x18 : x18 = x4 := by omega); subst el_x18 | skip
  first | (have el_x19 : x19 = x5 := by omega); subst el_x19 | skip
  first | (have el_x20 : x20 = x6 := by omega); subst el_x20 | skip
  first | subst g0 | skip
  first
    | exact of_12_w ‹zU12w _ _ _ _ _ _ _ _ _ _› ‹TKR _ _ _ _ _ _ _ _›
    | (exfalso; omega)
def o_Mo_of_at_s5003_17 : or_T := (139, 32, [(0, (2, 0, 0, [165])), (2, (0, 9, 9, [])), (3, (0, 0, 2000, [])), (4, (0, -1, 48, [])), (5, (0, 0, 7, [])), (6, (0, 0, 4, [])), (7, (2, 0, 0, [165])), (9, (0, 9, 9, [])), (10, (0, -49, 0, [])), (11, (0, 0, 2000, [])), (15, (0, 0, 2000, [])), (17, (0, 0, 2000, [])), (18, (0, -1, 48, [])), (19, (0, 0, 7, [])), (20, (0, 0, 4, [])), (24, (0, 10, 1048575, [])), (27, (0, 5, 5, [])), (28, (0, 0, 2000, [])), (29, (0, 0, 5, [])), (30, (0, 0, 0, [])), (31, (0, 0, 2000, []))], [(9, [30, 7], [8]), (23, [3, 31], [-1, 1, -1]), (23, [11, 31], [-2001, -1, -1]), (20, [7, 4, 24, 5, 6, 31], [60, 3, 2, 987, 10, 8, 5, 1, 2]), (23, [24, 9], [0, 1, -1]), (23, [24], [0, -1]), (20, [7, 27, 28], [60, 1, 1, 1026, 10, 1]), (20, [29], [61, 0, 1029]), (23, [17, 15], [0, 1, -1]), (23, [17, 15], [0, -1, 1]), (23, [18, 4], [0, 1, -1]), (23, [18, 4], [0, -1, 1]), (23, [19, 5], [0, 1, -1]), (23, [19, 5], [0, -1, 1]), (23, [20, 6], [0, 1, -1]), (23, [20, 6], [0, -1, 1]), (23, [3, 17], [-1, 1, -1]), (23, [11, 17], [-2000, -1, -1]), (23, [3, 15], [-1, 1, -1]), (23, [11, 15], [-2000, -1, -1]), (23, [10, 9], [0, 1, -1]), (23, [10], [0, -1]), (23, [4], [0, -1]), (24, [0, 7], []), (24, [2, 9], []), (20, [7], [30, -1, -1, 1, 8]), (20, [29, 7, 27, 28], [50, 2, 0, 1008, 1009, 3, 15, 2, 6, 0, 2, 0, 1, 1, 0, 1, 3, 2, 1, 8, 1, 0, 2, 6, 1, 2, 1, 0, 0, 0, 2, 7, 1, 3, 2, 1, 8, 1, 2, 1, 3, 2, 1, 9, 1, 3]), (20, [7, 7], [30, 0, 1, 1, 15, -1, 1, 11]), (20, [7], [50, 3, 0, 12, 11, 15, 2, 21, 4, 7, 1, 3, 2, 0, 12, 0, 1, 0, 3, 2, 0, 11, 4, 3, 2, 0, 15, 0, 8, 3, 7, 1, 3, 2, 0, 12, 0, 0, 0, 7, 4, 3, 2, 0, 15, 0, 1, 2, 0, 11]), (20, [31, 7], [30, 0, 1, 0, 0, -1, 1, 15]), (20, [7, 31], [60, 6, 1, 948, 10, 11, 12, 13, 14, 15, 1]), (102, [31], [0, 165011, 165012, 165013, 165014, 165015]), (23, [3, 31], [-1, 1, -1]), (23, [11, 31], [-2001, -1, -1]), (23, [24, 9], [0, 1, -1]), (23, [24], [0, -1]), (8, [30], [5]), (23, [17, 15], [0, 1, -1]), (23, [17, 15], [0, -1, 1]), (23, [18, 4], [0, 1, -1]), (23, [18, 4], [0, -1, 1]), (23, [19, 5], [0, 1, -1]), (23, [19, 5], [0, -1, 1]), (23, [20, 6], [0, 1, -1]), (23, [20, 6], [0, -1, 1]), (23, [3, 17], [-1, 1, -1]), (23, [11, 17], [-2000, -1, -1]), (23, [3, 15], [-1, 1, -1]), (23, [11, 15], [-2000, -1, -1]), (23, [10, 9], [0, 1, -1]), (23, [10], [0, -1]), (23, [4], [0, -1]), (102, [29], [0, 165008, 165009]), (23, [17, 15], [0, 1, -1]), (23, [17, 15], [0, -1, 1]), (23, [18, 4], [0, 1, -1]), (23, [18, 4], [0, -1, 1]), (23, [19, 5], [0, 1, -1]), (23, [19, 5], [0, -1, 1]), (23, [20, 6], [0, 1, -1]), (23, [20, 6], [0, -1, 1]), (23, [3, 17], [-1, 1, -1]), (23, [11, 17], [-2000, -1, -1]), (23, [3, 15], [-1, 1, -1]), (23, [11, 15], [-2000, -1, -1]), (23, [10, 9], [0, 1, -1]), (23, [10], [0, -1]), (23, [4], [0, -1]), (102, [20], [0, 165008, 165009, 165011, 165012, 165013, 165014, 165015]), (23, [17, 15], [0, 1, -1]), (23, [17, 15], [0, -1, 1]), (23, [18, 4], [0, 1, -1]), (23, [18, 4], [0, -1, 1]), (23, [19, 5], [0, 1, -1]), (23, [19, 5], [0, -1, 1]), (23, [20, 6], [0, 1, -1]), (23, [20, 6], [0, -1, 1]), (23, [3, 17], [-1, 1, -1]), (23, [11, 17], [-2000, -1, -1]), (23, [3, 15], [-1, 1, -1]), (23, [11, 15], [-2000, -1, -1]), (23, [10, 9], [0, 1, -1]), (23, [10], [0, -1]), (23, [4], [0, -1]), (102, [15], [0, 165011, 165012, 165013, 165014, 165015]), (23, [3, 15], [-1, 1, -1]), (23, [11, 15], [-2000, -1, -1]), (8, [10], [5]), (23, [10, 9], [0, 1, -1]), (23, [10], [0, -1]), (23, [4], [0, -1]), (102, [13], [0]), (23, [10, 9], [0, 1, -1]), (23, [10], [0, -1]), (23, [4], [0, -1])], [], [(0, 0, 2000, [])], [(20, [7, 7], [30, 0, 1, 1, 15, -1, 1, 11]), (20, [7], [50, 3, 0, 12, 11, 15, 2, 21, 4, 7, 1, 3, 2, 0, 12, 0, 1, 0, 3, 2, 0, 11, 4, 3, 2, 0, 15, 0, 8, 3, 7, 1, 3, 2, 0, 12, 0, 0, 0, 7, 4, 3, 2, 0, 15, 0, 1, 2, 0, 11]), (20, [3, 7], [30, -1, 1, 0, 0, -1, 1, 11]), (23, [24, 9], [0, 1, -1]), (23, [24], [0, -1]), (23, [4], [0, -1]), (20, [32, 7], [30, -2001, -1, 0, 0, -1, 1, 11]), (20, [7, 4, 24, 5, 6], [60, 8, 2, 1000, 10, 11, 12, 13, 14, 15, 8, 5, 1, 2]), (24, [0, 7], []), (24, [2, 9], [])], [(32, 11, 0, 0)], [])
theorem oo_Mo_of_at_s5003_17 {kA : Nat → ClassId} : or_ok PRD kA GG o_Mo_of_at_s5003_17 := by
  refine or_mk fun A ta ws vs hD hth hl => ?_
  intro t0 r0 t2 k2 t3 k3 t4 k4 t5 k5 t6 k6 t7 r7 t9 k9 t10 k10 t11 k11 t15 k15 t17 k17 t18 k18 t19 k19 t20 k20 t24 k24 t27 k27 t28 k28 t29 k29 t30 k30 t31 k31 f0 f1 f2 f3 f4 f5 f6 f7 f8 f9 f10 f11 f12 f13 f14 f15 f16 f17 f18 f19 f20 f21 f22 f23 f24 f25 f26 f27 f28 f29 f30 ta1 w1 le1 s1 f32 f33 f34 f35 f36 f37 f38 f39 f40 f41 f42 f43 f44 f45 f46 f47 f48 f49 f50 f51 ta2 w2 le2 s2 f53 f54 f55 f56 f57 f58 f59 f60 f61 f62 f63 f64 f65 f66 f67 ta3 w3 le3 s3 f69 f70 f71 f72 f73 f74 f75 f76 f77 f78 f79 f80 f81 f82 f83 ta4 w4 le4 s4 f85 f86 f87 f88 f89 f90 ta5 w5 le5 s5 f92 f93 f94
  replace f0 := shm_293 f0
  replace f1 := shm_193 f1
  replace f2 := shm_2011 f2
  replace f3 := shm_2020 f3
  replace f4 := shm_7 f4
  replace f5 := shm_1043 f5
  replace f6 := shm_1724 f6
  replace f7 := shm_1725 f7
  replace f8 := shm_7 f8
  replace f9 := shm_22 f9
  replace f10 := shm_7 f10
  replace f11 := shm_22 f11
  replace f12 := shm_7 f12
  replace f13 := shm_22 f13
  replace f14 := shm_7 f14
  replace f15 := shm_22 f15
  replace f16 := shm_193 f16
  replace f17 := shm_2009 f17
  replace f18 := shm_193 f18
  replace f19 := shm_2009 f19
  replace f20 := shm_7 f20
  replace f21 := shm_1043 f21
  replace f22 := shm_1043 f22
  replace f23 := shm_5 f23
  replace f24 := shm_5 f24
  replace f25 := shm_305 f25
  replace f26 := shm_306 f26
  replace f27 := shm_1437 f27
  replace f28 := shm_1438 f28
  replace f29 := shm_1436 f29
  replace f30 := shm_1439 f30
  replace f32 := shm_193 f32
  replace f33 := shm_2011 f33
  replace f34 := shm_7 f34
  replace f35 := shm_1043 f35
  replace f36 := shm_295 f36
  replace f37 := shm_7 f37
  replace f38 := shm_22 f38
  replace f39 := shm_7 f39
  replace f40 := shm_22 f40
  replace f41 := shm_7 f41
  replace f42 := shm_22 f42
  replace f43 := shm_7 f43
  replace f44 := shm_22 f44
  replace f45 := shm_193 f45
  replace f46 := shm_2009 f46
  replace f47 := shm_193 f47
  replace f48 := shm_2009 f48
  replace f49 := shm_7 f49
  replace f50 := shm_1043 f50
  replace f51 := shm_1043 f51
  replace f53 := shm_7 f53
  replace f54 := shm_22 f54
  replace f55 := shm_7 f55
  replace f56 := shm_22 f56
  replace f57 := shm_7 f57
  replace f58 := shm_22 f58
  replace f59 := shm_7 f59
  replace f60 := shm_22 f60
  replace f61 := shm_193 f61
  replace f62 := shm_2009 f62
  replace f63 := shm_193 f63
  replace f64 := shm_2009 f64
  replace f65 := shm_7 f65
  replace f66 := shm_1043 f66
  replace f67 := shm_1043 f67
  replace f69 := shm_7 f69
  replace f70 := shm_22 f70
  replace f71 := shm_7 f71
  replace f72 := shm_22 f72
  replace f73 := shm_7 f73
  replace f74 := shm_22 f74
  replace f75 := shm_7 f75
  replace f76 := shm_22 f76
  replace f77 := shm_193 f77
  replace f78 := shm_2009 f78
  replace f79 := shm_193 f79
  replace f80 := shm_2009 f80
  replace f81 := shm_7 f81
  replace f82 := shm_1043 f82
  replace f83 := shm_1043 f83
  replace f85 := shm_193 f85
  replace f86 := shm_2009 f86
  replace f87 := shm_295 f87
  replace f88 := shm_7 f88
  replace f89 := shm_1043 f89
  replace f90 := shm_1043 f90
  replace f92 := shm_7 f92
  replace f93 := shm_1043 f93
  replace f94 := shm_1043 f94
  have q7 : n_v vs 7 = n_v vs 0 := f23.symm
  have q9 : n_v vs 9 = n_v vs 2 := f24.symm
  simp only [q7, q9] at f0 f3 f4 f6 f20 f25 f26 f27 f28 f29 f30 f34 f49 f65 f81 f88 f92
  have cr_0_1 := fdq_39 hD hth r0
  have cr_0_2 := fdq_10 hD hth r0
  have g0 : v_iv (n_v vs 30) = w_fi ws (n_v vs 0) 8 := congrArg v_iv f0
  have hK_0_1 := elq_7 hD hth cr_0_1
  have kz_0_8 := fdq_34 hD hth r0
  have kz_0_9 := fdq_44 hD hth r0
  have kz_0_10 := fdq_43 hD hth r0
  have kz_0_11 := fdq_237 hD hth r0
  have kz_0_12 := fdq_187 hD hth r0
  have kz_0_13 := fdq_238 hD hth r0
  have kz_0_14 := fdq_188 hD hth r0
  have kz_0_15 := fdq_239 hD hth r0
  obtain ⟨x, ex, hx⟩ := iv_ex (ta := ta) (lo := 0) (hi := 2000) (z := 0 + (1 * v_iv (n_v vs 11) + 0)) (by omega) (by omega) (by omega) (by omega)
  have ex2 : v_iv (Value.int x) = 0 + (1 * v_iv (n_v vs 11) + 0) := ex
  have ex3 : 0 ≤ v_iv (Value.int x) ∧ v_iv (Value.int x) ≤ 2000 := tv_rng hx
  have e_0 : n_v (vs ++ [Value.int x]) 0 = n_v vs 0 := n_v_old (by rw [hl]; decide)
  have e_2 : n_v (vs ++ [Value.int x]) 2 = n_v vs 2 := n_v_old (by rw [hl]; decide)
  have e_3 : n_v (vs ++ [Value.int x]) 3 = n_v vs 3 := n_v_old (by rw [hl]; decide)
  have e_4 : n_v (vs ++ [Value.int x]) 4 = n_v vs 4 := n_v_old (by rw [hl]; decide)
  have e_5 : n_v (vs ++ [Value.int x]) 5 = n_v vs 5 := n_v_old (by rw [hl]; decide)
  have e_6 : n_v (vs ++ [Value.int x]) 6 = n_v vs 6 := n_v_old (by rw [hl]; decide)
  have e_7 : n_v (vs ++ [Value.int x]) 7 = n_v vs 7 := n_v_old (by rw [hl]; decide)
  have e_9 : n_v (vs ++ [Value.int x]) 9 = n_v vs 9 := n_v_old (by rw [hl]; decide)
  have e_24 : n_v (vs ++ [Value.int x]) 24 = n_v vs 24 := n_v_old (by rw [hl]; decide)
  have e_32 : n_v (vs ++ [Value.int x]) 32 = Value.int x := n_v_new hl
  have nf0 : fc_1 PRD (20, [7, 7], [30, 0, 1, 1, 15, -1, 1, 11]) ws (vs ++ [Value.int x]) := by
    refine ⟨nf_inA hl rfl, sgq_1437 ?_⟩
    · show 1 * w_fi ws (n_v (vs ++ [Value.int x]) 7) 15 + ((-1) * w_fi ws (n_v (vs ++ [Value.int x]) 7) 11 + 0) ≤ 0
      simp only [e_7, q7]
      exact vc_Mo_of_at_s5003_17_0 (v_iv (n_v vs 27)) (v_iv (n_v vs 28)) (v_iv (n_v vs 29)) (w_fi ws (n_v vs 0) 8) (w_ei ws (w_ar ws (n_v vs 0) 1)) (w_fi ws (n_v vs 0) 9) (w_fi ws (n_v vs 0) 15) (w_fi ws (n_v vs 0) 11) (w_fi ws (n_v vs 0) 12) k27 k28 k29 f26 f27 f28 hK_0_1 kz_0_8 kz_0_9 kz_0_11 kz_0_12 kz_0_15
  have nf1 : fc_1 PRD (20, [7], [50, 3, 0, 12, 11, 15, 2, 21, 4, 7, 1, 3, 2, 0, 12, 0, 1, 0, 3, 2, 0, 11, 4, 3, 2, 0, 15, 0, 8, 3, 7, 1, 3, 2, 0, 12, 0, 0, 0, 7, 4, 3, 2, 0, 15, 0, 1, 2, 0, 11]) ws (vs ++ [Value.int x]) := by
    refine ⟨nf_inA hl rfl, sgq_1438 ?_⟩
    · show ((w_fi ws (n_v (vs ++ [Value.int x]) 7) 12 = 1) → (w_fi ws (n_v (vs ++ [Value.int x]) 7) 11 ≤ (w_fi ws (n_v (vs ++ [Value.int x]) 7) 15 + 8))) ∧ ((w_fi ws (n_v (vs ++ [Value.int x]) 7) 12 = 0) ∨ ((w_fi ws (n_v (vs ++ [Value.int x]) 7) 15 + 1) ≤ w_fi ws (n_v (vs ++ [Value.int x]) 7) 11))
      simp only [e_7, q7]
      exact vc_Mo_of_at_s5003_17_1 (v_iv (n_v vs 27)) (v_iv (n_v vs 28)) (v_iv (n_v vs 29)) (w_fi ws (n_v vs 0) 8) (w_ei ws (w_ar ws (n_v vs 0) 1)) (w_fi ws (n_v vs 0) 9) (w_fi ws (n_v vs 0) 15) (w_fi ws (n_v vs 0) 11) (w_fi ws (n_v vs 0) 12) k27 k28 k29 f26 f28 hK_0_1 kz_0_8 kz_0_9 kz_0_11 kz_0_12 kz_0_15
  have nf2 : fc_1 PRD (20, [3, 7], [30, -1, 1, 0, 0, -1, 1, 11]) ws (vs ++ [Value.int x]) := by
    refine ⟨nf_inA hl rfl, sgq_2005 ?_⟩
    · show 1 * v_iv (n_v (vs ++ [Value.int x]) 3) + ((-1) * w_fi ws (n_v (vs ++ [Value.int x]) 7) 11 + 0) ≤ (-1)
      simp only [e_3, e_7, q7]
      exact vc_Mo_of_at_s5003_17_2 (v_iv (n_v vs 2)) (v_iv (n_v vs 3)) (v_iv (n_v vs 24)) (v_iv (n_v vs 27)) (v_iv (n_v vs 28)) (v_iv (n_v vs 29)) (w_fi ws (n_v vs 0) 8) (w_ei ws (w_ar ws (n_v vs 0) 1)) (w_fi ws (n_v vs 0) 9) (w_fi ws (n_v vs 0) 15) (w_fi ws (n_v vs 0) 11) (w_fi ws (n_v vs 0) 12) k2 k3 k24 k27 k28 k29 f4 f26 f28 hK_0_1 kz_0_8 kz_0_9 kz_0_11 kz_0_12 kz_0_15
  have nf3 : fc_1 PRD (23, [24, 9], [0, 1, -1]) ws (vs ++ [Value.int x]) := by
    refine ⟨nf_inA hl rfl, sgq_7 ?_⟩
    · show 1 * v_iv (n_v (vs ++ [Value.int x]) 24) + ((-1) * v_iv (n_v (vs ++ [Value.int x]) 9) + 0) ≤ 0
      simp only [e_9, e_24, q9]
      exact vc_Mo_of_at_s5003_17_3 (v_iv (n_v vs 2)) (v_iv (n_v vs 24)) (v_iv (n_v vs 27)) (v_iv (n_v vs 28)) (v_iv (n_v vs 29)) (w_fi ws (n_v vs 0) 8) (w_ei ws (w_ar ws (n_v vs 0) 1)) (w_fi ws (n_v vs 0) 9) (w_fi ws (n_v vs 0) 15) (w_fi ws (n_v vs 0) 11) (w_fi ws (n_v vs 0) 12) k2 k24 k27 k28 k29 f26 f28 f34 hK_0_1 kz_0_8 kz_0_9 kz_0_11 kz_0_12 kz_0_15
  have nf4 : fc_1 PRD (23, [24], [0, -1]) ws (vs ++ [Value.int x]) := by
    refine ⟨nf_inA hl rfl, sgq_1043 ?_⟩
    · show (-1) * v_iv (n_v (vs ++ [Value.int x]) 24) + 0 ≤ 0
      rw [e_24]
      exact vc_Mo_of_at_s5003_17_4 (v_iv (n_v vs 24)) (v_iv (n_v vs 27)) (v_iv (n_v vs 28)) (v_iv (n_v vs 29)) (w_fi ws (n_v vs 0) 8) (w_ei ws (w_ar ws (n_v vs 0) 1)) (w_fi ws (n_v vs 0) 9) (w_fi ws (n_v vs 0) 15) (w_fi ws (n_v vs 0) 11) (w_fi ws (n_v vs 0) 12) k24 k27 k28 k29 f26 f28 f35 hK_0_1 kz_0_8 kz_0_9 kz_0_11 kz_0_12 kz_0_15
  have nf5 : fc_1 PRD (23, [4], [0, -1]) ws (vs ++ [Value.int x]) := by
    refine ⟨nf_inA hl rfl, sgq_1043 ?_⟩
    · show (-1) * v_iv (n_v (vs ++ [Value.int x]) 4) + 0 ≤ 0
      rw [e_4]
      exact vc_Mo_of_at_s5003_17_5 (v_iv (n_v vs 4)) (v_iv (n_v vs 27)) (v_iv (n_v vs 28)) (v_iv (n_v vs 29)) (w_fi ws (n_v vs 0) 8) (w_ei ws (w_ar ws (n_v vs 0) 1)) (w_fi ws (n_v vs 0) 9) (w_fi ws (n_v vs 0) 15) (w_fi ws (n_v vs 0) 11) (w_fi ws (n_v vs 0) 12) k4 k27 k28 k29 f26 f28 f94 hK_0_1 kz_0_8 kz_0_9 kz_0_11 kz_0_12 kz_0_15
  have nf6 : fc_1 PRD (20, [32, 7], [30, -2001, -1, 0, 0, -1, 1, 11]) ws (vs ++ [Value.int x]) := by
    refine ⟨nf_inA hl rfl, sgq_2013 ?_⟩
    · show (-1) * v_iv (n_v (vs ++ [Value.int x]) 32) + ((-1) * w_fi ws (n_v (vs ++ [Value.int x]) 7) 11 + 0) ≤ (-2001)
      simp only [e_7, e_32, q7]
      exact vc_Mo_of_at_s5003_17_6 (v_iv (n_v vs 2)) (v_iv (n_v vs 24)) (v_iv (n_v vs 27)) (v_iv (n_v vs 28)) (v_iv (n_v vs 29)) (w_fi ws (n_v vs 0) 8) (w_ei ws (w_ar ws (n_v vs 0) 1)) (w_fi ws (n_v vs 0) 9) (w_fi ws (n_v vs 0) 15) (w_fi ws (n_v vs 0) 11) (w_fi ws (n_v vs 0) 12) (v_iv (Value.int x)) k2 k24 k27 k28 k29 f4 f26 f28 hK_0_1 kz_0_8 kz_0_9 kz_0_11 kz_0_12 kz_0_15
  have nf7 : fc_1 PRD (20, [7, 4, 24, 5, 6], [60, 8, 2, 1000, 10, 11, 12, 13, 14, 15, 8, 5, 1, 2]) ws (vs ++ [Value.int x]) := by
    refine ⟨nf_inA hl rfl, sgq_2021 ?_⟩
    · show zO12w (w_fi ws (n_v (vs ++ [Value.int x]) 7) 10) (w_fi ws (n_v (vs ++ [Value.int x]) 7) 11) (w_fi ws (n_v (vs ++ [Value.int x]) 7) 12) (w_fi ws (n_v (vs ++ [Value.int x]) 7) 13) (w_fi ws (n_v (vs ++ [Value.int x]) 7) 14) (w_fi ws (n_v (vs ++ [Value.int x]) 7) 15) (w_fi ws (n_v (vs ++ [Value.int x]) 7) 8) (w_fi ws (n_v (vs ++ [Value.int x]) 7) 5) (w_ei ws (w_ar ws (n_v (vs ++ [Value.int x]) 7) 1)) (w_ei ws (w_ar ws (n_v (vs ++ [Value.int x]) 7) 2)) (v_iv (n_v (vs ++ [Value.int x]) 4)) (v_iv (n_v (vs ++ [Value.int x]) 24)) (v_iv (n_v (vs ++ [Value.int x]) 5)) (v_iv (n_v (vs ++ [Value.int x]) 6))
      simp only [e_4, e_5, e_6, e_7, e_24, q7]
      exact vc_Mo_of_at_s5003_17_7 (v_iv (n_v vs 2)) (v_iv (n_v vs 4)) (v_iv (n_v vs 5)) (v_iv (n_v vs 6)) (v_iv (n_v vs 15)) (v_iv (n_v vs 17)) (v_iv (n_v vs 18)) (v_iv (n_v vs 19)) (v_iv (n_v vs 20)) (v_iv (n_v vs 24)) (v_iv (n_v vs 30)) (v_iv (n_v vs 31)) (w_fi ws (n_v vs 0) 8) (w_ei ws (w_ar ws (n_v vs 0) 1)) (w_ei ws (w_ar ws (n_v vs 0) 2)) (w_fi ws (n_v vs 0) 10) (w_fi ws (n_v vs 0) 5) (w_fi ws (n_v vs 0) 15) (w_fi ws (n_v vs 0) 11) (w_fi ws (n_v vs 0) 12) (w_fi ws (n_v vs 0) 13) (w_fi ws (n_v vs 0) 14) k2 k4 k5 k6 k24 k30 k31 g0 f3 f4 f30 kz_0_8 kz_0_10 kz_0_11 kz_0_12 kz_0_13 kz_0_14 kz_0_15
  have nf8 : fc_1 PRD (24, [0, 7], []) ws (vs ++ [Value.int x]) := by
    refine ⟨nf_inA hl rfl, sgq_5 ?_⟩
    · show n_v (vs ++ [Value.int x]) 0 = n_v (vs ++ [Value.int x]) 7
      first | rfl | simp only [e_0, e_7, q7, q9]
  have nf9 : fc_1 PRD (24, [2, 9], []) ws (vs ++ [Value.int x]) := by
    refine ⟨nf_inA hl rfl, sgq_5 ?_⟩
    · show n_v (vs ++ [Value.int x]) 2 = n_v (vs ++ [Value.int x]) 9
      first | rfl | simp only [e_2, e_9, q7, q9]
  obtain ⟨x0, e0, _, _⟩ := tv_int t11 rfl
  have e1 : v_iv (n_v vs 11) = x0.toInt := by rw [e0]; rfl
  have ho : sy_ofs (vs ++ [Value.int x]) (32, 11, 0, 0) := by
    refine ⟨x, x0, by rw [List.getElem?_append_right (by rw [hl]; decide), hl]; rfl, ?_, ?_, ?_⟩
    · rw [List.getElem?_append_left (by rw [hl]; decide)]; exact n_v_some (by rw [hl]; decide) e0
    · show x0.toInt + 0 ≤ x.toInt; omega
    · show x.toInt ≤ x0.toInt + 0; omega
  exact ⟨(fun _ h => (by cases h)), [Value.int x], ag_one hx, List.forall_mem_cons.mpr ⟨⟨show (20 : Nat) < 100 from by decide, nf0⟩, List.forall_mem_cons.mpr ⟨⟨show (20 : Nat) < 100 from by decide, nf1⟩, List.forall_mem_cons.mpr ⟨⟨show (20 : Nat) < 100 from by decide, nf2⟩, List.forall_mem_cons.mpr ⟨⟨show (23 : Nat) < 100 from by decide, nf3⟩, List.forall_mem_cons.mpr ⟨⟨show (23 : Nat) < 100 from by decide, nf4⟩, List.forall_mem_cons.mpr ⟨⟨show (23 : Nat) < 100 from by decide, nf5⟩, List.forall_mem_cons.mpr ⟨⟨show (20 : Nat) < 100 from by decide, nf6⟩, List.forall_mem_cons.mpr ⟨⟨show (20 : Nat) < 100 from by decide, nf7⟩, List.forall_mem_cons.mpr ⟨⟨show (24 : Nat) < 100 from by decide, nf8⟩, List.forall_mem_cons.mpr ⟨⟨show (24 : Nat) < 100 from by decide, nf9⟩, (fun _ h => (by cases h))⟩⟩⟩⟩⟩⟩⟩⟩⟩⟩, List.forall_mem_cons.mpr ⟨ho, (fun _ h => (by cases h))⟩⟩
set_option maxHeartbeats 4000000 in
theorem vc_Mo_of_at_s5003_18_0 (x27 : Int) (x28 : Int) (x29 : Int) (kind_0 : Int) (fault_0 : Int) (tape_0 : Int → Int) (from_0 : Int) (pos_0 : Int) (faultPlace_0 : Int) (k27 : 5 ≤ x27 ∧ x27 ≤ 5) (k28 : 0 ≤ x28 ∧ x28 ≤ 2000) (k29 : 0 ≤ x29 ∧ x29 ≤ 5) (f22 : 1 * from_0 + ((-1) * pos_0 + 0) ≤ 0) (f23 : ((kind_0 = 1) → (pos_0 ≤ (from_0 + 8))) ∧ ((kind_0 = 0) ∨ ((from_0 + 1) ≤ pos_0))) (f26 : ((1 ≤ x29) ∧ (fault_0 = x29)) ∨ ((x29 = 0) ∧ ((fault_0 = x27) ∧ (faultPlace_0 = x28)))) (hK_0_1 : ∀ j : Int, 0 ≤ j → j < 2000 → (-128) ≤ tape_0 j ∧ tape_0 j ≤ 127) (kz_0_8 : 0 ≤ fault_0 ∧ fault_0 ≤ 5) (kz_0_9 : 0 ≤ faultPlace_0 ∧ faultPlace_0 ≤ 2000) (kz_0_11 : 0 ≤ pos_0 ∧ pos_0 ≤ 2000) (kz_0_12 : 0 ≤ kind_0 ∧ kind_0 ≤ 4) (kz_0_15 : 0 ≤ from_0 ∧ from_0 ≤ 2000) : 1 * from_0 + ((-1) * pos_0 + 0) ≤ 0 := by
  first | with_reducible assumption | ((have f23_c0 := f23.1); (have f23_c1 := f23.2); (try and_intros) <;> first | with_reducible assumption | (clear f23_c0 f23_c1 f23 f26 hK_0_1; omega)) | ((have f23_c0 := f23.1); (have f23_c1 := f23.2); (try and_intros) <;> first | with_reducible assumption | (clear f23_c0 f23_c1 f23 hK_0_1; omega)) | omega
set_option maxHeartbeats 4000000 in
theorem vc_Mo_of_at_s5003_18_1 (x27 : Int) (x28 : Int) (x29 : Int) (kind_0 : Int) (fault_0 : Int) (tape_0 : Int → Int) (from_0 : Int) (pos_0 : Int) (faultPlace_0 : Int) (k27 : 5 ≤ x27 ∧ x27 ≤ 5) (k28 : 0 ≤ x28 ∧ x28 ≤ 2000) (k29 : 0 ≤ x29 ∧ x29 ≤ 5) (f23 : ((kind_0 = 1) → (pos_0 ≤ (from_0 + 8))) ∧ ((kind_0 = 0) ∨ ((from_0 + 1) ≤ pos_0))) (f26 : ((1 ≤ x29) ∧ (fault_0 = x29)) ∨ ((x29 = 0) ∧ ((fault_0 = x27) ∧ (faultPlace_0 = x28)))) (hK_0_1 : ∀ j : Int, 0 ≤ j → j < 2000 → (-128) ≤ tape_0 j ∧ tape_0 j ≤ 127) (kz_0_8 : 0 ≤ fault_0 ∧ fault_0 ≤ 5) (kz_0_9 : 0 ≤ faultPlace_0 ∧ faultPlace_0 ≤ 2000) (kz_0_11 : 0 ≤ pos_0 ∧ pos_0 ≤ 2000) (kz_0_12 : 0 ≤ kind_0 ∧ kind_0 ≤ 4) (kz_0_15 : 0 ≤ from_0 ∧ from_0 ≤ 2000) : ((kind_0 = 1) → (pos_0 ≤ (from_0 + 8))) ∧ ((kind_0 = 0) ∨ ((from_0 + 1) ≤ pos_0)) := by
  first | with_reducible assumption | ((have f23_c0 := f23.1); (have f23_c1 := f23.2); (try and_intros) <;> first | with_reducible assumption | (clear f23_c0 f23_c1 f23 f26 hK_0_1; omega)) | ((have f23_c0 := f23.1); (have f23_c1 := f23.2); (try and_intros) <;> first | with_reducible assumption | (clear f23_c0 f23_c1 f23 hK_0_1; omega)) | omega
set_option maxHeartbeats 4000000 in
theorem vc_Mo_of_at_s5003_18_2 (x3 : Int) (x17 : Int) (x27 : Int) (x28 : Int) (x29 : Int) (kind_0 : Int) (fault_0 : Int) (tape_0 : Int → Int) (from_0 : Int) (pos_0 : Int) (faultPlace_0 : Int) (k3 : 0 ≤ x3 ∧ x3 ≤ 2000) (k17 : 0 ≤ x17 ∧ x17 ≤ 2000) (k27 : 5 ≤ x27 ∧ x27 ≤ 5) (k28 : 0 ≤ x28 ∧ x28 ≤ 2000) (k29 : 0 ≤ x29 ∧ x29 ≤ 5) (f15 : 1 * x3 + ((-1) * x17 + 0) ≤ (-1)) (f23 : ((kind_0 = 1) → (pos_0 ≤ (from_0 + 8))) ∧ ((kind_0 = 0) ∨ ((from_0 + 1) ≤ pos_0))) (f24 : 1 * x17 + ((-1) * pos_0 + 0) ≤ 0) (f26 : ((1 ≤ x29) ∧ (fault_0 = x29)) ∨ ((x29 = 0) ∧ ((fault_0 = x27) ∧ (faultPlace_0 = x28)))) (hK_0_1 : ∀ j : Int, 0 ≤ j → j < 2000 → (-128) ≤ tape_0 j ∧ tape_0 j ≤ 127) (kz_0_8 : 0 ≤ fault_0 ∧ fault_0 ≤ 5) (kz_0_9 : 0 ≤ faultPlace_0 ∧ faultPlace_0 ≤ 2000) (kz_0_11 : 0 ≤ pos_0 ∧ pos_0 ≤ 2000) (kz_0_12 : 0 ≤ kind_0 ∧ kind_0 ≤ 4) (kz_0_15 : 0 ≤ from_0 ∧ from_0 ≤ 2000) : 1 * x3 + ((-1) * pos_0 + 0) ≤ 0 := by
  first | with_reducible assumption | ((have f23_c0 := f23.1); (have f23_c1 := f23.2); (try and_intros) <;> first | with_reducible assumption | (clear f23_c0 f23_c1 f23 f26 hK_0_1; omega)) | ((have f23_c0 := f23.1); (have f23_c1 := f23.2); (try and_intros) <;> first | with_reducible assumption | (clear f23_c0 f23_c1 f23 hK_0_1; omega)) | omega
set_option maxHeartbeats 4000000 in
theorem vc_Mo_of_at_s5003_18_3 (x3 : Int) (x27 : Int) (x28 : Int) (x29 : Int) (x30 : Int) (kind_0 : Int) (fault_0 : Int) (tape_0 : Int → Int) (from_0 : Int) (pos_0 : Int) (faultPlace_0 : Int) (k3 : 0 ≤ x3 ∧ x3 ≤ 2000) (k27 : 5 ≤ x27 ∧ x27 ≤ 5) (k28 : 0 ≤ x28 ∧ x28 ≤ 2000) (k29 : 0 ≤ x29 ∧ x29 ≤ 5) (k30 : 1 ≤ x30 ∧ x30 ≤ 5) (g4 : x30 = fault_0) (f23 : ((kind_0 = 1) → (pos_0 ≤ (from_0 + 8))) ∧ ((kind_0 = 0) ∨ ((from_0 + 1) ≤ pos_0))) (f26 : ((1 ≤ x29) ∧ (fault_0 = x29)) ∨ ((x29 = 0) ∧ ((fault_0 = x27) ∧ (faultPlace_0 = x28)))) (hK_0_1 : ∀ j : Int, 0 ≤ j → j < 2000 → (-128) ≤ tape_0 j ∧ tape_0 j ≤ 127) (kz_0_8 : 0 ≤ fault_0 ∧ fault_0 ≤ 5) (kz_0_9 : 0 ≤ faultPlace_0 ∧ faultPlace_0 ≤ 2000) (kz_0_11 : 0 ≤ pos_0 ∧ pos_0 ≤ 2000) (kz_0_12 : 0 ≤ kind_0 ∧ kind_0 ≤ 4) (kz_0_15 : 0 ≤ from_0 ∧ from_0 ≤ 2000) : (1 ≤ fault_0) ∨ ((kind_0 = 0) ∨ ((x3 + 1) ≤ pos_0)) := by
  first | with_reducible assumption | ((have f23_c0 := f23.1); (have f23_c1 := f23.2); (try and_intros) <;> first | with_reducible assumption | (clear f23_c0 f23_c1 f23 f26 hK_0_1; omega)) | ((have f23_c0 := f23.1); (have f23_c1 := f23.2); (try and_intros) <;> first | with_reducible assumption | (clear f23_c0 f23_c1 f23 hK_0_1; omega)) | omega
set_option maxHeartbeats 4000000 in
theorem vc_Mo_of_at_s5003_18_4 (x4 : Int) (x27 : Int) (x28 : Int) (x29 : Int) (x30 : Int) (kind_0 : Int) (fault_0 : Int) (tape_0 : Int → Int) (from_0 : Int) (pos_0 : Int) (faultPlace_0 : Int) (k4 : (-1) ≤ x4 ∧ x4 ≤ 48) (k27 : 5 ≤ x27 ∧ x27 ≤ 5) (k28 : 0 ≤ x28 ∧ x28 ≤ 2000) (k29 : 0 ≤ x29 ∧ x29 ≤ 5) (k30 : 1 ≤ x30 ∧ x30 ≤ 5) (g4 : x30 = fault_0) (f23 : ((kind_0 = 1) → (pos_0 ≤ (from_0 + 8))) ∧ ((kind_0 = 0) ∨ ((from_0 + 1) ≤ pos_0))) (f26 : ((1 ≤ x29) ∧ (fault_0 = x29)) ∨ ((x29 = 0) ∧ ((fault_0 = x27) ∧ (faultPlace_0 = x28)))) (hK_0_1 : ∀ j : Int, 0 ≤ j → j < 2000 → (-128) ≤ tape_0 j ∧ tape_0 j ≤ 127) (kz_0_8 : 0 ≤ fault_0 ∧ fault_0 ≤ 5) (kz_0_9 : 0 ≤ faultPlace_0 ∧ faultPlace_0 ≤ 2000) (kz_0_11 : 0 ≤ pos_0 ∧ pos_0 ≤ 2000) (kz_0_12 : 0 ≤ kind_0 ∧ kind_0 ≤ 4) (kz_0_15 : 0 ≤ from_0 ∧ from_0 ≤ 2000) : (1 ≤ fault_0) ∨ (0 ≤ x4) := by
  first | with_reducible assumption | ((have f23_c0 := f23.1); (have f23_c1 := f23.2); (try and_intros) <;> first | with_reducible assumption | (clear f23_c0 f23_c1 f23 f26 hK_0_1; omega)) | ((have f23_c0 := f23.1); (have f23_c1 := f23.2); (try and_intros) <;> first | with_reducible assumption | (clear f23_c0 f23_c1 f23 hK_0_1; omega)) | omega
set_option maxHeartbeats 4000000 in
theorem vc_Mo_of_at_s5003_18_5 (x2 : Int) (x27 : Int) (x28 : Int) (x29 : Int) (x31 : Int) (kind_0 : Int) (fault_0 : Int) (tape_0 : Int → Int) (from_0 : Int) (pos_0 : Int) (faultPlace_0 : Int) (k2 : 9 ≤ x2 ∧ x2 ≤ 9) (k27 : 5 ≤ x27 ∧ x27 ≤ 5) (k28 : 0 ≤ x28 ∧ x28 ≤ 2000) (k29 : 0 ≤ x29 ∧ x29 ≤ 5) (k31 : 0 ≤ x31 ∧ x31 ≤ 0) (f23 : ((kind_0 = 1) → (pos_0 ≤ (from_0 + 8))) ∧ ((kind_0 = 0) ∨ ((from_0 + 1) ≤ pos_0))) (f26 : ((1 ≤ x29) ∧ (fault_0 = x29)) ∨ ((x29 = 0) ∧ ((fault_0 = x27) ∧ (faultPlace_0 = x28)))) (hK_0_1 : ∀ j : Int, 0 ≤ j → j < 2000 → (-128) ≤ tape_0 j ∧ tape_0 j ≤ 127) (kz_0_8 : 0 ≤ fault_0 ∧ fault_0 ≤ 5) (kz_0_9 : 0 ≤ faultPlace_0 ∧ faultPlace_0 ≤ 2000) (kz_0_11 : 0 ≤ pos_0 ∧ pos_0 ≤ 2000) (kz_0_12 : 0 ≤ kind_0 ∧ kind_0 ≤ 4) (kz_0_15 : 0 ≤ from_0 ∧ from_0 ≤ 2000) : 1 * x31 + ((-1) * x2 + 0) ≤ 0 := by
  first | with_reducible assumption | ((have f23_c0 := f23.1); (have f23_c1 := f23.2); (try and_intros) <;> first | with_reducible assumption | (clear f23_c0 f23_c1 f23 f26 hK_0_1; omega)) | ((have f23_c0 := f23.1); (have f23_c1 := f23.2); (try and_intros) <;> first | with_reducible assumption | (clear f23_c0 f23_c1 f23 hK_0_1; omega)) | omega
set_option maxHeartbeats 4000000 in
theorem vc_Mo_of_at_s5003_18_6 (x27 : Int) (x28 : Int) (x29 : Int) (x31 : Int) (kind_0 : Int) (fault_0 : Int) (tape_0 : Int → Int) (from_0 : Int) (pos_0 : Int) (faultPlace_0 : Int) (k27 : 5 ≤ x27 ∧ x27 ≤ 5) (k28 : 0 ≤ x28 ∧ x28 ≤ 2000) (k29 : 0 ≤ x29 ∧ x29 ≤ 5) (k31 : 0 ≤ x31 ∧ x31 ≤ 0) (f23 : ((kind_0 = 1) → (pos_0 ≤ (from_0 + 8))) ∧ ((kind_0 = 0) ∨ ((from_0 + 1) ≤ pos_0))) (f26 : ((1 ≤ x29) ∧ (fault_0 = x29)) ∨ ((x29 = 0) ∧ ((fault_0 = x27) ∧ (faultPlace_0 = x28)))) (hK_0_1 : ∀ j : Int, 0 ≤ j → j < 2000 → (-128) ≤ tape_0 j ∧ tape_0 j ≤ 127) (kz_0_8 : 0 ≤ fault_0 ∧ fault_0 ≤ 5) (kz_0_9 : 0 ≤ faultPlace_0 ∧ faultPlace_0 ≤ 2000) (kz_0_11 : 0 ≤ pos_0 ∧ pos_0 ≤ 2000) (kz_0_12 : 0 ≤ kind_0 ∧ kind_0 ≤ 4) (kz_0_15 : 0 ≤ from_0 ∧ from_0 ≤ 2000) : (-1) * x31 + 0 ≤ 0 := by
  first | with_reducible assumption | ((have f23_c0 := f23.1); (have f23_c1 := f23.2); (try and_intros) <;> first | with_reducible assumption | (clear f23_c0 f23_c1 f23 f26 hK_0_1; omega)) | ((have f23_c0 := f23.1); (have f23_c1 := f23.2); (try and_intros) <;> first | with_reducible assumption | (clear f23_c0 f23_c1 f23 hK_0_1; omega)) | omega
set_option maxHeartbeats 4000000 in
theorem vc_Mo_of_at_s5003_18_7 (x4 : Int) (x5 : Int) (x6 : Int) (x15 : Int) (x17 : Int) (x18 : Int) (x19 : Int) (x20 : Int) (x22 : Int) (x24 : Int) (x27 : Int) (x28 : Int) (x29 : Int) (x30 : Int) (x31 : Int) (place_0 : Int) (value_0 : Int) (kind_0 : Int) (fault_0 : Int) (tape_0 : Int → Int) (limit_0 : Int) (from_0 : Int) (pos_0 : Int) (faultPlace_0 : Int) (all_0 : Int → Int) (r_0 : Int) (k4 : (-1) ≤ x4 ∧ x4 ≤ 48) (k5 : 0 ≤ x5 ∧ x5 ≤ 7) (k6 : 0 ≤ x6 ∧ x6 ≤ 4) (k15 : 0 ≤ x15 ∧ x15 ≤ 2000) (k17 : 0 ≤ x17 ∧ x17 ≤ 2000) (k18 : (-1) ≤ x18 ∧ x18 ≤ 48) (k19 : 0 ≤ x19 ∧ x19 ≤ 7) (k20 : 0 ≤ x20 ∧ x20 ≤ 4) (k22 : 2 ≤ x22 ∧ x22 ≤ 2) (k24 : 10 ≤ x24 ∧ x24 ≤ 1048575) (k27 : 5 ≤ x27 ∧ x27 ≤ 5) (k28 : 0 ≤ x28 ∧ x28 ≤ 2000) (k29 : 0 ≤ x29 ∧ x29 ≤ 5) (k30 : 1 ≤ x30 ∧ x30 ≤ 5) (k31 : 0 ≤ x31 ∧ x31 ≤ 0) (g0 : x28 = place_0) (g1 : x24 = value_0) (g2 : x22 = kind_0) (g4 : x30 = fault_0) (f5 : FSX (limit_0) (tape_0) (x27) (x28)) (f6 : ZH0 (x29)) (f7 : 1 * x17 + ((-1) * x15 + 0) ≤ 0) (f8 : (-1) * x17 + (1 * x15 + 0) ≤ 0) (f9 : 1 * x18 + ((-1) * x4 + 0) ≤ 0) (f10 : (-1) * x18 + (1 * x4 + 0) ≤ 0) (f11 : 1 * x19 + ((-1) * x5 + 0) ≤ 0) (f12 : (-1) * x19 + (1 * x5 + 0) ≤ 0) (f13 : 1 * x20 + ((-1) * x6 + 0) ≤ 0) (f14 : (-1) * x20 + (1 * x6 + 0) ≤ 0) (f26 : ((1 ≤ x29) ∧ (fault_0 = x29)) ∨ ((x29 = 0) ∧ ((fault_0 = x27) ∧ (faultPlace_0 = x28)))) (kz_0_8 : 0 ≤ fault_0 ∧ fault_0 ≤ 5) (kz_0_9 : 0 ≤ faultPlace_0 ∧ faultPlace_0 ≤ 2000) (kz_0_10 : 0 ≤ limit_0 ∧ limit_0 ≤ 2000) (kz_0_11 : 0 ≤ pos_0 ∧ pos_0 ≤ 2000) (kz_0_12 : 0 ≤ kind_0 ∧ kind_0 ≤ 4) (kz_0_13 : 0 ≤ place_0 ∧ place_0 ≤ 2000) (kz_0_14 : (-49) ≤ value_0 ∧ value_0 ≤ 1048575) (kz_0_15 : 0 ≤ from_0 ∧ from_0 ≤ 2000) : zOFw (limit_0) (pos_0) (kind_0) (place_0) (value_0) (from_0) (fault_0) (faultPlace_0) (r_0) (tape_0) (all_0) (x4) (x31) (x5) (x6) := by
  first | (have el_x17 : x17 = x15 := by omega); subst el_x17 | skip
  first | (have el_x18 : x18 = x4 := by omega); subst el_x18 | skip
  first | (have el_x19 : x19 = x5 := by omega); subst el_x19 | skip
  first | (have el_x20 : x20 = x6 := by omega); subst el_x20 | skip
  first | subst g0 | skip
  first | subst g1 | skip
  first | subst g2 | skip
  first | subst g4 | skip
  first
    | exact of_no_w ‹zOBw _ _ _ _ _ _ _ _ _ _ _ _ _ _› ‹SGQ _ _ _ _ _› (by omega) (by omega) (by omega)
    | exact Or.inl ⟨by omega, fs_w ‹FSX _ _ _ _› ‹ZH0 _› (by assumption)⟩
    | (refine Or.inl ⟨by omega, fs_w ?_ ?_ (by assumption)⟩ <;> assumption)
    | exact Or.inl ⟨by omega, or_l ‹zO11w _ _ _ _ _ _ _ _ _ _ _ _ _ _› (fun q => by have := q.1; omega)⟩
    | exact Or.inr (Or.inr ⟨by omega, ‹zRP13w _ _ _ _ _ _ _ _ _ _ _ _ _ _›⟩)
    | (exfalso; omega)
def o_Mo_of_at_s5003_18 : or_T := (129, 32, [(0, (2, 0, 0, [165])), (2, (0, 9, 9, [])), (3, (0, 0, 2000, [])), (4, (0, -1, 48, [])), (5, (0, 0, 7, [])), (6, (0, 0, 4, [])), (7, (2, 0, 0, [165])), (9, (0, 9, 9, [])), (11, (0, 0, 2000, [])), (15, (0, 0, 2000, [])), (17, (0, 0, 2000, [])), (18, (0, -1, 48, [])), (19, (0, 0, 7, [])), (20, (0, 0, 4, [])), (22, (0, 2, 2, [])), (23, (0, 2, 2, [])), (24, (0, 10, 1048575, [])), (27, (0, 5, 5, [])), (28, (0, 0, 2000, [])), (29, (0, 0, 5, [])), (30, (0, 1, 5, [])), (31, (0, 0, 0, []))], [(9, [28, 7], [13]), (9, [24, 7], [14]), (9, [22, 7], [12]), (8, [30], [4]), (9, [30, 7], [8]), (20, [7, 27, 28], [60, 1, 1, 1026, 10, 1]), (20, [29], [61, 0, 1029]), (23, [17, 15], [0, 1, -1]), (23, [17, 15], [0, -1, 1]), (23, [18, 4], [0, 1, -1]), (23, [18, 4], [0, -1, 1]), (23, [19, 5], [0, 1, -1]), (23, [19, 5], [0, -1, 1]), (23, [20, 6], [0, 1, -1]), (23, [20, 6], [0, -1, 1]), (23, [3, 17], [-1, 1, -1]), (23, [11, 17], [-2000, -1, -1]), (23, [3, 15], [-1, 1, -1]), (23, [11, 15], [-2000, -1, -1]), (23, [4], [0, -1]), (24, [0, 7], []), (24, [2, 9], []), (20, [7, 7], [30, 0, 1, 1, 15, -1, 1, 11]), (20, [7], [50, 3, 0, 12, 11, 15, 2, 21, 4, 7, 1, 3, 2, 0, 12, 0, 1, 0, 3, 2, 0, 11, 4, 3, 2, 0, 15, 0, 8, 3, 7, 1, 3, 2, 0, 12, 0, 0, 0, 7, 4, 3, 2, 0, 15, 0, 1, 2, 0, 11]), (20, [17, 7], [30, 0, 1, 0, 0, -1, 1, 11]), (20, [7], [30, -1, -1, 1, 8]), (20, [29, 7, 27, 28], [50, 2, 0, 1008, 1009, 3, 15, 2, 6, 0, 2, 0, 1, 1, 0, 1, 3, 2, 1, 8, 1, 0, 2, 6, 1, 2, 1, 0, 0, 0, 2, 7, 1, 3, 2, 1, 8, 1, 2, 1, 3, 2, 1, 9, 1, 3]), (102, [29], [0, 165008, 165009]), (7, [22, 23], [0]), (23, [17, 15], [0, 1, -1]), (23, [17, 15], [0, -1, 1]), (23, [18, 4], [0, 1, -1]), (23, [18, 4], [0, -1, 1]), (23, [19, 5], [0, 1, -1]), (23, [19, 5], [0, -1, 1]), (23, [20, 6], [0, 1, -1]), (23, [20, 6], [0, -1, 1]), (23, [3, 17], [-1, 1, -1]), (23, [11, 17], [-2000, -1, -1]), (23, [3, 15], [-1, 1, -1]), (23, [11, 15], [-2000, -1, -1]), (23, [4], [0, -1]), (102, [20], [0, 165008, 165009, 165011, 165012, 165013, 165014, 165015]), (23, [17, 15], [0, 1, -1]), (23, [17, 15], [0, -1, 1]), (23, [18, 4], [0, 1, -1]), (23, [18, 4], [0, -1, 1]), (23, [19, 5], [0, 1, -1]), (23, [19, 5], [0, -1, 1]), (23, [20, 6], [0, 1, -1]), (23, [20, 6], [0, -1, 1]), (23, [3, 17], [-1, 1, -1]), (23, [11, 17], [-2000, -1, -1]), (23, [3, 15], [-1, 1, -1]), (23, [11, 15], [-2000, -1, -1]), (23, [4], [0, -1]), (102, [15], [0, 165011, 165012, 165013, 165014, 165015]), (23, [3, 15], [-1, 1, -1]), (23, [11, 15], [-2000, -1, -1]), (23, [4], [0, -1]), (102, [13], [0]), (23, [4], [0, -1])], [], [], [(20, [0, 0], [30, 0, 1, 1, 15, -1, 1, 11]), (20, [0], [50, 3, 0, 12, 11, 15, 2, 21, 4, 7, 1, 3, 2, 0, 12, 0, 1, 0, 3, 2, 0, 11, 4, 3, 2, 0, 15, 0, 8, 3, 7, 1, 3, 2, 0, 12, 0, 0, 0, 7, 4, 3, 2, 0, 15, 0, 1, 2, 0, 11]), (20, [3, 0], [30, 0, 1, 0, 0, -1, 1, 11]), (20, [0, 3], [50, 3, 0, 8, 12, 11, 3, 7, 0, 2, 0, 1, 2, 0, 8, 3, 7, 1, 3, 2, 0, 12, 0, 0, 0, 6, 4, 2, 1, 1, 0, 1, 2, 0, 11]), (20, [0, 4], [50, 1, 0, 8, 3, 7, 0, 2, 0, 1, 2, 0, 8, 0, 2, 0, 0, 1, 1]), (20, [31, 2], [30, 0, 1, 0, 0, -1, 0, 0]), (20, [31], [30, 0, -1, 0, 0]), (20, [0, 4, 31, 5, 6], [60, 9, 2, 1014, 10, 11, 12, 13, 14, 15, 8, 9, 5, 1, 2])], [], [])
theorem oo_Mo_of_at_s5003_18 {kA : Nat → ClassId} : or_ok PRD kA GG o_Mo_of_at_s5003_18 := by
  refine or_mk fun A ta ws vs hD hth hl => ?_
  intro t0 r0 t2 k2 t3 k3 t4 k4 t5 k5 t6 k6 t7 r7 t9 k9 t11 k11 t15 k15 t17 k17 t18 k18 t19 k19 t20 k20 t22 k22 t23 k23 t24 k24 t27 k27 t28 k28 t29 k29 t30 k30 t31 k31 f0 f1 f2 f3 f4 f5 f6 f7 f8 f9 f10 f11 f12 f13 f14 f15 f16 f17 f18 f19 f20 f21 f22 f23 f24 f25 f26 ta1 w1 le1 s1 f28 f29 f30 f31 f32 f33 f34 f35 f36 f37 f38 f39 f40 f41 ta2 w2 le2 s2 f43 f44 f45 f46 f47 f48 f49 f50 f51 f52 f53 f54 f55 ta3 w3 le3 s3 f57 f58 f59 ta4 w4 le4 s4 f61
  replace f0 := shm_361 f0
  replace f1 := shm_115 f1
  replace f2 := shm_103 f2
  replace f4 := shm_293 f4
  replace f5 := shm_1724 f5
  replace f20 := shm_5 f20
  replace f22 := shm_1437 f22
  replace f23 := shm_1438 f23
  replace f24 := shm_1431 f24
  replace f26 := shm_306 f26
  have q7 : n_v vs 7 = n_v vs 0 := f20.symm
  simp only [q7] at f0 f1 f2 f4 f5 f22 f23 f24 f26
  have cr_0_1 := fdq_39 hD hth r0
  have g0 : v_iv (n_v vs 28) = w_fi ws (n_v vs 0) 13 := congrArg v_iv f0
  have g1 : v_iv (n_v vs 24) = w_fi ws (n_v vs 0) 14 := congrArg v_iv f1
  have g2 : v_iv (n_v vs 22) = w_fi ws (n_v vs 0) 12 := congrArg v_iv f2
  have g4 : v_iv (n_v vs 30) = w_fi ws (n_v vs 0) 8 := congrArg v_iv f4
  have hK_0_1 := elq_7 hD hth cr_0_1
  have kz_0_8 := fdq_34 hD hth r0
  have kz_0_9 := fdq_44 hD hth r0
  have kz_0_10 := fdq_43 hD hth r0
  have kz_0_11 := fdq_237 hD hth r0
  have kz_0_12 := fdq_187 hD hth r0
  have kz_0_13 := fdq_238 hD hth r0
  have kz_0_14 := fdq_188 hD hth r0
  have kz_0_15 := fdq_239 hD hth r0
  have nf0 : fc_1 PRD (20, [0, 0], [30, 0, 1, 1, 15, -1, 1, 11]) ws (vs) := ⟨nf_in hl rfl, sgq_1437 (vc_Mo_of_at_s5003_18_0 (v_iv (n_v vs 27)) (v_iv (n_v vs 28)) (v_iv (n_v vs 29)) (w_fi ws (n_v vs 0) 12) (w_fi ws (n_v vs 0) 8) (w_ei ws (w_ar ws (n_v vs 0) 1)) (w_fi ws (n_v vs 0) 15) (w_fi ws (n_v vs 0) 11) (w_fi ws (n_v vs 0) 9) k27 k28 k29 f22 f23 f26 hK_0_1 kz_0_8 kz_0_9 kz_0_11 kz_0_12 kz_0_15)⟩
  have nf1 : fc_1 PRD (20, [0], [50, 3, 0, 12, 11, 15, 2, 21, 4, 7, 1, 3, 2, 0, 12, 0, 1, 0, 3, 2, 0, 11, 4, 3, 2, 0, 15, 0, 8, 3, 7, 1, 3, 2, 0, 12, 0, 0, 0, 7, 4, 3, 2, 0, 15, 0, 1, 2, 0, 11]) ws (vs) := ⟨nf_in hl rfl, sgq_1438 (vc_Mo_of_at_s5003_18_1 (v_iv (n_v vs 27)) (v_iv (n_v vs 28)) (v_iv (n_v vs 29)) (w_fi ws (n_v vs 0) 12) (w_fi ws (n_v vs 0) 8) (w_ei ws (w_ar ws (n_v vs 0) 1)) (w_fi ws (n_v vs 0) 15) (w_fi ws (n_v vs 0) 11) (w_fi ws (n_v vs 0) 9) k27 k28 k29 f23 f26 hK_0_1 kz_0_8 kz_0_9 kz_0_11 kz_0_12 kz_0_15)⟩
  have nf2 : fc_1 PRD (20, [3, 0], [30, 0, 1, 0, 0, -1, 1, 11]) ws (vs) := ⟨nf_in hl rfl, sgq_1431 (vc_Mo_of_at_s5003_18_2 (v_iv (n_v vs 3)) (v_iv (n_v vs 17)) (v_iv (n_v vs 27)) (v_iv (n_v vs 28)) (v_iv (n_v vs 29)) (w_fi ws (n_v vs 0) 12) (w_fi ws (n_v vs 0) 8) (w_ei ws (w_ar ws (n_v vs 0) 1)) (w_fi ws (n_v vs 0) 15) (w_fi ws (n_v vs 0) 11) (w_fi ws (n_v vs 0) 9) k3 k17 k27 k28 k29 (shm_193 f15) f23 f24 f26 hK_0_1 kz_0_8 kz_0_9 kz_0_11 kz_0_12 kz_0_15)⟩
  have nf3 : fc_1 PRD (20, [0, 3], [50, 3, 0, 8, 12, 11, 3, 7, 0, 2, 0, 1, 2, 0, 8, 3, 7, 1, 3, 2, 0, 12, 0, 0, 0, 6, 4, 2, 1, 1, 0, 1, 2, 0, 11]) ws (vs) := ⟨nf_in hl rfl, sgq_1722 (vc_Mo_of_at_s5003_18_3 (v_iv (n_v vs 3)) (v_iv (n_v vs 27)) (v_iv (n_v vs 28)) (v_iv (n_v vs 29)) (v_iv (n_v vs 30)) (w_fi ws (n_v vs 0) 12) (w_fi ws (n_v vs 0) 8) (w_ei ws (w_ar ws (n_v vs 0) 1)) (w_fi ws (n_v vs 0) 15) (w_fi ws (n_v vs 0) 11) (w_fi ws (n_v vs 0) 9) k3 k27 k28 k29 k30 g4 f23 f26 hK_0_1 kz_0_8 kz_0_9 kz_0_11 kz_0_12 kz_0_15)⟩
  have nf4 : fc_1 PRD (20, [0, 4], [50, 1, 0, 8, 3, 7, 0, 2, 0, 1, 2, 0, 8, 0, 2, 0, 0, 1, 1]) ws (vs) := ⟨nf_in hl rfl, sgq_2000 (vc_Mo_of_at_s5003_18_4 (v_iv (n_v vs 4)) (v_iv (n_v vs 27)) (v_iv (n_v vs 28)) (v_iv (n_v vs 29)) (v_iv (n_v vs 30)) (w_fi ws (n_v vs 0) 12) (w_fi ws (n_v vs 0) 8) (w_ei ws (w_ar ws (n_v vs 0) 1)) (w_fi ws (n_v vs 0) 15) (w_fi ws (n_v vs 0) 11) (w_fi ws (n_v vs 0) 9) k4 k27 k28 k29 k30 g4 f23 f26 hK_0_1 kz_0_8 kz_0_9 kz_0_11 kz_0_12 kz_0_15)⟩
  have nf5 : fc_1 PRD (20, [31, 2], [30, 0, 1, 0, 0, -1, 0, 0]) ws (vs) := ⟨nf_in hl rfl, sgq_201 (vc_Mo_of_at_s5003_18_5 (v_iv (n_v vs 2)) (v_iv (n_v vs 27)) (v_iv (n_v vs 28)) (v_iv (n_v vs 29)) (v_iv (n_v vs 31)) (w_fi ws (n_v vs 0) 12) (w_fi ws (n_v vs 0) 8) (w_ei ws (w_ar ws (n_v vs 0) 1)) (w_fi ws (n_v vs 0) 15) (w_fi ws (n_v vs 0) 11) (w_fi ws (n_v vs 0) 9) k2 k27 k28 k29 k31 f23 f26 hK_0_1 kz_0_8 kz_0_9 kz_0_11 kz_0_12 kz_0_15)⟩
  have nf6 : fc_1 PRD (20, [31], [30, 0, -1, 0, 0]) ws (vs) := ⟨nf_in hl rfl, sgq_2002 (vc_Mo_of_at_s5003_18_6 (v_iv (n_v vs 27)) (v_iv (n_v vs 28)) (v_iv (n_v vs 29)) (v_iv (n_v vs 31)) (w_fi ws (n_v vs 0) 12) (w_fi ws (n_v vs 0) 8) (w_ei ws (w_ar ws (n_v vs 0) 1)) (w_fi ws (n_v vs 0) 15) (w_fi ws (n_v vs 0) 11) (w_fi ws (n_v vs 0) 9) k27 k28 k29 k31 f23 f26 hK_0_1 kz_0_8 kz_0_9 kz_0_11 kz_0_12 kz_0_15)⟩
  have nf7 : fc_1 PRD (20, [0, 4, 31, 5, 6], [60, 9, 2, 1014, 10, 11, 12, 13, 14, 15, 8, 9, 5, 1, 2]) ws (vs) := ⟨nf_in hl rfl, sgq_2016 (vc_Mo_of_at_s5003_18_7 (v_iv (n_v vs 4)) (v_iv (n_v vs 5)) (v_iv (n_v vs 6)) (v_iv (n_v vs 15)) (v_iv (n_v vs 17)) (v_iv (n_v vs 18)) (v_iv (n_v vs 19)) (v_iv (n_v vs 20)) (v_iv (n_v vs 22)) (v_iv (n_v vs 24)) (v_iv (n_v vs 27)) (v_iv (n_v vs 28)) (v_iv (n_v vs 29)) (v_iv (n_v vs 30)) (v_iv (n_v vs 31)) (w_fi ws (n_v vs 0) 13) (w_fi ws (n_v vs 0) 14) (w_fi ws (n_v vs 0) 12) (w_fi ws (n_v vs 0) 8) (w_ei ws (w_ar ws (n_v vs 0) 1)) (w_fi ws (n_v vs 0) 10) (w_fi ws (n_v vs 0) 15) (w_fi ws (n_v vs 0) 11) (w_fi ws (n_v vs 0) 9) (w_ei ws (w_ar ws (n_v vs 0) 2)) (w_fi ws (n_v vs 0) 5) k4 k5 k6 k15 k17 k18 k19 k20 k22 k24 k27 k28 k29 k30 k31 g0 g1 g2 g4 f5 (shm_1725 f6) (shm_7 f7) (shm_22 f8) (shm_7 f9) (shm_22 f10) (shm_7 f11) (shm_22 f12) (shm_7 f13) (shm_22 f14) f26 kz_0_8 kz_0_9 kz_0_10 kz_0_11 kz_0_12 kz_0_13 kz_0_14 kz_0_15)⟩
  refine ⟨(fun _ h => (by cases h)), [], trivial, ?_, (fun _ h => (by cases h))⟩
  rw [List.append_nil]
  exact List.forall_mem_cons.mpr ⟨⟨show (20 : Nat) < 100 from by decide, nf0⟩, List.forall_mem_cons.mpr ⟨⟨show (20 : Nat) < 100 from by decide, nf1⟩, List.forall_mem_cons.mpr ⟨⟨show (20 : Nat) < 100 from by decide, nf2⟩, List.forall_mem_cons.mpr ⟨⟨show (20 : Nat) < 100 from by decide, nf3⟩, List.forall_mem_cons.mpr ⟨⟨show (20 : Nat) < 100 from by decide, nf4⟩, List.forall_mem_cons.mpr ⟨⟨show (20 : Nat) < 100 from by decide, nf5⟩, List.forall_mem_cons.mpr ⟨⟨show (20 : Nat) < 100 from by decide, nf6⟩, List.forall_mem_cons.mpr ⟨⟨show (20 : Nat) < 100 from by decide, nf7⟩, (fun _ h => (by cases h))⟩⟩⟩⟩⟩⟩⟩⟩
set_option maxHeartbeats 4000000 in
theorem vc_Mo_of_at_s5003_19_0 (x2 : Int) (x17 : Int) (x24 : Int) (value_0 : Int) (fault_0 : Int) (kind_0 : Int) (from_0 : Int) (pos_0 : Int) (tape_0 : Int → Int) (k2 : 9 ≤ x2 ∧ x2 ≤ 9) (k17 : 0 ≤ x17 ∧ x17 ≤ 2000) (k24 : 1 ≤ x24 ∧ x24 ≤ 9) (g0 : x24 = value_0) (f25 : ((kind_0 = 1) → (pos_0 ≤ (from_0 + 8))) ∧ ((kind_0 = 0) ∨ ((from_0 + 1) ≤ pos_0))) (f27 : (1 ≤ fault_0) ∨ ((x17 + 1) ≤ pos_0)) (hK_0_1 : ∀ j : Int, 0 ≤ j → j < 2000 → (-128) ≤ tape_0 j ∧ tape_0 j ≤ 127) (kz_0_8 : 0 ≤ fault_0 ∧ fault_0 ≤ 5) (kz_0_11 : 0 ≤ pos_0 ∧ pos_0 ≤ 2000) (kz_0_12 : 0 ≤ kind_0 ∧ kind_0 ≤ 4) (kz_0_14 : (-49) ≤ value_0 ∧ value_0 ≤ 1048575) (kz_0_15 : 0 ≤ from_0 ∧ from_0 ≤ 2000) : 1 * x24 + ((-1) * x2 + 0) ≤ 0 := by
  first | with_reducible assumption | ((have f25_c0 := f25.1); (have f25_c1 := f25.2); (try and_intros) <;> first | with_reducible assumption | (clear f25_c0 f25_c1 f25 f27 hK_0_1; omega)) | ((have f25_c0 := f25.1); (have f25_c1 := f25.2); (try and_intros) <;> first | with_reducible assumption | (clear f25_c0 f25_c1 f25 hK_0_1; omega)) | omega
set_option maxHeartbeats 4000000 in
theorem vc_Mo_of_at_s5003_19_1 (x17 : Int) (x24 : Int) (value_0 : Int) (fault_0 : Int) (kind_0 : Int) (from_0 : Int) (pos_0 : Int) (tape_0 : Int → Int) (k17 : 0 ≤ x17 ∧ x17 ≤ 2000) (k24 : 1 ≤ x24 ∧ x24 ≤ 9) (g0 : x24 = value_0) (f25 : ((kind_0 = 1) → (pos_0 ≤ (from_0 + 8))) ∧ ((kind_0 = 0) ∨ ((from_0 + 1) ≤ pos_0))) (f27 : (1 ≤ fault_0) ∨ ((x17 + 1) ≤ pos_0)) (hK_0_1 : ∀ j : Int, 0 ≤ j → j < 2000 → (-128) ≤ tape_0 j ∧ tape_0 j ≤ 127) (kz_0_8 : 0 ≤ fault_0 ∧ fault_0 ≤ 5) (kz_0_11 : 0 ≤ pos_0 ∧ pos_0 ≤ 2000) (kz_0_12 : 0 ≤ kind_0 ∧ kind_0 ≤ 4) (kz_0_14 : (-49) ≤ value_0 ∧ value_0 ≤ 1048575) (kz_0_15 : 0 ≤ from_0 ∧ from_0 ≤ 2000) : (-1) * x24 + 0 ≤ 0 := by
  first | with_reducible assumption | ((have f25_c0 := f25.1); (have f25_c1 := f25.2); (try and_intros) <;> first | with_reducible assumption | (clear f25_c0 f25_c1 f25 f27 hK_0_1; omega)) | ((have f25_c0 := f25.1); (have f25_c1 := f25.2); (try and_intros) <;> first | with_reducible assumption | (clear f25_c0 f25_c1 f25 hK_0_1; omega)) | omega
def o_Mo_of_at_s5003_19 : or_T := (135, 27, [(0, (2, 0, 0, [165])), (2, (0, 9, 9, [])), (17, (0, 0, 2000, [])), (24, (0, 1, 9, []))], [(9, [24, 7], [14]), (24, [0, 7], []), (24, [2, 9], []), (20, [7], [50, 3, 0, 12, 11, 15, 2, 21, 4, 7, 1, 3, 2, 0, 12, 0, 1, 0, 3, 2, 0, 11, 4, 3, 2, 0, 15, 0, 8, 3, 7, 1, 3, 2, 0, 12, 0, 0, 0, 7, 4, 3, 2, 0, 15, 0, 1, 2, 0, 11]), (20, [7, 17], [50, 2, 0, 8, 11, 3, 7, 0, 2, 0, 1, 2, 0, 8, 0, 6, 4, 2, 1, 1, 0, 1, 2, 0, 11])], [], [], [(23, [24, 9], [0, 1, -1]), (23, [24], [0, -1])], [], [])
theorem oo_Mo_of_at_s5003_19 {kA : Nat → ClassId} : or_ok PRD kA GG o_Mo_of_at_s5003_19 := by
  refine or_mk fun A ta ws vs hD hth hl => ?_
  intro t0 r0 t2 k2 t17 k17 t24 k24 f0 f22 f23 f25 f27
  replace f0 := shm_115 f0
  replace f22 := shm_5 f22
  replace f23 := shm_5 f23
  replace f25 := shm_1438 f25
  replace f27 := shm_1726 f27
  have q7 : n_v vs 7 = n_v vs 0 := f22.symm
  have q9 : n_v vs 9 = n_v vs 2 := f23.symm
  simp only [q7] at f0 f25 f27
  have cr_0_1 := fdq_39 hD hth r0
  have g0 : v_iv (n_v vs 24) = w_fi ws (n_v vs 0) 14 := congrArg v_iv f0
  have hK_0_1 := elq_7 hD hth cr_0_1
  have kz_0_8 := fdq_34 hD hth r0
  have kz_0_11 := fdq_237 hD hth r0
  have kz_0_12 := fdq_187 hD hth r0
  have kz_0_14 := fdq_188 hD hth r0
  have kz_0_15 := fdq_239 hD hth r0
  have nf0 : fc_1 PRD (23, [24, 9], [0, 1, -1]) ws (vs) := by
    refine ⟨nf_in hl rfl, sgq_7 ?_⟩
    · show 1 * v_iv (n_v vs 24) + ((-1) * v_iv (n_v vs 9) + 0) ≤ 0
      rw [q9]
      exact vc_Mo_of_at_s5003_19_0 (v_iv (n_v vs 2)) (v_iv (n_v vs 17)) (v_iv (n_v vs 24)) (w_fi ws (n_v vs 0) 14) (w_fi ws (n_v vs 0) 8) (w_fi ws (n_v vs 0) 12) (w_fi ws (n_v vs 0) 15) (w_fi ws (n_v vs 0) 11) (w_ei ws (w_ar ws (n_v vs 0) 1)) k2 k17 k24 g0 f25 f27 hK_0_1 kz_0_8 kz_0_11 kz_0_12 kz_0_14 kz_0_15
  have nf1 : fc_1 PRD (23, [24], [0, -1]) ws (vs) := ⟨nf_in hl rfl, sgq_1043 (vc_Mo_of_at_s5003_19_1 (v_iv (n_v vs 17)) (v_iv (n_v vs 24)) (w_fi ws (n_v vs 0) 14) (w_fi ws (n_v vs 0) 8) (w_fi ws (n_v vs 0) 12) (w_fi ws (n_v vs 0) 15) (w_fi ws (n_v vs 0) 11) (w_ei ws (w_ar ws (n_v vs 0) 1)) k17 k24 g0 f25 f27 hK_0_1 kz_0_8 kz_0_11 kz_0_12 kz_0_14 kz_0_15)⟩
  refine ⟨(fun _ h => (by cases h)), [], trivial, ?_, (fun _ h => (by cases h))⟩
  rw [List.append_nil]
  exact List.forall_mem_cons.mpr ⟨⟨show (23 : Nat) < 100 from by decide, nf0⟩, List.forall_mem_cons.mpr ⟨⟨show (23 : Nat) < 100 from by decide, nf1⟩, (fun _ h => (by cases h))⟩⟩
set_option maxHeartbeats 4000000 in
theorem vc_Mo_of_at_s5003_20_0 (x17 : Int) (fault_0 : Int) (kind_0 : Int) (from_0 : Int) (pos_0 : Int) (tape_0 : Int → Int) (gx : Int) (k17 : 0 ≤ x17 ∧ x17 ≤ 2000) (f27 : ((kind_0 = 1) → (pos_0 ≤ (from_0 + 8))) ∧ ((kind_0 = 0) ∨ ((from_0 + 1) ≤ pos_0))) (f29 : (1 ≤ fault_0) ∨ ((x17 + 1) ≤ pos_0)) (hK_0_1 : ∀ j : Int, 0 ≤ j → j < 2000 → (-128) ≤ tape_0 j ∧ tape_0 j ≤ 127) (kz_0_8 : 0 ≤ fault_0 ∧ fault_0 ≤ 5) (kz_0_11 : 0 ≤ pos_0 ∧ pos_0 ≤ 2000) (kz_0_12 : 0 ≤ kind_0 ∧ kind_0 ≤ 4) (kz_0_15 : 0 ≤ from_0 ∧ from_0 ≤ 2000) (ex2 : gx = pos_0) : 1 * gx + ((-1) * pos_0 + 0) ≤ 0 := by
  first | with_reducible assumption | ((have f27_c0 := f27.1); (have f27_c1 := f27.2); (try and_intros) <;> first | with_reducible assumption | (clear f27_c0 f27_c1 f27 f29 hK_0_1; omega)) | ((have f27_c0 := f27.1); (have f27_c1 := f27.2); (try and_intros) <;> first | with_reducible assumption | (clear f27_c0 f27_c1 f27 hK_0_1; omega)) | omega
set_option maxHeartbeats 4000000 in
theorem vc_Mo_of_at_s5003_20_1 (x17 : Int) (fault_0 : Int) (kind_0 : Int) (from_0 : Int) (pos_0 : Int) (tape_0 : Int → Int) (gx : Int) (k17 : 0 ≤ x17 ∧ x17 ≤ 2000) (f27 : ((kind_0 = 1) → (pos_0 ≤ (from_0 + 8))) ∧ ((kind_0 = 0) ∨ ((from_0 + 1) ≤ pos_0))) (f29 : (1 ≤ fault_0) ∨ ((x17 + 1) ≤ pos_0)) (hK_0_1 : ∀ j : Int, 0 ≤ j → j < 2000 → (-128) ≤ tape_0 j ∧ tape_0 j ≤ 127) (kz_0_8 : 0 ≤ fault_0 ∧ fault_0 ≤ 5) (kz_0_11 : 0 ≤ pos_0 ∧ pos_0 ≤ 2000) (kz_0_12 : 0 ≤ kind_0 ∧ kind_0 ≤ 4) (kz_0_15 : 0 ≤ from_0 ∧ from_0 ≤ 2000) (ex2 : gx = pos_0) : gx = pos_0 := by
  first | with_reducible assumption | ((have f27_c0 := f27.1); (have f27_c1 := f27.2); (try and_intros) <;> first | with_reducible assumption | (clear f27_c0 f27_c1 f27 f29 hK_0_1; omega)) | ((have f27_c0 := f27.1); (have f27_c1 := f27.2); (try and_intros) <;> first | with_reducible assumption | (clear f27_c0 f27_c1 f27 hK_0_1; omega)) | omega
set_option maxHeartbeats 4000000 in
theorem vc_Mo_of_at_s5003_20_2 (x4 : Int) (x5 : Int) (x6 : Int) (x15 : Int) (x17 : Int) (x18 : Int) (x19 : Int) (x20 : Int) (x21 : Int) (x22 : Int) (x24 : Int) (value_0 : Int) (fault_0 : Int) (kind_0 : Int) (from_0 : Int) (pos_0 : Int) (tape_0 : Int → Int) (all_0 : Int → Int) (limit_0 : Int) (place_0 : Int) (faultPlace_0 : Int) (r_0 : Int) (gx : Int) (k4 : (-1) ≤ x4 ∧ x4 ≤ 48) (k5 : 0 ≤ x5 ∧ x5 ≤ 7) (k6 : 0 ≤ x6 ∧ x6 ≤ 4) (k15 : 0 ≤ x15 ∧ x15 ≤ 2000) (k17 : 0 ≤ x17 ∧ x17 ≤ 2000) (k18 : (-1) ≤ x18 ∧ x18 ≤ 48) (k19 : 0 ≤ x19 ∧ x19 ≤ 7) (k20 : 0 ≤ x20 ∧ x20 ≤ 4) (k21 : 0 ≤ x21 ∧ x21 ≤ 0) (k22 : 2 ≤ x22 ∧ x22 ≤ 2) (k24 : 1 ≤ x24 ∧ x24 ≤ 9) (g2 : x24 = value_0) (g4 : x21 = fault_0) (g7 : x22 = kind_0) (f8 : x21 = 0) (f9 : 1 * x17 + ((-1) * x15 + 0) ≤ 0) (f10 : (-1) * x17 + (1 * x15 + 0) ≤ 0) (f11 : 1 * x18 + ((-1) * x4 + 0) ≤ 0) (f12 : (-1) * x18 + (1 * x4 + 0) ≤ 0) (f13 : 1 * x19 + ((-1) * x5 + 0) ≤ 0) (f14 : (-1) * x19 + (1 * x5 + 0) ≤ 0) (f15 : 1 * x20 + ((-1) * x6 + 0) ≤ 0) (f16 : (-1) * x20 + (1 * x6 + 0) ≤ 0) (f30 : zO11w (limit_0) (pos_0) (kind_0) (place_0) (value_0) (from_0) (fault_0) (faultPlace_0) (r_0) (tape_0) (all_0) (x18) (x19) (x20)) (kz_0_8 : 0 ≤ fault_0 ∧ fault_0 ≤ 5) (kz_0_9 : 0 ≤ faultPlace_0 ∧ faultPlace_0 ≤ 2000) (kz_0_10 : 0 ≤ limit_0 ∧ limit_0 ≤ 2000) (kz_0_11 : 0 ≤ pos_0 ∧ pos_0 ≤ 2000) (kz_0_12 : 0 ≤ kind_0 ∧ kind_0 ≤ 4) (kz_0_13 : 0 ≤ place_0 ∧ place_0 ≤ 2000) (kz_0_14 : (-49) ≤ value_0 ∧ value_0 ≤ 1048575) (kz_0_15 : 0 ≤ from_0 ∧ from_0 ≤ 2000) (ex2 : gx = pos_0) : ZLM (limit_0) (pos_0) := by
  first | (have el_x17 : x17 = x15 := by omega); subst el_x17 | skip
  first | (have el_x18 : x18 = x4 := by omega); subst el_x18 | skip
  first | (have el_x19 : x19 = x5 := by omega); subst el_x19 | skip
  first | (have el_x20 : x20 = x6 := by omega); subst el_x20 | skip
  first | subst g2 | skip
  first | subst g4 | skip
  first | subst g7 | skip
  first | subst ex2 | skip
  first
    | exact ob_0_s ‹zOBs _ _ _ _ _ _ _ _ _ _ _ _ _ _› (sgq_t (C := 91) ‹SGQ _ _ _ _ _› (by omega) (by omega)).1
    | exact ob_0_w ‹zOBw _ _ _ _ _ _ _ _ _ _ _ _ _ _› (sgq_t (C := 91) ‹SGQ _ _ _ _ _› (by omega) (by omega)).1
    | exact (oi_0_s ‹zOIs _ _ _ _ _ _ _ _ _ _ _ _ _ _›).2
    | exact (oi_0_w ‹zOIw _ _ _ _ _ _ _ _ _ _ _ _ _ _›).2
    | exact o11_0_s ‹zO11s _ _ _ _ _ _ _ _ _ _ _ _ _ _› (by omega)
    | exact o11_0_w ‹zO11w _ _ _ _ _ _ _ _ _ _ _ _ _ _› (by omega)
    | (exfalso; omega)
set_option maxHeartbeats 4000000 in
theorem vc_Mo_of_at_s5003_20_3 (x3 : Int) (x17 : Int) (fault_0 : Int) (kind_0 : Int) (from_0 : Int) (pos_0 : Int) (tape_0 : Int → Int) (gx : Int) (k3 : 0 ≤ x3 ∧ x3 ≤ 2000) (k17 : 0 ≤ x17 ∧ x17 ≤ 2000) (f17 : 1 * x3 + ((-1) * x17 + 0) ≤ (-1)) (f27 : ((kind_0 = 1) → (pos_0 ≤ (from_0 + 8))) ∧ ((kind_0 = 0) ∨ ((from_0 + 1) ≤ pos_0))) (f28 : 1 * x17 + ((-1) * pos_0 + 0) ≤ 0) (f29 : (1 ≤ fault_0) ∨ ((x17 + 1) ≤ pos_0)) (hK_0_1 : ∀ j : Int, 0 ≤ j → j < 2000 → (-128) ≤ tape_0 j ∧ tape_0 j ≤ 127) (kz_0_8 : 0 ≤ fault_0 ∧ fault_0 ≤ 5) (kz_0_11 : 0 ≤ pos_0 ∧ pos_0 ≤ 2000) (kz_0_12 : 0 ≤ kind_0 ∧ kind_0 ≤ 4) (kz_0_15 : 0 ≤ from_0 ∧ from_0 ≤ 2000) (ex2 : gx = pos_0) : 1 * x3 + ((-1) * gx + 0) ≤ (-1) := by
  first | with_reducible assumption | ((have f27_c0 := f27.1); (have f27_c1 := f27.2); (try and_intros) <;> first | with_reducible assumption | (clear f27_c0 f27_c1 f27 f29 hK_0_1; omega)) | ((have f27_c0 := f27.1); (have f27_c1 := f27.2); (try and_intros) <;> first | with_reducible assumption | (clear f27_c0 f27_c1 f27 hK_0_1; omega)) | omega
set_option maxHeartbeats 4000000 in
theorem vc_Mo_of_at_s5003_20_4 (x11 : Int) (x17 : Int) (x21 : Int) (fault_0 : Int) (kind_0 : Int) (from_0 : Int) (pos_0 : Int) (tape_0 : Int → Int) (gx : Int) (k11 : 0 ≤ x11 ∧ x11 ≤ 2000) (k17 : 0 ≤ x17 ∧ x17 ≤ 2000) (k21 : 0 ≤ x21 ∧ x21 ≤ 0) (g4 : x21 = fault_0) (f18 : (-1) * x11 + ((-1) * x17 + 0) ≤ (-2000)) (f27 : ((kind_0 = 1) → (pos_0 ≤ (from_0 + 8))) ∧ ((kind_0 = 0) ∨ ((from_0 + 1) ≤ pos_0))) (f29 : (1 ≤ fault_0) ∨ ((x17 + 1) ≤ pos_0)) (hK_0_1 : ∀ j : Int, 0 ≤ j → j < 2000 → (-128) ≤ tape_0 j ∧ tape_0 j ≤ 127) (kz_0_8 : 0 ≤ fault_0 ∧ fault_0 ≤ 5) (kz_0_11 : 0 ≤ pos_0 ∧ pos_0 ≤ 2000) (kz_0_12 : 0 ≤ kind_0 ∧ kind_0 ≤ 4) (kz_0_15 : 0 ≤ from_0 ∧ from_0 ≤ 2000) (ex2 : gx = pos_0) : (-1) * x11 + ((-1) * gx + 0) ≤ (-2001) := by
  first | with_reducible assumption | ((have f27_c0 := f27.1); (have f27_c1 := f27.2); (try and_intros) <;> first | with_reducible assumption | (clear f27_c0 f27_c1 f27 f29 hK_0_1; omega)) | ((have f27_c0 := f27.1); (have f27_c1 := f27.2); (try and_intros) <;> first | with_reducible assumption | (clear f27_c0 f27_c1 f27 hK_0_1; omega)) | omega
set_option maxHeartbeats 4000000 in
theorem vc_Mo_of_at_s5003_20_5 (x4 : Int) (x5 : Int) (x6 : Int) (x15 : Int) (x17 : Int) (x18 : Int) (x19 : Int) (x20 : Int) (x21 : Int) (x22 : Int) (x24 : Int) (value_0 : Int) (fault_0 : Int) (kind_0 : Int) (from_0 : Int) (pos_0 : Int) (tape_0 : Int → Int) (all_0 : Int → Int) (limit_0 : Int) (place_0 : Int) (faultPlace_0 : Int) (r_0 : Int) (gx : Int) (k4 : (-1) ≤ x4 ∧ x4 ≤ 48) (k5 : 0 ≤ x5 ∧ x5 ≤ 7) (k6 : 0 ≤ x6 ∧ x6 ≤ 4) (k15 : 0 ≤ x15 ∧ x15 ≤ 2000) (k17 : 0 ≤ x17 ∧ x17 ≤ 2000) (k18 : (-1) ≤ x18 ∧ x18 ≤ 48) (k19 : 0 ≤ x19 ∧ x19 ≤ 7) (k20 : 0 ≤ x20 ∧ x20 ≤ 4) (k21 : 0 ≤ x21 ∧ x21 ≤ 0) (k22 : 2 ≤ x22 ∧ x22 ≤ 2) (k24 : 1 ≤ x24 ∧ x24 ≤ 9) (g2 : x24 = value_0) (g4 : x21 = fault_0) (g7 : x22 = kind_0) (f8 : x21 = 0) (f9 : 1 * x17 + ((-1) * x15 + 0) ≤ 0) (f10 : (-1) * x17 + (1 * x15 + 0) ≤ 0) (f11 : 1 * x18 + ((-1) * x4 + 0) ≤ 0) (f12 : (-1) * x18 + (1 * x4 + 0) ≤ 0) (f13 : 1 * x19 + ((-1) * x5 + 0) ≤ 0) (f14 : (-1) * x19 + (1 * x5 + 0) ≤ 0) (f15 : 1 * x20 + ((-1) * x6 + 0) ≤ 0) (f16 : (-1) * x20 + (1 * x6 + 0) ≤ 0) (f30 : zO11w (limit_0) (pos_0) (kind_0) (place_0) (value_0) (from_0) (fault_0) (faultPlace_0) (r_0) (tape_0) (all_0) (x18) (x19) (x20)) (kz_0_8 : 0 ≤ fault_0 ∧ fault_0 ≤ 5) (kz_0_9 : 0 ≤ faultPlace_0 ∧ faultPlace_0 ≤ 2000) (kz_0_10 : 0 ≤ limit_0 ∧ limit_0 ≤ 2000) (kz_0_11 : 0 ≤ pos_0 ∧ pos_0 ≤ 2000) (kz_0_12 : 0 ≤ kind_0 ∧ kind_0 ≤ 4) (kz_0_13 : 0 ≤ place_0 ∧ place_0 ≤ 2000) (kz_0_14 : (-49) ≤ value_0 ∧ value_0 ≤ 1048575) (kz_0_15 : 0 ≤ from_0 ∧ from_0 ≤ 2000) (ex2 : gx = pos_0) : zU12w (limit_0) (fault_0) (r_0) (tape_0) (all_0) (x4) (x24) (x5) (x6) (gx) := by
  first | (have el_x17 : x17 = x15 := by omega); subst el_x17 | skip
  first | (have el_x18 : x18 = x4 := by omega); subst el_x18 | skip
  first | (have el_x19 : x19 = x5 := by omega); subst el_x19 | skip
  first | (have el_x20 : x20 = x6 := by omega); subst el_x20 | skip
  first | subst g2 | skip
  first | subst g4 | skip
  first | subst g7 | skip
  first | subst ex2 | skip
  first
    | exact of_val_w ‹zO11w _ _ _ _ _ _ _ _ _ _ _ _ _ _› (by omega) (by omega) (by omega) (by omega) (by omega)
    | (exfalso; omega)
def o_Mo_of_at_s5003_20 : or_T := (136, 27, [(0, (2, 0, 0, [165])), (3, (0, 0, 2000, [])), (4, (0, -1, 48, [])), (5, (0, 0, 7, [])), (6, (0, 0, 4, [])), (11, (0, 0, 2000, [])), (15, (0, 0, 2000, [])), (17, (0, 0, 2000, [])), (18, (0, -1, 48, [])), (19, (0, 0, 7, [])), (20, (0, 0, 4, [])), (21, (0, 0, 0, [])), (22, (0, 2, 2, [])), (24, (0, 1, 9, []))], [(9, [24, 7], [14]), (9, [21, 7], [8]), (9, [22, 7], [12]), (8, [21], [0]), (23, [17, 15], [0, 1, -1]), (23, [17, 15], [0, -1, 1]), (23, [18, 4], [0, 1, -1]), (23, [18, 4], [0, -1, 1]), (23, [19, 5], [0, 1, -1]), (23, [19, 5], [0, -1, 1]), (23, [20, 6], [0, 1, -1]), (23, [20, 6], [0, -1, 1]), (23, [3, 17], [-1, 1, -1]), (23, [11, 17], [-2000, -1, -1]), (24, [0, 7], []), (20, [7], [50, 3, 0, 12, 11, 15, 2, 21, 4, 7, 1, 3, 2, 0, 12, 0, 1, 0, 3, 2, 0, 11, 4, 3, 2, 0, 15, 0, 8, 3, 7, 1, 3, 2, 0, 12, 0, 0, 0, 7, 4, 3, 2, 0, 15, 0, 1, 2, 0, 11]), (20, [17, 7], [30, 0, 1, 0, 0, -1, 1, 11]), (20, [7, 17], [50, 2, 0, 8, 11, 3, 7, 0, 2, 0, 1, 2, 0, 8, 0, 6, 4, 2, 1, 1, 0, 1, 2, 0, 11]), (20, [7, 18, 19, 20], [60, 9, 2, 1025, 10, 11, 12, 13, 14, 15, 8, 9, 5, 1, 2])], [], [(0, 0, 2000, [])], [(20, [27, 7], [30, 0, 1, 0, 0, -1, 1, 11]), (20, [27, 7], [50, 1, 0, 1011, 1, 2, 1, 0, 2, 1, 11]), (20, [7], [60, 2, 0, 947, 10, 11]), (23, [3, 27], [-1, 1, -1]), (23, [11, 27], [-2001, -1, -1]), (20, [7, 4, 24, 5, 6, 27], [60, 3, 2, 987, 10, 8, 5, 1, 2])], [], [])
theorem oo_Mo_of_at_s5003_20 {kA : Nat → ClassId} : or_ok PRD kA GG o_Mo_of_at_s5003_20 := by
  refine or_mk fun A ta ws vs hD hth hl => ?_
  intro t0 r0 t3 k3 t4 k4 t5 k5 t6 k6 t11 k11 t15 k15 t17 k17 t18 k18 t19 k19 t20 k20 t21 k21 t22 k22 t24 k24 f2 f4 f7 f8 f9 f10 f11 f12 f13 f14 f15 f16 f17 f18 f24 f27 f28 f29 f30
  replace f2 := shm_115 f2
  replace f4 := shm_293 f4
  replace f7 := shm_103 f7
  replace f8 := shm_192 f8
  replace f9 := shm_7 f9
  replace f10 := shm_22 f10
  replace f11 := shm_7 f11
  replace f12 := shm_22 f12
  replace f13 := shm_7 f13
  replace f14 := shm_22 f14
  replace f15 := shm_7 f15
  replace f16 := shm_22 f16
  replace f17 := shm_193 f17
  replace f18 := shm_2009 f18
  replace f24 := shm_5 f24
  replace f27 := shm_1438 f27
  replace f28 := shm_1431 f28
  replace f29 := shm_1726 f29
  replace f30 := shm_1744 f30
  have q7 : n_v vs 7 = n_v vs 0 := f24.symm
  simp only [q7] at f2 f4 f7 f27 f28 f29 f30
  have cr_0_1 := fdq_39 hD hth r0
  have g2 : v_iv (n_v vs 24) = w_fi ws (n_v vs 0) 14 := congrArg v_iv f2
  have g4 : v_iv (n_v vs 21) = w_fi ws (n_v vs 0) 8 := congrArg v_iv f4
  have g7 : v_iv (n_v vs 22) = w_fi ws (n_v vs 0) 12 := congrArg v_iv f7
  have hK_0_1 := elq_7 hD hth cr_0_1
  have kz_0_8 := fdq_34 hD hth r0
  have kz_0_9 := fdq_44 hD hth r0
  have kz_0_10 := fdq_43 hD hth r0
  have kz_0_11 := fdq_237 hD hth r0
  have kz_0_12 := fdq_187 hD hth r0
  have kz_0_13 := fdq_238 hD hth r0
  have kz_0_14 := fdq_188 hD hth r0
  have kz_0_15 := fdq_239 hD hth r0
  obtain ⟨x, ex, hx⟩ := iv_ex (ta := ta) (lo := 0) (hi := 2000) (z := w_fi ws (n_v vs 0) 11) (by omega) (by omega) (by omega) (by omega)
  have ex2 : v_iv (Value.int x) = w_fi ws (n_v vs 0) 11 := ex
  have ex3 : 0 ≤ v_iv (Value.int x) ∧ v_iv (Value.int x) ≤ 2000 := tv_rng hx
  have e_3 : n_v (vs ++ [Value.int x]) 3 = n_v vs 3 := n_v_old (by rw [hl]; decide)
  have e_4 : n_v (vs ++ [Value.int x]) 4 = n_v vs 4 := n_v_old (by rw [hl]; decide)
  have e_5 : n_v (vs ++ [Value.int x]) 5 = n_v vs 5 := n_v_old (by rw [hl]; decide)
  have e_6 : n_v (vs ++ [Value.int x]) 6 = n_v vs 6 := n_v_old (by rw [hl]; decide)
  have e_7 : n_v (vs ++ [Value.int x]) 7 = n_v vs 7 := n_v_old (by rw [hl]; decide)
  have e_11 : n_v (vs ++ [Value.int x]) 11 = n_v vs 11 := n_v_old (by rw [hl]; decide)
  have e_24 : n_v (vs ++ [Value.int x]) 24 = n_v vs 24 := n_v_old (by rw [hl]; decide)
  have e_27 : n_v (vs ++ [Value.int x]) 27 = Value.int x := n_v_new hl
  have nf0 : fc_1 PRD (20, [27, 7], [30, 0, 1, 0, 0, -1, 1, 11]) ws (vs ++ [Value.int x]) := by
    refine ⟨nf_inA hl rfl, sgq_1431 ?_⟩
    · show 1 * v_iv (n_v (vs ++ [Value.int x]) 27) + ((-1) * w_fi ws (n_v (vs ++ [Value.int x]) 7) 11 + 0) ≤ 0
      simp only [e_7, e_27, q7]
      exact vc_Mo_of_at_s5003_20_0 (v_iv (n_v vs 17)) (w_fi ws (n_v vs 0) 8) (w_fi ws (n_v vs 0) 12) (w_fi ws (n_v vs 0) 15) (w_fi ws (n_v vs 0) 11) (w_ei ws (w_ar ws (n_v vs 0) 1)) (v_iv (Value.int x)) k17 f27 f29 hK_0_1 kz_0_8 kz_0_11 kz_0_12 kz_0_15 ex2
  have nf1 : fc_1 PRD (20, [27, 7], [50, 1, 0, 1011, 1, 2, 1, 0, 2, 1, 11]) ws (vs ++ [Value.int x]) := by
    refine ⟨nf_inA hl rfl, sgq_1432 ?_⟩
    · show v_iv (n_v (vs ++ [Value.int x]) 27) = w_fi ws (n_v (vs ++ [Value.int x]) 7) 11
      simp only [e_7, e_27, q7]
      exact vc_Mo_of_at_s5003_20_1 (v_iv (n_v vs 17)) (w_fi ws (n_v vs 0) 8) (w_fi ws (n_v vs 0) 12) (w_fi ws (n_v vs 0) 15) (w_fi ws (n_v vs 0) 11) (w_ei ws (w_ar ws (n_v vs 0) 1)) (v_iv (Value.int x)) k17 f27 f29 hK_0_1 kz_0_8 kz_0_11 kz_0_12 kz_0_15 ex2
  have nf2 : fc_1 PRD (20, [7], [60, 2, 0, 947, 10, 11]) ws (vs ++ [Value.int x]) := by
    refine ⟨nf_inA hl rfl, sgq_1433 ?_⟩
    · show ZLM (w_fi ws (n_v (vs ++ [Value.int x]) 7) 10) (w_fi ws (n_v (vs ++ [Value.int x]) 7) 11)
      simp only [e_7, q7]
      exact vc_Mo_of_at_s5003_20_2 (v_iv (n_v vs 4)) (v_iv (n_v vs 5)) (v_iv (n_v vs 6)) (v_iv (n_v vs 15)) (v_iv (n_v vs 17)) (v_iv (n_v vs 18)) (v_iv (n_v vs 19)) (v_iv (n_v vs 20)) (v_iv (n_v vs 21)) (v_iv (n_v vs 22)) (v_iv (n_v vs 24)) (w_fi ws (n_v vs 0) 14) (w_fi ws (n_v vs 0) 8) (w_fi ws (n_v vs 0) 12) (w_fi ws (n_v vs 0) 15) (w_fi ws (n_v vs 0) 11) (w_ei ws (w_ar ws (n_v vs 0) 1)) (w_ei ws (w_ar ws (n_v vs 0) 2)) (w_fi ws (n_v vs 0) 10) (w_fi ws (n_v vs 0) 13) (w_fi ws (n_v vs 0) 9) (w_fi ws (n_v vs 0) 5) (v_iv (Value.int x)) k4 k5 k6 k15 k17 k18 k19 k20 k21 k22 k24 g2 g4 g7 f8 f9 f10 f11 f12 f13 f14 f15 f16 f30 kz_0_8 kz_0_9 kz_0_10 kz_0_11 kz_0_12 kz_0_13 kz_0_14 kz_0_15 ex2
  have nf3 : fc_1 PRD (23, [3, 27], [-1, 1, -1]) ws (vs ++ [Value.int x]) := by
    refine ⟨nf_inA hl rfl, sgq_193 ?_⟩
    · show 1 * v_iv (n_v (vs ++ [Value.int x]) 3) + ((-1) * v_iv (n_v (vs ++ [Value.int x]) 27) + 0) ≤ (-1)
      simp only [e_3, e_27]
      exact vc_Mo_of_at_s5003_20_3 (v_iv (n_v vs 3)) (v_iv (n_v vs 17)) (w_fi ws (n_v vs 0) 8) (w_fi ws (n_v vs 0) 12) (w_fi ws (n_v vs 0) 15) (w_fi ws (n_v vs 0) 11) (w_ei ws (w_ar ws (n_v vs 0) 1)) (v_iv (Value.int x)) k3 k17 f17 f27 f28 f29 hK_0_1 kz_0_8 kz_0_11 kz_0_12 kz_0_15 ex2
  have nf4 : fc_1 PRD (23, [11, 27], [-2001, -1, -1]) ws (vs ++ [Value.int x]) := by
    refine ⟨nf_inA hl rfl, sgq_2011 ?_⟩
    · show (-1) * v_iv (n_v (vs ++ [Value.int x]) 11) + ((-1) * v_iv (n_v (vs ++ [Value.int x]) 27) + 0) ≤ (-2001)
      simp only [e_11, e_27]
      exact vc_Mo_of_at_s5003_20_4 (v_iv (n_v vs 11)) (v_iv (n_v vs 17)) (v_iv (n_v vs 21)) (w_fi ws (n_v vs 0) 8) (w_fi ws (n_v vs 0) 12) (w_fi ws (n_v vs 0) 15) (w_fi ws (n_v vs 0) 11) (w_ei ws (w_ar ws (n_v vs 0) 1)) (v_iv (Value.int x)) k11 k17 k21 g4 f18 f27 f29 hK_0_1 kz_0_8 kz_0_11 kz_0_12 kz_0_15 ex2
  have nf5 : fc_1 PRD (20, [7, 4, 24, 5, 6, 27], [60, 3, 2, 987, 10, 8, 5, 1, 2]) ws (vs ++ [Value.int x]) := by
    refine ⟨nf_inA hl rfl, sgq_2020 ?_⟩
    · show zU12w (w_fi ws (n_v (vs ++ [Value.int x]) 7) 10) (w_fi ws (n_v (vs ++ [Value.int x]) 7) 8) (w_fi ws (n_v (vs ++ [Value.int x]) 7) 5) (w_ei ws (w_ar ws (n_v (vs ++ [Value.int x]) 7) 1)) (w_ei ws (w_ar ws (n_v (vs ++ [Value.int x]) 7) 2)) (v_iv (n_v (vs ++ [Value.int x]) 4)) (v_iv (n_v (vs ++ [Value.int x]) 24)) (v_iv (n_v (vs ++ [Value.int x]) 5)) (v_iv (n_v (vs ++ [Value.int x]) 6)) (v_iv (n_v (vs ++ [Value.int x]) 27))
      simp only [e_4, e_5, e_6, e_7, e_24, e_27, q7]
      exact vc_Mo_of_at_s5003_20_5 (v_iv (n_v vs 4)) (v_iv (n_v vs 5)) (v_iv (n_v vs 6)) (v_iv (n_v vs 15)) (v_iv (n_v vs 17)) (v_iv (n_v vs 18)) (v_iv (n_v vs 19)) (v_iv (n_v vs 20)) (v_iv (n_v vs 21)) (v_iv (n_v vs 22)) (v_iv (n_v vs 24)) (w_fi ws (n_v vs 0) 14) (w_fi ws (n_v vs 0) 8) (w_fi ws (n_v vs 0) 12) (w_fi ws (n_v vs 0) 15) (w_fi ws (n_v vs 0) 11) (w_ei ws (w_ar ws (n_v vs 0) 1)) (w_ei ws (w_ar ws (n_v vs 0) 2)) (w_fi ws (n_v vs 0) 10) (w_fi ws (n_v vs 0) 13) (w_fi ws (n_v vs 0) 9) (w_fi ws (n_v vs 0) 5) (v_iv (Value.int x)) k4 k5 k6 k15 k17 k18 k19 k20 k21 k22 k24 g2 g4 g7 f8 f9 f10 f11 f12 f13 f14 f15 f16 f30 kz_0_8 kz_0_9 kz_0_10 kz_0_11 kz_0_12 kz_0_13 kz_0_14 kz_0_15 ex2
  exact ⟨(fun _ h => (by cases h)), [Value.int x], ag_one hx, List.forall_mem_cons.mpr ⟨⟨show (20 : Nat) < 100 from by decide, nf0⟩, List.forall_mem_cons.mpr ⟨⟨show (20 : Nat) < 100 from by decide, nf1⟩, List.forall_mem_cons.mpr ⟨⟨show (20 : Nat) < 100 from by decide, nf2⟩, List.forall_mem_cons.mpr ⟨⟨show (23 : Nat) < 100 from by decide, nf3⟩, List.forall_mem_cons.mpr ⟨⟨show (23 : Nat) < 100 from by decide, nf4⟩, List.forall_mem_cons.mpr ⟨⟨show (20 : Nat) < 100 from by decide, nf5⟩, (fun _ h => (by cases h))⟩⟩⟩⟩⟩⟩, (fun _ h => (by cases h))⟩
set_option maxHeartbeats 4000000 in
theorem vc_Mo_of_at_s5003_21_0 (tape_0 : Int → Int) (from_0 : Int) (pos_0 : Int) (kind_0 : Int) (f23 : 1 * from_0 + ((-1) * pos_0 + 0) ≤ 0) (f24 : ((kind_0 = 1) → (pos_0 ≤ (from_0 + 8))) ∧ ((kind_0 = 0) ∨ ((from_0 + 1) ≤ pos_0))) (hK_0_1 : ∀ j : Int, 0 ≤ j → j < 2000 → (-128) ≤ tape_0 j ∧ tape_0 j ≤ 127) (kz_0_11 : 0 ≤ pos_0 ∧ pos_0 ≤ 2000) (kz_0_12 : 0 ≤ kind_0 ∧ kind_0 ≤ 4) (kz_0_15 : 0 ≤ from_0 ∧ from_0 ≤ 2000) : 1 * from_0 + ((-1) * pos_0 + 0) ≤ 0 := by
  first | with_reducible assumption | ((have f24_c0 := f24.1); (have f24_c1 := f24.2); (try and_intros) <;> first | with_reducible assumption | (clear f24_c0 f24_c1 f24 hK_0_1; omega)) | omega
set_option maxHeartbeats 4000000 in
theorem vc_Mo_of_at_s5003_21_1 (tape_0 : Int → Int) (from_0 : Int) (pos_0 : Int) (kind_0 : Int) (f24 : ((kind_0 = 1) → (pos_0 ≤ (from_0 + 8))) ∧ ((kind_0 = 0) ∨ ((from_0 + 1) ≤ pos_0))) (hK_0_1 : ∀ j : Int, 0 ≤ j → j < 2000 → (-128) ≤ tape_0 j ∧ tape_0 j ≤ 127) (kz_0_11 : 0 ≤ pos_0 ∧ pos_0 ≤ 2000) (kz_0_12 : 0 ≤ kind_0 ∧ kind_0 ≤ 4) (kz_0_15 : 0 ≤ from_0 ∧ from_0 ≤ 2000) : ((kind_0 = 1) → (pos_0 ≤ (from_0 + 8))) ∧ ((kind_0 = 0) ∨ ((from_0 + 1) ≤ pos_0)) := by
  first | with_reducible assumption | ((have f24_c0 := f24.1); (have f24_c1 := f24.2); (try and_intros) <;> first | with_reducible assumption | (clear f24_c0 f24_c1 f24 hK_0_1; omega)) | omega
set_option maxHeartbeats 4000000 in
theorem vc_Mo_of_at_s5003_21_2 (x3 : Int) (x27 : Int) (tape_0 : Int → Int) (from_0 : Int) (pos_0 : Int) (kind_0 : Int) (k3 : 0 ≤ x3 ∧ x3 ≤ 2000) (k27 : 0 ≤ x27 ∧ x27 ≤ 2000) (f1 : 1 * x3 + ((-1) * x27 + 0) ≤ (-1)) (f23 : 1 * from_0 + ((-1) * pos_0 + 0) ≤ 0) (f24 : ((kind_0 = 1) → (pos_0 ≤ (from_0 + 8))) ∧ ((kind_0 = 0) ∨ ((from_0 + 1) ≤ pos_0))) (f25 : 1 * x27 + ((-1) * from_0 + 0) ≤ 0) (hK_0_1 : ∀ j : Int, 0 ≤ j → j < 2000 → (-128) ≤ tape_0 j ∧ tape_0 j ≤ 127) (kz_0_11 : 0 ≤ pos_0 ∧ pos_0 ≤ 2000) (kz_0_12 : 0 ≤ kind_0 ∧ kind_0 ≤ 4) (kz_0_15 : 0 ≤ from_0 ∧ from_0 ≤ 2000) : 1 * x3 + ((-1) * pos_0 + 0) ≤ (-1) := by
  first | with_reducible assumption | ((have f24_c0 := f24.1); (have f24_c1 := f24.2); (try and_intros) <;> first | with_reducible assumption | (clear f24_c0 f24_c1 f24 hK_0_1; omega)) | omega
set_option maxHeartbeats 4000000 in
theorem vc_Mo_of_at_s5003_21_3 (x2 : Int) (x24 : Int) (tape_0 : Int → Int) (from_0 : Int) (pos_0 : Int) (kind_0 : Int) (k2 : 9 ≤ x2 ∧ x2 ≤ 9) (k24 : 1 ≤ x24 ∧ x24 ≤ 9) (f24 : ((kind_0 = 1) → (pos_0 ≤ (from_0 + 8))) ∧ ((kind_0 = 0) ∨ ((from_0 + 1) ≤ pos_0))) (f30 : 1 * x24 + ((-1) * x2 + 0) ≤ 0) (hK_0_1 : ∀ j : Int, 0 ≤ j → j < 2000 → (-128) ≤ tape_0 j ∧ tape_0 j ≤ 127) (kz_0_11 : 0 ≤ pos_0 ∧ pos_0 ≤ 2000) (kz_0_12 : 0 ≤ kind_0 ∧ kind_0 ≤ 4) (kz_0_15 : 0 ≤ from_0 ∧ from_0 ≤ 2000) : 1 * x24 + ((-1) * x2 + 0) ≤ 0 := by
  first | with_reducible assumption | ((have f24_c0 := f24.1); (have f24_c1 := f24.2); (try and_intros) <;> first | with_reducible assumption | (clear f24_c0 f24_c1 f24 hK_0_1; omega)) | omega
set_option maxHeartbeats 4000000 in
theorem vc_Mo_of_at_s5003_21_4 (x24 : Int) (tape_0 : Int → Int) (from_0 : Int) (pos_0 : Int) (kind_0 : Int) (k24 : 1 ≤ x24 ∧ x24 ≤ 9) (f24 : ((kind_0 = 1) → (pos_0 ≤ (from_0 + 8))) ∧ ((kind_0 = 0) ∨ ((from_0 + 1) ≤ pos_0))) (f31 : (-1) * x24 + 0 ≤ 0) (hK_0_1 : ∀ j : Int, 0 ≤ j → j < 2000 → (-128) ≤ tape_0 j ∧ tape_0 j ≤ 127) (kz_0_11 : 0 ≤ pos_0 ∧ pos_0 ≤ 2000) (kz_0_12 : 0 ≤ kind_0 ∧ kind_0 ≤ 4) (kz_0_15 : 0 ≤ from_0 ∧ from_0 ≤ 2000) : (-1) * x24 + 0 ≤ 0 := by
  first | with_reducible assumption | ((have f24_c0 := f24.1); (have f24_c1 := f24.2); (try and_intros) <;> first | with_reducible assumption | (clear f24_c0 f24_c1 f24 hK_0_1; omega)) | omega
set_option maxHeartbeats 4000000 in
theorem vc_Mo_of_at_s5003_21_5 (x4 : Int) (tape_0 : Int → Int) (from_0 : Int) (pos_0 : Int) (kind_0 : Int) (k4 : (-1) ≤ x4 ∧ x4 ≤ 48) (f24 : ((kind_0 = 1) → (pos_0 ≤ (from_0 + 8))) ∧ ((kind_0 = 0) ∨ ((from_0 + 1) ≤ pos_0))) (f76 : (-1) * x4 + 0 ≤ 0) (hK_0_1 : ∀ j : Int, 0 ≤ j → j < 2000 → (-128) ≤ tape_0 j ∧ tape_0 j ≤ 127) (kz_0_11 : 0 ≤ pos_0 ∧ pos_0 ≤ 2000) (kz_0_12 : 0 ≤ kind_0 ∧ kind_0 ≤ 4) (kz_0_15 : 0 ≤ from_0 ∧ from_0 ≤ 2000) : (-1) * x4 + 0 ≤ 0 := by
  first | with_reducible assumption | ((have f24_c0 := f24.1); (have f24_c1 := f24.2); (try and_intros) <;> first | with_reducible assumption | (clear f24_c0 f24_c1 f24 hK_0_1; omega)) | omega
set_option maxHeartbeats 4000000 in
theorem vc_Mo_of_at_s5003_21_6 (x11 : Int) (x27 : Int) (tape_0 : Int → Int) (from_0 : Int) (pos_0 : Int) (kind_0 : Int) (gx : Int) (k11 : 0 ≤ x11 ∧ x11 ≤ 2000) (k27 : 0 ≤ x27 ∧ x27 ≤ 2000) (f2 : (-1) * x11 + ((-1) * x27 + 0) ≤ (-2001)) (f23 : 1 * from_0 + ((-1) * pos_0 + 0) ≤ 0) (f24 : ((kind_0 = 1) → (pos_0 ≤ (from_0 + 8))) ∧ ((kind_0 = 0) ∨ ((from_0 + 1) ≤ pos_0))) (f25 : 1 * x27 + ((-1) * from_0 + 0) ≤ 0) (hK_0_1 : ∀ j : Int, 0 ≤ j → j < 2000 → (-128) ≤ tape_0 j ∧ tape_0 j ≤ 127) (kz_0_11 : 0 ≤ pos_0 ∧ pos_0 ≤ 2000) (kz_0_12 : 0 ≤ kind_0 ∧ kind_0 ≤ 4) (kz_0_15 : 0 ≤ from_0 ∧ from_0 ≤ 2000) (ex2 : gx = 0 + (1 * x11 + 0)) : (-1) * gx + ((-1) * pos_0 + 0) ≤ (-2001) := by
  first | with_reducible assumption | ((have f24_c0 := f24.1); (have f24_c1 := f24.2); (try and_intros) <;> first | with_reducible assumption | (clear f24_c0 f24_c1 f24 hK_0_1; omega)) | omega
set_option maxHeartbeats 4000000 in
theorem vc_Mo_of_at_s5003_21_7 (x4 : Int) (x5 : Int) (x6 : Int) (x15 : Int) (x17 : Int) (x18 : Int) (x19 : Int) (x20 : Int) (x21 : Int) (x24 : Int) (x27 : Int) (fault_0 : Int) (tape_0 : Int → Int) (all_0 : Int → Int) (limit_0 : Int) (r_0 : Int) (from_0 : Int) (pos_0 : Int) (kind_0 : Int) (place_0 : Int) (value_0 : Int) (k4 : (-1) ≤ x4 ∧ x4 ≤ 48) (k5 : 0 ≤ x5 ∧ x5 ≤ 7) (k6 : 0 ≤ x6 ∧ x6 ≤ 4) (k15 : 0 ≤ x15 ∧ x15 ≤ 2000) (k17 : 0 ≤ x17 ∧ x17 ≤ 2000) (k18 : (-1) ≤ x18 ∧ x18 ≤ 48) (k19 : 0 ≤ x19 ∧ x19 ≤ 7) (k20 : 0 ≤ x20 ∧ x20 ≤ 4) (k21 : 0 ≤ x21 ∧ x21 ≤ 0) (k24 : 1 ≤ x24 ∧ x24 ≤ 9) (k27 : 0 ≤ x27 ∧ x27 ≤ 2000) (g0 : x21 = fault_0) (f3 : zU12w (limit_0) (fault_0) (r_0) (tape_0) (all_0) (x4) (x24) (x5) (x6) (x27)) (f6 : 1 * x17 + ((-1) * x15 + 0) ≤ 0) (f7 : (-1) * x17 + (1 * x15 + 0) ≤ 0) (f8 : 1 * x18 + ((-1) * x4 + 0) ≤ 0) (f9 : (-1) * x18 + (1 * x4 + 0) ≤ 0) (f10 : 1 * x19 + ((-1) * x5 + 0) ≤ 0) (f11 : (-1) * x19 + (1 * x5 + 0) ≤ 0) (f12 : 1 * x20 + ((-1) * x6 + 0) ≤ 0) (f13 : (-1) * x20 + (1 * x6 + 0) ≤ 0) (f26 : TKR (limit_0) (pos_0) (kind_0) (place_0) (value_0) (from_0) (tape_0) (x27)) (kz_0_8 : 0 ≤ fault_0 ∧ fault_0 ≤ 5) (kz_0_10 : 0 ≤ limit_0 ∧ limit_0 ≤ 2000) (kz_0_11 : 0 ≤ pos_0 ∧ pos_0 ≤ 2000) (kz_0_12 : 0 ≤ kind_0 ∧ kind_0 ≤ 4) (kz_0_13 : 0 ≤ place_0 ∧ place_0 ≤ 2000) (kz_0_14 : (-49) ≤ value_0 ∧ value_0 ≤ 1048575) (kz_0_15 : 0 ≤ from_0 ∧ from_0 ≤ 2000) : zO12w (limit_0) (pos_0) (kind_0) (place_0) (value_0) (from_0) (fault_0) (r_0) (tape_0) (all_0) (x4) (x24) (x5) (x6) := by
  first | (have el_x17 : x17 = x15 := by omega); subst el_x17 | skip
  first | (have el_x18 : x18 = x4 := by omega); subst el_x18 | skip
  first | (have el_x19 : x19 = x5 := by omega); subst el_x19 | skip
  first | (have el_x20 : x20 = x6 := by omega); subst el_x20 | skip
  first | subst g0 | skip
  first
    | exact of_12_w ‹zU12w _ _ _ _ _ _ _ _ _ _› ‹TKR _ _ _ _ _ _ _ _›
    | (exfalso; omega)
def o_Mo_of_at_s5003_21 : or_T := (139, 28, [(0, (2, 0, 0, [165])), (2, (0, 9, 9, [])), (3, (0, 0, 2000, [])), (4, (0, -1, 48, [])), (5, (0, 0, 7, [])), (6, (0, 0, 4, [])), (7, (2, 0, 0, [165])), (9, (0, 9, 9, [])), (10, (0, -49, 0, [])), (11, (0, 0, 2000, [])), (15, (0, 0, 2000, [])), (17, (0, 0, 2000, [])), (18, (0, -1, 48, [])), (19, (0, 0, 7, [])), (20, (0, 0, 4, [])), (21, (0, 0, 0, [])), (24, (0, 1, 9, [])), (27, (0, 0, 2000, []))], [(9, [21, 7], [8]), (23, [3, 27], [-1, 1, -1]), (23, [11, 27], [-2001, -1, -1]), (20, [7, 4, 24, 5, 6, 27], [60, 3, 2, 987, 10, 8, 5, 1, 2]), (23, [24, 9], [0, 1, -1]), (23, [24], [0, -1]), (23, [17, 15], [0, 1, -1]), (23, [17, 15], [0, -1, 1]), (23, [18, 4], [0, 1, -1]), (23, [18, 4], [0, -1, 1]), (23, [19, 5], [0, 1, -1]), (23, [19, 5], [0, -1, 1]), (23, [20, 6], [0, 1, -1]), (23, [20, 6], [0, -1, 1]), (23, [3, 17], [-1, 1, -1]), (23, [11, 17], [-2000, -1, -1]), (23, [3, 15], [-1, 1, -1]), (23, [11, 15], [-2000, -1, -1]), (23, [10, 9], [0, 1, -1]), (23, [10], [0, -1]), (23, [4], [0, -1]), (24, [0, 7], []), (24, [2, 9], []), (20, [7, 7], [30, 0, 1, 1, 15, -1, 1, 11]), (20, [7], [50, 3, 0, 12, 11, 15, 2, 21, 4, 7, 1, 3, 2, 0, 12, 0, 1, 0, 3, 2, 0, 11, 4, 3, 2, 0, 15, 0, 8, 3, 7, 1, 3, 2, 0, 12, 0, 0, 0, 7, 4, 3, 2, 0, 15, 0, 1, 2, 0, 11]), (20, [27, 7], [30, 0, 1, 0, 0, -1, 1, 15]), (20, [7, 27], [60, 6, 1, 948, 10, 11, 12, 13, 14, 15, 1]), (102, [27], [0, 165011, 165012, 165013, 165014, 165015]), (23, [3, 27], [-1, 1, -1]), (23, [11, 27], [-2001, -1, -1]), (23, [24, 9], [0, 1, -1]), (23, [24], [0, -1]), (8, [21], [5]), (8, [21], [0]), (8, [21], [0]), (23, [17, 15], [0, 1, -1]), (23, [17, 15], [0, -1, 1]), (23, [18, 4], [0, 1, -1]), (23, [18, 4], [0, -1, 1]), (23, [19, 5], [0, 1, -1]), (23, [19, 5], [0, -1, 1]), (23, [20, 6], [0, 1, -1]), (23, [20, 6], [0, -1, 1]), (23, [3, 17], [-1, 1, -1]), (23, [11, 17], [-2000, -1, -1]), (23, [3, 15], [-1, 1, -1]), (23, [11, 15], [-2000, -1, -1]), (23, [10, 9], [0, 1, -1]), (23, [10], [0, -1]), (23, [4], [0, -1]), (102, [20], [0, 165008, 165009, 165011, 165012, 165013, 165014, 165015]), (23, [17, 15], [0, 1, -1]), (23, [17, 15], [0, -1, 1]), (23, [18, 4], [0, 1, -1]), (23, [18, 4], [0, -1, 1]), (23, [19, 5], [0, 1, -1]), (23, [19, 5], [0, -1, 1]), (23, [20, 6], [0, 1, -1]), (23, [20, 6], [0, -1, 1]), (23, [3, 17], [-1, 1, -1]), (23, [11, 17], [-2000, -1, -1]), (23, [3, 15], [-1, 1, -1]), (23, [11, 15], [-2000, -1, -1]), (23, [10, 9], [0, 1, -1]), (23, [10], [0, -1]), (23, [4], [0, -1]), (102, [15], [0, 165011, 165012, 165013, 165014, 165015]), (23, [3, 15], [-1, 1, -1]), (23, [11, 15], [-2000, -1, -1]), (8, [10], [5]), (23, [10, 9], [0, 1, -1]), (23, [10], [0, -1]), (23, [4], [0, -1]), (102, [13], [0]), (23, [10, 9], [0, 1, -1]), (23, [10], [0, -1]), (23, [4], [0, -1])], [], [(0, 0, 2000, [])], [(20, [7, 7], [30, 0, 1, 1, 15, -1, 1, 11]), (20, [7], [50, 3, 0, 12, 11, 15, 2, 21, 4, 7, 1, 3, 2, 0, 12, 0, 1, 0, 3, 2, 0, 11, 4, 3, 2, 0, 15, 0, 8, 3, 7, 1, 3, 2, 0, 12, 0, 0, 0, 7, 4, 3, 2, 0, 15, 0, 1, 2, 0, 11]), (20, [3, 7], [30, -1, 1, 0, 0, -1, 1, 11]), (23, [24, 9], [0, 1, -1]), (23, [24], [0, -1]), (23, [4], [0, -1]), (20, [28, 7], [30, -2001, -1, 0, 0, -1, 1, 11]), (20, [7, 4, 24, 5, 6], [60, 8, 2, 1000, 10, 11, 12, 13, 14, 15, 8, 5, 1, 2]), (24, [0, 7], []), (24, [2, 9], [])], [(28, 11, 0, 0)], [])
theorem oo_Mo_of_at_s5003_21 {kA : Nat → ClassId} : or_ok PRD kA GG o_Mo_of_at_s5003_21 := by
  refine or_mk fun A ta ws vs hD hth hl => ?_
  intro t0 r0 t2 k2 t3 k3 t4 k4 t5 k5 t6 k6 t7 r7 t9 k9 t10 k10 t11 k11 t15 k15 t17 k17 t18 k18 t19 k19 t20 k20 t21 k21 t24 k24 t27 k27 f0 f1 f2 f3 f4 f5 f6 f7 f8 f9 f10 f11 f12 f13 f14 f15 f16 f17 f18 f19 f20 f21 f22 f23 f24 f25 f26 ta1 w1 le1 s1 f28 f29 f30 f31 f32 f33 f34 f35 f36 f37 f38 f39 f40 f41 f42 f43 f44 f45 f46 f47 f48 f49 ta2 w2 le2 s2 f51 f52 f53 f54 f55 f56 f57 f58 f59 f60 f61 f62 f63 f64 f65 ta3 w3 le3 s3 f67 f68 f69 f70 f71 f72 ta4 w4 le4 s4 f74 f75 f76
  replace f0 := shm_293 f0
  replace f1 := shm_193 f1
  replace f2 := shm_2011 f2
  replace f3 := shm_2020 f3
  replace f4 := shm_7 f4
  replace f5 := shm_1043 f5
  replace f6 := shm_7 f6
  replace f7 := shm_22 f7
  replace f8 := shm_7 f8
  replace f9 := shm_22 f9
  replace f10 := shm_7 f10
  replace f11 := shm_22 f11
  replace f12 := shm_7 f12
  replace f13 := shm_22 f13
  replace f14 := shm_193 f14
  replace f15 := shm_2009 f15
  replace f16 := shm_193 f16
  replace f17 := shm_2009 f17
  replace f18 := shm_7 f18
  replace f19 := shm_1043 f19
  replace f20 := shm_1043 f20
  replace f21 := shm_5 f21
  replace f22 := shm_5 f22
  replace f23 := shm_1437 f23
  replace f24 := shm_1438 f24
  replace f25 := shm_1436 f25
  replace f26 := shm_1439 f26
  replace f28 := shm_193 f28
  replace f29 := shm_2011 f29
  replace f30 := shm_7 f30
  replace f31 := shm_1043 f31
  replace f32 := shm_295 f32
  replace f33 := shm_192 f33
  replace f34 := shm_192 f34
  replace f35 := shm_7 f35
  replace f36 := shm_22 f36
  replace f37 := shm_7 f37
  replace f38 := shm_22 f38
  replace f39 := shm_7 f39
  replace f40 := shm_22 f40
  replace f41 := shm_7 f41
  replace f42 := shm_22 f42
  replace f43 := shm_193 f43
  replace f44 := shm_2009 f44
  replace f45 := shm_193 f45
  replace f46 := shm_2009 f46
  replace f47 := shm_7 f47
  replace f48 := shm_1043 f48
  replace f49 := shm_1043 f49
  replace f51 := shm_7 f51
  replace f52 := shm_22 f52
  replace f53 := shm_7 f53
  replace f54 := shm_22 f54
  replace f55 := shm_7 f55
  replace f56 := shm_22 f56
  replace f57 := shm_7 f57
  replace f58 := shm_22 f58
  replace f59 := shm_193 f59
  replace f60 := shm_2009 f60
  replace f61 := shm_193 f61
  replace f62 := shm_2009 f62
  replace f63 := shm_7 f63
  replace f64 := shm_1043 f64
  replace f65 := shm_1043 f65
  replace f67 := shm_193 f67
  replace f68 := shm_2009 f68
  replace f69 := shm_295 f69
  replace f70 := shm_7 f70
  replace f71 := shm_1043 f71
  replace f72 := shm_1043 f72
  replace f74 := shm_7 f74
  replace f75 := shm_1043 f75
  replace f76 := shm_1043 f76
  have q7 : n_v vs 7 = n_v vs 0 := f21.symm
  have q9 : n_v vs 9 = n_v vs 2 := f22.symm
  simp only [q7, q9] at f0 f3 f4 f18 f23 f24 f25 f26 f30 f47 f63 f70 f74
  have cr_0_1 := fdq_39 hD hth r0
  have cr_0_2 := fdq_10 hD hth r0
  have g0 : v_iv (n_v vs 21) = w_fi ws (n_v vs 0) 8 := congrArg v_iv f0
  have hK_0_1 := elq_7 hD hth cr_0_1
  have kz_0_8 := fdq_34 hD hth r0
  have kz_0_10 := fdq_43 hD hth r0
  have kz_0_11 := fdq_237 hD hth r0
  have kz_0_12 := fdq_187 hD hth r0
  have kz_0_13 := fdq_238 hD hth r0
  have kz_0_14 := fdq_188 hD hth r0
  have kz_0_15 := fdq_239 hD hth r0
  obtain ⟨x, ex, hx⟩ := iv_ex (ta := ta) (lo := 0) (hi := 2000) (z := 0 + (1 * v_iv (n_v vs 11) + 0)) (by omega) (by omega) (by omega) (by omega)
  have ex2 : v_iv (Value.int x) = 0 + (1 * v_iv (n_v vs 11) + 0) := ex
  have ex3 : 0 ≤ v_iv (Value.int x) ∧ v_iv (Value.int x) ≤ 2000 := tv_rng hx
  have e_0 : n_v (vs ++ [Value.int x]) 0 = n_v vs 0 := n_v_old (by rw [hl]; decide)
  have e_2 : n_v (vs ++ [Value.int x]) 2 = n_v vs 2 := n_v_old (by rw [hl]; decide)
  have e_3 : n_v (vs ++ [Value.int x]) 3 = n_v vs 3 := n_v_old (by rw [hl]; decide)
  have e_4 : n_v (vs ++ [Value.int x]) 4 = n_v vs 4 := n_v_old (by rw [hl]; decide)
  have e_5 : n_v (vs ++ [Value.int x]) 5 = n_v vs 5 := n_v_old (by rw [hl]; decide)
  have e_6 : n_v (vs ++ [Value.int x]) 6 = n_v vs 6 := n_v_old (by rw [hl]; decide)
  have e_7 : n_v (vs ++ [Value.int x]) 7 = n_v vs 7 := n_v_old (by rw [hl]; decide)
  have e_9 : n_v (vs ++ [Value.int x]) 9 = n_v vs 9 := n_v_old (by rw [hl]; decide)
  have e_24 : n_v (vs ++ [Value.int x]) 24 = n_v vs 24 := n_v_old (by rw [hl]; decide)
  have e_28 : n_v (vs ++ [Value.int x]) 28 = Value.int x := n_v_new hl
  have nf0 : fc_1 PRD (20, [7, 7], [30, 0, 1, 1, 15, -1, 1, 11]) ws (vs ++ [Value.int x]) := by
    refine ⟨nf_inA hl rfl, sgq_1437 ?_⟩
    · show 1 * w_fi ws (n_v (vs ++ [Value.int x]) 7) 15 + ((-1) * w_fi ws (n_v (vs ++ [Value.int x]) 7) 11 + 0) ≤ 0
      simp only [e_7, q7]
      exact vc_Mo_of_at_s5003_21_0 (w_ei ws (w_ar ws (n_v vs 0) 1)) (w_fi ws (n_v vs 0) 15) (w_fi ws (n_v vs 0) 11) (w_fi ws (n_v vs 0) 12) f23 f24 hK_0_1 kz_0_11 kz_0_12 kz_0_15
  have nf1 : fc_1 PRD (20, [7], [50, 3, 0, 12, 11, 15, 2, 21, 4, 7, 1, 3, 2, 0, 12, 0, 1, 0, 3, 2, 0, 11, 4, 3, 2, 0, 15, 0, 8, 3, 7, 1, 3, 2, 0, 12, 0, 0, 0, 7, 4, 3, 2, 0, 15, 0, 1, 2, 0, 11]) ws (vs ++ [Value.int x]) := by
    refine ⟨nf_inA hl rfl, sgq_1438 ?_⟩
    · show ((w_fi ws (n_v (vs ++ [Value.int x]) 7) 12 = 1) → (w_fi ws (n_v (vs ++ [Value.int x]) 7) 11 ≤ (w_fi ws (n_v (vs ++ [Value.int x]) 7) 15 + 8))) ∧ ((w_fi ws (n_v (vs ++ [Value.int x]) 7) 12 = 0) ∨ ((w_fi ws (n_v (vs ++ [Value.int x]) 7) 15 + 1) ≤ w_fi ws (n_v (vs ++ [Value.int x]) 7) 11))
      simp only [e_7, q7]
      exact vc_Mo_of_at_s5003_21_1 (w_ei ws (w_ar ws (n_v vs 0) 1)) (w_fi ws (n_v vs 0) 15) (w_fi ws (n_v vs 0) 11) (w_fi ws (n_v vs 0) 12) f24 hK_0_1 kz_0_11 kz_0_12 kz_0_15
  have nf2 : fc_1 PRD (20, [3, 7], [30, -1, 1, 0, 0, -1, 1, 11]) ws (vs ++ [Value.int x]) := by
    refine ⟨nf_inA hl rfl, sgq_2005 ?_⟩
    · show 1 * v_iv (n_v (vs ++ [Value.int x]) 3) + ((-1) * w_fi ws (n_v (vs ++ [Value.int x]) 7) 11 + 0) ≤ (-1)
      simp only [e_3, e_7, q7]
      exact vc_Mo_of_at_s5003_21_2 (v_iv (n_v vs 3)) (v_iv (n_v vs 27)) (w_ei ws (w_ar ws (n_v vs 0) 1)) (w_fi ws (n_v vs 0) 15) (w_fi ws (n_v vs 0) 11) (w_fi ws (n_v vs 0) 12) k3 k27 f1 f23 f24 f25 hK_0_1 kz_0_11 kz_0_12 kz_0_15
  have nf3 : fc_1 PRD (23, [24, 9], [0, 1, -1]) ws (vs ++ [Value.int x]) := by
    refine ⟨nf_inA hl rfl, sgq_7 ?_⟩
    · show 1 * v_iv (n_v (vs ++ [Value.int x]) 24) + ((-1) * v_iv (n_v (vs ++ [Value.int x]) 9) + 0) ≤ 0
      simp only [e_9, e_24, q9]
      exact vc_Mo_of_at_s5003_21_3 (v_iv (n_v vs 2)) (v_iv (n_v vs 24)) (w_ei ws (w_ar ws (n_v vs 0) 1)) (w_fi ws (n_v vs 0) 15) (w_fi ws (n_v vs 0) 11) (w_fi ws (n_v vs 0) 12) k2 k24 f24 f30 hK_0_1 kz_0_11 kz_0_12 kz_0_15
  have nf4 : fc_1 PRD (23, [24], [0, -1]) ws (vs ++ [Value.int x]) := by
    refine ⟨nf_inA hl rfl, sgq_1043 ?_⟩
    · show (-1) * v_iv (n_v (vs ++ [Value.int x]) 24) + 0 ≤ 0
      rw [e_24]
      exact vc_Mo_of_at_s5003_21_4 (v_iv (n_v vs 24)) (w_ei ws (w_ar ws (n_v vs 0) 1)) (w_fi ws (n_v vs 0) 15) (w_fi ws (n_v vs 0) 11) (w_fi ws (n_v vs 0) 12) k24 f24 f31 hK_0_1 kz_0_11 kz_0_12 kz_0_15
  have nf5 : fc_1 PRD (23, [4], [0, -1]) ws (vs ++ [Value.int x]) := by
    refine ⟨nf_inA hl rfl, sgq_1043 ?_⟩
    · show (-1) * v_iv (n_v (vs ++ [Value.int x]) 4) + 0 ≤ 0
      rw [e_4]
      exact vc_Mo_of_at_s5003_21_5 (v_iv (n_v vs 4)) (w_ei ws (w_ar ws (n_v vs 0) 1)) (w_fi ws (n_v vs 0) 15) (w_fi ws (n_v vs 0) 11) (w_fi ws (n_v vs 0) 12) k4 f24 f76 hK_0_1 kz_0_11 kz_0_12 kz_0_15
  have nf6 : fc_1 PRD (20, [28, 7], [30, -2001, -1, 0, 0, -1, 1, 11]) ws (vs ++ [Value.int x]) := by
    refine ⟨nf_inA hl rfl, sgq_2013 ?_⟩
    · show (-1) * v_iv (n_v (vs ++ [Value.int x]) 28) + ((-1) * w_fi ws (n_v (vs ++ [Value.int x]) 7) 11 + 0) ≤ (-2001)
      simp only [e_7, e_28, q7]
      exact vc_Mo_of_at_s5003_21_6 (v_iv (n_v vs 11)) (v_iv (n_v vs 27)) (w_ei ws (w_ar ws (n_v vs 0) 1)) (w_fi ws (n_v vs 0) 15) (w_fi ws (n_v vs 0) 11) (w_fi ws (n_v vs 0) 12) (v_iv (Value.int x)) k11 k27 f2 f23 f24 f25 hK_0_1 kz_0_11 kz_0_12 kz_0_15 ex2
  have nf7 : fc_1 PRD (20, [7, 4, 24, 5, 6], [60, 8, 2, 1000, 10, 11, 12, 13, 14, 15, 8, 5, 1, 2]) ws (vs ++ [Value.int x]) := by
    refine ⟨nf_inA hl rfl, sgq_2021 ?_⟩
    · show zO12w (w_fi ws (n_v (vs ++ [Value.int x]) 7) 10) (w_fi ws (n_v (vs ++ [Value.int x]) 7) 11) (w_fi ws (n_v (vs ++ [Value.int x]) 7) 12) (w_fi ws (n_v (vs ++ [Value.int x]) 7) 13) (w_fi ws (n_v (vs ++ [Value.int x]) 7) 14) (w_fi ws (n_v (vs ++ [Value.int x]) 7) 15) (w_fi ws (n_v (vs ++ [Value.int x]) 7) 8) (w_fi ws (n_v (vs ++ [Value.int x]) 7) 5) (w_ei ws (w_ar ws (n_v (vs ++ [Value.int x]) 7) 1)) (w_ei ws (w_ar ws (n_v (vs ++ [Value.int x]) 7) 2)) (v_iv (n_v (vs ++ [Value.int x]) 4)) (v_iv (n_v (vs ++ [Value.int x]) 24)) (v_iv (n_v (vs ++ [Value.int x]) 5)) (v_iv (n_v (vs ++ [Value.int x]) 6))
      simp only [e_4, e_5, e_6, e_7, e_24, q7]
      exact vc_Mo_of_at_s5003_21_7 (v_iv (n_v vs 4)) (v_iv (n_v vs 5)) (v_iv (n_v vs 6)) (v_iv (n_v vs 15)) (v_iv (n_v vs 17)) (v_iv (n_v vs 18)) (v_iv (n_v vs 19)) (v_iv (n_v vs 20)) (v_iv (n_v vs 21)) (v_iv (n_v vs 24)) (v_iv (n_v vs 27)) (w_fi ws (n_v vs 0) 8) (w_ei ws (w_ar ws (n_v vs 0) 1)) (w_ei ws (w_ar ws (n_v vs 0) 2)) (w_fi ws (n_v vs 0) 10) (w_fi ws (n_v vs 0) 5) (w_fi ws (n_v vs 0) 15) (w_fi ws (n_v vs 0) 11) (w_fi ws (n_v vs 0) 12) (w_fi ws (n_v vs 0) 13) (w_fi ws (n_v vs 0) 14) k4 k5 k6 k15 k17 k18 k19 k20 k21 k24 k27 g0 f3 f6 f7 f8 f9 f10 f11 f12 f13 f26 kz_0_8 kz_0_10 kz_0_11 kz_0_12 kz_0_13 kz_0_14 kz_0_15
  have nf8 : fc_1 PRD (24, [0, 7], []) ws (vs ++ [Value.int x]) := by
    refine ⟨nf_inA hl rfl, sgq_5 ?_⟩
    · show n_v (vs ++ [Value.int x]) 0 = n_v (vs ++ [Value.int x]) 7
      first | rfl | simp only [e_0, e_7, q7, q9]
  have nf9 : fc_1 PRD (24, [2, 9], []) ws (vs ++ [Value.int x]) := by
    refine ⟨nf_inA hl rfl, sgq_5 ?_⟩
    · show n_v (vs ++ [Value.int x]) 2 = n_v (vs ++ [Value.int x]) 9
      first | rfl | simp only [e_2, e_9, q7, q9]
  obtain ⟨x0, e0, _, _⟩ := tv_int t11 rfl
  have e1 : v_iv (n_v vs 11) = x0.toInt := by rw [e0]; rfl
  have ho : sy_ofs (vs ++ [Value.int x]) (28, 11, 0, 0) := by
    refine ⟨x, x0, by rw [List.getElem?_append_right (by rw [hl]; decide), hl]; rfl, ?_, ?_, ?_⟩
    · rw [List.getElem?_append_left (by rw [hl]; decide)]; exact n_v_some (by rw [hl]; decide) e0
    · show x0.toInt + 0 ≤ x.toInt; omega
    · show x.toInt ≤ x0.toInt + 0; omega
  exact ⟨(fun _ h => (by cases h)), [Value.int x], ag_one hx, List.forall_mem_cons.mpr ⟨⟨show (20 : Nat) < 100 from by decide, nf0⟩, List.forall_mem_cons.mpr ⟨⟨show (20 : Nat) < 100 from by decide, nf1⟩, List.forall_mem_cons.mpr ⟨⟨show (20 : Nat) < 100 from by decide, nf2⟩, List.forall_mem_cons.mpr ⟨⟨show (23 : Nat) < 100 from by decide, nf3⟩, List.forall_mem_cons.mpr ⟨⟨show (23 : Nat) < 100 from by decide, nf4⟩, List.forall_mem_cons.mpr ⟨⟨show (23 : Nat) < 100 from by decide, nf5⟩, List.forall_mem_cons.mpr ⟨⟨show (20 : Nat) < 100 from by decide, nf6⟩, List.forall_mem_cons.mpr ⟨⟨show (20 : Nat) < 100 from by decide, nf7⟩, List.forall_mem_cons.mpr ⟨⟨show (24 : Nat) < 100 from by decide, nf8⟩, List.forall_mem_cons.mpr ⟨⟨show (24 : Nat) < 100 from by decide, nf9⟩, (fun _ h => (by cases h))⟩⟩⟩⟩⟩⟩⟩⟩⟩⟩, List.forall_mem_cons.mpr ⟨ho, (fun _ h => (by cases h))⟩⟩
set_option maxHeartbeats 4000000 in
theorem vc_Mo_of_at_s5003_22_0 (x4 : Int) (x5 : Int) (x6 : Int) (x15 : Int) (x17 : Int) (x18 : Int) (x19 : Int) (x20 : Int) (x21 : Int) (x22 : Int) (x23 : Int) (x24 : Int) (x25 : Int) (place_0 : Int) (kind_0 : Int) (fault_0 : Int) (from_0 : Int) (pos_0 : Int) (tape_0 : Int → Int) (all_0 : Int → Int) (limit_0 : Int) (value_0 : Int) (faultPlace_0 : Int) (r_0 : Int) (gx : Int) (k4 : (-1) ≤ x4 ∧ x4 ≤ 48) (k5 : 0 ≤ x5 ∧ x5 ≤ 7) (k6 : 0 ≤ x6 ∧ x6 ≤ 4) (k15 : 0 ≤ x15 ∧ x15 ≤ 2000) (k17 : 0 ≤ x17 ∧ x17 ≤ 2000) (k18 : (-1) ≤ x18 ∧ x18 ≤ 48) (k19 : 0 ≤ x19 ∧ x19 ≤ 7) (k20 : 0 ≤ x20 ∧ x20 ≤ 4) (k21 : 0 ≤ x21 ∧ x21 ≤ 0) (k22 : 0 ≤ x22 ∧ x22 ≤ 4) (k23 : 2 ≤ x23 ∧ x23 ≤ 2) (k24 : 1 ≤ x24 ∧ x24 ≤ 1) (k25 : 0 ≤ x25 ∧ x25 ≤ 2000) (g0 : x25 = place_0) (f1 : x22 ≠ x23) (g2 : x22 = kind_0) (f3 : x21 = 0) (g4 : x21 = fault_0) (f5 : 1 * x17 + ((-1) * x15 + 0) ≤ 0) (f6 : (-1) * x17 + (1 * x15 + 0) ≤ 0) (f7 : 1 * x18 + ((-1) * x4 + 0) ≤ 0) (f8 : (-1) * x18 + (1 * x4 + 0) ≤ 0) (f9 : 1 * x19 + ((-1) * x5 + 0) ≤ 0) (f10 : (-1) * x19 + (1 * x5 + 0) ≤ 0) (f11 : 1 * x20 + ((-1) * x6 + 0) ≤ 0) (f12 : (-1) * x20 + (1 * x6 + 0) ≤ 0) (f21 : ((kind_0 = 1) → (pos_0 ≤ (from_0 + 8))) ∧ ((kind_0 = 0) ∨ ((from_0 + 1) ≤ pos_0))) (f23 : (1 ≤ fault_0) ∨ ((x17 + 1) ≤ pos_0)) (f24 : zO11w (limit_0) (pos_0) (kind_0) (place_0) (value_0) (from_0) (fault_0) (faultPlace_0) (r_0) (tape_0) (all_0) (x18) (x19) (x20)) (kz_0_8 : 0 ≤ fault_0 ∧ fault_0 ≤ 5) (kz_0_9 : 0 ≤ faultPlace_0 ∧ faultPlace_0 ≤ 2000) (kz_0_10 : 0 ≤ limit_0 ∧ limit_0 ≤ 2000) (kz_0_11 : 0 ≤ pos_0 ∧ pos_0 ≤ 2000) (kz_0_12 : 0 ≤ kind_0 ∧ kind_0 ≤ 4) (kz_0_13 : 0 ≤ place_0 ∧ place_0 ≤ 2000) (kz_0_14 : (-49) ≤ value_0 ∧ value_0 ≤ 1048575) (kz_0_15 : 0 ≤ from_0 ∧ from_0 ≤ 2000) (ex2 : gx = fault_0) (ex3 : 0 ≤ gx ∧ gx ≤ 5) : FSX (limit_0) (tape_0) (x24) (x25) := by
  first | (have el_x17 : x17 = x15 := by omega); subst el_x17 | skip
  first | (have el_x18 : x18 = x4 := by omega); subst el_x18 | skip
  first | (have el_x19 : x19 = x5 := by omega); subst el_x19 | skip
  first | (have el_x20 : x20 = x6 := by omega); subst el_x20 | skip
  first | subst g0 | skip
  first | subst g2 | skip
  first | subst g4 | skip
  first | subst ex2 | skip
  first
    | exact fsx_cg (of_nk_s ‹zO11s _ _ _ _ _ _ _ _ _ _ _ _ _ _› (by omega) (by omega)) (by omega) (by omega)
    | exact fsx_cg (of_nk_w ‹zO11w _ _ _ _ _ _ _ _ _ _ _ _ _ _› (by omega) (by omega)) (by omega) (by omega)
    | (exfalso; omega)
set_option maxHeartbeats 4000000 in
theorem vc_Mo_of_at_s5003_22_1 (x17 : Int) (x21 : Int) (kind_0 : Int) (fault_0 : Int) (from_0 : Int) (pos_0 : Int) (tape_0 : Int → Int) (gx : Int) (k17 : 0 ≤ x17 ∧ x17 ≤ 2000) (k21 : 0 ≤ x21 ∧ x21 ≤ 0) (g4 : x21 = fault_0) (f21 : ((kind_0 = 1) → (pos_0 ≤ (from_0 + 8))) ∧ ((kind_0 = 0) ∨ ((from_0 + 1) ≤ pos_0))) (f23 : (1 ≤ fault_0) ∨ ((x17 + 1) ≤ pos_0)) (hK_0_1 : ∀ j : Int, 0 ≤ j → j < 2000 → (-128) ≤ tape_0 j ∧ tape_0 j ≤ 127) (kz_0_8 : 0 ≤ fault_0 ∧ fault_0 ≤ 5) (kz_0_11 : 0 ≤ pos_0 ∧ pos_0 ≤ 2000) (kz_0_12 : 0 ≤ kind_0 ∧ kind_0 ≤ 4) (kz_0_15 : 0 ≤ from_0 ∧ from_0 ≤ 2000) (ex2 : gx = fault_0) : 1 * fault_0 + ((-1) * gx + 0) ≤ 0 := by
  first | with_reducible assumption | ((have f21_c0 := f21.1); (have f21_c1 := f21.2); (try and_intros) <;> first | with_reducible assumption | (clear f21_c0 f21_c1 f21 f23 hK_0_1; omega)) | ((have f21_c0 := f21.1); (have f21_c1 := f21.2); (try and_intros) <;> first | with_reducible assumption | (clear f21_c0 f21_c1 f21 hK_0_1; omega)) | omega
set_option maxHeartbeats 4000000 in
theorem vc_Mo_of_at_s5003_22_2 (x17 : Int) (x21 : Int) (kind_0 : Int) (fault_0 : Int) (from_0 : Int) (pos_0 : Int) (tape_0 : Int → Int) (gx : Int) (k17 : 0 ≤ x17 ∧ x17 ≤ 2000) (k21 : 0 ≤ x21 ∧ x21 ≤ 0) (g4 : x21 = fault_0) (f21 : ((kind_0 = 1) → (pos_0 ≤ (from_0 + 8))) ∧ ((kind_0 = 0) ∨ ((from_0 + 1) ≤ pos_0))) (f23 : (1 ≤ fault_0) ∨ ((x17 + 1) ≤ pos_0)) (hK_0_1 : ∀ j : Int, 0 ≤ j → j < 2000 → (-128) ≤ tape_0 j ∧ tape_0 j ≤ 127) (kz_0_8 : 0 ≤ fault_0 ∧ fault_0 ≤ 5) (kz_0_11 : 0 ≤ pos_0 ∧ pos_0 ≤ 2000) (kz_0_12 : 0 ≤ kind_0 ∧ kind_0 ≤ 4) (kz_0_15 : 0 ≤ from_0 ∧ from_0 ≤ 2000) (ex2 : gx = fault_0) : (-1) * fault_0 + (1 * gx + 0) ≤ 0 := by
  first | with_reducible assumption | ((have f21_c0 := f21.1); (have f21_c1 := f21.2); (try and_intros) <;> first | with_reducible assumption | (clear f21_c0 f21_c1 f21 f23 hK_0_1; omega)) | ((have f21_c0 := f21.1); (have f21_c1 := f21.2); (try and_intros) <;> first | with_reducible assumption | (clear f21_c0 f21_c1 f21 hK_0_1; omega)) | omega
set_option maxHeartbeats 4000000 in
theorem vc_Mo_of_at_s5003_22_3 (x21 : Int) (fault_0 : Int) (gx : Int) (k21 : 0 ≤ x21 ∧ x21 ≤ 0) (g4 : x21 = fault_0) (kz_0_8 : 0 ≤ fault_0 ∧ fault_0 ≤ 5) (ex2 : gx = fault_0) : ZH0 (gx) := by
  first
    | exact ⟨by omega, by omega, trivial⟩
    | (have h := (oi_0_s ‹zOIs _ _ _ _ _ _ _ _ _ _ _ _ _ _›).1; exact ⟨by omega, by omega, trivial⟩)
    | (have h := (oi_0_w ‹zOIw _ _ _ _ _ _ _ _ _ _ _ _ _ _›).1; exact ⟨by omega, by omega, trivial⟩)
    | (exfalso; omega)
def o_Mo_of_at_s5003_22 : or_T := (90, 26, [(0, (2, 0, 0, [165])), (4, (0, -1, 48, [])), (5, (0, 0, 7, [])), (6, (0, 0, 4, [])), (15, (0, 0, 2000, [])), (17, (0, 0, 2000, [])), (18, (0, -1, 48, [])), (19, (0, 0, 7, [])), (20, (0, 0, 4, [])), (21, (0, 0, 0, [])), (22, (0, 0, 4, [])), (23, (0, 2, 2, [])), (24, (0, 1, 1, [])), (25, (0, 0, 2000, []))], [(9, [25, 7], [13]), (7, [22, 23], [1]), (9, [22, 7], [12]), (8, [21], [0]), (9, [21, 7], [8]), (23, [17, 15], [0, 1, -1]), (23, [17, 15], [0, -1, 1]), (23, [18, 4], [0, 1, -1]), (23, [18, 4], [0, -1, 1]), (23, [19, 5], [0, 1, -1]), (23, [19, 5], [0, -1, 1]), (23, [20, 6], [0, 1, -1]), (23, [20, 6], [0, -1, 1]), (24, [0, 7], []), (20, [7], [50, 3, 0, 12, 11, 15, 2, 21, 4, 7, 1, 3, 2, 0, 12, 0, 1, 0, 3, 2, 0, 11, 4, 3, 2, 0, 15, 0, 8, 3, 7, 1, 3, 2, 0, 12, 0, 0, 0, 7, 4, 3, 2, 0, 15, 0, 1, 2, 0, 11]), (20, [7, 17], [50, 2, 0, 8, 11, 3, 7, 0, 2, 0, 1, 2, 0, 8, 0, 6, 4, 2, 1, 1, 0, 1, 2, 0, 11]), (20, [7, 18, 19, 20], [60, 9, 2, 1025, 10, 11, 12, 13, 14, 15, 8, 9, 5, 1, 2])], [], [(0, 0, 5, [])], [(20, [7, 24, 25], [60, 1, 1, 1026, 10, 1]), (20, [7, 26], [30, 0, 1, 1, 8, -1, 0, 0]), (20, [7, 26], [30, 0, -1, 1, 8, 1, 0, 0]), (20, [26], [61, 0, 1029])], [], [])
theorem oo_Mo_of_at_s5003_22 {kA : Nat → ClassId} : or_ok PRD kA GG o_Mo_of_at_s5003_22 := by
  refine or_mk fun A ta ws vs hD hth hl => ?_
  intro t0 r0 t4 k4 t5 k5 t6 k6 t15 k15 t17 k17 t18 k18 t19 k19 t20 k20 t21 k21 t22 k22 t23 k23 t24 k24 t25 k25 f0 f1 f2 f3 f4 f5 f6 f7 f8 f9 f10 f11 f12 f18 f21 f23 f24
  replace f0 := shm_361 f0
  replace f1 := shm_40 f1
  replace f2 := shm_103 f2
  replace f3 := shm_192 f3
  replace f4 := shm_293 f4
  replace f5 := shm_7 f5
  replace f6 := shm_22 f6
  replace f7 := shm_7 f7
  replace f8 := shm_22 f8
  replace f9 := shm_7 f9
  replace f10 := shm_22 f10
  replace f11 := shm_7 f11
  replace f12 := shm_22 f12
  replace f18 := shm_5 f18
  replace f21 := shm_1438 f21
  replace f23 := shm_1726 f23
  replace f24 := shm_1744 f24
  have q7 : n_v vs 7 = n_v vs 0 := f18.symm
  simp only [q7] at f0 f2 f4 f21 f23 f24
  have cr_0_1 := fdq_39 hD hth r0
  have g0 : v_iv (n_v vs 25) = w_fi ws (n_v vs 0) 13 := congrArg v_iv f0
  have g2 : v_iv (n_v vs 22) = w_fi ws (n_v vs 0) 12 := congrArg v_iv f2
  have g4 : v_iv (n_v vs 21) = w_fi ws (n_v vs 0) 8 := congrArg v_iv f4
  have hK_0_1 := elq_7 hD hth cr_0_1
  have kz_0_8 := fdq_34 hD hth r0
  have kz_0_9 := fdq_44 hD hth r0
  have kz_0_10 := fdq_43 hD hth r0
  have kz_0_11 := fdq_237 hD hth r0
  have kz_0_12 := fdq_187 hD hth r0
  have kz_0_13 := fdq_238 hD hth r0
  have kz_0_14 := fdq_188 hD hth r0
  have kz_0_15 := fdq_239 hD hth r0
  obtain ⟨x, ex, hx⟩ := iv_ex (ta := ta) (lo := 0) (hi := 5) (z := w_fi ws (n_v vs 0) 8) (by omega) (by omega) (by omega) (by omega)
  have ex2 : v_iv (Value.int x) = w_fi ws (n_v vs 0) 8 := ex
  have ex3 : 0 ≤ v_iv (Value.int x) ∧ v_iv (Value.int x) ≤ 5 := tv_rng hx
  have e_7 : n_v (vs ++ [Value.int x]) 7 = n_v vs 7 := n_v_old (by rw [hl]; decide)
  have e_24 : n_v (vs ++ [Value.int x]) 24 = n_v vs 24 := n_v_old (by rw [hl]; decide)
  have e_25 : n_v (vs ++ [Value.int x]) 25 = n_v vs 25 := n_v_old (by rw [hl]; decide)
  have e_26 : n_v (vs ++ [Value.int x]) 26 = Value.int x := n_v_new hl
  have nf0 : fc_1 PRD (20, [7, 24, 25], [60, 1, 1, 1026, 10, 1]) ws (vs ++ [Value.int x]) := by
    refine ⟨nf_inA hl rfl, sgq_1724 ?_⟩
    · show FSX (w_fi ws (n_v (vs ++ [Value.int x]) 7) 10) (w_ei ws (w_ar ws (n_v (vs ++ [Value.int x]) 7) 1)) (v_iv (n_v (vs ++ [Value.int x]) 24)) (v_iv (n_v (vs ++ [Value.int x]) 25))
      simp only [e_7, e_24, e_25, q7]
      exact vc_Mo_of_at_s5003_22_0 (v_iv (n_v vs 4)) (v_iv (n_v vs 5)) (v_iv (n_v vs 6)) (v_iv (n_v vs 15)) (v_iv (n_v vs 17)) (v_iv (n_v vs 18)) (v_iv (n_v vs 19)) (v_iv (n_v vs 20)) (v_iv (n_v vs 21)) (v_iv (n_v vs 22)) (v_iv (n_v vs 23)) (v_iv (n_v vs 24)) (v_iv (n_v vs 25)) (w_fi ws (n_v vs 0) 13) (w_fi ws (n_v vs 0) 12) (w_fi ws (n_v vs 0) 8) (w_fi ws (n_v vs 0) 15) (w_fi ws (n_v vs 0) 11) (w_ei ws (w_ar ws (n_v vs 0) 1)) (w_ei ws (w_ar ws (n_v vs 0) 2)) (w_fi ws (n_v vs 0) 10) (w_fi ws (n_v vs 0) 14) (w_fi ws (n_v vs 0) 9) (w_fi ws (n_v vs 0) 5) (v_iv (Value.int x)) k4 k5 k6 k15 k17 k18 k19 k20 k21 k22 k23 k24 k25 g0 f1 g2 f3 g4 f5 f6 f7 f8 f9 f10 f11 f12 f21 f23 f24 kz_0_8 kz_0_9 kz_0_10 kz_0_11 kz_0_12 kz_0_13 kz_0_14 kz_0_15 ex2 ex3
  have nf1 : fc_1 PRD (20, [7, 26], [30, 0, 1, 1, 8, -1, 0, 0]) ws (vs ++ [Value.int x]) := by
    refine ⟨nf_inA hl rfl, sgq_303 ?_⟩
    · show 1 * w_fi ws (n_v (vs ++ [Value.int x]) 7) 8 + ((-1) * v_iv (n_v (vs ++ [Value.int x]) 26) + 0) ≤ 0
      simp only [e_7, e_26, q7]
      exact vc_Mo_of_at_s5003_22_1 (v_iv (n_v vs 17)) (v_iv (n_v vs 21)) (w_fi ws (n_v vs 0) 12) (w_fi ws (n_v vs 0) 8) (w_fi ws (n_v vs 0) 15) (w_fi ws (n_v vs 0) 11) (w_ei ws (w_ar ws (n_v vs 0) 1)) (v_iv (Value.int x)) k17 k21 g4 f21 f23 hK_0_1 kz_0_8 kz_0_11 kz_0_12 kz_0_15 ex2
  have nf2 : fc_1 PRD (20, [7, 26], [30, 0, -1, 1, 8, 1, 0, 0]) ws (vs ++ [Value.int x]) := by
    refine ⟨nf_inA hl rfl, sgq_304 ?_⟩
    · show (-1) * w_fi ws (n_v (vs ++ [Value.int x]) 7) 8 + (1 * v_iv (n_v (vs ++ [Value.int x]) 26) + 0) ≤ 0
      simp only [e_7, e_26, q7]
      exact vc_Mo_of_at_s5003_22_2 (v_iv (n_v vs 17)) (v_iv (n_v vs 21)) (w_fi ws (n_v vs 0) 12) (w_fi ws (n_v vs 0) 8) (w_fi ws (n_v vs 0) 15) (w_fi ws (n_v vs 0) 11) (w_ei ws (w_ar ws (n_v vs 0) 1)) (v_iv (Value.int x)) k17 k21 g4 f21 f23 hK_0_1 kz_0_8 kz_0_11 kz_0_12 kz_0_15 ex2
  have nf3 : fc_1 PRD (20, [26], [61, 0, 1029]) ws (vs ++ [Value.int x]) := by
    refine ⟨nf_inA hl rfl, sgq_1725 ?_⟩
    · show ZH0 (v_iv (n_v (vs ++ [Value.int x]) 26))
      rw [e_26]
      exact vc_Mo_of_at_s5003_22_3 (v_iv (n_v vs 21)) (w_fi ws (n_v vs 0) 8) (v_iv (Value.int x)) k21 g4 kz_0_8 ex2
  exact ⟨(fun _ h => (by cases h)), [Value.int x], ag_one hx, List.forall_mem_cons.mpr ⟨⟨show (20 : Nat) < 100 from by decide, nf0⟩, List.forall_mem_cons.mpr ⟨⟨show (20 : Nat) < 100 from by decide, nf1⟩, List.forall_mem_cons.mpr ⟨⟨show (20 : Nat) < 100 from by decide, nf2⟩, List.forall_mem_cons.mpr ⟨⟨show (20 : Nat) < 100 from by decide, nf3⟩, (fun _ h => (by cases h))⟩⟩⟩⟩, (fun _ h => (by cases h))⟩
set_option maxHeartbeats 4000000 in
theorem vc_Mo_of_at_s5003_23_0 (x24 : Int) (x25 : Int) (x26 : Int) (kind_0 : Int) (fault_0 : Int) (tape_0 : Int → Int) (from_0 : Int) (pos_0 : Int) (faultPlace_0 : Int) (k24 : 1 ≤ x24 ∧ x24 ≤ 1) (k25 : 0 ≤ x25 ∧ x25 ≤ 2000) (k26 : 0 ≤ x26 ∧ x26 ≤ 5) (f22 : 1 * from_0 + ((-1) * pos_0 + 0) ≤ 0) (f23 : ((kind_0 = 1) → (pos_0 ≤ (from_0 + 8))) ∧ ((kind_0 = 0) ∨ ((from_0 + 1) ≤ pos_0))) (f26 : ((1 ≤ x26) ∧ (fault_0 = x26)) ∨ ((x26 = 0) ∧ ((fault_0 = x24) ∧ (faultPlace_0 = x25)))) (hK_0_1 : ∀ j : Int, 0 ≤ j → j < 2000 → (-128) ≤ tape_0 j ∧ tape_0 j ≤ 127) (kz_0_8 : 0 ≤ fault_0 ∧ fault_0 ≤ 5) (kz_0_9 : 0 ≤ faultPlace_0 ∧ faultPlace_0 ≤ 2000) (kz_0_11 : 0 ≤ pos_0 ∧ pos_0 ≤ 2000) (kz_0_12 : 0 ≤ kind_0 ∧ kind_0 ≤ 4) (kz_0_15 : 0 ≤ from_0 ∧ from_0 ≤ 2000) : 1 * from_0 + ((-1) * pos_0 + 0) ≤ 0 := by
  first | with_reducible assumption | ((have f23_c0 := f23.1); (have f23_c1 := f23.2); (try and_intros) <;> first | with_reducible assumption | (clear f23_c0 f23_c1 f23 f26 hK_0_1; omega)) | ((have f23_c0 := f23.1); (have f23_c1 := f23.2); (try and_intros) <;> first | with_reducible assumption | (clear f23_c0 f23_c1 f23 hK_0_1; omega)) | omega
set_option maxHeartbeats 4000000 in
theorem vc_Mo_of_at_s5003_23_1 (x24 : Int) (x25 : Int) (x26 : Int) (kind_0 : Int) (fault_0 : Int) (tape_0 : Int → Int) (from_0 : Int) (pos_0 : Int) (faultPlace_0 : Int) (k24 : 1 ≤ x24 ∧ x24 ≤ 1) (k25 : 0 ≤ x25 ∧ x25 ≤ 2000) (k26 : 0 ≤ x26 ∧ x26 ≤ 5) (f23 : ((kind_0 = 1) → (pos_0 ≤ (from_0 + 8))) ∧ ((kind_0 = 0) ∨ ((from_0 + 1) ≤ pos_0))) (f26 : ((1 ≤ x26) ∧ (fault_0 = x26)) ∨ ((x26 = 0) ∧ ((fault_0 = x24) ∧ (faultPlace_0 = x25)))) (hK_0_1 : ∀ j : Int, 0 ≤ j → j < 2000 → (-128) ≤ tape_0 j ∧ tape_0 j ≤ 127) (kz_0_8 : 0 ≤ fault_0 ∧ fault_0 ≤ 5) (kz_0_9 : 0 ≤ faultPlace_0 ∧ faultPlace_0 ≤ 2000) (kz_0_11 : 0 ≤ pos_0 ∧ pos_0 ≤ 2000) (kz_0_12 : 0 ≤ kind_0 ∧ kind_0 ≤ 4) (kz_0_15 : 0 ≤ from_0 ∧ from_0 ≤ 2000) : ((kind_0 = 1) → (pos_0 ≤ (from_0 + 8))) ∧ ((kind_0 = 0) ∨ ((from_0 + 1) ≤ pos_0)) := by
  first | with_reducible assumption | ((have f23_c0 := f23.1); (have f23_c1 := f23.2); (try and_intros) <;> first | with_reducible assumption | (clear f23_c0 f23_c1 f23 f26 hK_0_1; omega)) | ((have f23_c0 := f23.1); (have f23_c1 := f23.2); (try and_intros) <;> first | with_reducible assumption | (clear f23_c0 f23_c1 f23 hK_0_1; omega)) | omega
set_option maxHeartbeats 4000000 in
theorem vc_Mo_of_at_s5003_23_2 (x3 : Int) (x17 : Int) (x24 : Int) (x25 : Int) (x26 : Int) (kind_0 : Int) (fault_0 : Int) (tape_0 : Int → Int) (from_0 : Int) (pos_0 : Int) (faultPlace_0 : Int) (k3 : 0 ≤ x3 ∧ x3 ≤ 2000) (k17 : 0 ≤ x17 ∧ x17 ≤ 2000) (k24 : 1 ≤ x24 ∧ x24 ≤ 1) (k25 : 0 ≤ x25 ∧ x25 ≤ 2000) (k26 : 0 ≤ x26 ∧ x26 ≤ 5) (f15 : 1 * x3 + ((-1) * x17 + 0) ≤ (-1)) (f23 : ((kind_0 = 1) → (pos_0 ≤ (from_0 + 8))) ∧ ((kind_0 = 0) ∨ ((from_0 + 1) ≤ pos_0))) (f24 : 1 * x17 + ((-1) * pos_0 + 0) ≤ 0) (f26 : ((1 ≤ x26) ∧ (fault_0 = x26)) ∨ ((x26 = 0) ∧ ((fault_0 = x24) ∧ (faultPlace_0 = x25)))) (hK_0_1 : ∀ j : Int, 0 ≤ j → j < 2000 → (-128) ≤ tape_0 j ∧ tape_0 j ≤ 127) (kz_0_8 : 0 ≤ fault_0 ∧ fault_0 ≤ 5) (kz_0_9 : 0 ≤ faultPlace_0 ∧ faultPlace_0 ≤ 2000) (kz_0_11 : 0 ≤ pos_0 ∧ pos_0 ≤ 2000) (kz_0_12 : 0 ≤ kind_0 ∧ kind_0 ≤ 4) (kz_0_15 : 0 ≤ from_0 ∧ from_0 ≤ 2000) : 1 * x3 + ((-1) * pos_0 + 0) ≤ 0 := by
  first | with_reducible assumption | ((have f23_c0 := f23.1); (have f23_c1 := f23.2); (try and_intros) <;> first | with_reducible assumption | (clear f23_c0 f23_c1 f23 f26 hK_0_1; omega)) | ((have f23_c0 := f23.1); (have f23_c1 := f23.2); (try and_intros) <;> first | with_reducible assumption | (clear f23_c0 f23_c1 f23 hK_0_1; omega)) | omega
set_option maxHeartbeats 4000000 in
theorem vc_Mo_of_at_s5003_23_3 (x3 : Int) (x24 : Int) (x25 : Int) (x26 : Int) (x27 : Int) (kind_0 : Int) (fault_0 : Int) (tape_0 : Int → Int) (from_0 : Int) (pos_0 : Int) (faultPlace_0 : Int) (k3 : 0 ≤ x3 ∧ x3 ≤ 2000) (k24 : 1 ≤ x24 ∧ x24 ≤ 1) (k25 : 0 ≤ x25 ∧ x25 ≤ 2000) (k26 : 0 ≤ x26 ∧ x26 ≤ 5) (k27 : 1 ≤ x27 ∧ x27 ≤ 5) (g3 : x27 = fault_0) (f23 : ((kind_0 = 1) → (pos_0 ≤ (from_0 + 8))) ∧ ((kind_0 = 0) ∨ ((from_0 + 1) ≤ pos_0))) (f26 : ((1 ≤ x26) ∧ (fault_0 = x26)) ∨ ((x26 = 0) ∧ ((fault_0 = x24) ∧ (faultPlace_0 = x25)))) (hK_0_1 : ∀ j : Int, 0 ≤ j → j < 2000 → (-128) ≤ tape_0 j ∧ tape_0 j ≤ 127) (kz_0_8 : 0 ≤ fault_0 ∧ fault_0 ≤ 5) (kz_0_9 : 0 ≤ faultPlace_0 ∧ faultPlace_0 ≤ 2000) (kz_0_11 : 0 ≤ pos_0 ∧ pos_0 ≤ 2000) (kz_0_12 : 0 ≤ kind_0 ∧ kind_0 ≤ 4) (kz_0_15 : 0 ≤ from_0 ∧ from_0 ≤ 2000) : (1 ≤ fault_0) ∨ ((kind_0 = 0) ∨ ((x3 + 1) ≤ pos_0)) := by
  first | with_reducible assumption | ((have f23_c0 := f23.1); (have f23_c1 := f23.2); (try and_intros) <;> first | with_reducible assumption | (clear f23_c0 f23_c1 f23 f26 hK_0_1; omega)) | ((have f23_c0 := f23.1); (have f23_c1 := f23.2); (try and_intros) <;> first | with_reducible assumption | (clear f23_c0 f23_c1 f23 hK_0_1; omega)) | omega
set_option maxHeartbeats 4000000 in
theorem vc_Mo_of_at_s5003_23_4 (x4 : Int) (x24 : Int) (x25 : Int) (x26 : Int) (x27 : Int) (kind_0 : Int) (fault_0 : Int) (tape_0 : Int → Int) (from_0 : Int) (pos_0 : Int) (faultPlace_0 : Int) (k4 : (-1) ≤ x4 ∧ x4 ≤ 48) (k24 : 1 ≤ x24 ∧ x24 ≤ 1) (k25 : 0 ≤ x25 ∧ x25 ≤ 2000) (k26 : 0 ≤ x26 ∧ x26 ≤ 5) (k27 : 1 ≤ x27 ∧ x27 ≤ 5) (g3 : x27 = fault_0) (f23 : ((kind_0 = 1) → (pos_0 ≤ (from_0 + 8))) ∧ ((kind_0 = 0) ∨ ((from_0 + 1) ≤ pos_0))) (f26 : ((1 ≤ x26) ∧ (fault_0 = x26)) ∨ ((x26 = 0) ∧ ((fault_0 = x24) ∧ (faultPlace_0 = x25)))) (hK_0_1 : ∀ j : Int, 0 ≤ j → j < 2000 → (-128) ≤ tape_0 j ∧ tape_0 j ≤ 127) (kz_0_8 : 0 ≤ fault_0 ∧ fault_0 ≤ 5) (kz_0_9 : 0 ≤ faultPlace_0 ∧ faultPlace_0 ≤ 2000) (kz_0_11 : 0 ≤ pos_0 ∧ pos_0 ≤ 2000) (kz_0_12 : 0 ≤ kind_0 ∧ kind_0 ≤ 4) (kz_0_15 : 0 ≤ from_0 ∧ from_0 ≤ 2000) : (1 ≤ fault_0) ∨ (0 ≤ x4) := by
  first | with_reducible assumption | ((have f23_c0 := f23.1); (have f23_c1 := f23.2); (try and_intros) <;> first | with_reducible assumption | (clear f23_c0 f23_c1 f23 f26 hK_0_1; omega)) | ((have f23_c0 := f23.1); (have f23_c1 := f23.2); (try and_intros) <;> first | with_reducible assumption | (clear f23_c0 f23_c1 f23 hK_0_1; omega)) | omega
end
