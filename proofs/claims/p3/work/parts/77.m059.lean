
set_option maxHeartbeats 4000000 in
theorem vc_Mo_of_at_s5003_23_5 (x2 : Int) (x24 : Int) (x25 : Int) (x26 : Int) (x28 : Int) (kind_0 : Int) (fault_0 : Int) (tape_0 : Int → Int) (from_0 : Int) (pos_0 : Int) (faultPlace_0 : Int) (k2 : 9 ≤ x2 ∧ x2 ≤ 9) (k24 : 1 ≤ x24 ∧ x24 ≤ 1) (k25 : 0 ≤ x25 ∧ x25 ≤ 2000) (k26 : 0 ≤ x26 ∧ x26 ≤ 5) (k28 : 0 ≤ x28 ∧ x28 ≤ 0) (f23 : ((kind_0 = 1) → (pos_0 ≤ (from_0 + 8))) ∧ ((kind_0 = 0) ∨ ((from_0 + 1) ≤ pos_0))) (f26 : ((1 ≤ x26) ∧ (fault_0 = x26)) ∨ ((x26 = 0) ∧ ((fault_0 = x24) ∧ (faultPlace_0 = x25)))) (hK_0_1 : ∀ j : Int, 0 ≤ j → j < 2000 → (-128) ≤ tape_0 j ∧ tape_0 j ≤ 127) (kz_0_8 : 0 ≤ fault_0 ∧ fault_0 ≤ 5) (kz_0_9 : 0 ≤ faultPlace_0 ∧ faultPlace_0 ≤ 2000) (kz_0_11 : 0 ≤ pos_0 ∧ pos_0 ≤ 2000) (kz_0_12 : 0 ≤ kind_0 ∧ kind_0 ≤ 4) (kz_0_15 : 0 ≤ from_0 ∧ from_0 ≤ 2000) : 1 * x28 + ((-1) * x2 + 0) ≤ 0 := by
  first | with_reducible assumption | ((have f23_c0 := f23.1); (have f23_c1 := f23.2); (try and_intros) <;> first | with_reducible assumption | (clear f23_c0 f23_c1 f23 f26 hK_0_1; omega)) | ((have f23_c0 := f23.1); (have f23_c1 := f23.2); (try and_intros) <;> first | with_reducible assumption | (clear f23_c0 f23_c1 f23 hK_0_1; omega)) | omega
set_option maxHeartbeats 4000000 in
theorem vc_Mo_of_at_s5003_23_6 (x24 : Int) (x25 : Int) (x26 : Int) (x28 : Int) (kind_0 : Int) (fault_0 : Int) (tape_0 : Int → Int) (from_0 : Int) (pos_0 : Int) (faultPlace_0 : Int) (k24 : 1 ≤ x24 ∧ x24 ≤ 1) (k25 : 0 ≤ x25 ∧ x25 ≤ 2000) (k26 : 0 ≤ x26 ∧ x26 ≤ 5) (k28 : 0 ≤ x28 ∧ x28 ≤ 0) (f23 : ((kind_0 = 1) → (pos_0 ≤ (from_0 + 8))) ∧ ((kind_0 = 0) ∨ ((from_0 + 1) ≤ pos_0))) (f26 : ((1 ≤ x26) ∧ (fault_0 = x26)) ∨ ((x26 = 0) ∧ ((fault_0 = x24) ∧ (faultPlace_0 = x25)))) (hK_0_1 : ∀ j : Int, 0 ≤ j → j < 2000 → (-128) ≤ tape_0 j ∧ tape_0 j ≤ 127) (kz_0_8 : 0 ≤ fault_0 ∧ fault_0 ≤ 5) (kz_0_9 : 0 ≤ faultPlace_0 ∧ faultPlace_0 ≤ 2000) (kz_0_11 : 0 ≤ pos_0 ∧ pos_0 ≤ 2000) (kz_0_12 : 0 ≤ kind_0 ∧ kind_0 ≤ 4) (kz_0_15 : 0 ≤ from_0 ∧ from_0 ≤ 2000) : (-1) * x28 + 0 ≤ 0 := by
  first | with_reducible assumption | ((have f23_c0 := f23.1); (have f23_c1 := f23.2); (try and_intros) <;> first | with_reducible assumption | (clear f23_c0 f23_c1 f23 f26 hK_0_1; omega)) | ((have f23_c0 := f23.1); (have f23_c1 := f23.2); (try and_intros) <;> first | with_reducible assumption | (clear f23_c0 f23_c1 f23 hK_0_1; omega)) | omega
set_option maxHeartbeats 4000000 in
theorem vc_Mo_of_at_s5003_23_7 (x4 : Int) (x5 : Int) (x6 : Int) (x15 : Int) (x17 : Int) (x18 : Int) (x19 : Int) (x20 : Int) (x22 : Int) (x24 : Int) (x25 : Int) (x26 : Int) (x27 : Int) (x28 : Int) (place_0 : Int) (kind_0 : Int) (fault_0 : Int) (tape_0 : Int → Int) (limit_0 : Int) (from_0 : Int) (pos_0 : Int) (faultPlace_0 : Int) (value_0 : Int) (all_0 : Int → Int) (r_0 : Int) (k4 : (-1) ≤ x4 ∧ x4 ≤ 48) (k5 : 0 ≤ x5 ∧ x5 ≤ 7) (k6 : 0 ≤ x6 ∧ x6 ≤ 4) (k15 : 0 ≤ x15 ∧ x15 ≤ 2000) (k17 : 0 ≤ x17 ∧ x17 ≤ 2000) (k18 : (-1) ≤ x18 ∧ x18 ≤ 48) (k19 : 0 ≤ x19 ∧ x19 ≤ 7) (k20 : 0 ≤ x20 ∧ x20 ≤ 4) (k22 : 0 ≤ x22 ∧ x22 ≤ 4) (k24 : 1 ≤ x24 ∧ x24 ≤ 1) (k25 : 0 ≤ x25 ∧ x25 ≤ 2000) (k26 : 0 ≤ x26 ∧ x26 ≤ 5) (k27 : 1 ≤ x27 ∧ x27 ≤ 5) (k28 : 0 ≤ x28 ∧ x28 ≤ 0) (g0 : x25 = place_0) (g1 : x22 = kind_0) (g3 : x27 = fault_0) (f5 : FSX (limit_0) (tape_0) (x24) (x25)) (f6 : ZH0 (x26)) (f7 : 1 * x17 + ((-1) * x15 + 0) ≤ 0) (f8 : (-1) * x17 + (1 * x15 + 0) ≤ 0) (f9 : 1 * x18 + ((-1) * x4 + 0) ≤ 0) (f10 : (-1) * x18 + (1 * x4 + 0) ≤ 0) (f11 : 1 * x19 + ((-1) * x5 + 0) ≤ 0) (f12 : (-1) * x19 + (1 * x5 + 0) ≤ 0) (f13 : 1 * x20 + ((-1) * x6 + 0) ≤ 0) (f14 : (-1) * x20 + (1 * x6 + 0) ≤ 0) (f26 : ((1 ≤ x26) ∧ (fault_0 = x26)) ∨ ((x26 = 0) ∧ ((fault_0 = x24) ∧ (faultPlace_0 = x25)))) (kz_0_8 : 0 ≤ fault_0 ∧ fault_0 ≤ 5) (kz_0_9 : 0 ≤ faultPlace_0 ∧ faultPlace_0 ≤ 2000) (kz_0_10 : 0 ≤ limit_0 ∧ limit_0 ≤ 2000) (kz_0_11 : 0 ≤ pos_0 ∧ pos_0 ≤ 2000) (kz_0_12 : 0 ≤ kind_0 ∧ kind_0 ≤ 4) (kz_0_13 : 0 ≤ place_0 ∧ place_0 ≤ 2000) (kz_0_14 : (-49) ≤ value_0 ∧ value_0 ≤ 1048575) (kz_0_15 : 0 ≤ from_0 ∧ from_0 ≤ 2000) : zOFw (limit_0) (pos_0) (kind_0) (place_0) (value_0) (from_0) (fault_0) (faultPlace_0) (r_0) (tape_0) (all_0) (x4) (x28) (x5) (x6) := by
  first | (have el_x17 : x17 = x15 := by omega); subst el_x17 | skip
  first | (have el_x18 : x18 = x4 := by omega); subst el_x18 | skip
  first | (have el_x19 : x19 = x5 := by omega); subst el_x19 | skip
  first | (have el_x20 : x20 = x6 := by omega); subst el_x20 | skip
  first | subst g0 | skip
  first | subst g1 | skip
  first | subst g3 | skip
  first
    | exact of_no_w ‹zOBw _ _ _ _ _ _ _ _ _ _ _ _ _ _› ‹SGQ _ _ _ _ _› (by omega) (by omega) (by omega)
    | exact Or.inl ⟨by omega, fs_w ‹FSX _ _ _ _› ‹ZH0 _› (by assumption)⟩
    | (refine Or.inl ⟨by omega, fs_w ?_ ?_ (by assumption)⟩ <;> assumption)
    | exact Or.inl ⟨by omega, or_l ‹zO11w _ _ _ _ _ _ _ _ _ _ _ _ _ _› (fun q => by have := q.1; omega)⟩
    | exact Or.inr (Or.inr ⟨by omega, ‹zRP13w _ _ _ _ _ _ _ _ _ _ _ _ _ _›⟩)
    | (exfalso; omega)
def o_Mo_of_at_s5003_23 : or_T := (129, 29, [(0, (2, 0, 0, [165])), (2, (0, 9, 9, [])), (3, (0, 0, 2000, [])), (4, (0, -1, 48, [])), (5, (0, 0, 7, [])), (6, (0, 0, 4, [])), (15, (0, 0, 2000, [])), (17, (0, 0, 2000, [])), (18, (0, -1, 48, [])), (19, (0, 0, 7, [])), (20, (0, 0, 4, [])), (22, (0, 0, 4, [])), (24, (0, 1, 1, [])), (25, (0, 0, 2000, [])), (26, (0, 0, 5, [])), (27, (0, 1, 5, [])), (28, (0, 0, 0, []))], [(9, [25, 7], [13]), (9, [22, 7], [12]), (9, [27, 7], [8]), (20, [7, 24, 25], [60, 1, 1, 1026, 10, 1]), (20, [26], [61, 0, 1029]), (23, [17, 15], [0, 1, -1]), (23, [17, 15], [0, -1, 1]), (23, [18, 4], [0, 1, -1]), (23, [18, 4], [0, -1, 1]), (23, [19, 5], [0, 1, -1]), (23, [19, 5], [0, -1, 1]), (23, [20, 6], [0, 1, -1]), (23, [20, 6], [0, -1, 1]), (23, [3, 17], [-1, 1, -1]), (24, [0, 7], []), (20, [7, 7], [30, 0, 1, 1, 15, -1, 1, 11]), (20, [7], [50, 3, 0, 12, 11, 15, 2, 21, 4, 7, 1, 3, 2, 0, 12, 0, 1, 0, 3, 2, 0, 11, 4, 3, 2, 0, 15, 0, 8, 3, 7, 1, 3, 2, 0, 12, 0, 0, 0, 7, 4, 3, 2, 0, 15, 0, 1, 2, 0, 11]), (20, [17, 7], [30, 0, 1, 0, 0, -1, 1, 11]), (20, [26, 7, 24, 25], [50, 2, 0, 1008, 1009, 3, 15, 2, 6, 0, 2, 0, 1, 1, 0, 1, 3, 2, 1, 8, 1, 0, 2, 6, 1, 2, 1, 0, 0, 0, 2, 7, 1, 3, 2, 1, 8, 1, 2, 1, 3, 2, 1, 9, 1, 3])], [], [], [(20, [0, 0], [30, 0, 1, 1, 15, -1, 1, 11]), (20, [0], [50, 3, 0, 12, 11, 15, 2, 21, 4, 7, 1, 3, 2, 0, 12, 0, 1, 0, 3, 2, 0, 11, 4, 3, 2, 0, 15, 0, 8, 3, 7, 1, 3, 2, 0, 12, 0, 0, 0, 7, 4, 3, 2, 0, 15, 0, 1, 2, 0, 11]), (20, [3, 0], [30, 0, 1, 0, 0, -1, 1, 11]), (20, [0, 3], [50, 3, 0, 8, 12, 11, 3, 7, 0, 2, 0, 1, 2, 0, 8, 3, 7, 1, 3, 2, 0, 12, 0, 0, 0, 6, 4, 2, 1, 1, 0, 1, 2, 0, 11]), (20, [0, 4], [50, 1, 0, 8, 3, 7, 0, 2, 0, 1, 2, 0, 8, 0, 2, 0, 0, 1, 1]), (20, [28, 2], [30, 0, 1, 0, 0, -1, 0, 0]), (20, [28], [30, 0, -1, 0, 0]), (20, [0, 4, 28, 5, 6], [60, 9, 2, 1014, 10, 11, 12, 13, 14, 15, 8, 9, 5, 1, 2])], [], [])
theorem oo_Mo_of_at_s5003_23 {kA : Nat → ClassId} : or_ok PRD kA GG o_Mo_of_at_s5003_23 := by
  refine or_mk fun A ta ws vs hD hth hl => ?_
  intro t0 r0 t2 k2 t3 k3 t4 k4 t5 k5 t6 k6 t15 k15 t17 k17 t18 k18 t19 k19 t20 k20 t22 k22 t24 k24 t25 k25 t26 k26 t27 k27 t28 k28 f0 f1 f3 f5 f6 f7 f8 f9 f10 f11 f12 f13 f14 f15 f20 f22 f23 f24 f26
  replace f0 := shm_361 f0
  replace f1 := shm_103 f1
  replace f3 := shm_293 f3
  replace f5 := shm_1724 f5
  replace f20 := shm_5 f20
  replace f22 := shm_1437 f22
  replace f23 := shm_1438 f23
  replace f24 := shm_1431 f24
  replace f26 := shm_306 f26
  have q7 : n_v vs 7 = n_v vs 0 := f20.symm
  simp only [q7] at f0 f1 f3 f5 f22 f23 f24 f26
  have cr_0_1 := fdq_39 hD hth r0
  have g0 : v_iv (n_v vs 25) = w_fi ws (n_v vs 0) 13 := congrArg v_iv f0
  have g1 : v_iv (n_v vs 22) = w_fi ws (n_v vs 0) 12 := congrArg v_iv f1
  have g3 : v_iv (n_v vs 27) = w_fi ws (n_v vs 0) 8 := congrArg v_iv f3
  have hK_0_1 := elq_7 hD hth cr_0_1
  have kz_0_8 := fdq_34 hD hth r0
  have kz_0_9 := fdq_44 hD hth r0
  have kz_0_10 := fdq_43 hD hth r0
  have kz_0_11 := fdq_237 hD hth r0
  have kz_0_12 := fdq_187 hD hth r0
  have kz_0_13 := fdq_238 hD hth r0
  have kz_0_14 := fdq_188 hD hth r0
  have kz_0_15 := fdq_239 hD hth r0
  have nf0 : fc_1 PRD (20, [0, 0], [30, 0, 1, 1, 15, -1, 1, 11]) ws (vs) := ⟨nf_in hl rfl, sgq_1437 (vc_Mo_of_at_s5003_23_0 (v_iv (n_v vs 24)) (v_iv (n_v vs 25)) (v_iv (n_v vs 26)) (w_fi ws (n_v vs 0) 12) (w_fi ws (n_v vs 0) 8) (w_ei ws (w_ar ws (n_v vs 0) 1)) (w_fi ws (n_v vs 0) 15) (w_fi ws (n_v vs 0) 11) (w_fi ws (n_v vs 0) 9) k24 k25 k26 f22 f23 f26 hK_0_1 kz_0_8 kz_0_9 kz_0_11 kz_0_12 kz_0_15)⟩
  have nf1 : fc_1 PRD (20, [0], [50, 3, 0, 12, 11, 15, 2, 21, 4, 7, 1, 3, 2, 0, 12, 0, 1, 0, 3, 2, 0, 11, 4, 3, 2, 0, 15, 0, 8, 3, 7, 1, 3, 2, 0, 12, 0, 0, 0, 7, 4, 3, 2, 0, 15, 0, 1, 2, 0, 11]) ws (vs) := ⟨nf_in hl rfl, sgq_1438 (vc_Mo_of_at_s5003_23_1 (v_iv (n_v vs 24)) (v_iv (n_v vs 25)) (v_iv (n_v vs 26)) (w_fi ws (n_v vs 0) 12) (w_fi ws (n_v vs 0) 8) (w_ei ws (w_ar ws (n_v vs 0) 1)) (w_fi ws (n_v vs 0) 15) (w_fi ws (n_v vs 0) 11) (w_fi ws (n_v vs 0) 9) k24 k25 k26 f23 f26 hK_0_1 kz_0_8 kz_0_9 kz_0_11 kz_0_12 kz_0_15)⟩
  have nf2 : fc_1 PRD (20, [3, 0], [30, 0, 1, 0, 0, -1, 1, 11]) ws (vs) := ⟨nf_in hl rfl, sgq_1431 (vc_Mo_of_at_s5003_23_2 (v_iv (n_v vs 3)) (v_iv (n_v vs 17)) (v_iv (n_v vs 24)) (v_iv (n_v vs 25)) (v_iv (n_v vs 26)) (w_fi ws (n_v vs 0) 12) (w_fi ws (n_v vs 0) 8) (w_ei ws (w_ar ws (n_v vs 0) 1)) (w_fi ws (n_v vs 0) 15) (w_fi ws (n_v vs 0) 11) (w_fi ws (n_v vs 0) 9) k3 k17 k24 k25 k26 (shm_193 f15) f23 f24 f26 hK_0_1 kz_0_8 kz_0_9 kz_0_11 kz_0_12 kz_0_15)⟩
  have nf3 : fc_1 PRD (20, [0, 3], [50, 3, 0, 8, 12, 11, 3, 7, 0, 2, 0, 1, 2, 0, 8, 3, 7, 1, 3, 2, 0, 12, 0, 0, 0, 6, 4, 2, 1, 1, 0, 1, 2, 0, 11]) ws (vs) := ⟨nf_in hl rfl, sgq_1722 (vc_Mo_of_at_s5003_23_3 (v_iv (n_v vs 3)) (v_iv (n_v vs 24)) (v_iv (n_v vs 25)) (v_iv (n_v vs 26)) (v_iv (n_v vs 27)) (w_fi ws (n_v vs 0) 12) (w_fi ws (n_v vs 0) 8) (w_ei ws (w_ar ws (n_v vs 0) 1)) (w_fi ws (n_v vs 0) 15) (w_fi ws (n_v vs 0) 11) (w_fi ws (n_v vs 0) 9) k3 k24 k25 k26 k27 g3 f23 f26 hK_0_1 kz_0_8 kz_0_9 kz_0_11 kz_0_12 kz_0_15)⟩
  have nf4 : fc_1 PRD (20, [0, 4], [50, 1, 0, 8, 3, 7, 0, 2, 0, 1, 2, 0, 8, 0, 2, 0, 0, 1, 1]) ws (vs) := ⟨nf_in hl rfl, sgq_2000 (vc_Mo_of_at_s5003_23_4 (v_iv (n_v vs 4)) (v_iv (n_v vs 24)) (v_iv (n_v vs 25)) (v_iv (n_v vs 26)) (v_iv (n_v vs 27)) (w_fi ws (n_v vs 0) 12) (w_fi ws (n_v vs 0) 8) (w_ei ws (w_ar ws (n_v vs 0) 1)) (w_fi ws (n_v vs 0) 15) (w_fi ws (n_v vs 0) 11) (w_fi ws (n_v vs 0) 9) k4 k24 k25 k26 k27 g3 f23 f26 hK_0_1 kz_0_8 kz_0_9 kz_0_11 kz_0_12 kz_0_15)⟩
  have nf5 : fc_1 PRD (20, [28, 2], [30, 0, 1, 0, 0, -1, 0, 0]) ws (vs) := ⟨nf_in hl rfl, sgq_201 (vc_Mo_of_at_s5003_23_5 (v_iv (n_v vs 2)) (v_iv (n_v vs 24)) (v_iv (n_v vs 25)) (v_iv (n_v vs 26)) (v_iv (n_v vs 28)) (w_fi ws (n_v vs 0) 12) (w_fi ws (n_v vs 0) 8) (w_ei ws (w_ar ws (n_v vs 0) 1)) (w_fi ws (n_v vs 0) 15) (w_fi ws (n_v vs 0) 11) (w_fi ws (n_v vs 0) 9) k2 k24 k25 k26 k28 f23 f26 hK_0_1 kz_0_8 kz_0_9 kz_0_11 kz_0_12 kz_0_15)⟩
  have nf6 : fc_1 PRD (20, [28], [30, 0, -1, 0, 0]) ws (vs) := ⟨nf_in hl rfl, sgq_2002 (vc_Mo_of_at_s5003_23_6 (v_iv (n_v vs 24)) (v_iv (n_v vs 25)) (v_iv (n_v vs 26)) (v_iv (n_v vs 28)) (w_fi ws (n_v vs 0) 12) (w_fi ws (n_v vs 0) 8) (w_ei ws (w_ar ws (n_v vs 0) 1)) (w_fi ws (n_v vs 0) 15) (w_fi ws (n_v vs 0) 11) (w_fi ws (n_v vs 0) 9) k24 k25 k26 k28 f23 f26 hK_0_1 kz_0_8 kz_0_9 kz_0_11 kz_0_12 kz_0_15)⟩
  have nf7 : fc_1 PRD (20, [0, 4, 28, 5, 6], [60, 9, 2, 1014, 10, 11, 12, 13, 14, 15, 8, 9, 5, 1, 2]) ws (vs) := ⟨nf_in hl rfl, sgq_2016 (vc_Mo_of_at_s5003_23_7 (v_iv (n_v vs 4)) (v_iv (n_v vs 5)) (v_iv (n_v vs 6)) (v_iv (n_v vs 15)) (v_iv (n_v vs 17)) (v_iv (n_v vs 18)) (v_iv (n_v vs 19)) (v_iv (n_v vs 20)) (v_iv (n_v vs 22)) (v_iv (n_v vs 24)) (v_iv (n_v vs 25)) (v_iv (n_v vs 26)) (v_iv (n_v vs 27)) (v_iv (n_v vs 28)) (w_fi ws (n_v vs 0) 13) (w_fi ws (n_v vs 0) 12) (w_fi ws (n_v vs 0) 8) (w_ei ws (w_ar ws (n_v vs 0) 1)) (w_fi ws (n_v vs 0) 10) (w_fi ws (n_v vs 0) 15) (w_fi ws (n_v vs 0) 11) (w_fi ws (n_v vs 0) 9) (w_fi ws (n_v vs 0) 14) (w_ei ws (w_ar ws (n_v vs 0) 2)) (w_fi ws (n_v vs 0) 5) k4 k5 k6 k15 k17 k18 k19 k20 k22 k24 k25 k26 k27 k28 g0 g1 g3 f5 (shm_1725 f6) (shm_7 f7) (shm_22 f8) (shm_7 f9) (shm_22 f10) (shm_7 f11) (shm_22 f12) (shm_7 f13) (shm_22 f14) f26 kz_0_8 kz_0_9 kz_0_10 kz_0_11 kz_0_12 kz_0_13 kz_0_14 kz_0_15)⟩
  refine ⟨(fun _ h => (by cases h)), [], trivial, ?_, (fun _ h => (by cases h))⟩
  rw [List.append_nil]
  exact List.forall_mem_cons.mpr ⟨⟨show (20 : Nat) < 100 from by decide, nf0⟩, List.forall_mem_cons.mpr ⟨⟨show (20 : Nat) < 100 from by decide, nf1⟩, List.forall_mem_cons.mpr ⟨⟨show (20 : Nat) < 100 from by decide, nf2⟩, List.forall_mem_cons.mpr ⟨⟨show (20 : Nat) < 100 from by decide, nf3⟩, List.forall_mem_cons.mpr ⟨⟨show (20 : Nat) < 100 from by decide, nf4⟩, List.forall_mem_cons.mpr ⟨⟨show (20 : Nat) < 100 from by decide, nf5⟩, List.forall_mem_cons.mpr ⟨⟨show (20 : Nat) < 100 from by decide, nf6⟩, List.forall_mem_cons.mpr ⟨⟨show (20 : Nat) < 100 from by decide, nf7⟩, (fun _ h => (by cases h))⟩⟩⟩⟩⟩⟩⟩⟩
set_option maxHeartbeats 4000000 in
theorem vc_Mo_of_at_s5003_24_0 (x15 : Int) (x17 : Int) (x22 : Int) (x25 : Int) (x27 : Int) (x31 : Int) (kind_0 : Int) (place_0 : Int) (fault_0 : Int) (tape_0 : Int → Int) (limit_0 : Int) (gx : Int) (k22 : 0 ≤ x22 ∧ x22 ≤ 4) (k25 : 0 ≤ x25 ∧ x25 ≤ 2000) (k27 : 0 ≤ x27 ∧ x27 ≤ 0) (k31 : 5 ≤ x31 ∧ x31 ≤ 5) (g0 : x22 = kind_0) (g1 : x25 = place_0) (g3 : x27 = fault_0) (f17 : (-1) * fault_0 + 0 ≤ (-1)) (kz_0_8 : 0 ≤ fault_0 ∧ fault_0 ≤ 5) (kz_0_10 : 0 ≤ limit_0 ∧ limit_0 ≤ 2000) (kz_0_12 : 0 ≤ kind_0 ∧ kind_0 ≤ 4) (kz_0_13 : 0 ≤ place_0 ∧ place_0 ≤ 2000) (ex2 : gx = fault_0) (ex3 : 0 ≤ gx ∧ gx ≤ 5) : FSX (limit_0) (tape_0) (x31) (x25) := by
  first | (have el_x17 : x17 = x15 := by omega); subst el_x17 | skip
  first | subst g0 | skip
  first | subst g1 | skip
  first | subst g3 | skip
  first | subst ex2 | skip
  first
    | exact fsx_cg (of_nv_s ‹zO11s _ _ _ _ _ _ _ _ _ _ _ _ _ _› (by omega) (by omega) (by omega)) (by omega) (by omega)
    | exact fsx_cg (of_nv_w ‹zO11w _ _ _ _ _ _ _ _ _ _ _ _ _ _› (by omega) (by omega) (by omega)) (by omega) (by omega)
    | (exfalso; omega)
set_option maxHeartbeats 4000000 in
theorem vc_Mo_of_at_s5003_24_1 (x24 : Int) (x25 : Int) (x26 : Int) (x27 : Int) (kind_0 : Int) (fault_0 : Int) (tape_0 : Int → Int) (from_0 : Int) (pos_0 : Int) (faultPlace_0 : Int) (gx : Int) (k24 : 1 ≤ x24 ∧ x24 ≤ 1) (k25 : 0 ≤ x25 ∧ x25 ≤ 2000) (k26 : 0 ≤ x26 ∧ x26 ≤ 5) (k27 : 0 ≤ x27 ∧ x27 ≤ 0) (g3 : x27 = fault_0) (f15 : ((kind_0 = 1) → (pos_0 ≤ (from_0 + 8))) ∧ ((kind_0 = 0) ∨ ((from_0 + 1) ≤ pos_0))) (f17 : (-1) * fault_0 + 0 ≤ (-1)) (f18 : ((1 ≤ x26) ∧ (fault_0 = x26)) ∨ ((x26 = 0) ∧ ((fault_0 = x24) ∧ (faultPlace_0 = x25)))) (hK_0_1 : ∀ j : Int, 0 ≤ j → j < 2000 → (-128) ≤ tape_0 j ∧ tape_0 j ≤ 127) (kz_0_8 : 0 ≤ fault_0 ∧ fault_0 ≤ 5) (kz_0_9 : 0 ≤ faultPlace_0 ∧ faultPlace_0 ≤ 2000) (kz_0_11 : 0 ≤ pos_0 ∧ pos_0 ≤ 2000) (kz_0_12 : 0 ≤ kind_0 ∧ kind_0 ≤ 4) (kz_0_15 : 0 ≤ from_0 ∧ from_0 ≤ 2000) : 1 * fault_0 + ((-1) * gx + 0) ≤ 0 := by
  first | with_reducible assumption | ((have f15_c0 := f15.1); (have f15_c1 := f15.2); (try and_intros) <;> first | with_reducible assumption | (clear f15_c0 f15_c1 f15 f18 hK_0_1; omega)) | ((have f15_c0 := f15.1); (have f15_c1 := f15.2); (try and_intros) <;> first | with_reducible assumption | (clear f15_c0 f15_c1 f15 hK_0_1; omega)) | omega
set_option maxHeartbeats 4000000 in
theorem vc_Mo_of_at_s5003_24_2 (x24 : Int) (x25 : Int) (x26 : Int) (x27 : Int) (kind_0 : Int) (fault_0 : Int) (tape_0 : Int → Int) (from_0 : Int) (pos_0 : Int) (faultPlace_0 : Int) (gx : Int) (k24 : 1 ≤ x24 ∧ x24 ≤ 1) (k25 : 0 ≤ x25 ∧ x25 ≤ 2000) (k26 : 0 ≤ x26 ∧ x26 ≤ 5) (k27 : 0 ≤ x27 ∧ x27 ≤ 0) (g3 : x27 = fault_0) (f15 : ((kind_0 = 1) → (pos_0 ≤ (from_0 + 8))) ∧ ((kind_0 = 0) ∨ ((from_0 + 1) ≤ pos_0))) (f17 : (-1) * fault_0 + 0 ≤ (-1)) (f18 : ((1 ≤ x26) ∧ (fault_0 = x26)) ∨ ((x26 = 0) ∧ ((fault_0 = x24) ∧ (faultPlace_0 = x25)))) (hK_0_1 : ∀ j : Int, 0 ≤ j → j < 2000 → (-128) ≤ tape_0 j ∧ tape_0 j ≤ 127) (kz_0_8 : 0 ≤ fault_0 ∧ fault_0 ≤ 5) (kz_0_9 : 0 ≤ faultPlace_0 ∧ faultPlace_0 ≤ 2000) (kz_0_11 : 0 ≤ pos_0 ∧ pos_0 ≤ 2000) (kz_0_12 : 0 ≤ kind_0 ∧ kind_0 ≤ 4) (kz_0_15 : 0 ≤ from_0 ∧ from_0 ≤ 2000) : (-1) * fault_0 + (1 * gx + 0) ≤ 0 := by
  first | with_reducible assumption | ((have f15_c0 := f15.1); (have f15_c1 := f15.2); (try and_intros) <;> first | with_reducible assumption | (clear f15_c0 f15_c1 f15 f18 hK_0_1; omega)) | ((have f15_c0 := f15.1); (have f15_c1 := f15.2); (try and_intros) <;> first | with_reducible assumption | (clear f15_c0 f15_c1 f15 hK_0_1; omega)) | omega
set_option maxHeartbeats 4000000 in
theorem vc_Mo_of_at_s5003_24_3 (x27 : Int) (fault_0 : Int) (gx : Int) (k27 : 0 ≤ x27 ∧ x27 ≤ 0) (g3 : x27 = fault_0) (f17 : (-1) * fault_0 + 0 ≤ (-1)) (kz_0_8 : 0 ≤ fault_0 ∧ fault_0 ≤ 5) : ZH0 (gx) := by
  first
    | exact ⟨by omega, by omega, trivial⟩
    | (have h := (oi_0_s ‹zOIs _ _ _ _ _ _ _ _ _ _ _ _ _ _›).1; exact ⟨by omega, by omega, trivial⟩)
    | (have h := (oi_0_w ‹zOIw _ _ _ _ _ _ _ _ _ _ _ _ _ _›).1; exact ⟨by omega, by omega, trivial⟩)
    | (exfalso; omega)
def o_Mo_of_at_s5003_24 : or_T := (118, 32, [(0, (2, 0, 0, [165])), (22, (0, 0, 4, [])), (24, (0, 1, 1, [])), (25, (0, 0, 2000, [])), (26, (0, 0, 5, [])), (27, (0, 0, 0, [])), (31, (0, 5, 5, []))], [(9, [22, 7], [12]), (9, [25, 7], [13]), (9, [27, 7], [8]), (24, [0, 7], []), (20, [7], [50, 3, 0, 12, 11, 15, 2, 21, 4, 7, 1, 3, 2, 0, 12, 0, 1, 0, 3, 2, 0, 11, 4, 3, 2, 0, 15, 0, 8, 3, 7, 1, 3, 2, 0, 12, 0, 0, 0, 7, 4, 3, 2, 0, 15, 0, 1, 2, 0, 11]), (20, [7], [30, -1, -1, 1, 8]), (20, [26, 7, 24, 25], [50, 2, 0, 1008, 1009, 3, 15, 2, 6, 0, 2, 0, 1, 1, 0, 1, 3, 2, 1, 8, 1, 0, 2, 6, 1, 2, 1, 0, 0, 0, 2, 7, 1, 3, 2, 1, 8, 1, 2, 1, 3, 2, 1, 9, 1, 3])], [], [(0, 0, 5, [])], [(20, [7, 31, 25], [60, 1, 1, 1026, 10, 1]), (20, [7, 32], [30, 0, 1, 1, 8, -1, 0, 0]), (20, [7, 32], [30, 0, -1, 1, 8, 1, 0, 0]), (20, [32], [61, 0, 1029])], [], [])
theorem oo_Mo_of_at_s5003_24 {kA : Nat → ClassId} : or_ok PRD kA GG o_Mo_of_at_s5003_24 := by
  refine or_mk fun A ta ws vs hD hth hl => ?_
  intro t0 r0 t22 k22 t24 k24 t25 k25 t26 k26 t27 k27 t31 k31 f0 f1 f3 f12 f15 f17 f18
  replace f0 := shm_103 f0
  replace f1 := shm_361 f1
  replace f3 := shm_293 f3
  replace f12 := shm_5 f12
  replace f15 := shm_1438 f15
  replace f17 := shm_305 f17
  replace f18 := shm_306 f18
  have q7 : n_v vs 7 = n_v vs 0 := f12.symm
  simp only [q7] at f0 f1 f3 f15 f17 f18
  have cr_0_1 := fdq_39 hD hth r0
  have g0 : v_iv (n_v vs 22) = w_fi ws (n_v vs 0) 12 := congrArg v_iv f0
  have g1 : v_iv (n_v vs 25) = w_fi ws (n_v vs 0) 13 := congrArg v_iv f1
  have g3 : v_iv (n_v vs 27) = w_fi ws (n_v vs 0) 8 := congrArg v_iv f3
  have hK_0_1 := elq_7 hD hth cr_0_1
  have kz_0_8 := fdq_34 hD hth r0
  have kz_0_9 := fdq_44 hD hth r0
  have kz_0_10 := fdq_43 hD hth r0
  have kz_0_11 := fdq_237 hD hth r0
  have kz_0_12 := fdq_187 hD hth r0
  have kz_0_13 := fdq_238 hD hth r0
  have kz_0_15 := fdq_239 hD hth r0
  obtain ⟨x, ex, hx⟩ := iv_ex (ta := ta) (lo := 0) (hi := 5) (z := w_fi ws (n_v vs 0) 8) (by omega) (by omega) (by omega) (by omega)
  have ex2 : v_iv (Value.int x) = w_fi ws (n_v vs 0) 8 := ex
  have ex3 : 0 ≤ v_iv (Value.int x) ∧ v_iv (Value.int x) ≤ 5 := tv_rng hx
  have e_7 : n_v (vs ++ [Value.int x]) 7 = n_v vs 7 := n_v_old (by rw [hl]; decide)
  have e_25 : n_v (vs ++ [Value.int x]) 25 = n_v vs 25 := n_v_old (by rw [hl]; decide)
  have e_31 : n_v (vs ++ [Value.int x]) 31 = n_v vs 31 := n_v_old (by rw [hl]; decide)
  have e_32 : n_v (vs ++ [Value.int x]) 32 = Value.int x := n_v_new hl
  have nf0 : fc_1 PRD (20, [7, 31, 25], [60, 1, 1, 1026, 10, 1]) ws (vs ++ [Value.int x]) := by
    refine ⟨nf_inA hl rfl, sgq_1724 ?_⟩
    · show FSX (w_fi ws (n_v (vs ++ [Value.int x]) 7) 10) (w_ei ws (w_ar ws (n_v (vs ++ [Value.int x]) 7) 1)) (v_iv (n_v (vs ++ [Value.int x]) 31)) (v_iv (n_v (vs ++ [Value.int x]) 25))
      simp only [e_7, e_25, e_31, q7]
      exact vc_Mo_of_at_s5003_24_0 (v_iv (n_v vs 15)) (v_iv (n_v vs 17)) (v_iv (n_v vs 22)) (v_iv (n_v vs 25)) (v_iv (n_v vs 27)) (v_iv (n_v vs 31)) (w_fi ws (n_v vs 0) 12) (w_fi ws (n_v vs 0) 13) (w_fi ws (n_v vs 0) 8) (w_ei ws (w_ar ws (n_v vs 0) 1)) (w_fi ws (n_v vs 0) 10) (v_iv (Value.int x)) k22 k25 k27 k31 g0 g1 g3 f17 kz_0_8 kz_0_10 kz_0_12 kz_0_13 ex2 ex3
  have nf1 : fc_1 PRD (20, [7, 32], [30, 0, 1, 1, 8, -1, 0, 0]) ws (vs ++ [Value.int x]) := by
    refine ⟨nf_inA hl rfl, sgq_303 ?_⟩
    · show 1 * w_fi ws (n_v (vs ++ [Value.int x]) 7) 8 + ((-1) * v_iv (n_v (vs ++ [Value.int x]) 32) + 0) ≤ 0
      simp only [e_7, e_32, q7]
      exact vc_Mo_of_at_s5003_24_1 (v_iv (n_v vs 24)) (v_iv (n_v vs 25)) (v_iv (n_v vs 26)) (v_iv (n_v vs 27)) (w_fi ws (n_v vs 0) 12) (w_fi ws (n_v vs 0) 8) (w_ei ws (w_ar ws (n_v vs 0) 1)) (w_fi ws (n_v vs 0) 15) (w_fi ws (n_v vs 0) 11) (w_fi ws (n_v vs 0) 9) (v_iv (Value.int x)) k24 k25 k26 k27 g3 f15 f17 f18 hK_0_1 kz_0_8 kz_0_9 kz_0_11 kz_0_12 kz_0_15
  have nf2 : fc_1 PRD (20, [7, 32], [30, 0, -1, 1, 8, 1, 0, 0]) ws (vs ++ [Value.int x]) := by
    refine ⟨nf_inA hl rfl, sgq_304 ?_⟩
    · show (-1) * w_fi ws (n_v (vs ++ [Value.int x]) 7) 8 + (1 * v_iv (n_v (vs ++ [Value.int x]) 32) + 0) ≤ 0
      simp only [e_7, e_32, q7]
      exact vc_Mo_of_at_s5003_24_2 (v_iv (n_v vs 24)) (v_iv (n_v vs 25)) (v_iv (n_v vs 26)) (v_iv (n_v vs 27)) (w_fi ws (n_v vs 0) 12) (w_fi ws (n_v vs 0) 8) (w_ei ws (w_ar ws (n_v vs 0) 1)) (w_fi ws (n_v vs 0) 15) (w_fi ws (n_v vs 0) 11) (w_fi ws (n_v vs 0) 9) (v_iv (Value.int x)) k24 k25 k26 k27 g3 f15 f17 f18 hK_0_1 kz_0_8 kz_0_9 kz_0_11 kz_0_12 kz_0_15
  have nf3 : fc_1 PRD (20, [32], [61, 0, 1029]) ws (vs ++ [Value.int x]) := by
    refine ⟨nf_inA hl rfl, sgq_1725 ?_⟩
    · show ZH0 (v_iv (n_v (vs ++ [Value.int x]) 32))
      rw [e_32]
      exact vc_Mo_of_at_s5003_24_3 (v_iv (n_v vs 27)) (w_fi ws (n_v vs 0) 8) (v_iv (Value.int x)) k27 g3 f17 kz_0_8
  exact ⟨(fun _ h => (by cases h)), [Value.int x], ag_one hx, List.forall_mem_cons.mpr ⟨⟨show (20 : Nat) < 100 from by decide, nf0⟩, List.forall_mem_cons.mpr ⟨⟨show (20 : Nat) < 100 from by decide, nf1⟩, List.forall_mem_cons.mpr ⟨⟨show (20 : Nat) < 100 from by decide, nf2⟩, List.forall_mem_cons.mpr ⟨⟨show (20 : Nat) < 100 from by decide, nf3⟩, (fun _ h => (by cases h))⟩⟩⟩⟩, (fun _ h => (by cases h))⟩
set_option maxHeartbeats 4000000 in
theorem vc_Mo_of_at_s5003_25_0 (x2 : Int) (x25 : Int) (x28 : Int) (x31 : Int) (x32 : Int) (x33 : Int) (kind_0 : Int) (fault_0 : Int) (tape_0 : Int → Int) (from_0 : Int) (pos_0 : Int) (faultPlace_0 : Int) (k2 : 9 ≤ x2 ∧ x2 ≤ 9) (k25 : 0 ≤ x25 ∧ x25 ≤ 2000) (k28 : (-49) ≤ x28 ∧ x28 ≤ 0) (k31 : 5 ≤ x31 ∧ x31 ≤ 5) (k32 : 0 ≤ x32 ∧ x32 ≤ 5) (k33 : 0 ≤ x33 ∧ x33 ≤ 0) (g4 : x33 = fault_0) (f20 : ((kind_0 = 1) → (pos_0 ≤ (from_0 + 8))) ∧ ((kind_0 = 0) ∨ ((from_0 + 1) ≤ pos_0))) (f22 : (-1) * fault_0 + 0 ≤ (-1)) (f23 : ((1 ≤ x32) ∧ (fault_0 = x32)) ∨ ((x32 = 0) ∧ ((fault_0 = x31) ∧ (faultPlace_0 = x25)))) (hK_0_1 : ∀ j : Int, 0 ≤ j → j < 2000 → (-128) ≤ tape_0 j ∧ tape_0 j ≤ 127) (kz_0_8 : 0 ≤ fault_0 ∧ fault_0 ≤ 5) (kz_0_9 : 0 ≤ faultPlace_0 ∧ faultPlace_0 ≤ 2000) (kz_0_11 : 0 ≤ pos_0 ∧ pos_0 ≤ 2000) (kz_0_12 : 0 ≤ kind_0 ∧ kind_0 ≤ 4) (kz_0_15 : 0 ≤ from_0 ∧ from_0 ≤ 2000) : 1 * x28 + ((-1) * x2 + 0) ≤ 0 := by
  first | with_reducible assumption | ((have f20_c0 := f20.1); (have f20_c1 := f20.2); (try and_intros) <;> first | with_reducible assumption | (clear f20_c0 f20_c1 f20 f23 hK_0_1; omega)) | ((have f20_c0 := f20.1); (have f20_c1 := f20.2); (try and_intros) <;> first | with_reducible assumption | (clear f20_c0 f20_c1 f20 hK_0_1; omega)) | omega
set_option maxHeartbeats 4000000 in
theorem vc_Mo_of_at_s5003_25_1 (x25 : Int) (x28 : Int) (x31 : Int) (x32 : Int) (x33 : Int) (kind_0 : Int) (fault_0 : Int) (tape_0 : Int → Int) (from_0 : Int) (pos_0 : Int) (faultPlace_0 : Int) (k25 : 0 ≤ x25 ∧ x25 ≤ 2000) (k28 : (-49) ≤ x28 ∧ x28 ≤ 0) (k31 : 5 ≤ x31 ∧ x31 ≤ 5) (k32 : 0 ≤ x32 ∧ x32 ≤ 5) (k33 : 0 ≤ x33 ∧ x33 ≤ 0) (g4 : x33 = fault_0) (f20 : ((kind_0 = 1) → (pos_0 ≤ (from_0 + 8))) ∧ ((kind_0 = 0) ∨ ((from_0 + 1) ≤ pos_0))) (f22 : (-1) * fault_0 + 0 ≤ (-1)) (f23 : ((1 ≤ x32) ∧ (fault_0 = x32)) ∨ ((x32 = 0) ∧ ((fault_0 = x31) ∧ (faultPlace_0 = x25)))) (hK_0_1 : ∀ j : Int, 0 ≤ j → j < 2000 → (-128) ≤ tape_0 j ∧ tape_0 j ≤ 127) (kz_0_8 : 0 ≤ fault_0 ∧ fault_0 ≤ 5) (kz_0_9 : 0 ≤ faultPlace_0 ∧ faultPlace_0 ≤ 2000) (kz_0_11 : 0 ≤ pos_0 ∧ pos_0 ≤ 2000) (kz_0_12 : 0 ≤ kind_0 ∧ kind_0 ≤ 4) (kz_0_15 : 0 ≤ from_0 ∧ from_0 ≤ 2000) : (-1) * x28 + 0 ≤ 0 := by
  first | with_reducible assumption | ((have f20_c0 := f20.1); (have f20_c1 := f20.2); (try and_intros) <;> first | with_reducible assumption | (clear f20_c0 f20_c1 f20 f23 hK_0_1; omega)) | ((have f20_c0 := f20.1); (have f20_c1 := f20.2); (try and_intros) <;> first | with_reducible assumption | (clear f20_c0 f20_c1 f20 hK_0_1; omega)) | omega
def o_Mo_of_at_s5003_25 : or_T := (135, 34, [(0, (2, 0, 0, [165])), (2, (0, 9, 9, [])), (3, (0, 0, 2000, [])), (7, (2, 0, 0, [165])), (9, (0, 9, 9, [])), (10, (0, -49, 0, [])), (11, (0, 0, 2000, [])), (15, (0, 0, 2000, [])), (17, (0, 0, 2000, [])), (22, (0, 0, 4, [])), (23, (0, 2, 2, [])), (24, (0, 1, 1, [])), (25, (0, 0, 2000, [])), (26, (0, 0, 5, [])), (28, (0, -49, 0, [])), (31, (0, 5, 5, [])), (32, (0, 0, 5, [])), (33, (0, 0, 0, []))], [(9, [25, 7], [13]), (9, [22, 7], [12]), (9, [28, 7], [14]), (8, [33], [5]), (9, [33, 7], [8]), (20, [7, 31, 25], [60, 1, 1, 1026, 10, 1]), (20, [32], [61, 0, 1029]), (20, [7, 24, 25], [60, 1, 1, 1026, 10, 1]), (20, [26], [61, 0, 1029]), (23, [17, 15], [0, 1, -1]), (23, [17, 15], [0, -1, 1]), (23, [3, 17], [-1, 1, -1]), (23, [11, 17], [-2000, -1, -1]), (23, [3, 15], [-1, 1, -1]), (23, [11, 15], [-2000, -1, -1]), (23, [10, 9], [0, 1, -1]), (23, [10], [0, -1]), (24, [0, 7], []), (24, [2, 9], []), (20, [7, 7], [30, 0, 1, 1, 15, -1, 1, 11]), (20, [7], [50, 3, 0, 12, 11, 15, 2, 21, 4, 7, 1, 3, 2, 0, 12, 0, 1, 0, 3, 2, 0, 11, 4, 3, 2, 0, 15, 0, 8, 3, 7, 1, 3, 2, 0, 12, 0, 0, 0, 7, 4, 3, 2, 0, 15, 0, 1, 2, 0, 11]), (20, [17, 7], [30, 0, 1, 0, 0, -1, 1, 11]), (20, [7], [30, -1, -1, 1, 8]), (20, [32, 7, 31, 25], [50, 2, 0, 1008, 1009, 3, 15, 2, 6, 0, 2, 0, 1, 1, 0, 1, 3, 2, 1, 8, 1, 0, 2, 6, 1, 2, 1, 0, 0, 0, 2, 7, 1, 3, 2, 1, 8, 1, 2, 1, 3, 2, 1, 9, 1, 3]), (102, [32], [0, 165008, 165009]), (23, [17, 15], [0, 1, -1]), (23, [17, 15], [0, -1, 1]), (23, [3, 17], [-1, 1, -1]), (23, [11, 17], [-2000, -1, -1]), (23, [3, 15], [-1, 1, -1]), (23, [11, 15], [-2000, -1, -1]), (23, [10, 9], [0, 1, -1]), (23, [10], [0, -1]), (102, [26], [0, 165008, 165009]), (7, [22, 23], [1]), (23, [17, 15], [0, 1, -1]), (23, [17, 15], [0, -1, 1]), (23, [3, 17], [-1, 1, -1]), (23, [11, 17], [-2000, -1, -1]), (23, [3, 15], [-1, 1, -1]), (23, [11, 15], [-2000, -1, -1]), (23, [10, 9], [0, 1, -1]), (23, [10], [0, -1]), (102, [20], [0, 165008, 165009, 165011, 165012, 165013, 165014, 165015]), (23, [17, 15], [0, 1, -1]), (23, [17, 15], [0, -1, 1]), (23, [3, 17], [-1, 1, -1]), (23, [11, 17], [-2000, -1, -1]), (23, [3, 15], [-1, 1, -1]), (23, [11, 15], [-2000, -1, -1]), (23, [10, 9], [0, 1, -1]), (23, [10], [0, -1]), (102, [15], [0, 165011, 165012, 165013, 165014, 165015]), (23, [3, 15], [-1, 1, -1]), (23, [11, 15], [-2000, -1, -1]), (8, [10], [5]), (23, [10, 9], [0, 1, -1]), (23, [10], [0, -1]), (102, [13], [0]), (23, [10, 9], [0, 1, -1]), (23, [10], [0, -1])], [], [], [(23, [28, 9], [0, 1, -1]), (23, [28], [0, -1])], [], [])
theorem oo_Mo_of_at_s5003_25 {kA : Nat → ClassId} : or_ok PRD kA GG o_Mo_of_at_s5003_25 := by
  refine or_mk fun A ta ws vs hD hth hl => ?_
  intro t0 r0 t2 k2 t3 k3 t7 r7 t9 k9 t10 k10 t11 k11 t15 k15 t17 k17 t22 k22 t23 k23 t24 k24 t25 k25 t26 k26 t28 k28 t31 k31 t32 k32 t33 k33 f0 f1 f2 f3 f4 f5 f6 f7 f8 f9 f10 f11 f12 f13 f14 f15 f16 f17 f18 f19 f20 f21 f22 f23 ta1 w1 le1 s1 f25 f26 f27 f28 f29 f30 f31 f32 ta2 w2 le2 s2 f34 f35 f36 f37 f38 f39 f40 f41 f42 ta3 w3 le3 s3 f44 f45 f46 f47 f48 f49 f50 f51 ta4 w4 le4 s4 f53 f54 f55 f56 f57 ta5 w5 le5 s5 f59 f60
  replace f4 := shm_293 f4
  replace f17 := shm_5 f17
  replace f18 := shm_5 f18
  replace f20 := shm_1438 f20
  replace f22 := shm_305 f22
  replace f23 := shm_306 f23
  have q7 : n_v vs 7 = n_v vs 0 := f17.symm
  have q9 : n_v vs 9 = n_v vs 2 := f18.symm
  simp only [q7] at f4 f20 f22 f23
  have cr_0_1 := fdq_39 hD hth r0
  have g4 : v_iv (n_v vs 33) = w_fi ws (n_v vs 0) 8 := congrArg v_iv f4
  have hK_0_1 := elq_7 hD hth cr_0_1
  have kz_0_8 := fdq_34 hD hth r0
  have kz_0_9 := fdq_44 hD hth r0
  have kz_0_11 := fdq_237 hD hth r0
  have kz_0_12 := fdq_187 hD hth r0
  have kz_0_15 := fdq_239 hD hth r0
  have nf0 : fc_1 PRD (23, [28, 9], [0, 1, -1]) ws (vs) := by
    refine ⟨nf_in hl rfl, sgq_7 ?_⟩
    · show 1 * v_iv (n_v vs 28) + ((-1) * v_iv (n_v vs 9) + 0) ≤ 0
      rw [q9]
      exact vc_Mo_of_at_s5003_25_0 (v_iv (n_v vs 2)) (v_iv (n_v vs 25)) (v_iv (n_v vs 28)) (v_iv (n_v vs 31)) (v_iv (n_v vs 32)) (v_iv (n_v vs 33)) (w_fi ws (n_v vs 0) 12) (w_fi ws (n_v vs 0) 8) (w_ei ws (w_ar ws (n_v vs 0) 1)) (w_fi ws (n_v vs 0) 15) (w_fi ws (n_v vs 0) 11) (w_fi ws (n_v vs 0) 9) k2 k25 k28 k31 k32 k33 g4 f20 f22 f23 hK_0_1 kz_0_8 kz_0_9 kz_0_11 kz_0_12 kz_0_15
  have nf1 : fc_1 PRD (23, [28], [0, -1]) ws (vs) := ⟨nf_in hl rfl, sgq_1043 (vc_Mo_of_at_s5003_25_1 (v_iv (n_v vs 25)) (v_iv (n_v vs 28)) (v_iv (n_v vs 31)) (v_iv (n_v vs 32)) (v_iv (n_v vs 33)) (w_fi ws (n_v vs 0) 12) (w_fi ws (n_v vs 0) 8) (w_ei ws (w_ar ws (n_v vs 0) 1)) (w_fi ws (n_v vs 0) 15) (w_fi ws (n_v vs 0) 11) (w_fi ws (n_v vs 0) 9) k25 k28 k31 k32 k33 g4 f20 f22 f23 hK_0_1 kz_0_8 kz_0_9 kz_0_11 kz_0_12 kz_0_15)⟩
  refine ⟨(fun _ h => (by cases h)), [], trivial, ?_, (fun _ h => (by cases h))⟩
  rw [List.append_nil]
  exact List.forall_mem_cons.mpr ⟨⟨show (23 : Nat) < 100 from by decide, nf0⟩, List.forall_mem_cons.mpr ⟨⟨show (23 : Nat) < 100 from by decide, nf1⟩, (fun _ h => (by cases h))⟩⟩
set_option maxHeartbeats 4000000 in
theorem vc_Mo_of_at_s5003_26_0 (x25 : Int) (x31 : Int) (x32 : Int) (x33 : Int) (kind_0 : Int) (fault_0 : Int) (tape_0 : Int → Int) (from_0 : Int) (pos_0 : Int) (faultPlace_0 : Int) (gx : Int) (k25 : 0 ≤ x25 ∧ x25 ≤ 2000) (k31 : 5 ≤ x31 ∧ x31 ≤ 5) (k32 : 0 ≤ x32 ∧ x32 ≤ 5) (k33 : 0 ≤ x33 ∧ x33 ≤ 0) (g6 : x33 = fault_0) (f29 : ((kind_0 = 1) → (pos_0 ≤ (from_0 + 8))) ∧ ((kind_0 = 0) ∨ ((from_0 + 1) ≤ pos_0))) (f31 : (-1) * fault_0 + 0 ≤ (-1)) (f32 : ((1 ≤ x32) ∧ (fault_0 = x32)) ∨ ((x32 = 0) ∧ ((fault_0 = x31) ∧ (faultPlace_0 = x25)))) (hK_0_1 : ∀ j : Int, 0 ≤ j → j < 2000 → (-128) ≤ tape_0 j ∧ tape_0 j ≤ 127) (kz_0_8 : 0 ≤ fault_0 ∧ fault_0 ≤ 5) (kz_0_9 : 0 ≤ faultPlace_0 ∧ faultPlace_0 ≤ 2000) (kz_0_11 : 0 ≤ pos_0 ∧ pos_0 ≤ 2000) (kz_0_12 : 0 ≤ kind_0 ∧ kind_0 ≤ 4) (kz_0_15 : 0 ≤ from_0 ∧ from_0 ≤ 2000) : 1 * gx + ((-1) * pos_0 + 0) ≤ 0 := by
  first | with_reducible assumption | ((have f29_c0 := f29.1); (have f29_c1 := f29.2); (try and_intros) <;> first | with_reducible assumption | (clear f29_c0 f29_c1 f29 f32 hK_0_1; omega)) | ((have f29_c0 := f29.1); (have f29_c1 := f29.2); (try and_intros) <;> first | with_reducible assumption | (clear f29_c0 f29_c1 f29 hK_0_1; omega)) | omega
set_option maxHeartbeats 4000000 in
theorem vc_Mo_of_at_s5003_26_1 (x25 : Int) (x31 : Int) (x32 : Int) (kind_0 : Int) (fault_0 : Int) (tape_0 : Int → Int) (from_0 : Int) (pos_0 : Int) (faultPlace_0 : Int) (gx : Int) (k25 : 0 ≤ x25 ∧ x25 ≤ 2000) (k31 : 5 ≤ x31 ∧ x31 ≤ 5) (k32 : 0 ≤ x32 ∧ x32 ≤ 5) (f29 : ((kind_0 = 1) → (pos_0 ≤ (from_0 + 8))) ∧ ((kind_0 = 0) ∨ ((from_0 + 1) ≤ pos_0))) (f32 : ((1 ≤ x32) ∧ (fault_0 = x32)) ∨ ((x32 = 0) ∧ ((fault_0 = x31) ∧ (faultPlace_0 = x25)))) (hK_0_1 : ∀ j : Int, 0 ≤ j → j < 2000 → (-128) ≤ tape_0 j ∧ tape_0 j ≤ 127) (kz_0_8 : 0 ≤ fault_0 ∧ fault_0 ≤ 5) (kz_0_9 : 0 ≤ faultPlace_0 ∧ faultPlace_0 ≤ 2000) (kz_0_11 : 0 ≤ pos_0 ∧ pos_0 ≤ 2000) (kz_0_12 : 0 ≤ kind_0 ∧ kind_0 ≤ 4) (kz_0_15 : 0 ≤ from_0 ∧ from_0 ≤ 2000) (ex2 : gx = pos_0) : gx = pos_0 := by
  first | with_reducible assumption | ((have f29_c0 := f29.1); (have f29_c1 := f29.2); (try and_intros) <;> first | with_reducible assumption | (clear f29_c0 f29_c1 f29 f32 hK_0_1; omega)) | ((have f29_c0 := f29.1); (have f29_c1 := f29.2); (try and_intros) <;> first | with_reducible assumption | (clear f29_c0 f29_c1 f29 hK_0_1; omega)) | omega
set_option maxHeartbeats 4000000 in
theorem vc_Mo_of_at_s5003_26_2 (x4 : Int) (x5 : Int) (x6 : Int) (x15 : Int) (x17 : Int) (x18 : Int) (x19 : Int) (x20 : Int) (x22 : Int) (x25 : Int) (x28 : Int) (x33 : Int) (place_0 : Int) (kind_0 : Int) (value_0 : Int) (fault_0 : Int) (limit_0 : Int) (pos_0 : Int) (gx : Int) (k22 : 0 ≤ x22 ∧ x22 ≤ 4) (k25 : 0 ≤ x25 ∧ x25 ≤ 2000) (k28 : (-49) ≤ x28 ∧ x28 ≤ 0) (k33 : 0 ≤ x33 ∧ x33 ≤ 0) (g0 : x25 = place_0) (g1 : x22 = kind_0) (g4 : x28 = value_0) (g6 : x33 = fault_0) (f31 : (-1) * fault_0 + 0 ≤ (-1)) (kz_0_8 : 0 ≤ fault_0 ∧ fault_0 ≤ 5) (kz_0_10 : 0 ≤ limit_0 ∧ limit_0 ≤ 2000) (kz_0_11 : 0 ≤ pos_0 ∧ pos_0 ≤ 2000) (kz_0_12 : 0 ≤ kind_0 ∧ kind_0 ≤ 4) (kz_0_13 : 0 ≤ place_0 ∧ place_0 ≤ 2000) (kz_0_14 : (-49) ≤ value_0 ∧ value_0 ≤ 1048575) (ex2 : gx = pos_0) : ZLM (limit_0) (pos_0) := by
  first | (have el_x17 : x17 = x15 := by omega); subst el_x17 | skip
  first | (have el_x18 : x18 = x4 := by omega); subst el_x18 | skip
  first | (have el_x19 : x19 = x5 := by omega); subst el_x19 | skip
  first | (have el_x20 : x20 = x6 := by omega); subst el_x20 | skip
  first | subst g0 | skip
  first | subst g1 | skip
  first | subst g4 | skip
  first | subst g6 | skip
  first | subst ex2 | skip
  first
    | exact ob_0_s ‹zOBs _ _ _ _ _ _ _ _ _ _ _ _ _ _› (sgq_t (C := 91) ‹SGQ _ _ _ _ _› (by omega) (by omega)).1
    | exact ob_0_w ‹zOBw _ _ _ _ _ _ _ _ _ _ _ _ _ _› (sgq_t (C := 91) ‹SGQ _ _ _ _ _› (by omega) (by omega)).1
    | exact (oi_0_s ‹zOIs _ _ _ _ _ _ _ _ _ _ _ _ _ _›).2
    | exact (oi_0_w ‹zOIw _ _ _ _ _ _ _ _ _ _ _ _ _ _›).2
    | exact o11_0_s ‹zO11s _ _ _ _ _ _ _ _ _ _ _ _ _ _› (by omega)
    | exact o11_0_w ‹zO11w _ _ _ _ _ _ _ _ _ _ _ _ _ _› (by omega)
    | (exfalso; omega)
set_option maxHeartbeats 4000000 in
theorem vc_Mo_of_at_s5003_26_3 (x3 : Int) (x25 : Int) (x31 : Int) (x32 : Int) (x33 : Int) (kind_0 : Int) (fault_0 : Int) (tape_0 : Int → Int) (from_0 : Int) (pos_0 : Int) (faultPlace_0 : Int) (gx : Int) (k3 : 0 ≤ x3 ∧ x3 ≤ 2000) (k25 : 0 ≤ x25 ∧ x25 ≤ 2000) (k31 : 5 ≤ x31 ∧ x31 ≤ 5) (k32 : 0 ≤ x32 ∧ x32 ≤ 5) (k33 : 0 ≤ x33 ∧ x33 ≤ 0) (g6 : x33 = fault_0) (f29 : ((kind_0 = 1) → (pos_0 ≤ (from_0 + 8))) ∧ ((kind_0 = 0) ∨ ((from_0 + 1) ≤ pos_0))) (f31 : (-1) * fault_0 + 0 ≤ (-1)) (f32 : ((1 ≤ x32) ∧ (fault_0 = x32)) ∨ ((x32 = 0) ∧ ((fault_0 = x31) ∧ (faultPlace_0 = x25)))) (hK_0_1 : ∀ j : Int, 0 ≤ j → j < 2000 → (-128) ≤ tape_0 j ∧ tape_0 j ≤ 127) (kz_0_8 : 0 ≤ fault_0 ∧ fault_0 ≤ 5) (kz_0_9 : 0 ≤ faultPlace_0 ∧ faultPlace_0 ≤ 2000) (kz_0_11 : 0 ≤ pos_0 ∧ pos_0 ≤ 2000) (kz_0_12 : 0 ≤ kind_0 ∧ kind_0 ≤ 4) (kz_0_15 : 0 ≤ from_0 ∧ from_0 ≤ 2000) : 1 * x3 + ((-1) * gx + 0) ≤ (-1) := by
  first | with_reducible assumption | ((have f29_c0 := f29.1); (have f29_c1 := f29.2); (try and_intros) <;> first | with_reducible assumption | (clear f29_c0 f29_c1 f29 f32 hK_0_1; omega)) | ((have f29_c0 := f29.1); (have f29_c1 := f29.2); (try and_intros) <;> first | with_reducible assumption | (clear f29_c0 f29_c1 f29 hK_0_1; omega)) | omega
set_option maxHeartbeats 4000000 in
theorem vc_Mo_of_at_s5003_26_4 (x11 : Int) (x25 : Int) (x31 : Int) (x32 : Int) (x33 : Int) (kind_0 : Int) (fault_0 : Int) (tape_0 : Int → Int) (from_0 : Int) (pos_0 : Int) (faultPlace_0 : Int) (gx : Int) (k11 : 0 ≤ x11 ∧ x11 ≤ 2000) (k25 : 0 ≤ x25 ∧ x25 ≤ 2000) (k31 : 5 ≤ x31 ∧ x31 ≤ 5) (k32 : 0 ≤ x32 ∧ x32 ≤ 5) (k33 : 0 ≤ x33 ∧ x33 ≤ 0) (g6 : x33 = fault_0) (f29 : ((kind_0 = 1) → (pos_0 ≤ (from_0 + 8))) ∧ ((kind_0 = 0) ∨ ((from_0 + 1) ≤ pos_0))) (f31 : (-1) * fault_0 + 0 ≤ (-1)) (f32 : ((1 ≤ x32) ∧ (fault_0 = x32)) ∨ ((x32 = 0) ∧ ((fault_0 = x31) ∧ (faultPlace_0 = x25)))) (hK_0_1 : ∀ j : Int, 0 ≤ j → j < 2000 → (-128) ≤ tape_0 j ∧ tape_0 j ≤ 127) (kz_0_8 : 0 ≤ fault_0 ∧ fault_0 ≤ 5) (kz_0_9 : 0 ≤ faultPlace_0 ∧ faultPlace_0 ≤ 2000) (kz_0_11 : 0 ≤ pos_0 ∧ pos_0 ≤ 2000) (kz_0_12 : 0 ≤ kind_0 ∧ kind_0 ≤ 4) (kz_0_15 : 0 ≤ from_0 ∧ from_0 ≤ 2000) : (-1) * x11 + ((-1) * gx + 0) ≤ (-2001) := by
  first | with_reducible assumption | ((have f29_c0 := f29.1); (have f29_c1 := f29.2); (try and_intros) <;> first | with_reducible assumption | (clear f29_c0 f29_c1 f29 f32 hK_0_1; omega)) | ((have f29_c0 := f29.1); (have f29_c1 := f29.2); (try and_intros) <;> first | with_reducible assumption | (clear f29_c0 f29_c1 f29 hK_0_1; omega)) | omega
set_option maxHeartbeats 4000000 in
theorem vc_Mo_of_at_s5003_26_5 (x4 : Int) (x5 : Int) (x6 : Int) (x15 : Int) (x17 : Int) (x18 : Int) (x19 : Int) (x20 : Int) (x22 : Int) (x25 : Int) (x28 : Int) (x33 : Int) (place_0 : Int) (kind_0 : Int) (value_0 : Int) (fault_0 : Int) (tape_0 : Int → Int) (limit_0 : Int) (pos_0 : Int) (gx : Int) (all_0 : Int → Int) (r_0 : Int) (k4 : (-1) ≤ x4 ∧ x4 ≤ 48) (k5 : 0 ≤ x5 ∧ x5 ≤ 7) (k6 : 0 ≤ x6 ∧ x6 ≤ 4) (k22 : 0 ≤ x22 ∧ x22 ≤ 4) (k25 : 0 ≤ x25 ∧ x25 ≤ 2000) (k28 : (-49) ≤ x28 ∧ x28 ≤ 0) (k33 : 0 ≤ x33 ∧ x33 ≤ 0) (g0 : x25 = place_0) (g1 : x22 = kind_0) (g4 : x28 = value_0) (g6 : x33 = fault_0) (f31 : (-1) * fault_0 + 0 ≤ (-1)) (kz_0_8 : 0 ≤ fault_0 ∧ fault_0 ≤ 5) (kz_0_10 : 0 ≤ limit_0 ∧ limit_0 ≤ 2000) (kz_0_11 : 0 ≤ pos_0 ∧ pos_0 ≤ 2000) (kz_0_12 : 0 ≤ kind_0 ∧ kind_0 ≤ 4) (kz_0_13 : 0 ≤ place_0 ∧ place_0 ≤ 2000) (kz_0_14 : (-49) ≤ value_0 ∧ value_0 ≤ 1048575) (ex2 : gx = pos_0) : zU12w (limit_0) (fault_0) (r_0) (tape_0) (all_0) (x4) (x28) (x5) (x6) (gx) := by
  first | (have el_x17 : x17 = x15 := by omega); subst el_x17 | skip
  first | (have el_x18 : x18 = x4 := by omega); subst el_x18 | skip
  first | (have el_x19 : x19 = x5 := by omega); subst el_x19 | skip
  first | (have el_x20 : x20 = x6 := by omega); subst el_x20 | skip
  first | subst g0 | skip
  first | subst g1 | skip
  first | subst g4 | skip
  first | subst g6 | skip
  first | subst ex2 | skip
  first
    | exact of_val_w ‹zO11w _ _ _ _ _ _ _ _ _ _ _ _ _ _› (by omega) (by omega) (by omega) (by omega) (by omega)
    | (exfalso; omega)
def o_Mo_of_at_s5003_26 : or_T := (136, 34, [(0, (2, 0, 0, [165])), (2, (0, 9, 9, [])), (3, (0, 0, 2000, [])), (4, (0, -1, 48, [])), (5, (0, 0, 7, [])), (6, (0, 0, 4, [])), (7, (2, 0, 0, [165])), (9, (0, 9, 9, [])), (10, (0, -49, 0, [])), (11, (0, 0, 2000, [])), (15, (0, 0, 2000, [])), (17, (0, 0, 2000, [])), (18, (0, -1, 48, [])), (19, (0, 0, 7, [])), (20, (0, 0, 4, [])), (22, (0, 0, 4, [])), (23, (0, 2, 2, [])), (24, (0, 1, 1, [])), (25, (0, 0, 2000, [])), (26, (0, 0, 5, [])), (28, (0, -49, 0, [])), (31, (0, 5, 5, [])), (32, (0, 0, 5, [])), (33, (0, 0, 0, []))], [(9, [25, 7], [13]), (9, [22, 7], [12]), (23, [28, 9], [0, 1, -1]), (23, [28], [0, -1]), (9, [28, 7], [14]), (8, [33], [5]), (9, [33, 7], [8]), (20, [7, 31, 25], [60, 1, 1, 1026, 10, 1]), (20, [32], [61, 0, 1029]), (20, [7, 24, 25], [60, 1, 1, 1026, 10, 1]), (20, [26], [61, 0, 1029]), (23, [17, 15], [0, 1, -1]), (23, [17, 15], [0, -1, 1]), (23, [18, 4], [0, 1, -1]), (23, [18, 4], [0, -1, 1]), (23, [19, 5], [0, 1, -1]), (23, [19, 5], [0, -1, 1]), (23, [20, 6], [0, 1, -1]), (23, [20, 6], [0, -1, 1]), (23, [3, 17], [-1, 1, -1]), (23, [11, 17], [-2000, -1, -1]), (23, [3, 15], [-1, 1, -1]), (23, [11, 15], [-2000, -1, -1]), (23, [10, 9], [0, 1, -1]), (23, [10], [0, -1]), (23, [4], [0, -1]), (24, [0, 7], []), (24, [2, 9], []), (20, [7, 7], [30, 0, 1, 1, 15, -1, 1, 11]), (20, [7], [50, 3, 0, 12, 11, 15, 2, 21, 4, 7, 1, 3, 2, 0, 12, 0, 1, 0, 3, 2, 0, 11, 4, 3, 2, 0, 15, 0, 8, 3, 7, 1, 3, 2, 0, 12, 0, 0, 0, 7, 4, 3, 2, 0, 15, 0, 1, 2, 0, 11]), (20, [17, 7], [30, 0, 1, 0, 0, -1, 1, 11]), (20, [7], [30, -1, -1, 1, 8]), (20, [32, 7, 31, 25], [50, 2, 0, 1008, 1009, 3, 15, 2, 6, 0, 2, 0, 1, 1, 0, 1, 3, 2, 1, 8, 1, 0, 2, 6, 1, 2, 1, 0, 0, 0, 2, 7, 1, 3, 2, 1, 8, 1, 2, 1, 3, 2, 1, 9, 1, 3]), (102, [32], [0, 165008, 165009]), (23, [17, 15], [0, 1, -1]), (23, [17, 15], [0, -1, 1]), (23, [18, 4], [0, 1, -1]), (23, [18, 4], [0, -1, 1]), (23, [19, 5], [0, 1, -1]), (23, [19, 5], [0, -1, 1]), (23, [20, 6], [0, 1, -1]), (23, [20, 6], [0, -1, 1]), (23, [3, 17], [-1, 1, -1]), (23, [11, 17], [-2000, -1, -1]), (23, [3, 15], [-1, 1, -1]), (23, [11, 15], [-2000, -1, -1]), (23, [10, 9], [0, 1, -1]), (23, [10], [0, -1]), (23, [4], [0, -1]), (102, [26], [0, 165008, 165009]), (7, [22, 23], [1]), (23, [17, 15], [0, 1, -1]), (23, [17, 15], [0, -1, 1]), (23, [18, 4], [0, 1, -1]), (23, [18, 4], [0, -1, 1]), (23, [19, 5], [0, 1, -1]), (23, [19, 5], [0, -1, 1]), (23, [20, 6], [0, 1, -1]), (23, [20, 6], [0, -1, 1]), (23, [3, 17], [-1, 1, -1]), (23, [11, 17], [-2000, -1, -1]), (23, [3, 15], [-1, 1, -1]), (23, [11, 15], [-2000, -1, -1]), (23, [10, 9], [0, 1, -1]), (23, [10], [0, -1]), (23, [4], [0, -1]), (102, [20], [0, 165008, 165009, 165011, 165012, 165013, 165014, 165015]), (23, [17, 15], [0, 1, -1]), (23, [17, 15], [0, -1, 1]), (23, [18, 4], [0, 1, -1]), (23, [18, 4], [0, -1, 1]), (23, [19, 5], [0, 1, -1]), (23, [19, 5], [0, -1, 1]), (23, [20, 6], [0, 1, -1]), (23, [20, 6], [0, -1, 1]), (23, [3, 17], [-1, 1, -1]), (23, [11, 17], [-2000, -1, -1]), (23, [3, 15], [-1, 1, -1]), (23, [11, 15], [-2000, -1, -1]), (23, [10, 9], [0, 1, -1]), (23, [10], [0, -1]), (23, [4], [0, -1]), (102, [15], [0, 165011, 165012, 165013, 165014, 165015]), (23, [3, 15], [-1, 1, -1]), (23, [11, 15], [-2000, -1, -1]), (8, [10], [5]), (23, [10, 9], [0, 1, -1]), (23, [10], [0, -1]), (23, [4], [0, -1]), (102, [13], [0]), (23, [10, 9], [0, 1, -1]), (23, [10], [0, -1]), (23, [4], [0, -1])], [], [(0, 0, 2000, [])], [(20, [34, 7], [30, 0, 1, 0, 0, -1, 1, 11]), (20, [34, 7], [50, 1, 0, 1011, 1, 2, 1, 0, 2, 1, 11]), (20, [7], [60, 2, 0, 947, 10, 11]), (23, [3, 34], [-1, 1, -1]), (23, [11, 34], [-2001, -1, -1]), (20, [7, 4, 28, 5, 6, 34], [60, 3, 2, 987, 10, 8, 5, 1, 2])], [], [])
theorem oo_Mo_of_at_s5003_26 {kA : Nat → ClassId} : or_ok PRD kA GG o_Mo_of_at_s5003_26 := by
  refine or_mk fun A ta ws vs hD hth hl => ?_
  intro t0 r0 t2 k2 t3 k3 t4 k4 t5 k5 t6 k6 t7 r7 t9 k9 t10 k10 t11 k11 t15 k15 t17 k17 t18 k18 t19 k19 t20 k20 t22 k22 t23 k23 t24 k24 t25 k25 t26 k26 t28 k28 t31 k31 t32 k32 t33 k33 f0 f1 f2 f3 f4 f5 f6 f7 f8 f9 f10 f11 f12 f13 f14 f15 f16 f17 f18 f19 f20 f21 f22 f23 f24 f25 f26 f27 f28 f29 f30 f31 f32 ta1 w1 le1 s1 f34 f35 f36 f37 f38 f39 f40 f41 f42 f43 f44 f45 f46 f47 f48 ta2 w2 le2 s2 f50 f51 f52 f53 f54 f55 f56 f57 f58 f59 f60 f61 f62 f63 f64 f65 ta3 w3 le3 s3 f67 f68 f69 f70 f71 f72 f73 f74 f75 f76 f77 f78 f79 f80 f81 ta4 w4 le4 s4 f83 f84 f85 f86 f87 f88 ta5 w5 le5 s5 f90 f91 f92
  replace f0 := shm_361 f0
  replace f1 := shm_103 f1
  replace f4 := shm_115 f4
  replace f6 := shm_293 f6
  replace f26 := shm_5 f26
  replace f29 := shm_1438 f29
  replace f31 := shm_305 f31
  replace f32 := shm_306 f32
  have q7 : n_v vs 7 = n_v vs 0 := f26.symm
  simp only [q7] at f0 f1 f4 f6 f29 f31 f32
  have cr_0_1 := fdq_39 hD hth r0
  have g0 : v_iv (n_v vs 25) = w_fi ws (n_v vs 0) 13 := congrArg v_iv f0
  have g1 : v_iv (n_v vs 22) = w_fi ws (n_v vs 0) 12 := congrArg v_iv f1
  have g4 : v_iv (n_v vs 28) = w_fi ws (n_v vs 0) 14 := congrArg v_iv f4
  have g6 : v_iv (n_v vs 33) = w_fi ws (n_v vs 0) 8 := congrArg v_iv f6
  have hK_0_1 := elq_7 hD hth cr_0_1
  have kz_0_8 := fdq_34 hD hth r0
  have kz_0_9 := fdq_44 hD hth r0
  have kz_0_10 := fdq_43 hD hth r0
  have kz_0_11 := fdq_237 hD hth r0
  have kz_0_12 := fdq_187 hD hth r0
  have kz_0_13 := fdq_238 hD hth r0
  have kz_0_14 := fdq_188 hD hth r0
  have kz_0_15 := fdq_239 hD hth r0
  obtain ⟨x, ex, hx⟩ := iv_ex (ta := ta) (lo := 0) (hi := 2000) (z := w_fi ws (n_v vs 0) 11) (by omega) (by omega) (by omega) (by omega)
  have ex2 : v_iv (Value.int x) = w_fi ws (n_v vs 0) 11 := ex
  have ex3 : 0 ≤ v_iv (Value.int x) ∧ v_iv (Value.int x) ≤ 2000 := tv_rng hx
  have e_3 : n_v (vs ++ [Value.int x]) 3 = n_v vs 3 := n_v_old (by rw [hl]; decide)
  have e_4 : n_v (vs ++ [Value.int x]) 4 = n_v vs 4 := n_v_old (by rw [hl]; decide)
  have e_5 : n_v (vs ++ [Value.int x]) 5 = n_v vs 5 := n_v_old (by rw [hl]; decide)
  have e_6 : n_v (vs ++ [Value.int x]) 6 = n_v vs 6 := n_v_old (by rw [hl]; decide)
  have e_7 : n_v (vs ++ [Value.int x]) 7 = n_v vs 7 := n_v_old (by rw [hl]; decide)
  have e_11 : n_v (vs ++ [Value.int x]) 11 = n_v vs 11 := n_v_old (by rw [hl]; decide)
  have e_28 : n_v (vs ++ [Value.int x]) 28 = n_v vs 28 := n_v_old (by rw [hl]; decide)
  have e_34 : n_v (vs ++ [Value.int x]) 34 = Value.int x := n_v_new hl
  have nf0 : fc_1 PRD (20, [34, 7], [30, 0, 1, 0, 0, -1, 1, 11]) ws (vs ++ [Value.int x]) := by
    refine ⟨nf_inA hl rfl, sgq_1431 ?_⟩
    · show 1 * v_iv (n_v (vs ++ [Value.int x]) 34) + ((-1) * w_fi ws (n_v (vs ++ [Value.int x]) 7) 11 + 0) ≤ 0
      simp only [e_7, e_34, q7]
      exact vc_Mo_of_at_s5003_26_0 (v_iv (n_v vs 25)) (v_iv (n_v vs 31)) (v_iv (n_v vs 32)) (v_iv (n_v vs 33)) (w_fi ws (n_v vs 0) 12) (w_fi ws (n_v vs 0) 8) (w_ei ws (w_ar ws (n_v vs 0) 1)) (w_fi ws (n_v vs 0) 15) (w_fi ws (n_v vs 0) 11) (w_fi ws (n_v vs 0) 9) (v_iv (Value.int x)) k25 k31 k32 k33 g6 f29 f31 f32 hK_0_1 kz_0_8 kz_0_9 kz_0_11 kz_0_12 kz_0_15
  have nf1 : fc_1 PRD (20, [34, 7], [50, 1, 0, 1011, 1, 2, 1, 0, 2, 1, 11]) ws (vs ++ [Value.int x]) := by
    refine ⟨nf_inA hl rfl, sgq_1432 ?_⟩
    · show v_iv (n_v (vs ++ [Value.int x]) 34) = w_fi ws (n_v (vs ++ [Value.int x]) 7) 11
      simp only [e_7, e_34, q7]
      exact vc_Mo_of_at_s5003_26_1 (v_iv (n_v vs 25)) (v_iv (n_v vs 31)) (v_iv (n_v vs 32)) (w_fi ws (n_v vs 0) 12) (w_fi ws (n_v vs 0) 8) (w_ei ws (w_ar ws (n_v vs 0) 1)) (w_fi ws (n_v vs 0) 15) (w_fi ws (n_v vs 0) 11) (w_fi ws (n_v vs 0) 9) (v_iv (Value.int x)) k25 k31 k32 f29 f32 hK_0_1 kz_0_8 kz_0_9 kz_0_11 kz_0_12 kz_0_15 ex2
  have nf2 : fc_1 PRD (20, [7], [60, 2, 0, 947, 10, 11]) ws (vs ++ [Value.int x]) := by
    refine ⟨nf_inA hl rfl, sgq_1433 ?_⟩
    · show ZLM (w_fi ws (n_v (vs ++ [Value.int x]) 7) 10) (w_fi ws (n_v (vs ++ [Value.int x]) 7) 11)
      simp only [e_7, q7]
      exact vc_Mo_of_at_s5003_26_2 (v_iv (n_v vs 4)) (v_iv (n_v vs 5)) (v_iv (n_v vs 6)) (v_iv (n_v vs 15)) (v_iv (n_v vs 17)) (v_iv (n_v vs 18)) (v_iv (n_v vs 19)) (v_iv (n_v vs 20)) (v_iv (n_v vs 22)) (v_iv (n_v vs 25)) (v_iv (n_v vs 28)) (v_iv (n_v vs 33)) (w_fi ws (n_v vs 0) 13) (w_fi ws (n_v vs 0) 12) (w_fi ws (n_v vs 0) 14) (w_fi ws (n_v vs 0) 8) (w_fi ws (n_v vs 0) 10) (w_fi ws (n_v vs 0) 11) (v_iv (Value.int x)) k22 k25 k28 k33 g0 g1 g4 g6 f31 kz_0_8 kz_0_10 kz_0_11 kz_0_12 kz_0_13 kz_0_14 ex2
  have nf3 : fc_1 PRD (23, [3, 34], [-1, 1, -1]) ws (vs ++ [Value.int x]) := by
    refine ⟨nf_inA hl rfl, sgq_193 ?_⟩
    · show 1 * v_iv (n_v (vs ++ [Value.int x]) 3) + ((-1) * v_iv (n_v (vs ++ [Value.int x]) 34) + 0) ≤ (-1)
      simp only [e_3, e_34]
      exact vc_Mo_of_at_s5003_26_3 (v_iv (n_v vs 3)) (v_iv (n_v vs 25)) (v_iv (n_v vs 31)) (v_iv (n_v vs 32)) (v_iv (n_v vs 33)) (w_fi ws (n_v vs 0) 12) (w_fi ws (n_v vs 0) 8) (w_ei ws (w_ar ws (n_v vs 0) 1)) (w_fi ws (n_v vs 0) 15) (w_fi ws (n_v vs 0) 11) (w_fi ws (n_v vs 0) 9) (v_iv (Value.int x)) k3 k25 k31 k32 k33 g6 f29 f31 f32 hK_0_1 kz_0_8 kz_0_9 kz_0_11 kz_0_12 kz_0_15
  have nf4 : fc_1 PRD (23, [11, 34], [-2001, -1, -1]) ws (vs ++ [Value.int x]) := by
    refine ⟨nf_inA hl rfl, sgq_2011 ?_⟩
    · show (-1) * v_iv (n_v (vs ++ [Value.int x]) 11) + ((-1) * v_iv (n_v (vs ++ [Value.int x]) 34) + 0) ≤ (-2001)
      simp only [e_11, e_34]
      exact vc_Mo_of_at_s5003_26_4 (v_iv (n_v vs 11)) (v_iv (n_v vs 25)) (v_iv (n_v vs 31)) (v_iv (n_v vs 32)) (v_iv (n_v vs 33)) (w_fi ws (n_v vs 0) 12) (w_fi ws (n_v vs 0) 8) (w_ei ws (w_ar ws (n_v vs 0) 1)) (w_fi ws (n_v vs 0) 15) (w_fi ws (n_v vs 0) 11) (w_fi ws (n_v vs 0) 9) (v_iv (Value.int x)) k11 k25 k31 k32 k33 g6 f29 f31 f32 hK_0_1 kz_0_8 kz_0_9 kz_0_11 kz_0_12 kz_0_15
  have nf5 : fc_1 PRD (20, [7, 4, 28, 5, 6, 34], [60, 3, 2, 987, 10, 8, 5, 1, 2]) ws (vs ++ [Value.int x]) := by
    refine ⟨nf_inA hl rfl, sgq_2020 ?_⟩
    · show zU12w (w_fi ws (n_v (vs ++ [Value.int x]) 7) 10) (w_fi ws (n_v (vs ++ [Value.int x]) 7) 8) (w_fi ws (n_v (vs ++ [Value.int x]) 7) 5) (w_ei ws (w_ar ws (n_v (vs ++ [Value.int x]) 7) 1)) (w_ei ws (w_ar ws (n_v (vs ++ [Value.int x]) 7) 2)) (v_iv (n_v (vs ++ [Value.int x]) 4)) (v_iv (n_v (vs ++ [Value.int x]) 28)) (v_iv (n_v (vs ++ [Value.int x]) 5)) (v_iv (n_v (vs ++ [Value.int x]) 6)) (v_iv (n_v (vs ++ [Value.int x]) 34))
      simp only [e_4, e_5, e_6, e_7, e_28, e_34, q7]
      exact vc_Mo_of_at_s5003_26_5 (v_iv (n_v vs 4)) (v_iv (n_v vs 5)) (v_iv (n_v vs 6)) (v_iv (n_v vs 15)) (v_iv (n_v vs 17)) (v_iv (n_v vs 18)) (v_iv (n_v vs 19)) (v_iv (n_v vs 20)) (v_iv (n_v vs 22)) (v_iv (n_v vs 25)) (v_iv (n_v vs 28)) (v_iv (n_v vs 33)) (w_fi ws (n_v vs 0) 13) (w_fi ws (n_v vs 0) 12) (w_fi ws (n_v vs 0) 14) (w_fi ws (n_v vs 0) 8) (w_ei ws (w_ar ws (n_v vs 0) 1)) (w_fi ws (n_v vs 0) 10) (w_fi ws (n_v vs 0) 11) (v_iv (Value.int x)) (w_ei ws (w_ar ws (n_v vs 0) 2)) (w_fi ws (n_v vs 0) 5) k4 k5 k6 k22 k25 k28 k33 g0 g1 g4 g6 f31 kz_0_8 kz_0_10 kz_0_11 kz_0_12 kz_0_13 kz_0_14 ex2
  exact ⟨(fun _ h => (by cases h)), [Value.int x], ag_one hx, List.forall_mem_cons.mpr ⟨⟨show (20 : Nat) < 100 from by decide, nf0⟩, List.forall_mem_cons.mpr ⟨⟨show (20 : Nat) < 100 from by decide, nf1⟩, List.forall_mem_cons.mpr ⟨⟨show (20 : Nat) < 100 from by decide, nf2⟩, List.forall_mem_cons.mpr ⟨⟨show (23 : Nat) < 100 from by decide, nf3⟩, List.forall_mem_cons.mpr ⟨⟨show (23 : Nat) < 100 from by decide, nf4⟩, List.forall_mem_cons.mpr ⟨⟨show (20 : Nat) < 100 from by decide, nf5⟩, (fun _ h => (by cases h))⟩⟩⟩⟩⟩⟩, (fun _ h => (by cases h))⟩
set_option maxHeartbeats 4000000 in
theorem vc_Mo_of_at_s5003_27_0 (x25 : Int) (x31 : Int) (x32 : Int) (fault_0 : Int) (tape_0 : Int → Int) (faultPlace_0 : Int) (from_0 : Int) (pos_0 : Int) (kind_0 : Int) (k25 : 0 ≤ x25 ∧ x25 ≤ 2000) (k31 : 5 ≤ x31 ∧ x31 ≤ 5) (k32 : 0 ≤ x32 ∧ x32 ≤ 5) (f28 : ((1 ≤ x32) ∧ (fault_0 = x32)) ∨ ((x32 = 0) ∧ ((fault_0 = x31) ∧ (faultPlace_0 = x25)))) (f29 : 1 * from_0 + ((-1) * pos_0 + 0) ≤ 0) (f30 : ((kind_0 = 1) → (pos_0 ≤ (from_0 + 8))) ∧ ((kind_0 = 0) ∨ ((from_0 + 1) ≤ pos_0))) (hK_0_1 : ∀ j : Int, 0 ≤ j → j < 2000 → (-128) ≤ tape_0 j ∧ tape_0 j ≤ 127) (kz_0_8 : 0 ≤ fault_0 ∧ fault_0 ≤ 5) (kz_0_9 : 0 ≤ faultPlace_0 ∧ faultPlace_0 ≤ 2000) (kz_0_11 : 0 ≤ pos_0 ∧ pos_0 ≤ 2000) (kz_0_12 : 0 ≤ kind_0 ∧ kind_0 ≤ 4) (kz_0_15 : 0 ≤ from_0 ∧ from_0 ≤ 2000) : 1 * from_0 + ((-1) * pos_0 + 0) ≤ 0 := by
  first | with_reducible assumption | ((have f30_c0 := f30.1); (have f30_c1 := f30.2); (try and_intros) <;> first | with_reducible assumption | (clear f28 f30_c0 f30_c1 f30 hK_0_1; omega)) | ((have f30_c0 := f30.1); (have f30_c1 := f30.2); (try and_intros) <;> first | with_reducible assumption | (clear f30_c0 f30_c1 f30 hK_0_1; omega)) | omega
set_option maxHeartbeats 4000000 in
theorem vc_Mo_of_at_s5003_27_1 (x25 : Int) (x31 : Int) (x32 : Int) (fault_0 : Int) (tape_0 : Int → Int) (faultPlace_0 : Int) (from_0 : Int) (pos_0 : Int) (kind_0 : Int) (k25 : 0 ≤ x25 ∧ x25 ≤ 2000) (k31 : 5 ≤ x31 ∧ x31 ≤ 5) (k32 : 0 ≤ x32 ∧ x32 ≤ 5) (f28 : ((1 ≤ x32) ∧ (fault_0 = x32)) ∨ ((x32 = 0) ∧ ((fault_0 = x31) ∧ (faultPlace_0 = x25)))) (f30 : ((kind_0 = 1) → (pos_0 ≤ (from_0 + 8))) ∧ ((kind_0 = 0) ∨ ((from_0 + 1) ≤ pos_0))) (hK_0_1 : ∀ j : Int, 0 ≤ j → j < 2000 → (-128) ≤ tape_0 j ∧ tape_0 j ≤ 127) (kz_0_8 : 0 ≤ fault_0 ∧ fault_0 ≤ 5) (kz_0_9 : 0 ≤ faultPlace_0 ∧ faultPlace_0 ≤ 2000) (kz_0_11 : 0 ≤ pos_0 ∧ pos_0 ≤ 2000) (kz_0_12 : 0 ≤ kind_0 ∧ kind_0 ≤ 4) (kz_0_15 : 0 ≤ from_0 ∧ from_0 ≤ 2000) : ((kind_0 = 1) → (pos_0 ≤ (from_0 + 8))) ∧ ((kind_0 = 0) ∨ ((from_0 + 1) ≤ pos_0)) := by
  first | with_reducible assumption | ((have f30_c0 := f30.1); (have f30_c1 := f30.2); (try and_intros) <;> first | with_reducible assumption | (clear f28 f30_c0 f30_c1 f30 hK_0_1; omega)) | ((have f30_c0 := f30.1); (have f30_c1 := f30.2); (try and_intros) <;> first | with_reducible assumption | (clear f30_c0 f30_c1 f30 hK_0_1; omega)) | omega
set_option maxHeartbeats 4000000 in
theorem vc_Mo_of_at_s5003_27_2 (x3 : Int) (x25 : Int) (x31 : Int) (x32 : Int) (x33 : Int) (fault_0 : Int) (tape_0 : Int → Int) (faultPlace_0 : Int) (from_0 : Int) (pos_0 : Int) (kind_0 : Int) (k3 : 0 ≤ x3 ∧ x3 ≤ 2000) (k25 : 0 ≤ x25 ∧ x25 ≤ 2000) (k31 : 5 ≤ x31 ∧ x31 ≤ 5) (k32 : 0 ≤ x32 ∧ x32 ≤ 5) (k33 : 0 ≤ x33 ∧ x33 ≤ 0) (g0 : x33 = fault_0) (f27 : (-1) * fault_0 + 0 ≤ (-1)) (f28 : ((1 ≤ x32) ∧ (fault_0 = x32)) ∨ ((x32 = 0) ∧ ((fault_0 = x31) ∧ (faultPlace_0 = x25)))) (f30 : ((kind_0 = 1) → (pos_0 ≤ (from_0 + 8))) ∧ ((kind_0 = 0) ∨ ((from_0 + 1) ≤ pos_0))) (hK_0_1 : ∀ j : Int, 0 ≤ j → j < 2000 → (-128) ≤ tape_0 j ∧ tape_0 j ≤ 127) (kz_0_8 : 0 ≤ fault_0 ∧ fault_0 ≤ 5) (kz_0_9 : 0 ≤ faultPlace_0 ∧ faultPlace_0 ≤ 2000) (kz_0_11 : 0 ≤ pos_0 ∧ pos_0 ≤ 2000) (kz_0_12 : 0 ≤ kind_0 ∧ kind_0 ≤ 4) (kz_0_15 : 0 ≤ from_0 ∧ from_0 ≤ 2000) : 1 * x3 + ((-1) * pos_0 + 0) ≤ (-1) := by
  first | with_reducible assumption | ((have f30_c0 := f30.1); (have f30_c1 := f30.2); (try and_intros) <;> first | with_reducible assumption | (clear f28 f30_c0 f30_c1 f30 hK_0_1; omega)) | ((have f30_c0 := f30.1); (have f30_c1 := f30.2); (try and_intros) <;> first | with_reducible assumption | (clear f30_c0 f30_c1 f30 hK_0_1; omega)) | omega
set_option maxHeartbeats 4000000 in
theorem vc_Mo_of_at_s5003_27_3 (x2 : Int) (x25 : Int) (x28 : Int) (x31 : Int) (x32 : Int) (fault_0 : Int) (tape_0 : Int → Int) (faultPlace_0 : Int) (from_0 : Int) (pos_0 : Int) (kind_0 : Int) (k2 : 9 ≤ x2 ∧ x2 ≤ 9) (k25 : 0 ≤ x25 ∧ x25 ≤ 2000) (k28 : (-49) ≤ x28 ∧ x28 ≤ 0) (k31 : 5 ≤ x31 ∧ x31 ≤ 5) (k32 : 0 ≤ x32 ∧ x32 ≤ 5) (f28 : ((1 ≤ x32) ∧ (fault_0 = x32)) ∨ ((x32 = 0) ∧ ((fault_0 = x31) ∧ (faultPlace_0 = x25)))) (f30 : ((kind_0 = 1) → (pos_0 ≤ (from_0 + 8))) ∧ ((kind_0 = 0) ∨ ((from_0 + 1) ≤ pos_0))) (f36 : 1 * x28 + ((-1) * x2 + 0) ≤ 0) (hK_0_1 : ∀ j : Int, 0 ≤ j → j < 2000 → (-128) ≤ tape_0 j ∧ tape_0 j ≤ 127) (kz_0_8 : 0 ≤ fault_0 ∧ fault_0 ≤ 5) (kz_0_9 : 0 ≤ faultPlace_0 ∧ faultPlace_0 ≤ 2000) (kz_0_11 : 0 ≤ pos_0 ∧ pos_0 ≤ 2000) (kz_0_12 : 0 ≤ kind_0 ∧ kind_0 ≤ 4) (kz_0_15 : 0 ≤ from_0 ∧ from_0 ≤ 2000) : 1 * x28 + ((-1) * x2 + 0) ≤ 0 := by
  first | with_reducible assumption | ((have f30_c0 := f30.1); (have f30_c1 := f30.2); (try and_intros) <;> first | with_reducible assumption | (clear f28 f30_c0 f30_c1 f30 hK_0_1; omega)) | ((have f30_c0 := f30.1); (have f30_c1 := f30.2); (try and_intros) <;> first | with_reducible assumption | (clear f30_c0 f30_c1 f30 hK_0_1; omega)) | omega
set_option maxHeartbeats 4000000 in
theorem vc_Mo_of_at_s5003_27_4 (x25 : Int) (x28 : Int) (x31 : Int) (x32 : Int) (fault_0 : Int) (tape_0 : Int → Int) (faultPlace_0 : Int) (from_0 : Int) (pos_0 : Int) (kind_0 : Int) (k25 : 0 ≤ x25 ∧ x25 ≤ 2000) (k28 : (-49) ≤ x28 ∧ x28 ≤ 0) (k31 : 5 ≤ x31 ∧ x31 ≤ 5) (k32 : 0 ≤ x32 ∧ x32 ≤ 5) (f28 : ((1 ≤ x32) ∧ (fault_0 = x32)) ∨ ((x32 = 0) ∧ ((fault_0 = x31) ∧ (faultPlace_0 = x25)))) (f30 : ((kind_0 = 1) → (pos_0 ≤ (from_0 + 8))) ∧ ((kind_0 = 0) ∨ ((from_0 + 1) ≤ pos_0))) (f37 : (-1) * x28 + 0 ≤ 0) (hK_0_1 : ∀ j : Int, 0 ≤ j → j < 2000 → (-128) ≤ tape_0 j ∧ tape_0 j ≤ 127) (kz_0_8 : 0 ≤ fault_0 ∧ fault_0 ≤ 5) (kz_0_9 : 0 ≤ faultPlace_0 ∧ faultPlace_0 ≤ 2000) (kz_0_11 : 0 ≤ pos_0 ∧ pos_0 ≤ 2000) (kz_0_12 : 0 ≤ kind_0 ∧ kind_0 ≤ 4) (kz_0_15 : 0 ≤ from_0 ∧ from_0 ≤ 2000) : (-1) * x28 + 0 ≤ 0 := by
  first | with_reducible assumption | ((have f30_c0 := f30.1); (have f30_c1 := f30.2); (try and_intros) <;> first | with_reducible assumption | (clear f28 f30_c0 f30_c1 f30 hK_0_1; omega)) | ((have f30_c0 := f30.1); (have f30_c1 := f30.2); (try and_intros) <;> first | with_reducible assumption | (clear f30_c0 f30_c1 f30 hK_0_1; omega)) | omega
set_option maxHeartbeats 4000000 in
theorem vc_Mo_of_at_s5003_27_5 (x4 : Int) (x25 : Int) (x31 : Int) (x32 : Int) (fault_0 : Int) (tape_0 : Int → Int) (faultPlace_0 : Int) (from_0 : Int) (pos_0 : Int) (kind_0 : Int) (k4 : (-1) ≤ x4 ∧ x4 ≤ 48) (k25 : 0 ≤ x25 ∧ x25 ≤ 2000) (k31 : 5 ≤ x31 ∧ x31 ≤ 5) (k32 : 0 ≤ x32 ∧ x32 ≤ 5) (f28 : ((1 ≤ x32) ∧ (fault_0 = x32)) ∨ ((x32 = 0) ∧ ((fault_0 = x31) ∧ (faultPlace_0 = x25)))) (f30 : ((kind_0 = 1) → (pos_0 ≤ (from_0 + 8))) ∧ ((kind_0 = 0) ∨ ((from_0 + 1) ≤ pos_0))) (f112 : (-1) * x4 + 0 ≤ 0) (hK_0_1 : ∀ j : Int, 0 ≤ j → j < 2000 → (-128) ≤ tape_0 j ∧ tape_0 j ≤ 127) (kz_0_8 : 0 ≤ fault_0 ∧ fault_0 ≤ 5) (kz_0_9 : 0 ≤ faultPlace_0 ∧ faultPlace_0 ≤ 2000) (kz_0_11 : 0 ≤ pos_0 ∧ pos_0 ≤ 2000) (kz_0_12 : 0 ≤ kind_0 ∧ kind_0 ≤ 4) (kz_0_15 : 0 ≤ from_0 ∧ from_0 ≤ 2000) : (-1) * x4 + 0 ≤ 0 := by
  first | with_reducible assumption | ((have f30_c0 := f30.1); (have f30_c1 := f30.2); (try and_intros) <;> first | with_reducible assumption | (clear f28 f30_c0 f30_c1 f30 hK_0_1; omega)) | ((have f30_c0 := f30.1); (have f30_c1 := f30.2); (try and_intros) <;> first | with_reducible assumption | (clear f30_c0 f30_c1 f30 hK_0_1; omega)) | omega
set_option maxHeartbeats 4000000 in
theorem vc_Mo_of_at_s5003_27_6 (x25 : Int) (x31 : Int) (x32 : Int) (x33 : Int) (fault_0 : Int) (tape_0 : Int → Int) (faultPlace_0 : Int) (from_0 : Int) (pos_0 : Int) (kind_0 : Int) (gx : Int) (k25 : 0 ≤ x25 ∧ x25 ≤ 2000) (k31 : 5 ≤ x31 ∧ x31 ≤ 5) (k32 : 0 ≤ x32 ∧ x32 ≤ 5) (k33 : 0 ≤ x33 ∧ x33 ≤ 0) (g0 : x33 = fault_0) (f27 : (-1) * fault_0 + 0 ≤ (-1)) (f28 : ((1 ≤ x32) ∧ (fault_0 = x32)) ∨ ((x32 = 0) ∧ ((fault_0 = x31) ∧ (faultPlace_0 = x25)))) (f30 : ((kind_0 = 1) → (pos_0 ≤ (from_0 + 8))) ∧ ((kind_0 = 0) ∨ ((from_0 + 1) ≤ pos_0))) (hK_0_1 : ∀ j : Int, 0 ≤ j → j < 2000 → (-128) ≤ tape_0 j ∧ tape_0 j ≤ 127) (kz_0_8 : 0 ≤ fault_0 ∧ fault_0 ≤ 5) (kz_0_9 : 0 ≤ faultPlace_0 ∧ faultPlace_0 ≤ 2000) (kz_0_11 : 0 ≤ pos_0 ∧ pos_0 ≤ 2000) (kz_0_12 : 0 ≤ kind_0 ∧ kind_0 ≤ 4) (kz_0_15 : 0 ≤ from_0 ∧ from_0 ≤ 2000) : (-1) * gx + ((-1) * pos_0 + 0) ≤ (-2001) := by
  first | with_reducible assumption | ((have f30_c0 := f30.1); (have f30_c1 := f30.2); (try and_intros) <;> first | with_reducible assumption | (clear f28 f30_c0 f30_c1 f30 hK_0_1; omega)) | ((have f30_c0 := f30.1); (have f30_c1 := f30.2); (try and_intros) <;> first | with_reducible assumption | (clear f30_c0 f30_c1 f30 hK_0_1; omega)) | omega
set_option maxHeartbeats 4000000 in
theorem vc_Mo_of_at_s5003_27_7 (x4 : Int) (x5 : Int) (x6 : Int) (x15 : Int) (x17 : Int) (x18 : Int) (x19 : Int) (x20 : Int) (x28 : Int) (x33 : Int) (x34 : Int) (fault_0 : Int) (tape_0 : Int → Int) (all_0 : Int → Int) (limit_0 : Int) (r_0 : Int) (from_0 : Int) (pos_0 : Int) (kind_0 : Int) (place_0 : Int) (value_0 : Int) (k4 : (-1) ≤ x4 ∧ x4 ≤ 48) (k5 : 0 ≤ x5 ∧ x5 ≤ 7) (k6 : 0 ≤ x6 ∧ x6 ≤ 4) (k28 : (-49) ≤ x28 ∧ x28 ≤ 0) (k33 : 0 ≤ x33 ∧ x33 ≤ 0) (k34 : 0 ≤ x34 ∧ x34 ≤ 2000) (g0 : x33 = fault_0) (f3 : zU12w (limit_0) (fault_0) (r_0) (tape_0) (all_0) (x4) (x28) (x5) (x6) (x34)) (f27 : (-1) * fault_0 + 0 ≤ (-1)) (f32 : TKR (limit_0) (pos_0) (kind_0) (place_0) (value_0) (from_0) (tape_0) (x34)) (kz_0_8 : 0 ≤ fault_0 ∧ fault_0 ≤ 5) (kz_0_10 : 0 ≤ limit_0 ∧ limit_0 ≤ 2000) (kz_0_11 : 0 ≤ pos_0 ∧ pos_0 ≤ 2000) (kz_0_12 : 0 ≤ kind_0 ∧ kind_0 ≤ 4) (kz_0_13 : 0 ≤ place_0 ∧ place_0 ≤ 2000) (kz_0_14 : (-49) ≤ value_0 ∧ value_0 ≤ 1048575) (kz_0_15 : 0 ≤ from_0 ∧ from_0 ≤ 2000) : zO12w (limit_0) (pos_0) (kind_0) (place_0) (value_0) (from_0) (fault_0) (r_0) (tape_0) (all_0) (x4) (x28) (x5) (x6) := by
  first | (have el_x17 : x17 = x15 := by omega); subst el_x17 | skip
  first | (have el_x18 : x18 = x4 := by omega); subst el_x18 | skip
  first | (have el_x19 : x19 = x5 := by omega); subst el_x19 | skip
  first | (have el_x20 : x20 = x6 := by omega); subst el_x20 | skip
  first | subst g0 | skip
  first
    | exact of_12_w ‹zU12w _ _ _ _ _ _ _ _ _ _› ‹TKR _ _ _ _ _ _ _ _›
    | (exfalso; omega)
def o_Mo_of_at_s5003_27 : or_T := (139, 35, [(0, (2, 0, 0, [165])), (2, (0, 9, 9, [])), (3, (0, 0, 2000, [])), (4, (0, -1, 48, [])), (5, (0, 0, 7, [])), (6, (0, 0, 4, [])), (7, (2, 0, 0, [165])), (9, (0, 9, 9, [])), (10, (0, -49, 0, [])), (11, (0, 0, 2000, [])), (15, (0, 0, 2000, [])), (17, (0, 0, 2000, [])), (18, (0, -1, 48, [])), (19, (0, 0, 7, [])), (20, (0, 0, 4, [])), (24, (0, 1, 1, [])), (25, (0, 0, 2000, [])), (26, (0, 0, 5, [])), (28, (0, -49, 0, [])), (31, (0, 5, 5, [])), (32, (0, 0, 5, [])), (33, (0, 0, 0, [])), (34, (0, 0, 2000, []))], [(9, [33, 7], [8]), (23, [3, 34], [-1, 1, -1]), (23, [11, 34], [-2001, -1, -1]), (20, [7, 4, 28, 5, 6, 34], [60, 3, 2, 987, 10, 8, 5, 1, 2]), (23, [28, 9], [0, 1, -1]), (23, [28], [0, -1]), (20, [7, 31, 25], [60, 1, 1, 1026, 10, 1]), (20, [32], [61, 0, 1029]), (20, [7, 24, 25], [60, 1, 1, 1026, 10, 1]), (20, [26], [61, 0, 1029]), (23, [17, 15], [0, 1, -1]), (23, [17, 15], [0, -1, 1]), (23, [18, 4], [0, 1, -1]), (23, [18, 4], [0, -1, 1]), (23, [19, 5], [0, 1, -1]), (23, [19, 5], [0, -1, 1]), (23, [20, 6], [0, 1, -1]), (23, [20, 6], [0, -1, 1]), (23, [3, 17], [-1, 1, -1]), (23, [11, 17], [-2000, -1, -1]), (23, [3, 15], [-1, 1, -1]), (23, [11, 15], [-2000, -1, -1]), (23, [10, 9], [0, 1, -1]), (23, [10], [0, -1]), (23, [4], [0, -1]), (24, [0, 7], []), (24, [2, 9], []), (20, [7], [30, -1, -1, 1, 8]), (20, [32, 7, 31, 25], [50, 2, 0, 1008, 1009, 3, 15, 2, 6, 0, 2, 0, 1, 1, 0, 1, 3, 2, 1, 8, 1, 0, 2, 6, 1, 2, 1, 0, 0, 0, 2, 7, 1, 3, 2, 1, 8, 1, 2, 1, 3, 2, 1, 9, 1, 3]), (20, [7, 7], [30, 0, 1, 1, 15, -1, 1, 11]), (20, [7], [50, 3, 0, 12, 11, 15, 2, 21, 4, 7, 1, 3, 2, 0, 12, 0, 1, 0, 3, 2, 0, 11, 4, 3, 2, 0, 15, 0, 8, 3, 7, 1, 3, 2, 0, 12, 0, 0, 0, 7, 4, 3, 2, 0, 15, 0, 1, 2, 0, 11]), (20, [34, 7], [30, 0, 1, 0, 0, -1, 1, 15]), (20, [7, 34], [60, 6, 1, 948, 10, 11, 12, 13, 14, 15, 1]), (102, [34], [0, 165011, 165012, 165013, 165014, 165015]), (23, [3, 34], [-1, 1, -1]), (23, [11, 34], [-2001, -1, -1]), (23, [28, 9], [0, 1, -1]), (23, [28], [0, -1]), (8, [33], [5]), (23, [17, 15], [0, 1, -1]), (23, [17, 15], [0, -1, 1]), (23, [18, 4], [0, 1, -1]), (23, [18, 4], [0, -1, 1]), (23, [19, 5], [0, 1, -1]), (23, [19, 5], [0, -1, 1]), (23, [20, 6], [0, 1, -1]), (23, [20, 6], [0, -1, 1]), (23, [3, 17], [-1, 1, -1]), (23, [11, 17], [-2000, -1, -1]), (23, [3, 15], [-1, 1, -1]), (23, [11, 15], [-2000, -1, -1]), (23, [10, 9], [0, 1, -1]), (23, [10], [0, -1]), (23, [4], [0, -1]), (102, [32], [0, 165008, 165009]), (23, [17, 15], [0, 1, -1]), (23, [17, 15], [0, -1, 1]), (23, [18, 4], [0, 1, -1]), (23, [18, 4], [0, -1, 1]), (23, [19, 5], [0, 1, -1]), (23, [19, 5], [0, -1, 1]), (23, [20, 6], [0, 1, -1]), (23, [20, 6], [0, -1, 1]), (23, [3, 17], [-1, 1, -1]), (23, [11, 17], [-2000, -1, -1]), (23, [3, 15], [-1, 1, -1]), (23, [11, 15], [-2000, -1, -1]), (23, [10, 9], [0, 1, -1]), (23, [10], [0, -1]), (23, [4], [0, -1]), (102, [26], [0, 165008, 165009]), (23, [17, 15], [0, 1, -1]), (23, [17, 15], [0, -1, 1]), (23, [18, 4], [0, 1, -1]), (23, [18, 4], [0, -1, 1]), (23, [19, 5], [0, 1, -1]), (23, [19, 5], [0, -1, 1]), (23, [20, 6], [0, 1, -1]), (23, [20, 6], [0, -1, 1]), (23, [3, 17], [-1, 1, -1]), (23, [11, 17], [-2000, -1, -1]), (23, [3, 15], [-1, 1, -1]), (23, [11, 15], [-2000, -1, -1]), (23, [10, 9], [0, 1, -1]), (23, [10], [0, -1]), (23, [4], [0, -1]), (102, [20], [0, 165008, 165009, 165011, 165012, 165013, 165014, 165015]), (23, [17, 15], [0, 1, -1]), (23, [17, 15], [0, -1, 1]), (23, [18, 4], [0, 1, -1]), (23, [18, 4], [0, -1, 1]), (23, [19, 5], [0, 1, -1]), (23, [19, 5], [0, -1, 1]), (23, [20, 6], [0, 1, -1]), (23, [20, 6], [0, -1, 1]), (23, [3, 17], [-1, 1, -1]), (23, [11, 17], [-2000, -1, -1]), (23, [3, 15], [-1, 1, -1]), (23, [11, 15], [-2000, -1, -1]), (23, [10, 9], [0, 1, -1]), (23, [10], [0, -1]), (23, [4], [0, -1]), (102, [15], [0, 165011, 165012, 165013, 165014, 165015]), (23, [3, 15], [-1, 1, -1]), (23, [11, 15], [-2000, -1, -1]), (8, [10], [5]), (23, [10, 9], [0, 1, -1]), (23, [10], [0, -1]), (23, [4], [0, -1]), (102, [13], [0]), (23, [10, 9], [0, 1, -1]), (23, [10], [0, -1]), (23, [4], [0, -1])], [], [(0, 0, 2000, [])], [(20, [7, 7], [30, 0, 1, 1, 15, -1, 1, 11]), (20, [7], [50, 3, 0, 12, 11, 15, 2, 21, 4, 7, 1, 3, 2, 0, 12, 0, 1, 0, 3, 2, 0, 11, 4, 3, 2, 0, 15, 0, 8, 3, 7, 1, 3, 2, 0, 12, 0, 0, 0, 7, 4, 3, 2, 0, 15, 0, 1, 2, 0, 11]), (20, [3, 7], [30, -1, 1, 0, 0, -1, 1, 11]), (23, [28, 9], [0, 1, -1]), (23, [28], [0, -1]), (23, [4], [0, -1]), (20, [35, 7], [30, -2001, -1, 0, 0, -1, 1, 11]), (20, [7, 4, 28, 5, 6], [60, 8, 2, 1000, 10, 11, 12, 13, 14, 15, 8, 5, 1, 2]), (24, [0, 7], []), (24, [2, 9], [])], [(35, 11, 0, 0)], [])
theorem oo_Mo_of_at_s5003_27 {kA : Nat → ClassId} : or_ok PRD kA GG o_Mo_of_at_s5003_27 := by
  refine or_mk fun A ta ws vs hD hth hl => ?_
  intro t0 r0 t2 k2 t3 k3 t4 k4 t5 k5 t6 k6 t7 r7 t9 k9 t10 k10 t11 k11 t15 k15 t17 k17 t18 k18 t19 k19 t20 k20 t24 k24 t25 k25 t26 k26 t28 k28 t31 k31 t32 k32 t33 k33 t34 k34 f0 f1 f2 f3 f4 f5 f6 f7 f8 f9 f10 f11 f12 f13 f14 f15 f16 f17 f18 f19 f20 f21 f22 f23 f24 f25 f26 f27 f28 f29 f30 f31 f32 ta1 w1 le1 s1 f34 f35 f36 f37 f38 f39 f40 f41 f42 f43 f44 f45 f46 f47 f48 f49 f50 f51 f52 f53 ta2 w2 le2 s2 f55 f56 f57 f58 f59 f60 f61 f62 f63 f64 f65 f66 f67 f68 f69 ta3 w3 le3 s3 f71 f72 f73 f74 f75 f76 f77 f78 f79 f80 f81 f82 f83 f84 f85 ta4 w4 le4 s4 f87 f88 f89 f90 f91 f92 f93 f94 f95 f96 f97 f98 f99 f100 f101 ta5 w5 le5 s5 f103 f104 f105 f106 f107 f108 ta6 w6 le6 s6 f110 f111 f112
  replace f0 := shm_293 f0
  replace f1 := shm_193 f1
  replace f2 := shm_2011 f2
  replace f3 := shm_2020 f3
  replace f4 := shm_7 f4
  replace f5 := shm_1043 f5
  replace f6 := shm_1724 f6
  replace f7 := shm_1725 f7
  replace f8 := shm_1724 f8
  replace f9 := shm_1725 f9
  replace f10 := shm_7 f10
  replace f11 := shm_22 f11
  replace f12 := shm_7 f12
  replace f13 := shm_22 f13
  replace f14 := shm_7 f14
  replace f15 := shm_22 f15
  replace f16 := shm_7 f16
  replace f17 := shm_22 f17
  replace f18 := shm_193 f18
  replace f19 := shm_2009 f19
  replace f20 := shm_193 f20
  replace f21 := shm_2009 f21
  replace f22 := shm_7 f22
  replace f23 := shm_1043 f23
  replace f24 := shm_1043 f24
  replace f25 := shm_5 f25
  replace f26 := shm_5 f26
  replace f27 := shm_305 f27
  replace f28 := shm_306 f28
  replace f29 := shm_1437 f29
  replace f30 := shm_1438 f30
  replace f31 := shm_1436 f31
  replace f32 := shm_1439 f32
  replace f34 := shm_193 f34
  replace f35 := shm_2011 f35
  replace f36 := shm_7 f36
  replace f37 := shm_1043 f37
  replace f38 := shm_295 f38
  replace f39 := shm_7 f39
  replace f40 := shm_22 f40
  replace f41 := shm_7 f41
  replace f42 := shm_22 f42
  replace f43 := shm_7 f43
  replace f44 := shm_22 f44
  replace f45 := shm_7 f45
  replace f46 := shm_22 f46
  replace f47 := shm_193 f47
  replace f48 := shm_2009 f48
  replace f49 := shm_193 f49
  replace f50 := shm_2009 f50
  replace f51 := shm_7 f51
  replace f52 := shm_1043 f52
  replace f53 := shm_1043 f53
  replace f55 := shm_7 f55
  replace f56 := shm_22 f56
  replace f57 := shm_7 f57
  replace f58 := shm_22 f58
  replace f59 := shm_7 f59
  replace f60 := shm_22 f60
  replace f61 := shm_7 f61
  replace f62 := shm_22 f62
  replace f63 := shm_193 f63
  replace f64 := shm_2009 f64
  replace f65 := shm_193 f65
  replace f66 := shm_2009 f66
  replace f67 := shm_7 f67
  replace f68 := shm_1043 f68
  replace f69 := shm_1043 f69
  replace f71 := shm_7 f71
  replace f72 := shm_22 f72
  replace f73 := shm_7 f73
  replace f74 := shm_22 f74
  replace f75 := shm_7 f75
  replace f76 := shm_22 f76
  replace f77 := shm_7 f77
  replace f78 := shm_22 f78
  replace f79 := shm_193 f79
  replace f80 := shm_2009 f80
  replace f81 := shm_193 f81
  replace f82 := shm_2009 f82
  replace f83 := shm_7 f83
  replace f84 := shm_1043 f84
  replace f85 := shm_1043 f85
  replace f87 := shm_7 f87
  replace f88 := shm_22 f88
  replace f89 := shm_7 f89
  replace f90 := shm_22 f90
  replace f91 := shm_7 f91
  replace f92 := shm_22 f92
  replace f93 := shm_7 f93
  replace f94 := shm_22 f94
  replace f95 := shm_193 f95
  replace f96 := shm_2009 f96
  replace f97 := shm_193 f97
  replace f98 := shm_2009 f98
  replace f99 := shm_7 f99
  replace f100 := shm_1043 f100
  replace f101 := shm_1043 f101
  replace f103 := shm_193 f103
  replace f104 := shm_2009 f104
  replace f105 := shm_295 f105
  replace f106 := shm_7 f106
  replace f107 := shm_1043 f107
  replace f108 := shm_1043 f108
  replace f110 := shm_7 f110
  replace f111 := shm_1043 f111
  replace f112 := shm_1043 f112
  have q7 : n_v vs 7 = n_v vs 0 := f25.symm
  have q9 : n_v vs 9 = n_v vs 2 := f26.symm
  simp only [q7, q9] at f0 f3 f4 f6 f8 f22 f27 f28 f29 f30 f31 f32 f36 f51 f67 f83 f99 f106 f110
  have cr_0_1 := fdq_39 hD hth r0
  have cr_0_2 := fdq_10 hD hth r0
  have g0 : v_iv (n_v vs 33) = w_fi ws (n_v vs 0) 8 := congrArg v_iv f0
  have hK_0_1 := elq_7 hD hth cr_0_1
  have kz_0_8 := fdq_34 hD hth r0
  have kz_0_9 := fdq_44 hD hth r0
  have kz_0_10 := fdq_43 hD hth r0
  have kz_0_11 := fdq_237 hD hth r0
  have kz_0_12 := fdq_187 hD hth r0
  have kz_0_13 := fdq_238 hD hth r0
  have kz_0_14 := fdq_188 hD hth r0
  have kz_0_15 := fdq_239 hD hth r0
  obtain ⟨x, ex, hx⟩ := iv_ex (ta := ta) (lo := 0) (hi := 2000) (z := 0 + (1 * v_iv (n_v vs 11) + 0)) (by omega) (by omega) (by omega) (by omega)
  have ex2 : v_iv (Value.int x) = 0 + (1 * v_iv (n_v vs 11) + 0) := ex
  have ex3 : 0 ≤ v_iv (Value.int x) ∧ v_iv (Value.int x) ≤ 2000 := tv_rng hx
  have e_0 : n_v (vs ++ [Value.int x]) 0 = n_v vs 0 := n_v_old (by rw [hl]; decide)
  have e_2 : n_v (vs ++ [Value.int x]) 2 = n_v vs 2 := n_v_old (by rw [hl]; decide)
  have e_3 : n_v (vs ++ [Value.int x]) 3 = n_v vs 3 := n_v_old (by rw [hl]; decide)
  have e_4 : n_v (vs ++ [Value.int x]) 4 = n_v vs 4 := n_v_old (by rw [hl]; decide)
  have e_5 : n_v (vs ++ [Value.int x]) 5 = n_v vs 5 := n_v_old (by rw [hl]; decide)
  have e_6 : n_v (vs ++ [Value.int x]) 6 = n_v vs 6 := n_v_old (by rw [hl]; decide)
  have e_7 : n_v (vs ++ [Value.int x]) 7 = n_v vs 7 := n_v_old (by rw [hl]; decide)
  have e_9 : n_v (vs ++ [Value.int x]) 9 = n_v vs 9 := n_v_old (by rw [hl]; decide)
  have e_28 : n_v (vs ++ [Value.int x]) 28 = n_v vs 28 := n_v_old (by rw [hl]; decide)
  have e_35 : n_v (vs ++ [Value.int x]) 35 = Value.int x := n_v_new hl
  have nf0 : fc_1 PRD (20, [7, 7], [30, 0, 1, 1, 15, -1, 1, 11]) ws (vs ++ [Value.int x]) := by
    refine ⟨nf_inA hl rfl, sgq_1437 ?_⟩
    · show 1 * w_fi ws (n_v (vs ++ [Value.int x]) 7) 15 + ((-1) * w_fi ws (n_v (vs ++ [Value.int x]) 7) 11 + 0) ≤ 0
      simp only [e_7, q7]
      exact vc_Mo_of_at_s5003_27_0 (v_iv (n_v vs 25)) (v_iv (n_v vs 31)) (v_iv (n_v vs 32)) (w_fi ws (n_v vs 0) 8) (w_ei ws (w_ar ws (n_v vs 0) 1)) (w_fi ws (n_v vs 0) 9) (w_fi ws (n_v vs 0) 15) (w_fi ws (n_v vs 0) 11) (w_fi ws (n_v vs 0) 12) k25 k31 k32 f28 f29 f30 hK_0_1 kz_0_8 kz_0_9 kz_0_11 kz_0_12 kz_0_15
  have nf1 : fc_1 PRD (20, [7], [50, 3, 0, 12, 11, 15, 2, 21, 4, 7, 1, 3, 2, 0, 12, 0, 1, 0, 3, 2, 0, 11, 4, 3, 2, 0, 15, 0, 8, 3, 7, 1, 3, 2, 0, 12, 0, 0, 0, 7, 4, 3, 2, 0, 15, 0, 1, 2, 0, 11]) ws (vs ++ [Value.int x]) := by
    refine ⟨nf_inA hl rfl, sgq_1438 ?_⟩
    · show ((w_fi ws (n_v (vs ++ [Value.int x]) 7) 12 = 1) → (w_fi ws (n_v (vs ++ [Value.int x]) 7) 11 ≤ (w_fi ws (n_v (vs ++ [Value.int x]) 7) 15 + 8))) ∧ ((w_fi ws (n_v (vs ++ [Value.int x]) 7) 12 = 0) ∨ ((w_fi ws (n_v (vs ++ [Value.int x]) 7) 15 + 1) ≤ w_fi ws (n_v (vs ++ [Value.int x]) 7) 11))
      simp only [e_7, q7]
      exact vc_Mo_of_at_s5003_27_1 (v_iv (n_v vs 25)) (v_iv (n_v vs 31)) (v_iv (n_v vs 32)) (w_fi ws (n_v vs 0) 8) (w_ei ws (w_ar ws (n_v vs 0) 1)) (w_fi ws (n_v vs 0) 9) (w_fi ws (n_v vs 0) 15) (w_fi ws (n_v vs 0) 11) (w_fi ws (n_v vs 0) 12) k25 k31 k32 f28 f30 hK_0_1 kz_0_8 kz_0_9 kz_0_11 kz_0_12 kz_0_15
  have nf2 : fc_1 PRD (20, [3, 7], [30, -1, 1, 0, 0, -1, 1, 11]) ws (vs ++ [Value.int x]) := by
    refine ⟨nf_inA hl rfl, sgq_2005 ?_⟩
    · show 1 * v_iv (n_v (vs ++ [Value.int x]) 3) + ((-1) * w_fi ws (n_v (vs ++ [Value.int x]) 7) 11 + 0) ≤ (-1)
      simp only [e_3, e_7, q7]
      exact vc_Mo_of_at_s5003_27_2 (v_iv (n_v vs 3)) (v_iv (n_v vs 25)) (v_iv (n_v vs 31)) (v_iv (n_v vs 32)) (v_iv (n_v vs 33)) (w_fi ws (n_v vs 0) 8) (w_ei ws (w_ar ws (n_v vs 0) 1)) (w_fi ws (n_v vs 0) 9) (w_fi ws (n_v vs 0) 15) (w_fi ws (n_v vs 0) 11) (w_fi ws (n_v vs 0) 12) k3 k25 k31 k32 k33 g0 f27 f28 f30 hK_0_1 kz_0_8 kz_0_9 kz_0_11 kz_0_12 kz_0_15
  have nf3 : fc_1 PRD (23, [28, 9], [0, 1, -1]) ws (vs ++ [Value.int x]) := by
    refine ⟨nf_inA hl rfl, sgq_7 ?_⟩
    · show 1 * v_iv (n_v (vs ++ [Value.int x]) 28) + ((-1) * v_iv (n_v (vs ++ [Value.int x]) 9) + 0) ≤ 0
      simp only [e_9, e_28, q9]
      exact vc_Mo_of_at_s5003_27_3 (v_iv (n_v vs 2)) (v_iv (n_v vs 25)) (v_iv (n_v vs 28)) (v_iv (n_v vs 31)) (v_iv (n_v vs 32)) (w_fi ws (n_v vs 0) 8) (w_ei ws (w_ar ws (n_v vs 0) 1)) (w_fi ws (n_v vs 0) 9) (w_fi ws (n_v vs 0) 15) (w_fi ws (n_v vs 0) 11) (w_fi ws (n_v vs 0) 12) k2 k25 k28 k31 k32 f28 f30 f36 hK_0_1 kz_0_8 kz_0_9 kz_0_11 kz_0_12 kz_0_15
  have nf4 : fc_1 PRD (23, [28], [0, -1]) ws (vs ++ [Value.int x]) := by
    refine ⟨nf_inA hl rfl, sgq_1043 ?_⟩
    · show (-1) * v_iv (n_v (vs ++ [Value.int x]) 28) + 0 ≤ 0
      rw [e_28]
      exact vc_Mo_of_at_s5003_27_4 (v_iv (n_v vs 25)) (v_iv (n_v vs 28)) (v_iv (n_v vs 31)) (v_iv (n_v vs 32)) (w_fi ws (n_v vs 0) 8) (w_ei ws (w_ar ws (n_v vs 0) 1)) (w_fi ws (n_v vs 0) 9) (w_fi ws (n_v vs 0) 15) (w_fi ws (n_v vs 0) 11) (w_fi ws (n_v vs 0) 12) k25 k28 k31 k32 f28 f30 f37 hK_0_1 kz_0_8 kz_0_9 kz_0_11 kz_0_12 kz_0_15
  have nf5 : fc_1 PRD (23, [4], [0, -1]) ws (vs ++ [Value.int x]) := by
    refine ⟨nf_inA hl rfl, sgq_1043 ?_⟩
    · show (-1) * v_iv (n_v (vs ++ [Value.int x]) 4) + 0 ≤ 0
      rw [e_4]
      exact vc_Mo_of_at_s5003_27_5 (v_iv (n_v vs 4)) (v_iv (n_v vs 25)) (v_iv (n_v vs 31)) (v_iv (n_v vs 32)) (w_fi ws (n_v vs 0) 8) (w_ei ws (w_ar ws (n_v vs 0) 1)) (w_fi ws (n_v vs 0) 9) (w_fi ws (n_v vs 0) 15) (w_fi ws (n_v vs 0) 11) (w_fi ws (n_v vs 0) 12) k4 k25 k31 k32 f28 f30 f112 hK_0_1 kz_0_8 kz_0_9 kz_0_11 kz_0_12 kz_0_15
  have nf6 : fc_1 PRD (20, [35, 7], [30, -2001, -1, 0, 0, -1, 1, 11]) ws (vs ++ [Value.int x]) := by
    refine ⟨nf_inA hl rfl, sgq_2013 ?_⟩
    · show (-1) * v_iv (n_v (vs ++ [Value.int x]) 35) + ((-1) * w_fi ws (n_v (vs ++ [Value.int x]) 7) 11 + 0) ≤ (-2001)
      simp only [e_7, e_35, q7]
      exact vc_Mo_of_at_s5003_27_6 (v_iv (n_v vs 25)) (v_iv (n_v vs 31)) (v_iv (n_v vs 32)) (v_iv (n_v vs 33)) (w_fi ws (n_v vs 0) 8) (w_ei ws (w_ar ws (n_v vs 0) 1)) (w_fi ws (n_v vs 0) 9) (w_fi ws (n_v vs 0) 15) (w_fi ws (n_v vs 0) 11) (w_fi ws (n_v vs 0) 12) (v_iv (Value.int x)) k25 k31 k32 k33 g0 f27 f28 f30 hK_0_1 kz_0_8 kz_0_9 kz_0_11 kz_0_12 kz_0_15
  have nf7 : fc_1 PRD (20, [7, 4, 28, 5, 6], [60, 8, 2, 1000, 10, 11, 12, 13, 14, 15, 8, 5, 1, 2]) ws (vs ++ [Value.int x]) := by
    refine ⟨nf_inA hl rfl, sgq_2021 ?_⟩
    · show zO12w (w_fi ws (n_v (vs ++ [Value.int x]) 7) 10) (w_fi ws (n_v (vs ++ [Value.int x]) 7) 11) (w_fi ws (n_v (vs ++ [Value.int x]) 7) 12) (w_fi ws (n_v (vs ++ [Value.int x]) 7) 13) (w_fi ws (n_v (vs ++ [Value.int x]) 7) 14) (w_fi ws (n_v (vs ++ [Value.int x]) 7) 15) (w_fi ws (n_v (vs ++ [Value.int x]) 7) 8) (w_fi ws (n_v (vs ++ [Value.int x]) 7) 5) (w_ei ws (w_ar ws (n_v (vs ++ [Value.int x]) 7) 1)) (w_ei ws (w_ar ws (n_v (vs ++ [Value.int x]) 7) 2)) (v_iv (n_v (vs ++ [Value.int x]) 4)) (v_iv (n_v (vs ++ [Value.int x]) 28)) (v_iv (n_v (vs ++ [Value.int x]) 5)) (v_iv (n_v (vs ++ [Value.int x]) 6))
      simp only [e_4, e_5, e_6, e_7, e_28, q7]
      exact vc_Mo_of_at_s5003_27_7 (v_iv (n_v vs 4)) (v_iv (n_v vs 5)) (v_iv (n_v vs 6)) (v_iv (n_v vs 15)) (v_iv (n_v vs 17)) (v_iv (n_v vs 18)) (v_iv (n_v vs 19)) (v_iv (n_v vs 20)) (v_iv (n_v vs 28)) (v_iv (n_v vs 33)) (v_iv (n_v vs 34)) (w_fi ws (n_v vs 0) 8) (w_ei ws (w_ar ws (n_v vs 0) 1)) (w_ei ws (w_ar ws (n_v vs 0) 2)) (w_fi ws (n_v vs 0) 10) (w_fi ws (n_v vs 0) 5) (w_fi ws (n_v vs 0) 15) (w_fi ws (n_v vs 0) 11) (w_fi ws (n_v vs 0) 12) (w_fi ws (n_v vs 0) 13) (w_fi ws (n_v vs 0) 14) k4 k5 k6 k28 k33 k34 g0 f3 f27 f32 kz_0_8 kz_0_10 kz_0_11 kz_0_12 kz_0_13 kz_0_14 kz_0_15
  have nf8 : fc_1 PRD (24, [0, 7], []) ws (vs ++ [Value.int x]) := by
    refine ⟨nf_inA hl rfl, sgq_5 ?_⟩
    · show n_v (vs ++ [Value.int x]) 0 = n_v (vs ++ [Value.int x]) 7
      first | rfl | simp only [e_0, e_7, q7, q9]
  have nf9 : fc_1 PRD (24, [2, 9], []) ws (vs ++ [Value.int x]) := by
    refine ⟨nf_inA hl rfl, sgq_5 ?_⟩
    · show n_v (vs ++ [Value.int x]) 2 = n_v (vs ++ [Value.int x]) 9
      first | rfl | simp only [e_2, e_9, q7, q9]
  obtain ⟨x0, e0, _, _⟩ := tv_int t11 rfl
  have e1 : v_iv (n_v vs 11) = x0.toInt := by rw [e0]; rfl
  have ho : sy_ofs (vs ++ [Value.int x]) (35, 11, 0, 0) := by
    refine ⟨x, x0, by rw [List.getElem?_append_right (by rw [hl]; decide), hl]; rfl, ?_, ?_, ?_⟩
    · rw [List.getElem?_append_left (by rw [hl]; decide)]; exact n_v_some (by rw [hl]; decide) e0
    · show x0.toInt + 0 ≤ x.toInt; omega
    · show x.toInt ≤ x0.toInt + 0; omega
  exact ⟨(fun _ h => (by cases h)), [Value.int x], ag_one hx, List.forall_mem_cons.mpr ⟨⟨show (20 : Nat) < 100 from by decide, nf0⟩, List.forall_mem_cons.mpr ⟨⟨show (20 : Nat) < 100 from by decide, nf1⟩, List.forall_mem_cons.mpr ⟨⟨show (20 : Nat) < 100 from by decide, nf2⟩, List.forall_mem_cons.mpr ⟨⟨show (23 : Nat) < 100 from by decide, nf3⟩, List.forall_mem_cons.mpr ⟨⟨show (23 : Nat) < 100 from by decide, nf4⟩, List.forall_mem_cons.mpr ⟨⟨show (23 : Nat) < 100 from by decide, nf5⟩, List.forall_mem_cons.mpr ⟨⟨show (20 : Nat) < 100 from by decide, nf6⟩, List.forall_mem_cons.mpr ⟨⟨show (20 : Nat) < 100 from by decide, nf7⟩, List.forall_mem_cons.mpr ⟨⟨show (24 : Nat) < 100 from by decide, nf8⟩, List.forall_mem_cons.mpr ⟨⟨show (24 : Nat) < 100 from by decide, nf9⟩, (fun _ h => (by cases h))⟩⟩⟩⟩⟩⟩⟩⟩⟩⟩, List.forall_mem_cons.mpr ⟨ho, (fun _ h => (by cases h))⟩⟩
set_option maxHeartbeats 4000000 in
theorem vc_Mo_of_at_s5003_28_0 (x25 : Int) (x31 : Int) (x32 : Int) (kind_0 : Int) (fault_0 : Int) (tape_0 : Int → Int) (from_0 : Int) (pos_0 : Int) (faultPlace_0 : Int) (k25 : 0 ≤ x25 ∧ x25 ≤ 2000) (k31 : 5 ≤ x31 ∧ x31 ≤ 5) (k32 : 0 ≤ x32 ∧ x32 ≤ 5) (f24 : 1 * from_0 + ((-1) * pos_0 + 0) ≤ 0) (f25 : ((kind_0 = 1) → (pos_0 ≤ (from_0 + 8))) ∧ ((kind_0 = 0) ∨ ((from_0 + 1) ≤ pos_0))) (f28 : ((1 ≤ x32) ∧ (fault_0 = x32)) ∨ ((x32 = 0) ∧ ((fault_0 = x31) ∧ (faultPlace_0 = x25)))) (hK_0_1 : ∀ j : Int, 0 ≤ j → j < 2000 → (-128) ≤ tape_0 j ∧ tape_0 j ≤ 127) (kz_0_8 : 0 ≤ fault_0 ∧ fault_0 ≤ 5) (kz_0_9 : 0 ≤ faultPlace_0 ∧ faultPlace_0 ≤ 2000) (kz_0_11 : 0 ≤ pos_0 ∧ pos_0 ≤ 2000) (kz_0_12 : 0 ≤ kind_0 ∧ kind_0 ≤ 4) (kz_0_15 : 0 ≤ from_0 ∧ from_0 ≤ 2000) : 1 * from_0 + ((-1) * pos_0 + 0) ≤ 0 := by
  first | with_reducible assumption | ((have f25_c0 := f25.1); (have f25_c1 := f25.2); (try and_intros) <;> first | with_reducible assumption | (clear f25_c0 f25_c1 f25 f28 hK_0_1; omega)) | ((have f25_c0 := f25.1); (have f25_c1 := f25.2); (try and_intros) <;> first | with_reducible assumption | (clear f25_c0 f25_c1 f25 hK_0_1; omega)) | omega
set_option maxHeartbeats 4000000 in
theorem vc_Mo_of_at_s5003_28_1 (x25 : Int) (x31 : Int) (x32 : Int) (kind_0 : Int) (fault_0 : Int) (tape_0 : Int → Int) (from_0 : Int) (pos_0 : Int) (faultPlace_0 : Int) (k25 : 0 ≤ x25 ∧ x25 ≤ 2000) (k31 : 5 ≤ x31 ∧ x31 ≤ 5) (k32 : 0 ≤ x32 ∧ x32 ≤ 5) (f25 : ((kind_0 = 1) → (pos_0 ≤ (from_0 + 8))) ∧ ((kind_0 = 0) ∨ ((from_0 + 1) ≤ pos_0))) (f28 : ((1 ≤ x32) ∧ (fault_0 = x32)) ∨ ((x32 = 0) ∧ ((fault_0 = x31) ∧ (faultPlace_0 = x25)))) (hK_0_1 : ∀ j : Int, 0 ≤ j → j < 2000 → (-128) ≤ tape_0 j ∧ tape_0 j ≤ 127) (kz_0_8 : 0 ≤ fault_0 ∧ fault_0 ≤ 5) (kz_0_9 : 0 ≤ faultPlace_0 ∧ faultPlace_0 ≤ 2000) (kz_0_11 : 0 ≤ pos_0 ∧ pos_0 ≤ 2000) (kz_0_12 : 0 ≤ kind_0 ∧ kind_0 ≤ 4) (kz_0_15 : 0 ≤ from_0 ∧ from_0 ≤ 2000) : ((kind_0 = 1) → (pos_0 ≤ (from_0 + 8))) ∧ ((kind_0 = 0) ∨ ((from_0 + 1) ≤ pos_0)) := by
  first | with_reducible assumption | ((have f25_c0 := f25.1); (have f25_c1 := f25.2); (try and_intros) <;> first | with_reducible assumption | (clear f25_c0 f25_c1 f25 f28 hK_0_1; omega)) | ((have f25_c0 := f25.1); (have f25_c1 := f25.2); (try and_intros) <;> first | with_reducible assumption | (clear f25_c0 f25_c1 f25 hK_0_1; omega)) | omega
set_option maxHeartbeats 4000000 in
theorem vc_Mo_of_at_s5003_28_2 (x3 : Int) (x17 : Int) (x25 : Int) (x31 : Int) (x32 : Int) (kind_0 : Int) (fault_0 : Int) (tape_0 : Int → Int) (from_0 : Int) (pos_0 : Int) (faultPlace_0 : Int) (k3 : 0 ≤ x3 ∧ x3 ≤ 2000) (k17 : 0 ≤ x17 ∧ x17 ≤ 2000) (k25 : 0 ≤ x25 ∧ x25 ≤ 2000) (k31 : 5 ≤ x31 ∧ x31 ≤ 5) (k32 : 0 ≤ x32 ∧ x32 ≤ 5) (f17 : 1 * x3 + ((-1) * x17 + 0) ≤ (-1)) (f25 : ((kind_0 = 1) → (pos_0 ≤ (from_0 + 8))) ∧ ((kind_0 = 0) ∨ ((from_0 + 1) ≤ pos_0))) (f26 : 1 * x17 + ((-1) * pos_0 + 0) ≤ 0) (f28 : ((1 ≤ x32) ∧ (fault_0 = x32)) ∨ ((x32 = 0) ∧ ((fault_0 = x31) ∧ (faultPlace_0 = x25)))) (hK_0_1 : ∀ j : Int, 0 ≤ j → j < 2000 → (-128) ≤ tape_0 j ∧ tape_0 j ≤ 127) (kz_0_8 : 0 ≤ fault_0 ∧ fault_0 ≤ 5) (kz_0_9 : 0 ≤ faultPlace_0 ∧ faultPlace_0 ≤ 2000) (kz_0_11 : 0 ≤ pos_0 ∧ pos_0 ≤ 2000) (kz_0_12 : 0 ≤ kind_0 ∧ kind_0 ≤ 4) (kz_0_15 : 0 ≤ from_0 ∧ from_0 ≤ 2000) : 1 * x3 + ((-1) * pos_0 + 0) ≤ 0 := by
  first | with_reducible assumption | ((have f25_c0 := f25.1); (have f25_c1 := f25.2); (try and_intros) <;> first | with_reducible assumption | (clear f25_c0 f25_c1 f25 f28 hK_0_1; omega)) | ((have f25_c0 := f25.1); (have f25_c1 := f25.2); (try and_intros) <;> first | with_reducible assumption | (clear f25_c0 f25_c1 f25 hK_0_1; omega)) | omega
set_option maxHeartbeats 4000000 in
theorem vc_Mo_of_at_s5003_28_3 (x3 : Int) (x25 : Int) (x31 : Int) (x32 : Int) (x33 : Int) (kind_0 : Int) (fault_0 : Int) (tape_0 : Int → Int) (from_0 : Int) (pos_0 : Int) (faultPlace_0 : Int) (k3 : 0 ≤ x3 ∧ x3 ≤ 2000) (k25 : 0 ≤ x25 ∧ x25 ≤ 2000) (k31 : 5 ≤ x31 ∧ x31 ≤ 5) (k32 : 0 ≤ x32 ∧ x32 ≤ 5) (k33 : 1 ≤ x33 ∧ x33 ≤ 5) (g4 : x33 = fault_0) (f25 : ((kind_0 = 1) → (pos_0 ≤ (from_0 + 8))) ∧ ((kind_0 = 0) ∨ ((from_0 + 1) ≤ pos_0))) (f28 : ((1 ≤ x32) ∧ (fault_0 = x32)) ∨ ((x32 = 0) ∧ ((fault_0 = x31) ∧ (faultPlace_0 = x25)))) (hK_0_1 : ∀ j : Int, 0 ≤ j → j < 2000 → (-128) ≤ tape_0 j ∧ tape_0 j ≤ 127) (kz_0_8 : 0 ≤ fault_0 ∧ fault_0 ≤ 5) (kz_0_9 : 0 ≤ faultPlace_0 ∧ faultPlace_0 ≤ 2000) (kz_0_11 : 0 ≤ pos_0 ∧ pos_0 ≤ 2000) (kz_0_12 : 0 ≤ kind_0 ∧ kind_0 ≤ 4) (kz_0_15 : 0 ≤ from_0 ∧ from_0 ≤ 2000) : (1 ≤ fault_0) ∨ ((kind_0 = 0) ∨ ((x3 + 1) ≤ pos_0)) := by
  first | with_reducible assumption | ((have f25_c0 := f25.1); (have f25_c1 := f25.2); (try and_intros) <;> first | with_reducible assumption | (clear f25_c0 f25_c1 f25 f28 hK_0_1; omega)) | ((have f25_c0 := f25.1); (have f25_c1 := f25.2); (try and_intros) <;> first | with_reducible assumption | (clear f25_c0 f25_c1 f25 hK_0_1; omega)) | omega
set_option maxHeartbeats 4000000 in
theorem vc_Mo_of_at_s5003_28_4 (x4 : Int) (x25 : Int) (x31 : Int) (x32 : Int) (x33 : Int) (kind_0 : Int) (fault_0 : Int) (tape_0 : Int → Int) (from_0 : Int) (pos_0 : Int) (faultPlace_0 : Int) (k4 : (-1) ≤ x4 ∧ x4 ≤ 48) (k25 : 0 ≤ x25 ∧ x25 ≤ 2000) (k31 : 5 ≤ x31 ∧ x31 ≤ 5) (k32 : 0 ≤ x32 ∧ x32 ≤ 5) (k33 : 1 ≤ x33 ∧ x33 ≤ 5) (g4 : x33 = fault_0) (f25 : ((kind_0 = 1) → (pos_0 ≤ (from_0 + 8))) ∧ ((kind_0 = 0) ∨ ((from_0 + 1) ≤ pos_0))) (f28 : ((1 ≤ x32) ∧ (fault_0 = x32)) ∨ ((x32 = 0) ∧ ((fault_0 = x31) ∧ (faultPlace_0 = x25)))) (hK_0_1 : ∀ j : Int, 0 ≤ j → j < 2000 → (-128) ≤ tape_0 j ∧ tape_0 j ≤ 127) (kz_0_8 : 0 ≤ fault_0 ∧ fault_0 ≤ 5) (kz_0_9 : 0 ≤ faultPlace_0 ∧ faultPlace_0 ≤ 2000) (kz_0_11 : 0 ≤ pos_0 ∧ pos_0 ≤ 2000) (kz_0_12 : 0 ≤ kind_0 ∧ kind_0 ≤ 4) (kz_0_15 : 0 ≤ from_0 ∧ from_0 ≤ 2000) : (1 ≤ fault_0) ∨ (0 ≤ x4) := by
  first | with_reducible assumption | ((have f25_c0 := f25.1); (have f25_c1 := f25.2); (try and_intros) <;> first | with_reducible assumption | (clear f25_c0 f25_c1 f25 f28 hK_0_1; omega)) | ((have f25_c0 := f25.1); (have f25_c1 := f25.2); (try and_intros) <;> first | with_reducible assumption | (clear f25_c0 f25_c1 f25 hK_0_1; omega)) | omega
set_option maxHeartbeats 4000000 in
theorem vc_Mo_of_at_s5003_28_5 (x2 : Int) (x25 : Int) (x31 : Int) (x32 : Int) (x34 : Int) (kind_0 : Int) (fault_0 : Int) (tape_0 : Int → Int) (from_0 : Int) (pos_0 : Int) (faultPlace_0 : Int) (k2 : 9 ≤ x2 ∧ x2 ≤ 9) (k25 : 0 ≤ x25 ∧ x25 ≤ 2000) (k31 : 5 ≤ x31 ∧ x31 ≤ 5) (k32 : 0 ≤ x32 ∧ x32 ≤ 5) (k34 : 0 ≤ x34 ∧ x34 ≤ 0) (f25 : ((kind_0 = 1) → (pos_0 ≤ (from_0 + 8))) ∧ ((kind_0 = 0) ∨ ((from_0 + 1) ≤ pos_0))) (f28 : ((1 ≤ x32) ∧ (fault_0 = x32)) ∨ ((x32 = 0) ∧ ((fault_0 = x31) ∧ (faultPlace_0 = x25)))) (hK_0_1 : ∀ j : Int, 0 ≤ j → j < 2000 → (-128) ≤ tape_0 j ∧ tape_0 j ≤ 127) (kz_0_8 : 0 ≤ fault_0 ∧ fault_0 ≤ 5) (kz_0_9 : 0 ≤ faultPlace_0 ∧ faultPlace_0 ≤ 2000) (kz_0_11 : 0 ≤ pos_0 ∧ pos_0 ≤ 2000) (kz_0_12 : 0 ≤ kind_0 ∧ kind_0 ≤ 4) (kz_0_15 : 0 ≤ from_0 ∧ from_0 ≤ 2000) : 1 * x34 + ((-1) * x2 + 0) ≤ 0 := by
  first | with_reducible assumption | ((have f25_c0 := f25.1); (have f25_c1 := f25.2); (try and_intros) <;> first | with_reducible assumption | (clear f25_c0 f25_c1 f25 f28 hK_0_1; omega)) | ((have f25_c0 := f25.1); (have f25_c1 := f25.2); (try and_intros) <;> first | with_reducible assumption | (clear f25_c0 f25_c1 f25 hK_0_1; omega)) | omega
set_option maxHeartbeats 4000000 in
theorem vc_Mo_of_at_s5003_28_6 (x25 : Int) (x31 : Int) (x32 : Int) (x34 : Int) (kind_0 : Int) (fault_0 : Int) (tape_0 : Int → Int) (from_0 : Int) (pos_0 : Int) (faultPlace_0 : Int) (k25 : 0 ≤ x25 ∧ x25 ≤ 2000) (k31 : 5 ≤ x31 ∧ x31 ≤ 5) (k32 : 0 ≤ x32 ∧ x32 ≤ 5) (k34 : 0 ≤ x34 ∧ x34 ≤ 0) (f25 : ((kind_0 = 1) → (pos_0 ≤ (from_0 + 8))) ∧ ((kind_0 = 0) ∨ ((from_0 + 1) ≤ pos_0))) (f28 : ((1 ≤ x32) ∧ (fault_0 = x32)) ∨ ((x32 = 0) ∧ ((fault_0 = x31) ∧ (faultPlace_0 = x25)))) (hK_0_1 : ∀ j : Int, 0 ≤ j → j < 2000 → (-128) ≤ tape_0 j ∧ tape_0 j ≤ 127) (kz_0_8 : 0 ≤ fault_0 ∧ fault_0 ≤ 5) (kz_0_9 : 0 ≤ faultPlace_0 ∧ faultPlace_0 ≤ 2000) (kz_0_11 : 0 ≤ pos_0 ∧ pos_0 ≤ 2000) (kz_0_12 : 0 ≤ kind_0 ∧ kind_0 ≤ 4) (kz_0_15 : 0 ≤ from_0 ∧ from_0 ≤ 2000) : (-1) * x34 + 0 ≤ 0 := by
  first | with_reducible assumption | ((have f25_c0 := f25.1); (have f25_c1 := f25.2); (try and_intros) <;> first | with_reducible assumption | (clear f25_c0 f25_c1 f25 f28 hK_0_1; omega)) | ((have f25_c0 := f25.1); (have f25_c1 := f25.2); (try and_intros) <;> first | with_reducible assumption | (clear f25_c0 f25_c1 f25 hK_0_1; omega)) | omega
set_option maxHeartbeats 4000000 in
theorem vc_Mo_of_at_s5003_28_7 (x4 : Int) (x5 : Int) (x6 : Int) (x15 : Int) (x17 : Int) (x18 : Int) (x19 : Int) (x20 : Int) (x22 : Int) (x25 : Int) (x28 : Int) (x31 : Int) (x32 : Int) (x33 : Int) (x34 : Int) (value_0 : Int) (place_0 : Int) (kind_0 : Int) (fault_0 : Int) (tape_0 : Int → Int) (limit_0 : Int) (from_0 : Int) (pos_0 : Int) (faultPlace_0 : Int) (all_0 : Int → Int) (r_0 : Int) (k4 : (-1) ≤ x4 ∧ x4 ≤ 48) (k5 : 0 ≤ x5 ∧ x5 ≤ 7) (k6 : 0 ≤ x6 ∧ x6 ≤ 4) (k15 : 0 ≤ x15 ∧ x15 ≤ 2000) (k17 : 0 ≤ x17 ∧ x17 ≤ 2000) (k18 : (-1) ≤ x18 ∧ x18 ≤ 48) (k19 : 0 ≤ x19 ∧ x19 ≤ 7) (k20 : 0 ≤ x20 ∧ x20 ≤ 4) (k22 : 0 ≤ x22 ∧ x22 ≤ 4) (k25 : 0 ≤ x25 ∧ x25 ≤ 2000) (k28 : (-49) ≤ x28 ∧ x28 ≤ 0) (k31 : 5 ≤ x31 ∧ x31 ≤ 5) (k32 : 0 ≤ x32 ∧ x32 ≤ 5) (k33 : 1 ≤ x33 ∧ x33 ≤ 5) (k34 : 0 ≤ x34 ∧ x34 ≤ 0) (g0 : x28 = value_0) (g1 : x25 = place_0) (g2 : x22 = kind_0) (g4 : x33 = fault_0) (f5 : FSX (limit_0) (tape_0) (x31) (x25)) (f6 : ZH0 (x32)) (f9 : 1 * x17 + ((-1) * x15 + 0) ≤ 0) (f10 : (-1) * x17 + (1 * x15 + 0) ≤ 0) (f11 : 1 * x18 + ((-1) * x4 + 0) ≤ 0) (f12 : (-1) * x18 + (1 * x4 + 0) ≤ 0) (f13 : 1 * x19 + ((-1) * x5 + 0) ≤ 0) (f14 : (-1) * x19 + (1 * x5 + 0) ≤ 0) (f15 : 1 * x20 + ((-1) * x6 + 0) ≤ 0) (f16 : (-1) * x20 + (1 * x6 + 0) ≤ 0) (f28 : ((1 ≤ x32) ∧ (fault_0 = x32)) ∨ ((x32 = 0) ∧ ((fault_0 = x31) ∧ (faultPlace_0 = x25)))) (kz_0_8 : 0 ≤ fault_0 ∧ fault_0 ≤ 5) (kz_0_9 : 0 ≤ faultPlace_0 ∧ faultPlace_0 ≤ 2000) (kz_0_10 : 0 ≤ limit_0 ∧ limit_0 ≤ 2000) (kz_0_11 : 0 ≤ pos_0 ∧ pos_0 ≤ 2000) (kz_0_12 : 0 ≤ kind_0 ∧ kind_0 ≤ 4) (kz_0_13 : 0 ≤ place_0 ∧ place_0 ≤ 2000) (kz_0_14 : (-49) ≤ value_0 ∧ value_0 ≤ 1048575) (kz_0_15 : 0 ≤ from_0 ∧ from_0 ≤ 2000) : zOFw (limit_0) (pos_0) (kind_0) (place_0) (value_0) (from_0) (fault_0) (faultPlace_0) (r_0) (tape_0) (all_0) (x4) (x34) (x5) (x6) := by
  first | (have el_x17 : x17 = x15 := by omega); subst el_x17 | skip
  first | (have el_x18 : x18 = x4 := by omega); subst el_x18 | skip
  first | (have el_x19 : x19 = x5 := by omega); subst el_x19 | skip
  first | (have el_x20 : x20 = x6 := by omega); subst el_x20 | skip
  first | subst g0 | skip
  first | subst g1 | skip
  first | subst g2 | skip
  first | subst g4 | skip
  first
    | exact of_no_w ‹zOBw _ _ _ _ _ _ _ _ _ _ _ _ _ _› ‹SGQ _ _ _ _ _› (by omega) (by omega) (by omega)
    | exact Or.inl ⟨by omega, fs_w ‹FSX _ _ _ _› ‹ZH0 _› (by assumption)⟩
    | (refine Or.inl ⟨by omega, fs_w ?_ ?_ (by assumption)⟩ <;> assumption)
    | exact Or.inl ⟨by omega, or_l ‹zO11w _ _ _ _ _ _ _ _ _ _ _ _ _ _› (fun q => by have := q.1; omega)⟩
    | exact Or.inr (Or.inr ⟨by omega, ‹zRP13w _ _ _ _ _ _ _ _ _ _ _ _ _ _›⟩)
    | (exfalso; omega)
def o_Mo_of_at_s5003_28 : or_T := (129, 35, [(0, (2, 0, 0, [165])), (2, (0, 9, 9, [])), (3, (0, 0, 2000, [])), (4, (0, -1, 48, [])), (5, (0, 0, 7, [])), (6, (0, 0, 4, [])), (7, (2, 0, 0, [165])), (9, (0, 9, 9, [])), (11, (0, 0, 2000, [])), (15, (0, 0, 2000, [])), (17, (0, 0, 2000, [])), (18, (0, -1, 48, [])), (19, (0, 0, 7, [])), (20, (0, 0, 4, [])), (22, (0, 0, 4, [])), (23, (0, 2, 2, [])), (24, (0, 1, 1, [])), (25, (0, 0, 2000, [])), (26, (0, 0, 5, [])), (28, (0, -49, 0, [])), (31, (0, 5, 5, [])), (32, (0, 0, 5, [])), (33, (0, 1, 5, [])), (34, (0, 0, 0, []))], [(9, [28, 7], [14]), (9, [25, 7], [13]), (9, [22, 7], [12]), (8, [33], [4]), (9, [33, 7], [8]), (20, [7, 31, 25], [60, 1, 1, 1026, 10, 1]), (20, [32], [61, 0, 1029]), (20, [7, 24, 25], [60, 1, 1, 1026, 10, 1]), (20, [26], [61, 0, 1029]), (23, [17, 15], [0, 1, -1]), (23, [17, 15], [0, -1, 1]), (23, [18, 4], [0, 1, -1]), (23, [18, 4], [0, -1, 1]), (23, [19, 5], [0, 1, -1]), (23, [19, 5], [0, -1, 1]), (23, [20, 6], [0, 1, -1]), (23, [20, 6], [0, -1, 1]), (23, [3, 17], [-1, 1, -1]), (23, [11, 17], [-2000, -1, -1]), (23, [3, 15], [-1, 1, -1]), (23, [11, 15], [-2000, -1, -1]), (23, [4], [0, -1]), (24, [0, 7], []), (24, [2, 9], []), (20, [7, 7], [30, 0, 1, 1, 15, -1, 1, 11]), (20, [7], [50, 3, 0, 12, 11, 15, 2, 21, 4, 7, 1, 3, 2, 0, 12, 0, 1, 0, 3, 2, 0, 11, 4, 3, 2, 0, 15, 0, 8, 3, 7, 1, 3, 2, 0, 12, 0, 0, 0, 7, 4, 3, 2, 0, 15, 0, 1, 2, 0, 11]), (20, [17, 7], [30, 0, 1, 0, 0, -1, 1, 11]), (20, [7], [30, -1, -1, 1, 8]), (20, [32, 7, 31, 25], [50, 2, 0, 1008, 1009, 3, 15, 2, 6, 0, 2, 0, 1, 1, 0, 1, 3, 2, 1, 8, 1, 0, 2, 6, 1, 2, 1, 0, 0, 0, 2, 7, 1, 3, 2, 1, 8, 1, 2, 1, 3, 2, 1, 9, 1, 3]), (102, [32], [0, 165008, 165009]), (23, [17, 15], [0, 1, -1]), (23, [17, 15], [0, -1, 1]), (23, [18, 4], [0, 1, -1]), (23, [18, 4], [0, -1, 1]), (23, [19, 5], [0, 1, -1]), (23, [19, 5], [0, -1, 1]), (23, [20, 6], [0, 1, -1]), (23, [20, 6], [0, -1, 1]), (23, [3, 17], [-1, 1, -1]), (23, [11, 17], [-2000, -1, -1]), (23, [3, 15], [-1, 1, -1]), (23, [11, 15], [-2000, -1, -1]), (23, [4], [0, -1]), (102, [26], [0, 165008, 165009]), (7, [22, 23], [1]), (23, [17, 15], [0, 1, -1]), (23, [17, 15], [0, -1, 1]), (23, [18, 4], [0, 1, -1]), (23, [18, 4], [0, -1, 1]), (23, [19, 5], [0, 1, -1]), (23, [19, 5], [0, -1, 1]), (23, [20, 6], [0, 1, -1]), (23, [20, 6], [0, -1, 1]), (23, [3, 17], [-1, 1, -1]), (23, [11, 17], [-2000, -1, -1]), (23, [3, 15], [-1, 1, -1]), (23, [11, 15], [-2000, -1, -1]), (23, [4], [0, -1]), (102, [20], [0, 165008, 165009, 165011, 165012, 165013, 165014, 165015]), (23, [17, 15], [0, 1, -1]), (23, [17, 15], [0, -1, 1]), (23, [18, 4], [0, 1, -1]), (23, [18, 4], [0, -1, 1]), (23, [19, 5], [0, 1, -1]), (23, [19, 5], [0, -1, 1]), (23, [20, 6], [0, 1, -1]), (23, [20, 6], [0, -1, 1]), (23, [3, 17], [-1, 1, -1]), (23, [11, 17], [-2000, -1, -1]), (23, [3, 15], [-1, 1, -1]), (23, [11, 15], [-2000, -1, -1]), (23, [4], [0, -1]), (102, [15], [0, 165011, 165012, 165013, 165014, 165015]), (23, [3, 15], [-1, 1, -1]), (23, [11, 15], [-2000, -1, -1]), (23, [4], [0, -1]), (102, [13], [0]), (23, [4], [0, -1])], [], [], [(20, [0, 0], [30, 0, 1, 1, 15, -1, 1, 11]), (20, [0], [50, 3, 0, 12, 11, 15, 2, 21, 4, 7, 1, 3, 2, 0, 12, 0, 1, 0, 3, 2, 0, 11, 4, 3, 2, 0, 15, 0, 8, 3, 7, 1, 3, 2, 0, 12, 0, 0, 0, 7, 4, 3, 2, 0, 15, 0, 1, 2, 0, 11]), (20, [3, 0], [30, 0, 1, 0, 0, -1, 1, 11]), (20, [0, 3], [50, 3, 0, 8, 12, 11, 3, 7, 0, 2, 0, 1, 2, 0, 8, 3, 7, 1, 3, 2, 0, 12, 0, 0, 0, 6, 4, 2, 1, 1, 0, 1, 2, 0, 11]), (20, [0, 4], [50, 1, 0, 8, 3, 7, 0, 2, 0, 1, 2, 0, 8, 0, 2, 0, 0, 1, 1]), (20, [34, 2], [30, 0, 1, 0, 0, -1, 0, 0]), (20, [34], [30, 0, -1, 0, 0]), (20, [0, 4, 34, 5, 6], [60, 9, 2, 1014, 10, 11, 12, 13, 14, 15, 8, 9, 5, 1, 2])], [], [])
theorem oo_Mo_of_at_s5003_28 {kA : Nat → ClassId} : or_ok PRD kA GG o_Mo_of_at_s5003_28 := by
  refine or_mk fun A ta ws vs hD hth hl => ?_
  intro t0 r0 t2 k2 t3 k3 t4 k4 t5 k5 t6 k6 t7 r7 t9 k9 t11 k11 t15 k15 t17 k17 t18 k18 t19 k19 t20 k20 t22 k22 t23 k23 t24 k24 t25 k25 t26 k26 t28 k28 t31 k31 t32 k32 t33 k33 t34 k34 f0 f1 f2 f3 f4 f5 f6 f7 f8 f9 f10 f11 f12 f13 f14 f15 f16 f17 f18 f19 f20 f21 f22 f23 f24 f25 f26 f27 f28 ta1 w1 le1 s1 f30 f31 f32 f33 f34 f35 f36 f37 f38 f39 f40 f41 f42 ta2 w2 le2 s2 f44 f45 f46 f47 f48 f49 f50 f51 f52 f53 f54 f55 f56 f57 ta3 w3 le3 s3 f59 f60 f61 f62 f63 f64 f65 f66 f67 f68 f69 f70 f71 ta4 w4 le4 s4 f73 f74 f75 ta5 w5 le5 s5 f77
  replace f0 := shm_115 f0
  replace f1 := shm_361 f1
  replace f2 := shm_103 f2
  replace f4 := shm_293 f4
  replace f5 := shm_1724 f5
  replace f22 := shm_5 f22
  replace f24 := shm_1437 f24
  replace f25 := shm_1438 f25
  replace f26 := shm_1431 f26
  replace f28 := shm_306 f28
  have q7 : n_v vs 7 = n_v vs 0 := f22.symm
  simp only [q7] at f0 f1 f2 f4 f5 f24 f25 f26 f28
  have cr_0_1 := fdq_39 hD hth r0
  have g0 : v_iv (n_v vs 28) = w_fi ws (n_v vs 0) 14 := congrArg v_iv f0
  have g1 : v_iv (n_v vs 25) = w_fi ws (n_v vs 0) 13 := congrArg v_iv f1
  have g2 : v_iv (n_v vs 22) = w_fi ws (n_v vs 0) 12 := congrArg v_iv f2
  have g4 : v_iv (n_v vs 33) = w_fi ws (n_v vs 0) 8 := congrArg v_iv f4
  have hK_0_1 := elq_7 hD hth cr_0_1
  have kz_0_8 := fdq_34 hD hth r0
  have kz_0_9 := fdq_44 hD hth r0
  have kz_0_10 := fdq_43 hD hth r0
  have kz_0_11 := fdq_237 hD hth r0
  have kz_0_12 := fdq_187 hD hth r0
  have kz_0_13 := fdq_238 hD hth r0
  have kz_0_14 := fdq_188 hD hth r0
  have kz_0_15 := fdq_239 hD hth r0
  have nf0 : fc_1 PRD (20, [0, 0], [30, 0, 1, 1, 15, -1, 1, 11]) ws (vs) := ⟨nf_in hl rfl, sgq_1437 (vc_Mo_of_at_s5003_28_0 (v_iv (n_v vs 25)) (v_iv (n_v vs 31)) (v_iv (n_v vs 32)) (w_fi ws (n_v vs 0) 12) (w_fi ws (n_v vs 0) 8) (w_ei ws (w_ar ws (n_v vs 0) 1)) (w_fi ws (n_v vs 0) 15) (w_fi ws (n_v vs 0) 11) (w_fi ws (n_v vs 0) 9) k25 k31 k32 f24 f25 f28 hK_0_1 kz_0_8 kz_0_9 kz_0_11 kz_0_12 kz_0_15)⟩
  have nf1 : fc_1 PRD (20, [0], [50, 3, 0, 12, 11, 15, 2, 21, 4, 7, 1, 3, 2, 0, 12, 0, 1, 0, 3, 2, 0, 11, 4, 3, 2, 0, 15, 0, 8, 3, 7, 1, 3, 2, 0, 12, 0, 0, 0, 7, 4, 3, 2, 0, 15, 0, 1, 2, 0, 11]) ws (vs) := ⟨nf_in hl rfl, sgq_1438 (vc_Mo_of_at_s5003_28_1 (v_iv (n_v vs 25)) (v_iv (n_v vs 31)) (v_iv (n_v vs 32)) (w_fi ws (n_v vs 0) 12) (w_fi ws (n_v vs 0) 8) (w_ei ws (w_ar ws (n_v vs 0) 1)) (w_fi ws (n_v vs 0) 15) (w_fi ws (n_v vs 0) 11) (w_fi ws (n_v vs 0) 9) k25 k31 k32 f25 f28 hK_0_1 kz_0_8 kz_0_9 kz_0_11 kz_0_12 kz_0_15)⟩
  have nf2 : fc_1 PRD (20, [3, 0], [30, 0, 1, 0, 0, -1, 1, 11]) ws (vs) := ⟨nf_in hl rfl, sgq_1431 (vc_Mo_of_at_s5003_28_2 (v_iv (n_v vs 3)) (v_iv (n_v vs 17)) (v_iv (n_v vs 25)) (v_iv (n_v vs 31)) (v_iv (n_v vs 32)) (w_fi ws (n_v vs 0) 12) (w_fi ws (n_v vs 0) 8) (w_ei ws (w_ar ws (n_v vs 0) 1)) (w_fi ws (n_v vs 0) 15) (w_fi ws (n_v vs 0) 11) (w_fi ws (n_v vs 0) 9) k3 k17 k25 k31 k32 (shm_193 f17) f25 f26 f28 hK_0_1 kz_0_8 kz_0_9 kz_0_11 kz_0_12 kz_0_15)⟩
  have nf3 : fc_1 PRD (20, [0, 3], [50, 3, 0, 8, 12, 11, 3, 7, 0, 2, 0, 1, 2, 0, 8, 3, 7, 1, 3, 2, 0, 12, 0, 0, 0, 6, 4, 2, 1, 1, 0, 1, 2, 0, 11]) ws (vs) := ⟨nf_in hl rfl, sgq_1722 (vc_Mo_of_at_s5003_28_3 (v_iv (n_v vs 3)) (v_iv (n_v vs 25)) (v_iv (n_v vs 31)) (v_iv (n_v vs 32)) (v_iv (n_v vs 33)) (w_fi ws (n_v vs 0) 12) (w_fi ws (n_v vs 0) 8) (w_ei ws (w_ar ws (n_v vs 0) 1)) (w_fi ws (n_v vs 0) 15) (w_fi ws (n_v vs 0) 11) (w_fi ws (n_v vs 0) 9) k3 k25 k31 k32 k33 g4 f25 f28 hK_0_1 kz_0_8 kz_0_9 kz_0_11 kz_0_12 kz_0_15)⟩
  have nf4 : fc_1 PRD (20, [0, 4], [50, 1, 0, 8, 3, 7, 0, 2, 0, 1, 2, 0, 8, 0, 2, 0, 0, 1, 1]) ws (vs) := ⟨nf_in hl rfl, sgq_2000 (vc_Mo_of_at_s5003_28_4 (v_iv (n_v vs 4)) (v_iv (n_v vs 25)) (v_iv (n_v vs 31)) (v_iv (n_v vs 32)) (v_iv (n_v vs 33)) (w_fi ws (n_v vs 0) 12) (w_fi ws (n_v vs 0) 8) (w_ei ws (w_ar ws (n_v vs 0) 1)) (w_fi ws (n_v vs 0) 15) (w_fi ws (n_v vs 0) 11) (w_fi ws (n_v vs 0) 9) k4 k25 k31 k32 k33 g4 f25 f28 hK_0_1 kz_0_8 kz_0_9 kz_0_11 kz_0_12 kz_0_15)⟩
  have nf5 : fc_1 PRD (20, [34, 2], [30, 0, 1, 0, 0, -1, 0, 0]) ws (vs) := ⟨nf_in hl rfl, sgq_201 (vc_Mo_of_at_s5003_28_5 (v_iv (n_v vs 2)) (v_iv (n_v vs 25)) (v_iv (n_v vs 31)) (v_iv (n_v vs 32)) (v_iv (n_v vs 34)) (w_fi ws (n_v vs 0) 12) (w_fi ws (n_v vs 0) 8) (w_ei ws (w_ar ws (n_v vs 0) 1)) (w_fi ws (n_v vs 0) 15) (w_fi ws (n_v vs 0) 11) (w_fi ws (n_v vs 0) 9) k2 k25 k31 k32 k34 f25 f28 hK_0_1 kz_0_8 kz_0_9 kz_0_11 kz_0_12 kz_0_15)⟩
  have nf6 : fc_1 PRD (20, [34], [30, 0, -1, 0, 0]) ws (vs) := ⟨nf_in hl rfl, sgq_2002 (vc_Mo_of_at_s5003_28_6 (v_iv (n_v vs 25)) (v_iv (n_v vs 31)) (v_iv (n_v vs 32)) (v_iv (n_v vs 34)) (w_fi ws (n_v vs 0) 12) (w_fi ws (n_v vs 0) 8) (w_ei ws (w_ar ws (n_v vs 0) 1)) (w_fi ws (n_v vs 0) 15) (w_fi ws (n_v vs 0) 11) (w_fi ws (n_v vs 0) 9) k25 k31 k32 k34 f25 f28 hK_0_1 kz_0_8 kz_0_9 kz_0_11 kz_0_12 kz_0_15)⟩
  have nf7 : fc_1 PRD (20, [0, 4, 34, 5, 6], [60, 9, 2, 1014, 10, 11, 12, 13, 14, 15, 8, 9, 5, 1, 2]) ws (vs) := ⟨nf_in hl rfl, sgq_2016 (vc_Mo_of_at_s5003_28_7 (v_iv (n_v vs 4)) (v_iv (n_v vs 5)) (v_iv (n_v vs 6)) (v_iv (n_v vs 15)) (v_iv (n_v vs 17)) (v_iv (n_v vs 18)) (v_iv (n_v vs 19)) (v_iv (n_v vs 20)) (v_iv (n_v vs 22)) (v_iv (n_v vs 25)) (v_iv (n_v vs 28)) (v_iv (n_v vs 31)) (v_iv (n_v vs 32)) (v_iv (n_v vs 33)) (v_iv (n_v vs 34)) (w_fi ws (n_v vs 0) 14) (w_fi ws (n_v vs 0) 13) (w_fi ws (n_v vs 0) 12) (w_fi ws (n_v vs 0) 8) (w_ei ws (w_ar ws (n_v vs 0) 1)) (w_fi ws (n_v vs 0) 10) (w_fi ws (n_v vs 0) 15) (w_fi ws (n_v vs 0) 11) (w_fi ws (n_v vs 0) 9) (w_ei ws (w_ar ws (n_v vs 0) 2)) (w_fi ws (n_v vs 0) 5) k4 k5 k6 k15 k17 k18 k19 k20 k22 k25 k28 k31 k32 k33 k34 g0 g1 g2 g4 f5 (shm_1725 f6) (shm_7 f9) (shm_22 f10) (shm_7 f11) (shm_22 f12) (shm_7 f13) (shm_22 f14) (shm_7 f15) (shm_22 f16) f28 kz_0_8 kz_0_9 kz_0_10 kz_0_11 kz_0_12 kz_0_13 kz_0_14 kz_0_15)⟩
  refine ⟨(fun _ h => (by cases h)), [], trivial, ?_, (fun _ h => (by cases h))⟩
  rw [List.append_nil]
  exact List.forall_mem_cons.mpr ⟨⟨show (20 : Nat) < 100 from by decide, nf0⟩, List.forall_mem_cons.mpr ⟨⟨show (20 : Nat) < 100 from by decide, nf1⟩, List.forall_mem_cons.mpr ⟨⟨show (20 : Nat) < 100 from by decide, nf2⟩, List.forall_mem_cons.mpr ⟨⟨show (20 : Nat) < 100 from by decide, nf3⟩, List.forall_mem_cons.mpr ⟨⟨show (20 : Nat) < 100 from by decide, nf4⟩, List.forall_mem_cons.mpr ⟨⟨show (20 : Nat) < 100 from by decide, nf5⟩, List.forall_mem_cons.mpr ⟨⟨show (20 : Nat) < 100 from by decide, nf6⟩, List.forall_mem_cons.mpr ⟨⟨show (20 : Nat) < 100 from by decide, nf7⟩, (fun _ h => (by cases h))⟩⟩⟩⟩⟩⟩⟩⟩
set_option maxHeartbeats 4000000 in
theorem vc_Mo_of_at_s5003_29_0 (x2 : Int) (x25 : Int) (x28 : Int) (x31 : Int) (x32 : Int) (x33 : Int) (kind_0 : Int) (fault_0 : Int) (tape_0 : Int → Int) (from_0 : Int) (pos_0 : Int) (faultPlace_0 : Int) (k2 : 9 ≤ x2 ∧ x2 ≤ 9) (k25 : 0 ≤ x25 ∧ x25 ≤ 2000) (k28 : 10 ≤ x28 ∧ x28 ≤ 1048575) (k31 : 5 ≤ x31 ∧ x31 ≤ 5) (k32 : 0 ≤ x32 ∧ x32 ≤ 5) (k33 : 0 ≤ x33 ∧ x33 ≤ 0) (g4 : x33 = fault_0) (f20 : ((kind_0 = 1) → (pos_0 ≤ (from_0 + 8))) ∧ ((kind_0 = 0) ∨ ((from_0 + 1) ≤ pos_0))) (f22 : (-1) * fault_0 + 0 ≤ (-1)) (f23 : ((1 ≤ x32) ∧ (fault_0 = x32)) ∨ ((x32 = 0) ∧ ((fault_0 = x31) ∧ (faultPlace_0 = x25)))) (hK_0_1 : ∀ j : Int, 0 ≤ j → j < 2000 → (-128) ≤ tape_0 j ∧ tape_0 j ≤ 127) (kz_0_8 : 0 ≤ fault_0 ∧ fault_0 ≤ 5) (kz_0_9 : 0 ≤ faultPlace_0 ∧ faultPlace_0 ≤ 2000) (kz_0_11 : 0 ≤ pos_0 ∧ pos_0 ≤ 2000) (kz_0_12 : 0 ≤ kind_0 ∧ kind_0 ≤ 4) (kz_0_15 : 0 ≤ from_0 ∧ from_0 ≤ 2000) : 1 * x28 + ((-1) * x2 + 0) ≤ 0 := by
  first | with_reducible assumption | ((have f20_c0 := f20.1); (have f20_c1 := f20.2); (try and_intros) <;> first | with_reducible assumption | (clear f20_c0 f20_c1 f20 f23 hK_0_1; omega)) | ((have f20_c0 := f20.1); (have f20_c1 := f20.2); (try and_intros) <;> first | with_reducible assumption | (clear f20_c0 f20_c1 f20 hK_0_1; omega)) | omega
set_option maxHeartbeats 4000000 in
theorem vc_Mo_of_at_s5003_29_1 (x25 : Int) (x28 : Int) (x31 : Int) (x32 : Int) (x33 : Int) (kind_0 : Int) (fault_0 : Int) (tape_0 : Int → Int) (from_0 : Int) (pos_0 : Int) (faultPlace_0 : Int) (k25 : 0 ≤ x25 ∧ x25 ≤ 2000) (k28 : 10 ≤ x28 ∧ x28 ≤ 1048575) (k31 : 5 ≤ x31 ∧ x31 ≤ 5) (k32 : 0 ≤ x32 ∧ x32 ≤ 5) (k33 : 0 ≤ x33 ∧ x33 ≤ 0) (g4 : x33 = fault_0) (f20 : ((kind_0 = 1) → (pos_0 ≤ (from_0 + 8))) ∧ ((kind_0 = 0) ∨ ((from_0 + 1) ≤ pos_0))) (f22 : (-1) * fault_0 + 0 ≤ (-1)) (f23 : ((1 ≤ x32) ∧ (fault_0 = x32)) ∨ ((x32 = 0) ∧ ((fault_0 = x31) ∧ (faultPlace_0 = x25)))) (hK_0_1 : ∀ j : Int, 0 ≤ j → j < 2000 → (-128) ≤ tape_0 j ∧ tape_0 j ≤ 127) (kz_0_8 : 0 ≤ fault_0 ∧ fault_0 ≤ 5) (kz_0_9 : 0 ≤ faultPlace_0 ∧ faultPlace_0 ≤ 2000) (kz_0_11 : 0 ≤ pos_0 ∧ pos_0 ≤ 2000) (kz_0_12 : 0 ≤ kind_0 ∧ kind_0 ≤ 4) (kz_0_15 : 0 ≤ from_0 ∧ from_0 ≤ 2000) : (-1) * x28 + 0 ≤ 0 := by
  first | with_reducible assumption | ((have f20_c0 := f20.1); (have f20_c1 := f20.2); (try and_intros) <;> first | with_reducible assumption | (clear f20_c0 f20_c1 f20 f23 hK_0_1; omega)) | ((have f20_c0 := f20.1); (have f20_c1 := f20.2); (try and_intros) <;> first | with_reducible assumption | (clear f20_c0 f20_c1 f20 hK_0_1; omega)) | omega

def o_Mo_of_at_s5003_29 : or_T := (135, 34, [(0, (2, 0, 0, [165])), (2, (0, 9, 9, [])), (3, (0, 0, 2000, [])), (7, (2, 0, 0, [165])), (9, (0, 9, 9, [])), (10, (0, -49, 0, [])), (11, (0, 0, 2000, [])), (15, (0, 0, 2000, [])), (17, (0, 0, 2000, [])), (22, (0, 0, 4, [])), (23, (0, 2, 2, [])), (24, (0, 1, 1, [])), (25, (0, 0, 2000, [])), (26, (0, 0, 5, [])), (28, (0, 10, 1048575, [])), (31, (0, 5, 5, [])), (32, (0, 0, 5, [])), (33, (0, 0, 0, []))], [(9, [25, 7], [13]), (9, [22, 7], [12]), (9, [28, 7], [14]), (8, [33], [5]), (9, [33, 7], [8]), (20, [7, 31, 25], [60, 1, 1, 1026, 10, 1]), (20, [32], [61, 0, 1029]), (20, [7, 24, 25], [60, 1, 1, 1026, 10, 1]), (20, [26], [61, 0, 1029]), (23, [17, 15], [0, 1, -1]), (23, [17, 15], [0, -1, 1]), (23, [3, 17], [-1, 1, -1]), (23, [11, 17], [-2000, -1, -1]), (23, [3, 15], [-1, 1, -1]), (23, [11, 15], [-2000, -1, -1]), (23, [10, 9], [0, 1, -1]), (23, [10], [0, -1]), (24, [0, 7], []), (24, [2, 9], []), (20, [7, 7], [30, 0, 1, 1, 15, -1, 1, 11]), (20, [7], [50, 3, 0, 12, 11, 15, 2, 21, 4, 7, 1, 3, 2, 0, 12, 0, 1, 0, 3, 2, 0, 11, 4, 3, 2, 0, 15, 0, 8, 3, 7, 1, 3, 2, 0, 12, 0, 0, 0, 7, 4, 3, 2, 0, 15, 0, 1, 2, 0, 11]), (20, [17, 7], [30, 0, 1, 0, 0, -1, 1, 11]), (20, [7], [30, -1, -1, 1, 8]), (20, [32, 7, 31, 25], [50, 2, 0, 1008, 1009, 3, 15, 2, 6, 0, 2, 0, 1, 1, 0, 1, 3, 2, 1, 8, 1, 0, 2, 6, 1, 2, 1, 0, 0, 0, 2, 7, 1, 3, 2, 1, 8, 1, 2, 1, 3, 2, 1, 9, 1, 3]), (102, [32], [0, 165008, 165009]), (23, [17, 15], [0, 1, -1]), (23, [17, 15], [0, -1, 1]), (23, [3, 17], [-1, 1, -1]), (23, [11, 17], [-2000, -1, -1]), (23, [3, 15], [-1, 1, -1]), (23, [11, 15], [-2000, -1, -1]), (23, [10, 9], [0, 1, -1]), (23, [10], [0, -1]), (102, [26], [0, 165008, 165009]), (7, [22, 23], [1]), (23, [17, 15], [0, 1, -1]), (23, [17, 15], [0, -1, 1]), (23, [3, 17], [-1, 1, -1]), (23, [11, 17], [-2000, -1, -1]), (23, [3, 15], [-1, 1, -1]), (23, [11, 15], [-2000, -1, -1]), (23, [10, 9], [0, 1, -1]), (23, [10], [0, -1]), (102, [20], [0, 165008, 165009, 165011, 165012, 165013, 165014, 165015]), (23, [17, 15], [0, 1, -1]), (23, [17, 15], [0, -1, 1]), (23, [3, 17], [-1, 1, -1]), (23, [11, 17], [-2000, -1, -1]), (23, [3, 15], [-1, 1, -1]), (23, [11, 15], [-2000, -1, -1]), (23, [10, 9], [0, 1, -1]), (23, [10], [0, -1]), (102, [15], [0, 165011, 165012, 165013, 165014, 165015]), (23, [3, 15], [-1, 1, -1]), (23, [11, 15], [-2000, -1, -1]), (8, [10], [5]), (23, [10, 9], [0, 1, -1]), (23, [10], [0, -1]), (102, [13], [0]), (23, [10, 9], [0, 1, -1]), (23, [10], [0, -1])], [], [], [(23, [28, 9], [0, 1, -1]), (23, [28], [0, -1])], [], [])
theorem oo_Mo_of_at_s5003_29 {kA : Nat → ClassId} : or_ok PRD kA GG o_Mo_of_at_s5003_29 := by
  refine or_mk fun A ta ws vs hD hth hl => ?_
  intro t0 r0 t2 k2 t3 k3 t7 r7 t9 k9 t10 k10 t11 k11 t15 k15 t17 k17 t22 k22 t23 k23 t24 k24 t25 k25 t26 k26 t28 k28 t31 k31 t32 k32 t33 k33 f0 f1 f2 f3 f4 f5 f6 f7 f8 f9 f10 f11 f12 f13 f14 f15 f16 f17 f18 f19 f20 f21 f22 f23 ta1 w1 le1 s1 f25 f26 f27 f28 f29 f30 f31 f32 ta2 w2 le2 s2 f34 f35 f36 f37 f38 f39 f40 f41 f42 ta3 w3 le3 s3 f44 f45 f46 f47 f48 f49 f50 f51 ta4 w4 le4 s4 f53 f54 f55 f56 f57 ta5 w5 le5 s5 f59 f60
  replace f4 := shm_293 f4
  replace f17 := shm_5 f17
  replace f18 := shm_5 f18
  replace f20 := shm_1438 f20
  replace f22 := shm_305 f22
  replace f23 := shm_306 f23
  have q7 : n_v vs 7 = n_v vs 0 := f17.symm
  have q9 : n_v vs 9 = n_v vs 2 := f18.symm
  simp only [q7] at f4 f20 f22 f23
  have cr_0_1 := fdq_39 hD hth r0
  have g4 : v_iv (n_v vs 33) = w_fi ws (n_v vs 0) 8 := congrArg v_iv f4
  have hK_0_1 := elq_7 hD hth cr_0_1
  have kz_0_8 := fdq_34 hD hth r0
  have kz_0_9 := fdq_44 hD hth r0
  have kz_0_11 := fdq_237 hD hth r0
  have kz_0_12 := fdq_187 hD hth r0
  have kz_0_15 := fdq_239 hD hth r0
  have nf0 : fc_1 PRD (23, [28, 9], [0, 1, -1]) ws (vs) := by
    refine ⟨nf_in hl rfl, sgq_7 ?_⟩
    · show 1 * v_iv (n_v vs 28) + ((-1) * v_iv (n_v vs 9) + 0) ≤ 0
      rw [q9]
      exact vc_Mo_of_at_s5003_29_0 (v_iv (n_v vs 2)) (v_iv (n_v vs 25)) (v_iv (n_v vs 28)) (v_iv (n_v vs 31)) (v_iv (n_v vs 32)) (v_iv (n_v vs 33)) (w_fi ws (n_v vs 0) 12) (w_fi ws (n_v vs 0) 8) (w_ei ws (w_ar ws (n_v vs 0) 1)) (w_fi ws (n_v vs 0) 15) (w_fi ws (n_v vs 0) 11) (w_fi ws (n_v vs 0) 9) k2 k25 k28 k31 k32 k33 g4 f20 f22 f23 hK_0_1 kz_0_8 kz_0_9 kz_0_11 kz_0_12 kz_0_15
  have nf1 : fc_1 PRD (23, [28], [0, -1]) ws (vs) := ⟨nf_in hl rfl, sgq_1043 (vc_Mo_of_at_s5003_29_1 (v_iv (n_v vs 25)) (v_iv (n_v vs 28)) (v_iv (n_v vs 31)) (v_iv (n_v vs 32)) (v_iv (n_v vs 33)) (w_fi ws (n_v vs 0) 12) (w_fi ws (n_v vs 0) 8) (w_ei ws (w_ar ws (n_v vs 0) 1)) (w_fi ws (n_v vs 0) 15) (w_fi ws (n_v vs 0) 11) (w_fi ws (n_v vs 0) 9) k25 k28 k31 k32 k33 g4 f20 f22 f23 hK_0_1 kz_0_8 kz_0_9 kz_0_11 kz_0_12 kz_0_15)⟩
  refine ⟨(fun _ h => (by cases h)), [], trivial, ?_, (fun _ h => (by cases h))⟩
  rw [List.append_nil]
  exact List.forall_mem_cons.mpr ⟨⟨show (23 : Nat) < 100 from by decide, nf0⟩, List.forall_mem_cons.mpr ⟨⟨show (23 : Nat) < 100 from by decide, nf1⟩, (fun _ h => (by cases h))⟩⟩
set_option maxHeartbeats 4000000 in
theorem vc_Mo_of_at_s5003_30_0 (x2 : Int) (x25 : Int) (x28 : Int) (x31 : Int) (x32 : Int) (kind_0 : Int) (fault_0 : Int) (tape_0 : Int → Int) (from_0 : Int) (pos_0 : Int) (faultPlace_0 : Int) (gx : Int) (k2 : 9 ≤ x2 ∧ x2 ≤ 9) (k25 : 0 ≤ x25 ∧ x25 ≤ 2000) (k28 : 10 ≤ x28 ∧ x28 ≤ 1048575) (k31 : 5 ≤ x31 ∧ x31 ≤ 5) (k32 : 0 ≤ x32 ∧ x32 ≤ 5) (f2 : 1 * x28 + ((-1) * x2 + 0) ≤ 0) (f29 : ((kind_0 = 1) → (pos_0 ≤ (from_0 + 8))) ∧ ((kind_0 = 0) ∨ ((from_0 + 1) ≤ pos_0))) (f32 : ((1 ≤ x32) ∧ (fault_0 = x32)) ∨ ((x32 = 0) ∧ ((fault_0 = x31) ∧ (faultPlace_0 = x25)))) (hK_0_1 : ∀ j : Int, 0 ≤ j → j < 2000 → (-128) ≤ tape_0 j ∧ tape_0 j ≤ 127) (kz_0_8 : 0 ≤ fault_0 ∧ fault_0 ≤ 5) (kz_0_9 : 0 ≤ faultPlace_0 ∧ faultPlace_0 ≤ 2000) (kz_0_11 : 0 ≤ pos_0 ∧ pos_0 ≤ 2000) (kz_0_12 : 0 ≤ kind_0 ∧ kind_0 ≤ 4) (kz_0_15 : 0 ≤ from_0 ∧ from_0 ≤ 2000) : 1 * gx + ((-1) * pos_0 + 0) ≤ 0 := by
  first | with_reducible assumption | ((have f29_c0 := f29.1); (have f29_c1 := f29.2); (try and_intros) <;> first | with_reducible assumption | (clear f29_c0 f29_c1 f29 f32 hK_0_1; omega)) | ((have f29_c0 := f29.1); (have f29_c1 := f29.2); (try and_intros) <;> first | with_reducible assumption | (clear f29_c0 f29_c1 f29 hK_0_1; omega)) | omega
set_option maxHeartbeats 4000000 in
theorem vc_Mo_of_at_s5003_30_1 (x25 : Int) (x31 : Int) (x32 : Int) (kind_0 : Int) (fault_0 : Int) (tape_0 : Int → Int) (from_0 : Int) (pos_0 : Int) (faultPlace_0 : Int) (gx : Int) (k25 : 0 ≤ x25 ∧ x25 ≤ 2000) (k31 : 5 ≤ x31 ∧ x31 ≤ 5) (k32 : 0 ≤ x32 ∧ x32 ≤ 5) (f29 : ((kind_0 = 1) → (pos_0 ≤ (from_0 + 8))) ∧ ((kind_0 = 0) ∨ ((from_0 + 1) ≤ pos_0))) (f32 : ((1 ≤ x32) ∧ (fault_0 = x32)) ∨ ((x32 = 0) ∧ ((fault_0 = x31) ∧ (faultPlace_0 = x25)))) (hK_0_1 : ∀ j : Int, 0 ≤ j → j < 2000 → (-128) ≤ tape_0 j ∧ tape_0 j ≤ 127) (kz_0_8 : 0 ≤ fault_0 ∧ fault_0 ≤ 5) (kz_0_9 : 0 ≤ faultPlace_0 ∧ faultPlace_0 ≤ 2000) (kz_0_11 : 0 ≤ pos_0 ∧ pos_0 ≤ 2000) (kz_0_12 : 0 ≤ kind_0 ∧ kind_0 ≤ 4) (kz_0_15 : 0 ≤ from_0 ∧ from_0 ≤ 2000) (ex2 : gx = pos_0) : gx = pos_0 := by
  first | with_reducible assumption | ((have f29_c0 := f29.1); (have f29_c1 := f29.2); (try and_intros) <;> first | with_reducible assumption | (clear f29_c0 f29_c1 f29 f32 hK_0_1; omega)) | ((have f29_c0 := f29.1); (have f29_c1 := f29.2); (try and_intros) <;> first | with_reducible assumption | (clear f29_c0 f29_c1 f29 hK_0_1; omega)) | omega
set_option maxHeartbeats 4000000 in
theorem vc_Mo_of_at_s5003_30_2 (x2 : Int) (x4 : Int) (x5 : Int) (x6 : Int) (x15 : Int) (x17 : Int) (x18 : Int) (x19 : Int) (x20 : Int) (x22 : Int) (x25 : Int) (x28 : Int) (x33 : Int) (place_0 : Int) (kind_0 : Int) (value_0 : Int) (fault_0 : Int) (limit_0 : Int) (pos_0 : Int) (gx : Int) (k2 : 9 ≤ x2 ∧ x2 ≤ 9) (k22 : 0 ≤ x22 ∧ x22 ≤ 4) (k25 : 0 ≤ x25 ∧ x25 ≤ 2000) (k28 : 10 ≤ x28 ∧ x28 ≤ 1048575) (k33 : 0 ≤ x33 ∧ x33 ≤ 0) (g0 : x25 = place_0) (g1 : x22 = kind_0) (f2 : 1 * x28 + ((-1) * x2 + 0) ≤ 0) (g4 : x28 = value_0) (g6 : x33 = fault_0) (kz_0_8 : 0 ≤ fault_0 ∧ fault_0 ≤ 5) (kz_0_10 : 0 ≤ limit_0 ∧ limit_0 ≤ 2000) (kz_0_11 : 0 ≤ pos_0 ∧ pos_0 ≤ 2000) (kz_0_12 : 0 ≤ kind_0 ∧ kind_0 ≤ 4) (kz_0_13 : 0 ≤ place_0 ∧ place_0 ≤ 2000) (kz_0_14 : (-49) ≤ value_0 ∧ value_0 ≤ 1048575) (ex2 : gx = pos_0) : ZLM (limit_0) (pos_0) := by
  first | (have el_x17 : x17 = x15 := by omega); subst el_x17 | skip
  first | (have el_x18 : x18 = x4 := by omega); subst el_x18 | skip
  first | (have el_x19 : x19 = x5 := by omega); subst el_x19 | skip
  first | (have el_x20 : x20 = x6 := by omega); subst el_x20 | skip
  first | subst g0 | skip
  first | subst g1 | skip
  first | subst g4 | skip
  first | subst g6 | skip
  first | subst ex2 | skip
  first
    | exact ob_0_s ‹zOBs _ _ _ _ _ _ _ _ _ _ _ _ _ _› (sgq_t (C := 91) ‹SGQ _ _ _ _ _› (by omega) (by omega)).1
    | exact ob_0_w ‹zOBw _ _ _ _ _ _ _ _ _ _ _ _ _ _› (sgq_t (C := 91) ‹SGQ _ _ _ _ _› (by omega) (by omega)).1
    | exact (oi_0_s ‹zOIs _ _ _ _ _ _ _ _ _ _ _ _ _ _›).2
    | exact (oi_0_w ‹zOIw _ _ _ _ _ _ _ _ _ _ _ _ _ _›).2
    | exact o11_0_s ‹zO11s _ _ _ _ _ _ _ _ _ _ _ _ _ _› (by omega)
    | exact o11_0_w ‹zO11w _ _ _ _ _ _ _ _ _ _ _ _ _ _› (by omega)
    | (exfalso; omega)
set_option maxHeartbeats 4000000 in
theorem vc_Mo_of_at_s5003_30_3 (x2 : Int) (x3 : Int) (x25 : Int) (x28 : Int) (x31 : Int) (x32 : Int) (kind_0 : Int) (fault_0 : Int) (tape_0 : Int → Int) (from_0 : Int) (pos_0 : Int) (faultPlace_0 : Int) (gx : Int) (k2 : 9 ≤ x2 ∧ x2 ≤ 9) (k3 : 0 ≤ x3 ∧ x3 ≤ 2000) (k25 : 0 ≤ x25 ∧ x25 ≤ 2000) (k28 : 10 ≤ x28 ∧ x28 ≤ 1048575) (k31 : 5 ≤ x31 ∧ x31 ≤ 5) (k32 : 0 ≤ x32 ∧ x32 ≤ 5) (f2 : 1 * x28 + ((-1) * x2 + 0) ≤ 0) (f29 : ((kind_0 = 1) → (pos_0 ≤ (from_0 + 8))) ∧ ((kind_0 = 0) ∨ ((from_0 + 1) ≤ pos_0))) (f32 : ((1 ≤ x32) ∧ (fault_0 = x32)) ∨ ((x32 = 0) ∧ ((fault_0 = x31) ∧ (faultPlace_0 = x25)))) (hK_0_1 : ∀ j : Int, 0 ≤ j → j < 2000 → (-128) ≤ tape_0 j ∧ tape_0 j ≤ 127) (kz_0_8 : 0 ≤ fault_0 ∧ fault_0 ≤ 5) (kz_0_9 : 0 ≤ faultPlace_0 ∧ faultPlace_0 ≤ 2000) (kz_0_11 : 0 ≤ pos_0 ∧ pos_0 ≤ 2000) (kz_0_12 : 0 ≤ kind_0 ∧ kind_0 ≤ 4) (kz_0_15 : 0 ≤ from_0 ∧ from_0 ≤ 2000) : 1 * x3 + ((-1) * gx + 0) ≤ (-1) := by
  first | with_reducible assumption | ((have f29_c0 := f29.1); (have f29_c1 := f29.2); (try and_intros) <;> first | with_reducible assumption | (clear f29_c0 f29_c1 f29 f32 hK_0_1; omega)) | ((have f29_c0 := f29.1); (have f29_c1 := f29.2); (try and_intros) <;> first | with_reducible assumption | (clear f29_c0 f29_c1 f29 hK_0_1; omega)) | omega
set_option maxHeartbeats 4000000 in
theorem vc_Mo_of_at_s5003_30_4 (x2 : Int) (x11 : Int) (x25 : Int) (x28 : Int) (x31 : Int) (x32 : Int) (kind_0 : Int) (fault_0 : Int) (tape_0 : Int → Int) (from_0 : Int) (pos_0 : Int) (faultPlace_0 : Int) (gx : Int) (k2 : 9 ≤ x2 ∧ x2 ≤ 9) (k11 : 0 ≤ x11 ∧ x11 ≤ 2000) (k25 : 0 ≤ x25 ∧ x25 ≤ 2000) (k28 : 10 ≤ x28 ∧ x28 ≤ 1048575) (k31 : 5 ≤ x31 ∧ x31 ≤ 5) (k32 : 0 ≤ x32 ∧ x32 ≤ 5) (f2 : 1 * x28 + ((-1) * x2 + 0) ≤ 0) (f29 : ((kind_0 = 1) → (pos_0 ≤ (from_0 + 8))) ∧ ((kind_0 = 0) ∨ ((from_0 + 1) ≤ pos_0))) (f32 : ((1 ≤ x32) ∧ (fault_0 = x32)) ∨ ((x32 = 0) ∧ ((fault_0 = x31) ∧ (faultPlace_0 = x25)))) (hK_0_1 : ∀ j : Int, 0 ≤ j → j < 2000 → (-128) ≤ tape_0 j ∧ tape_0 j ≤ 127) (kz_0_8 : 0 ≤ fault_0 ∧ fault_0 ≤ 5) (kz_0_9 : 0 ≤ faultPlace_0 ∧ faultPlace_0 ≤ 2000) (kz_0_11 : 0 ≤ pos_0 ∧ pos_0 ≤ 2000) (kz_0_12 : 0 ≤ kind_0 ∧ kind_0 ≤ 4) (kz_0_15 : 0 ≤ from_0 ∧ from_0 ≤ 2000) : (-1) * x11 + ((-1) * gx + 0) ≤ (-2001) := by
  first | with_reducible assumption | ((have f29_c0 := f29.1); (have f29_c1 := f29.2); (try and_intros) <;> first | with_reducible assumption | (clear f29_c0 f29_c1 f29 f32 hK_0_1; omega)) | ((have f29_c0 := f29.1); (have f29_c1 := f29.2); (try and_intros) <;> first | with_reducible assumption | (clear f29_c0 f29_c1 f29 hK_0_1; omega)) | omega
set_option maxHeartbeats 4000000 in
theorem vc_Mo_of_at_s5003_30_5 (x2 : Int) (x4 : Int) (x5 : Int) (x6 : Int) (x15 : Int) (x17 : Int) (x18 : Int) (x19 : Int) (x20 : Int) (x22 : Int) (x25 : Int) (x28 : Int) (x33 : Int) (place_0 : Int) (kind_0 : Int) (value_0 : Int) (fault_0 : Int) (tape_0 : Int → Int) (limit_0 : Int) (pos_0 : Int) (gx : Int) (all_0 : Int → Int) (r_0 : Int) (k2 : 9 ≤ x2 ∧ x2 ≤ 9) (k4 : (-1) ≤ x4 ∧ x4 ≤ 48) (k5 : 0 ≤ x5 ∧ x5 ≤ 7) (k6 : 0 ≤ x6 ∧ x6 ≤ 4) (k22 : 0 ≤ x22 ∧ x22 ≤ 4) (k25 : 0 ≤ x25 ∧ x25 ≤ 2000) (k28 : 10 ≤ x28 ∧ x28 ≤ 1048575) (k33 : 0 ≤ x33 ∧ x33 ≤ 0) (g0 : x25 = place_0) (g1 : x22 = kind_0) (f2 : 1 * x28 + ((-1) * x2 + 0) ≤ 0) (g4 : x28 = value_0) (g6 : x33 = fault_0) (kz_0_8 : 0 ≤ fault_0 ∧ fault_0 ≤ 5) (kz_0_10 : 0 ≤ limit_0 ∧ limit_0 ≤ 2000) (kz_0_11 : 0 ≤ pos_0 ∧ pos_0 ≤ 2000) (kz_0_12 : 0 ≤ kind_0 ∧ kind_0 ≤ 4) (kz_0_13 : 0 ≤ place_0 ∧ place_0 ≤ 2000) (kz_0_14 : (-49) ≤ value_0 ∧ value_0 ≤ 1048575) (ex2 : gx = pos_0) : zU12w (limit_0) (fault_0) (r_0) (tape_0) (all_0) (x4) (x28) (x5) (x6) (gx) := by
  first | (have el_x17 : x17 = x15 := by omega); subst el_x17 | skip
  first | (have el_x18 : x18 = x4 := by omega); subst el_x18 | skip
  first | (have el_x19 : x19 = x5 := by omega); subst el_x19 | skip
  first | (have el_x20 : x20 = x6 := by omega); subst el_x20 | skip
  first | subst g0 | skip
  first | subst g1 | skip
  first | subst g4 | skip
  first | subst g6 | skip
  first | subst ex2 | skip
  first
    | exact of_val_w ‹zO11w _ _ _ _ _ _ _ _ _ _ _ _ _ _› (by omega) (by omega) (by omega) (by omega) (by omega)
    | (exfalso; omega)
def o_Mo_of_at_s5003_30 : or_T := (136, 34, [(0, (2, 0, 0, [165])), (2, (0, 9, 9, [])), (3, (0, 0, 2000, [])), (4, (0, -1, 48, [])), (5, (0, 0, 7, [])), (6, (0, 0, 4, [])), (7, (2, 0, 0, [165])), (9, (0, 9, 9, [])), (10, (0, -49, 0, [])), (11, (0, 0, 2000, [])), (15, (0, 0, 2000, [])), (17, (0, 0, 2000, [])), (18, (0, -1, 48, [])), (19, (0, 0, 7, [])), (20, (0, 0, 4, [])), (22, (0, 0, 4, [])), (23, (0, 2, 2, [])), (24, (0, 1, 1, [])), (25, (0, 0, 2000, [])), (26, (0, 0, 5, [])), (28, (0, 10, 1048575, [])), (31, (0, 5, 5, [])), (32, (0, 0, 5, [])), (33, (0, 0, 0, []))], [(9, [25, 7], [13]), (9, [22, 7], [12]), (23, [28, 9], [0, 1, -1]), (23, [28], [0, -1]), (9, [28, 7], [14]), (8, [33], [5]), (9, [33, 7], [8]), (20, [7, 31, 25], [60, 1, 1, 1026, 10, 1]), (20, [32], [61, 0, 1029]), (20, [7, 24, 25], [60, 1, 1, 1026, 10, 1]), (20, [26], [61, 0, 1029]), (23, [17, 15], [0, 1, -1]), (23, [17, 15], [0, -1, 1]), (23, [18, 4], [0, 1, -1]), (23, [18, 4], [0, -1, 1]), (23, [19, 5], [0, 1, -1]), (23, [19, 5], [0, -1, 1]), (23, [20, 6], [0, 1, -1]), (23, [20, 6], [0, -1, 1]), (23, [3, 17], [-1, 1, -1]), (23, [11, 17], [-2000, -1, -1]), (23, [3, 15], [-1, 1, -1]), (23, [11, 15], [-2000, -1, -1]), (23, [10, 9], [0, 1, -1]), (23, [10], [0, -1]), (23, [4], [0, -1]), (24, [0, 7], []), (24, [2, 9], []), (20, [7, 7], [30, 0, 1, 1, 15, -1, 1, 11]), (20, [7], [50, 3, 0, 12, 11, 15, 2, 21, 4, 7, 1, 3, 2, 0, 12, 0, 1, 0, 3, 2, 0, 11, 4, 3, 2, 0, 15, 0, 8, 3, 7, 1, 3, 2, 0, 12, 0, 0, 0, 7, 4, 3, 2, 0, 15, 0, 1, 2, 0, 11]), (20, [17, 7], [30, 0, 1, 0, 0, -1, 1, 11]), (20, [7], [30, -1, -1, 1, 8]), (20, [32, 7, 31, 25], [50, 2, 0, 1008, 1009, 3, 15, 2, 6, 0, 2, 0, 1, 1, 0, 1, 3, 2, 1, 8, 1, 0, 2, 6, 1, 2, 1, 0, 0, 0, 2, 7, 1, 3, 2, 1, 8, 1, 2, 1, 3, 2, 1, 9, 1, 3]), (102, [32], [0, 165008, 165009]), (23, [17, 15], [0, 1, -1]), (23, [17, 15], [0, -1, 1]), (23, [18, 4], [0, 1, -1]), (23, [18, 4], [0, -1, 1]), (23, [19, 5], [0, 1, -1]), (23, [19, 5], [0, -1, 1]), (23, [20, 6], [0, 1, -1]), (23, [20, 6], [0, -1, 1]), (23, [3, 17], [-1, 1, -1]), (23, [11, 17], [-2000, -1, -1]), (23, [3, 15], [-1, 1, -1]), (23, [11, 15], [-2000, -1, -1]), (23, [10, 9], [0, 1, -1]), (23, [10], [0, -1]), (23, [4], [0, -1]), (102, [26], [0, 165008, 165009]), (7, [22, 23], [1]), (23, [17, 15], [0, 1, -1]), (23, [17, 15], [0, -1, 1]), (23, [18, 4], [0, 1, -1]), (23, [18, 4], [0, -1, 1]), (23, [19, 5], [0, 1, -1]), (23, [19, 5], [0, -1, 1]), (23, [20, 6], [0, 1, -1]), (23, [20, 6], [0, -1, 1]), (23, [3, 17], [-1, 1, -1]), (23, [11, 17], [-2000, -1, -1]), (23, [3, 15], [-1, 1, -1]), (23, [11, 15], [-2000, -1, -1]), (23, [10, 9], [0, 1, -1]), (23, [10], [0, -1]), (23, [4], [0, -1]), (102, [20], [0, 165008, 165009, 165011, 165012, 165013, 165014, 165015]), (23, [17, 15], [0, 1, -1]), (23, [17, 15], [0, -1, 1]), (23, [18, 4], [0, 1, -1]), (23, [18, 4], [0, -1, 1]), (23, [19, 5], [0, 1, -1]), (23, [19, 5], [0, -1, 1]), (23, [20, 6], [0, 1, -1]), (23, [20, 6], [0, -1, 1]), (23, [3, 17], [-1, 1, -1]), (23, [11, 17], [-2000, -1, -1]), (23, [3, 15], [-1, 1, -1]), (23, [11, 15], [-2000, -1, -1]), (23, [10, 9], [0, 1, -1]), (23, [10], [0, -1]), (23, [4], [0, -1]), (102, [15], [0, 165011, 165012, 165013, 165014, 165015]), (23, [3, 15], [-1, 1, -1]), (23, [11, 15], [-2000, -1, -1]), (8, [10], [5]), (23, [10, 9], [0, 1, -1]), (23, [10], [0, -1]), (23, [4], [0, -1]), (102, [13], [0]), (23, [10, 9], [0, 1, -1]), (23, [10], [0, -1]), (23, [4], [0, -1])], [], [(0, 0, 2000, [])], [(20, [34, 7], [30, 0, 1, 0, 0, -1, 1, 11]), (20, [34, 7], [50, 1, 0, 1011, 1, 2, 1, 0, 2, 1, 11]), (20, [7], [60, 2, 0, 947, 10, 11]), (23, [3, 34], [-1, 1, -1]), (23, [11, 34], [-2001, -1, -1]), (20, [7, 4, 28, 5, 6, 34], [60, 3, 2, 987, 10, 8, 5, 1, 2])], [], [])
theorem oo_Mo_of_at_s5003_30 {kA : Nat → ClassId} : or_ok PRD kA GG o_Mo_of_at_s5003_30 := by
  refine or_mk fun A ta ws vs hD hth hl => ?_
  intro t0 r0 t2 k2 t3 k3 t4 k4 t5 k5 t6 k6 t7 r7 t9 k9 t10 k10 t11 k11 t15 k15 t17 k17 t18 k18 t19 k19 t20 k20 t22 k22 t23 k23 t24 k24 t25 k25 t26 k26 t28 k28 t31 k31 t32 k32 t33 k33 f0 f1 f2 f3 f4 f5 f6 f7 f8 f9 f10 f11 f12 f13 f14 f15 f16 f17 f18 f19 f20 f21 f22 f23 f24 f25 f26 f27 f28 f29 f30 f31 f32 ta1 w1 le1 s1 f34 f35 f36 f37 f38 f39 f40 f41 f42 f43 f44 f45 f46 f47 f48 ta2 w2 le2 s2 f50 f51 f52 f53 f54 f55 f56 f57 f58 f59 f60 f61 f62 f63 f64 f65 ta3 w3 le3 s3 f67 f68 f69 f70 f71 f72 f73 f74 f75 f76 f77 f78 f79 f80 f81 ta4 w4 le4 s4 f83 f84 f85 f86 f87 f88 ta5 w5 le5 s5 f90 f91 f92
  replace f0 := shm_361 f0
  replace f1 := shm_103 f1
  replace f2 := shm_7 f2
  replace f4 := shm_115 f4
  replace f6 := shm_293 f6
  replace f26 := shm_5 f26
  replace f27 := shm_5 f27
  replace f29 := shm_1438 f29
  replace f32 := shm_306 f32
  have q7 : n_v vs 7 = n_v vs 0 := f26.symm
  have q9 : n_v vs 9 = n_v vs 2 := f27.symm
  simp only [q7, q9] at f0 f1 f2 f4 f6 f29 f32
  have cr_0_1 := fdq_39 hD hth r0
  have g0 : v_iv (n_v vs 25) = w_fi ws (n_v vs 0) 13 := congrArg v_iv f0
  have g1 : v_iv (n_v vs 22) = w_fi ws (n_v vs 0) 12 := congrArg v_iv f1
  have g4 : v_iv (n_v vs 28) = w_fi ws (n_v vs 0) 14 := congrArg v_iv f4
  have g6 : v_iv (n_v vs 33) = w_fi ws (n_v vs 0) 8 := congrArg v_iv f6
  have hK_0_1 := elq_7 hD hth cr_0_1
  have kz_0_8 := fdq_34 hD hth r0
  have kz_0_9 := fdq_44 hD hth r0
  have kz_0_10 := fdq_43 hD hth r0
  have kz_0_11 := fdq_237 hD hth r0
  have kz_0_12 := fdq_187 hD hth r0
  have kz_0_13 := fdq_238 hD hth r0
  have kz_0_14 := fdq_188 hD hth r0
  have kz_0_15 := fdq_239 hD hth r0
  obtain ⟨x, ex, hx⟩ := iv_ex (ta := ta) (lo := 0) (hi := 2000) (z := w_fi ws (n_v vs 0) 11) (by omega) (by omega) (by omega) (by omega)
  have ex2 : v_iv (Value.int x) = w_fi ws (n_v vs 0) 11 := ex
  have ex3 : 0 ≤ v_iv (Value.int x) ∧ v_iv (Value.int x) ≤ 2000 := tv_rng hx
  have e_3 : n_v (vs ++ [Value.int x]) 3 = n_v vs 3 := n_v_old (by rw [hl]; decide)
  have e_4 : n_v (vs ++ [Value.int x]) 4 = n_v vs 4 := n_v_old (by rw [hl]; decide)
  have e_5 : n_v (vs ++ [Value.int x]) 5 = n_v vs 5 := n_v_old (by rw [hl]; decide)
  have e_6 : n_v (vs ++ [Value.int x]) 6 = n_v vs 6 := n_v_old (by rw [hl]; decide)
  have e_7 : n_v (vs ++ [Value.int x]) 7 = n_v vs 7 := n_v_old (by rw [hl]; decide)
  have e_11 : n_v (vs ++ [Value.int x]) 11 = n_v vs 11 := n_v_old (by rw [hl]; decide)
  have e_28 : n_v (vs ++ [Value.int x]) 28 = n_v vs 28 := n_v_old (by rw [hl]; decide)
  have e_34 : n_v (vs ++ [Value.int x]) 34 = Value.int x := n_v_new hl
  have nf0 : fc_1 PRD (20, [34, 7], [30, 0, 1, 0, 0, -1, 1, 11]) ws (vs ++ [Value.int x]) := by
    refine ⟨nf_inA hl rfl, sgq_1431 ?_⟩
    · show 1 * v_iv (n_v (vs ++ [Value.int x]) 34) + ((-1) * w_fi ws (n_v (vs ++ [Value.int x]) 7) 11 + 0) ≤ 0
      simp only [e_7, e_34, q7]
      exact vc_Mo_of_at_s5003_30_0 (v_iv (n_v vs 2)) (v_iv (n_v vs 25)) (v_iv (n_v vs 28)) (v_iv (n_v vs 31)) (v_iv (n_v vs 32)) (w_fi ws (n_v vs 0) 12) (w_fi ws (n_v vs 0) 8) (w_ei ws (w_ar ws (n_v vs 0) 1)) (w_fi ws (n_v vs 0) 15) (w_fi ws (n_v vs 0) 11) (w_fi ws (n_v vs 0) 9) (v_iv (Value.int x)) k2 k25 k28 k31 k32 f2 f29 f32 hK_0_1 kz_0_8 kz_0_9 kz_0_11 kz_0_12 kz_0_15
  have nf1 : fc_1 PRD (20, [34, 7], [50, 1, 0, 1011, 1, 2, 1, 0, 2, 1, 11]) ws (vs ++ [Value.int x]) := by
    refine ⟨nf_inA hl rfl, sgq_1432 ?_⟩
    · show v_iv (n_v (vs ++ [Value.int x]) 34) = w_fi ws (n_v (vs ++ [Value.int x]) 7) 11
      simp only [e_7, e_34, q7]
      exact vc_Mo_of_at_s5003_30_1 (v_iv (n_v vs 25)) (v_iv (n_v vs 31)) (v_iv (n_v vs 32)) (w_fi ws (n_v vs 0) 12) (w_fi ws (n_v vs 0) 8) (w_ei ws (w_ar ws (n_v vs 0) 1)) (w_fi ws (n_v vs 0) 15) (w_fi ws (n_v vs 0) 11) (w_fi ws (n_v vs 0) 9) (v_iv (Value.int x)) k25 k31 k32 f29 f32 hK_0_1 kz_0_8 kz_0_9 kz_0_11 kz_0_12 kz_0_15 ex2
  have nf2 : fc_1 PRD (20, [7], [60, 2, 0, 947, 10, 11]) ws (vs ++ [Value.int x]) := by
    refine ⟨nf_inA hl rfl, sgq_1433 ?_⟩
    · show ZLM (w_fi ws (n_v (vs ++ [Value.int x]) 7) 10) (w_fi ws (n_v (vs ++ [Value.int x]) 7) 11)
      simp only [e_7, q7]
      exact vc_Mo_of_at_s5003_30_2 (v_iv (n_v vs 2)) (v_iv (n_v vs 4)) (v_iv (n_v vs 5)) (v_iv (n_v vs 6)) (v_iv (n_v vs 15)) (v_iv (n_v vs 17)) (v_iv (n_v vs 18)) (v_iv (n_v vs 19)) (v_iv (n_v vs 20)) (v_iv (n_v vs 22)) (v_iv (n_v vs 25)) (v_iv (n_v vs 28)) (v_iv (n_v vs 33)) (w_fi ws (n_v vs 0) 13) (w_fi ws (n_v vs 0) 12) (w_fi ws (n_v vs 0) 14) (w_fi ws (n_v vs 0) 8) (w_fi ws (n_v vs 0) 10) (w_fi ws (n_v vs 0) 11) (v_iv (Value.int x)) k2 k22 k25 k28 k33 g0 g1 f2 g4 g6 kz_0_8 kz_0_10 kz_0_11 kz_0_12 kz_0_13 kz_0_14 ex2
  have nf3 : fc_1 PRD (23, [3, 34], [-1, 1, -1]) ws (vs ++ [Value.int x]) := by
    refine ⟨nf_inA hl rfl, sgq_193 ?_⟩
    · show 1 * v_iv (n_v (vs ++ [Value.int x]) 3) + ((-1) * v_iv (n_v (vs ++ [Value.int x]) 34) + 0) ≤ (-1)
      simp only [e_3, e_34]
      exact vc_Mo_of_at_s5003_30_3 (v_iv (n_v vs 2)) (v_iv (n_v vs 3)) (v_iv (n_v vs 25)) (v_iv (n_v vs 28)) (v_iv (n_v vs 31)) (v_iv (n_v vs 32)) (w_fi ws (n_v vs 0) 12) (w_fi ws (n_v vs 0) 8) (w_ei ws (w_ar ws (n_v vs 0) 1)) (w_fi ws (n_v vs 0) 15) (w_fi ws (n_v vs 0) 11) (w_fi ws (n_v vs 0) 9) (v_iv (Value.int x)) k2 k3 k25 k28 k31 k32 f2 f29 f32 hK_0_1 kz_0_8 kz_0_9 kz_0_11 kz_0_12 kz_0_15
  have nf4 : fc_1 PRD (23, [11, 34], [-2001, -1, -1]) ws (vs ++ [Value.int x]) := by
    refine ⟨nf_inA hl rfl, sgq_2011 ?_⟩
    · show (-1) * v_iv (n_v (vs ++ [Value.int x]) 11) + ((-1) * v_iv (n_v (vs ++ [Value.int x]) 34) + 0) ≤ (-2001)
      simp only [e_11, e_34]
      exact vc_Mo_of_at_s5003_30_4 (v_iv (n_v vs 2)) (v_iv (n_v vs 11)) (v_iv (n_v vs 25)) (v_iv (n_v vs 28)) (v_iv (n_v vs 31)) (v_iv (n_v vs 32)) (w_fi ws (n_v vs 0) 12) (w_fi ws (n_v vs 0) 8) (w_ei ws (w_ar ws (n_v vs 0) 1)) (w_fi ws (n_v vs 0) 15) (w_fi ws (n_v vs 0) 11) (w_fi ws (n_v vs 0) 9) (v_iv (Value.int x)) k2 k11 k25 k28 k31 k32 f2 f29 f32 hK_0_1 kz_0_8 kz_0_9 kz_0_11 kz_0_12 kz_0_15
  have nf5 : fc_1 PRD (20, [7, 4, 28, 5, 6, 34], [60, 3, 2, 987, 10, 8, 5, 1, 2]) ws (vs ++ [Value.int x]) := by
    refine ⟨nf_inA hl rfl, sgq_2020 ?_⟩
    · show zU12w (w_fi ws (n_v (vs ++ [Value.int x]) 7) 10) (w_fi ws (n_v (vs ++ [Value.int x]) 7) 8) (w_fi ws (n_v (vs ++ [Value.int x]) 7) 5) (w_ei ws (w_ar ws (n_v (vs ++ [Value.int x]) 7) 1)) (w_ei ws (w_ar ws (n_v (vs ++ [Value.int x]) 7) 2)) (v_iv (n_v (vs ++ [Value.int x]) 4)) (v_iv (n_v (vs ++ [Value.int x]) 28)) (v_iv (n_v (vs ++ [Value.int x]) 5)) (v_iv (n_v (vs ++ [Value.int x]) 6)) (v_iv (n_v (vs ++ [Value.int x]) 34))
      simp only [e_4, e_5, e_6, e_7, e_28, e_34, q7]
      exact vc_Mo_of_at_s5003_30_5 (v_iv (n_v vs 2)) (v_iv (n_v vs 4)) (v_iv (n_v vs 5)) (v_iv (n_v vs 6)) (v_iv (n_v vs 15)) (v_iv (n_v vs 17)) (v_iv (n_v vs 18)) (v_iv (n_v vs 19)) (v_iv (n_v vs 20)) (v_iv (n_v vs 22)) (v_iv (n_v vs 25)) (v_iv (n_v vs 28)) (v_iv (n_v vs 33)) (w_fi ws (n_v vs 0) 13) (w_fi ws (n_v vs 0) 12) (w_fi ws (n_v vs 0) 14) (w_fi ws (n_v vs 0) 8) (w_ei ws (w_ar ws (n_v vs 0) 1)) (w_fi ws (n_v vs 0) 10) (w_fi ws (n_v vs 0) 11) (v_iv (Value.int x)) (w_ei ws (w_ar ws (n_v vs 0) 2)) (w_fi ws (n_v vs 0) 5) k2 k4 k5 k6 k22 k25 k28 k33 g0 g1 f2 g4 g6 kz_0_8 kz_0_10 kz_0_11 kz_0_12 kz_0_13 kz_0_14 ex2
  exact ⟨(fun _ h => (by cases h)), [Value.int x], ag_one hx, List.forall_mem_cons.mpr ⟨⟨show (20 : Nat) < 100 from by decide, nf0⟩, List.forall_mem_cons.mpr ⟨⟨show (20 : Nat) < 100 from by decide, nf1⟩, List.forall_mem_cons.mpr ⟨⟨show (20 : Nat) < 100 from by decide, nf2⟩, List.forall_mem_cons.mpr ⟨⟨show (23 : Nat) < 100 from by decide, nf3⟩, List.forall_mem_cons.mpr ⟨⟨show (23 : Nat) < 100 from by decide, nf4⟩, List.forall_mem_cons.mpr ⟨⟨show (20 : Nat) < 100 from by decide, nf5⟩, (fun _ h => (by cases h))⟩⟩⟩⟩⟩⟩, (fun _ h => (by cases h))⟩
set_option maxHeartbeats 4000000 in
theorem vc_Mo_of_at_s5003_31_0 (x25 : Int) (x31 : Int) (x32 : Int) (fault_0 : Int) (tape_0 : Int → Int) (faultPlace_0 : Int) (from_0 : Int) (pos_0 : Int) (kind_0 : Int) (k25 : 0 ≤ x25 ∧ x25 ≤ 2000) (k31 : 5 ≤ x31 ∧ x31 ≤ 5) (k32 : 0 ≤ x32 ∧ x32 ≤ 5) (f28 : ((1 ≤ x32) ∧ (fault_0 = x32)) ∨ ((x32 = 0) ∧ ((fault_0 = x31) ∧ (faultPlace_0 = x25)))) (f29 : 1 * from_0 + ((-1) * pos_0 + 0) ≤ 0) (f30 : ((kind_0 = 1) → (pos_0 ≤ (from_0 + 8))) ∧ ((kind_0 = 0) ∨ ((from_0 + 1) ≤ pos_0))) (hK_0_1 : ∀ j : Int, 0 ≤ j → j < 2000 → (-128) ≤ tape_0 j ∧ tape_0 j ≤ 127) (kz_0_8 : 0 ≤ fault_0 ∧ fault_0 ≤ 5) (kz_0_9 : 0 ≤ faultPlace_0 ∧ faultPlace_0 ≤ 2000) (kz_0_11 : 0 ≤ pos_0 ∧ pos_0 ≤ 2000) (kz_0_12 : 0 ≤ kind_0 ∧ kind_0 ≤ 4) (kz_0_15 : 0 ≤ from_0 ∧ from_0 ≤ 2000) : 1 * from_0 + ((-1) * pos_0 + 0) ≤ 0 := by
  first | with_reducible assumption | ((have f30_c0 := f30.1); (have f30_c1 := f30.2); (try and_intros) <;> first | with_reducible assumption | (clear f28 f30_c0 f30_c1 f30 hK_0_1; omega)) | ((have f30_c0 := f30.1); (have f30_c1 := f30.2); (try and_intros) <;> first | with_reducible assumption | (clear f30_c0 f30_c1 f30 hK_0_1; omega)) | omega
set_option maxHeartbeats 4000000 in
theorem vc_Mo_of_at_s5003_31_1 (x25 : Int) (x31 : Int) (x32 : Int) (fault_0 : Int) (tape_0 : Int → Int) (faultPlace_0 : Int) (from_0 : Int) (pos_0 : Int) (kind_0 : Int) (k25 : 0 ≤ x25 ∧ x25 ≤ 2000) (k31 : 5 ≤ x31 ∧ x31 ≤ 5) (k32 : 0 ≤ x32 ∧ x32 ≤ 5) (f28 : ((1 ≤ x32) ∧ (fault_0 = x32)) ∨ ((x32 = 0) ∧ ((fault_0 = x31) ∧ (faultPlace_0 = x25)))) (f30 : ((kind_0 = 1) → (pos_0 ≤ (from_0 + 8))) ∧ ((kind_0 = 0) ∨ ((from_0 + 1) ≤ pos_0))) (hK_0_1 : ∀ j : Int, 0 ≤ j → j < 2000 → (-128) ≤ tape_0 j ∧ tape_0 j ≤ 127) (kz_0_8 : 0 ≤ fault_0 ∧ fault_0 ≤ 5) (kz_0_9 : 0 ≤ faultPlace_0 ∧ faultPlace_0 ≤ 2000) (kz_0_11 : 0 ≤ pos_0 ∧ pos_0 ≤ 2000) (kz_0_12 : 0 ≤ kind_0 ∧ kind_0 ≤ 4) (kz_0_15 : 0 ≤ from_0 ∧ from_0 ≤ 2000) : ((kind_0 = 1) → (pos_0 ≤ (from_0 + 8))) ∧ ((kind_0 = 0) ∨ ((from_0 + 1) ≤ pos_0)) := by
  first | with_reducible assumption | ((have f30_c0 := f30.1); (have f30_c1 := f30.2); (try and_intros) <;> first | with_reducible assumption | (clear f28 f30_c0 f30_c1 f30 hK_0_1; omega)) | ((have f30_c0 := f30.1); (have f30_c1 := f30.2); (try and_intros) <;> first | with_reducible assumption | (clear f30_c0 f30_c1 f30 hK_0_1; omega)) | omega
set_option maxHeartbeats 4000000 in
theorem vc_Mo_of_at_s5003_31_2 (x2 : Int) (x3 : Int) (x25 : Int) (x28 : Int) (x31 : Int) (x32 : Int) (fault_0 : Int) (tape_0 : Int → Int) (faultPlace_0 : Int) (from_0 : Int) (pos_0 : Int) (kind_0 : Int) (k2 : 9 ≤ x2 ∧ x2 ≤ 9) (k3 : 0 ≤ x3 ∧ x3 ≤ 2000) (k25 : 0 ≤ x25 ∧ x25 ≤ 2000) (k28 : 10 ≤ x28 ∧ x28 ≤ 1048575) (k31 : 5 ≤ x31 ∧ x31 ≤ 5) (k32 : 0 ≤ x32 ∧ x32 ≤ 5) (f4 : 1 * x28 + ((-1) * x2 + 0) ≤ 0) (f28 : ((1 ≤ x32) ∧ (fault_0 = x32)) ∨ ((x32 = 0) ∧ ((fault_0 = x31) ∧ (faultPlace_0 = x25)))) (f30 : ((kind_0 = 1) → (pos_0 ≤ (from_0 + 8))) ∧ ((kind_0 = 0) ∨ ((from_0 + 1) ≤ pos_0))) (hK_0_1 : ∀ j : Int, 0 ≤ j → j < 2000 → (-128) ≤ tape_0 j ∧ tape_0 j ≤ 127) (kz_0_8 : 0 ≤ fault_0 ∧ fault_0 ≤ 5) (kz_0_9 : 0 ≤ faultPlace_0 ∧ faultPlace_0 ≤ 2000) (kz_0_11 : 0 ≤ pos_0 ∧ pos_0 ≤ 2000) (kz_0_12 : 0 ≤ kind_0 ∧ kind_0 ≤ 4) (kz_0_15 : 0 ≤ from_0 ∧ from_0 ≤ 2000) : 1 * x3 + ((-1) * pos_0 + 0) ≤ (-1) := by
  first | with_reducible assumption | ((have f30_c0 := f30.1); (have f30_c1 := f30.2); (try and_intros) <;> first | with_reducible assumption | (clear f28 f30_c0 f30_c1 f30 hK_0_1; omega)) | ((have f30_c0 := f30.1); (have f30_c1 := f30.2); (try and_intros) <;> first | with_reducible assumption | (clear f30_c0 f30_c1 f30 hK_0_1; omega)) | omega
set_option maxHeartbeats 4000000 in
theorem vc_Mo_of_at_s5003_31_3 (x2 : Int) (x25 : Int) (x28 : Int) (x31 : Int) (x32 : Int) (fault_0 : Int) (tape_0 : Int → Int) (faultPlace_0 : Int) (from_0 : Int) (pos_0 : Int) (kind_0 : Int) (k2 : 9 ≤ x2 ∧ x2 ≤ 9) (k25 : 0 ≤ x25 ∧ x25 ≤ 2000) (k28 : 10 ≤ x28 ∧ x28 ≤ 1048575) (k31 : 5 ≤ x31 ∧ x31 ≤ 5) (k32 : 0 ≤ x32 ∧ x32 ≤ 5) (f28 : ((1 ≤ x32) ∧ (fault_0 = x32)) ∨ ((x32 = 0) ∧ ((fault_0 = x31) ∧ (faultPlace_0 = x25)))) (f30 : ((kind_0 = 1) → (pos_0 ≤ (from_0 + 8))) ∧ ((kind_0 = 0) ∨ ((from_0 + 1) ≤ pos_0))) (f36 : 1 * x28 + ((-1) * x2 + 0) ≤ 0) (hK_0_1 : ∀ j : Int, 0 ≤ j → j < 2000 → (-128) ≤ tape_0 j ∧ tape_0 j ≤ 127) (kz_0_8 : 0 ≤ fault_0 ∧ fault_0 ≤ 5) (kz_0_9 : 0 ≤ faultPlace_0 ∧ faultPlace_0 ≤ 2000) (kz_0_11 : 0 ≤ pos_0 ∧ pos_0 ≤ 2000) (kz_0_12 : 0 ≤ kind_0 ∧ kind_0 ≤ 4) (kz_0_15 : 0 ≤ from_0 ∧ from_0 ≤ 2000) : 1 * x28 + ((-1) * x2 + 0) ≤ 0 := by
  first | with_reducible assumption | ((have f30_c0 := f30.1); (have f30_c1 := f30.2); (try and_intros) <;> first | with_reducible assumption | (clear f28 f30_c0 f30_c1 f30 hK_0_1; omega)) | ((have f30_c0 := f30.1); (have f30_c1 := f30.2); (try and_intros) <;> first | with_reducible assumption | (clear f30_c0 f30_c1 f30 hK_0_1; omega)) | omega
set_option maxHeartbeats 4000000 in
theorem vc_Mo_of_at_s5003_31_4 (x25 : Int) (x28 : Int) (x31 : Int) (x32 : Int) (fault_0 : Int) (tape_0 : Int → Int) (faultPlace_0 : Int) (from_0 : Int) (pos_0 : Int) (kind_0 : Int) (k25 : 0 ≤ x25 ∧ x25 ≤ 2000) (k28 : 10 ≤ x28 ∧ x28 ≤ 1048575) (k31 : 5 ≤ x31 ∧ x31 ≤ 5) (k32 : 0 ≤ x32 ∧ x32 ≤ 5) (f28 : ((1 ≤ x32) ∧ (fault_0 = x32)) ∨ ((x32 = 0) ∧ ((fault_0 = x31) ∧ (faultPlace_0 = x25)))) (f30 : ((kind_0 = 1) → (pos_0 ≤ (from_0 + 8))) ∧ ((kind_0 = 0) ∨ ((from_0 + 1) ≤ pos_0))) (f37 : (-1) * x28 + 0 ≤ 0) (hK_0_1 : ∀ j : Int, 0 ≤ j → j < 2000 → (-128) ≤ tape_0 j ∧ tape_0 j ≤ 127) (kz_0_8 : 0 ≤ fault_0 ∧ fault_0 ≤ 5) (kz_0_9 : 0 ≤ faultPlace_0 ∧ faultPlace_0 ≤ 2000) (kz_0_11 : 0 ≤ pos_0 ∧ pos_0 ≤ 2000) (kz_0_12 : 0 ≤ kind_0 ∧ kind_0 ≤ 4) (kz_0_15 : 0 ≤ from_0 ∧ from_0 ≤ 2000) : (-1) * x28 + 0 ≤ 0 := by
  first | with_reducible assumption | ((have f30_c0 := f30.1); (have f30_c1 := f30.2); (try and_intros) <;> first | with_reducible assumption | (clear f28 f30_c0 f30_c1 f30 hK_0_1; omega)) | ((have f30_c0 := f30.1); (have f30_c1 := f30.2); (try and_intros) <;> first | with_reducible assumption | (clear f30_c0 f30_c1 f30 hK_0_1; omega)) | omega
set_option maxHeartbeats 4000000 in
theorem vc_Mo_of_at_s5003_31_5 (x4 : Int) (x25 : Int) (x31 : Int) (x32 : Int) (fault_0 : Int) (tape_0 : Int → Int) (faultPlace_0 : Int) (from_0 : Int) (pos_0 : Int) (kind_0 : Int) (k4 : (-1) ≤ x4 ∧ x4 ≤ 48) (k25 : 0 ≤ x25 ∧ x25 ≤ 2000) (k31 : 5 ≤ x31 ∧ x31 ≤ 5) (k32 : 0 ≤ x32 ∧ x32 ≤ 5) (f28 : ((1 ≤ x32) ∧ (fault_0 = x32)) ∨ ((x32 = 0) ∧ ((fault_0 = x31) ∧ (faultPlace_0 = x25)))) (f30 : ((kind_0 = 1) → (pos_0 ≤ (from_0 + 8))) ∧ ((kind_0 = 0) ∨ ((from_0 + 1) ≤ pos_0))) (f112 : (-1) * x4 + 0 ≤ 0) (hK_0_1 : ∀ j : Int, 0 ≤ j → j < 2000 → (-128) ≤ tape_0 j ∧ tape_0 j ≤ 127) (kz_0_8 : 0 ≤ fault_0 ∧ fault_0 ≤ 5) (kz_0_9 : 0 ≤ faultPlace_0 ∧ faultPlace_0 ≤ 2000) (kz_0_11 : 0 ≤ pos_0 ∧ pos_0 ≤ 2000) (kz_0_12 : 0 ≤ kind_0 ∧ kind_0 ≤ 4) (kz_0_15 : 0 ≤ from_0 ∧ from_0 ≤ 2000) : (-1) * x4 + 0 ≤ 0 := by
  first | with_reducible assumption | ((have f30_c0 := f30.1); (have f30_c1 := f30.2); (try and_intros) <;> first | with_reducible assumption | (clear f28 f30_c0 f30_c1 f30 hK_0_1; omega)) | ((have f30_c0 := f30.1); (have f30_c1 := f30.2); (try and_intros) <;> first | with_reducible assumption | (clear f30_c0 f30_c1 f30 hK_0_1; omega)) | omega
set_option maxHeartbeats 4000000 in
theorem vc_Mo_of_at_s5003_31_6 (x2 : Int) (x25 : Int) (x28 : Int) (x31 : Int) (x32 : Int) (fault_0 : Int) (tape_0 : Int → Int) (faultPlace_0 : Int) (from_0 : Int) (pos_0 : Int) (kind_0 : Int) (gx : Int) (k2 : 9 ≤ x2 ∧ x2 ≤ 9) (k25 : 0 ≤ x25 ∧ x25 ≤ 2000) (k28 : 10 ≤ x28 ∧ x28 ≤ 1048575) (k31 : 5 ≤ x31 ∧ x31 ≤ 5) (k32 : 0 ≤ x32 ∧ x32 ≤ 5) (f4 : 1 * x28 + ((-1) * x2 + 0) ≤ 0) (f28 : ((1 ≤ x32) ∧ (fault_0 = x32)) ∨ ((x32 = 0) ∧ ((fault_0 = x31) ∧ (faultPlace_0 = x25)))) (f30 : ((kind_0 = 1) → (pos_0 ≤ (from_0 + 8))) ∧ ((kind_0 = 0) ∨ ((from_0 + 1) ≤ pos_0))) (hK_0_1 : ∀ j : Int, 0 ≤ j → j < 2000 → (-128) ≤ tape_0 j ∧ tape_0 j ≤ 127) (kz_0_8 : 0 ≤ fault_0 ∧ fault_0 ≤ 5) (kz_0_9 : 0 ≤ faultPlace_0 ∧ faultPlace_0 ≤ 2000) (kz_0_11 : 0 ≤ pos_0 ∧ pos_0 ≤ 2000) (kz_0_12 : 0 ≤ kind_0 ∧ kind_0 ≤ 4) (kz_0_15 : 0 ≤ from_0 ∧ from_0 ≤ 2000) : (-1) * gx + ((-1) * pos_0 + 0) ≤ (-2001) := by
  first | with_reducible assumption | ((have f30_c0 := f30.1); (have f30_c1 := f30.2); (try and_intros) <;> first | with_reducible assumption | (clear f28 f30_c0 f30_c1 f30 hK_0_1; omega)) | ((have f30_c0 := f30.1); (have f30_c1 := f30.2); (try and_intros) <;> first | with_reducible assumption | (clear f30_c0 f30_c1 f30 hK_0_1; omega)) | omega
set_option maxHeartbeats 4000000 in
theorem vc_Mo_of_at_s5003_31_7 (x2 : Int) (x4 : Int) (x5 : Int) (x6 : Int) (x15 : Int) (x17 : Int) (x18 : Int) (x19 : Int) (x20 : Int) (x28 : Int) (x33 : Int) (x34 : Int) (fault_0 : Int) (tape_0 : Int → Int) (all_0 : Int → Int) (limit_0 : Int) (r_0 : Int) (from_0 : Int) (pos_0 : Int) (kind_0 : Int) (place_0 : Int) (value_0 : Int) (k2 : 9 ≤ x2 ∧ x2 ≤ 9) (k4 : (-1) ≤ x4 ∧ x4 ≤ 48) (k5 : 0 ≤ x5 ∧ x5 ≤ 7) (k6 : 0 ≤ x6 ∧ x6 ≤ 4) (k28 : 10 ≤ x28 ∧ x28 ≤ 1048575) (k33 : 0 ≤ x33 ∧ x33 ≤ 0) (k34 : 0 ≤ x34 ∧ x34 ≤ 2000) (g0 : x33 = fault_0) (f3 : zU12w (limit_0) (fault_0) (r_0) (tape_0) (all_0) (x4) (x28) (x5) (x6) (x34)) (f4 : 1 * x28 + ((-1) * x2 + 0) ≤ 0) (f32 : TKR (limit_0) (pos_0) (kind_0) (place_0) (value_0) (from_0) (tape_0) (x34)) (kz_0_8 : 0 ≤ fault_0 ∧ fault_0 ≤ 5) (kz_0_10 : 0 ≤ limit_0 ∧ limit_0 ≤ 2000) (kz_0_11 : 0 ≤ pos_0 ∧ pos_0 ≤ 2000) (kz_0_12 : 0 ≤ kind_0 ∧ kind_0 ≤ 4) (kz_0_13 : 0 ≤ place_0 ∧ place_0 ≤ 2000) (kz_0_14 : (-49) ≤ value_0 ∧ value_0 ≤ 1048575) (kz_0_15 : 0 ≤ from_0 ∧ from_0 ≤ 2000) : zO12w (limit_0) (pos_0) (kind_0) (place_0) (value_0) (from_0) (fault_0) (r_0) (tape_0) (all_0) (x4) (x28) (x5) (x6) := by
  first | (have el_x17 : x17 = x15 := by omega); subst el_x17 | skip
  first | (have el_x18 : x18 = x4 := by omega); subst el_x18 | skip
  first | (have el_x19 : x19 = x5 := by omega); subst el_x19 | skip
  first | (have el_x20 : x20 = x6 := by omega); subst el_x20 | skip
  first | subst g0 | skip
  first
    | exact of_12_w ‹zU12w _ _ _ _ _ _ _ _ _ _› ‹TKR _ _ _ _ _ _ _ _›
    | (exfalso; omega)
def o_Mo_of_at_s5003_31 : or_T := (139, 35, [(0, (2, 0, 0, [165])), (2, (0, 9, 9, [])), (3, (0, 0, 2000, [])), (4, (0, -1, 48, [])), (5, (0, 0, 7, [])), (6, (0, 0, 4, [])), (7, (2, 0, 0, [165])), (9, (0, 9, 9, [])), (10, (0, -49, 0, [])), (11, (0, 0, 2000, [])), (15, (0, 0, 2000, [])), (17, (0, 0, 2000, [])), (18, (0, -1, 48, [])), (19, (0, 0, 7, [])), (20, (0, 0, 4, [])), (24, (0, 1, 1, [])), (25, (0, 0, 2000, [])), (26, (0, 0, 5, [])), (28, (0, 10, 1048575, [])), (31, (0, 5, 5, [])), (32, (0, 0, 5, [])), (33, (0, 0, 0, [])), (34, (0, 0, 2000, []))], [(9, [33, 7], [8]), (23, [3, 34], [-1, 1, -1]), (23, [11, 34], [-2001, -1, -1]), (20, [7, 4, 28, 5, 6, 34], [60, 3, 2, 987, 10, 8, 5, 1, 2]), (23, [28, 9], [0, 1, -1]), (23, [28], [0, -1]), (20, [7, 31, 25], [60, 1, 1, 1026, 10, 1]), (20, [32], [61, 0, 1029]), (20, [7, 24, 25], [60, 1, 1, 1026, 10, 1]), (20, [26], [61, 0, 1029]), (23, [17, 15], [0, 1, -1]), (23, [17, 15], [0, -1, 1]), (23, [18, 4], [0, 1, -1]), (23, [18, 4], [0, -1, 1]), (23, [19, 5], [0, 1, -1]), (23, [19, 5], [0, -1, 1]), (23, [20, 6], [0, 1, -1]), (23, [20, 6], [0, -1, 1]), (23, [3, 17], [-1, 1, -1]), (23, [11, 17], [-2000, -1, -1]), (23, [3, 15], [-1, 1, -1]), (23, [11, 15], [-2000, -1, -1]), (23, [10, 9], [0, 1, -1]), (23, [10], [0, -1]), (23, [4], [0, -1]), (24, [0, 7], []), (24, [2, 9], []), (20, [7], [30, -1, -1, 1, 8]), (20, [32, 7, 31, 25], [50, 2, 0, 1008, 1009, 3, 15, 2, 6, 0, 2, 0, 1, 1, 0, 1, 3, 2, 1, 8, 1, 0, 2, 6, 1, 2, 1, 0, 0, 0, 2, 7, 1, 3, 2, 1, 8, 1, 2, 1, 3, 2, 1, 9, 1, 3]), (20, [7, 7], [30, 0, 1, 1, 15, -1, 1, 11]), (20, [7], [50, 3, 0, 12, 11, 15, 2, 21, 4, 7, 1, 3, 2, 0, 12, 0, 1, 0, 3, 2, 0, 11, 4, 3, 2, 0, 15, 0, 8, 3, 7, 1, 3, 2, 0, 12, 0, 0, 0, 7, 4, 3, 2, 0, 15, 0, 1, 2, 0, 11]), (20, [34, 7], [30, 0, 1, 0, 0, -1, 1, 15]), (20, [7, 34], [60, 6, 1, 948, 10, 11, 12, 13, 14, 15, 1]), (102, [34], [0, 165011, 165012, 165013, 165014, 165015]), (23, [3, 34], [-1, 1, -1]), (23, [11, 34], [-2001, -1, -1]), (23, [28, 9], [0, 1, -1]), (23, [28], [0, -1]), (8, [33], [5]), (23, [17, 15], [0, 1, -1]), (23, [17, 15], [0, -1, 1]), (23, [18, 4], [0, 1, -1]), (23, [18, 4], [0, -1, 1]), (23, [19, 5], [0, 1, -1]), (23, [19, 5], [0, -1, 1]), (23, [20, 6], [0, 1, -1]), (23, [20, 6], [0, -1, 1]), (23, [3, 17], [-1, 1, -1]), (23, [11, 17], [-2000, -1, -1]), (23, [3, 15], [-1, 1, -1]), (23, [11, 15], [-2000, -1, -1]), (23, [10, 9], [0, 1, -1]), (23, [10], [0, -1]), (23, [4], [0, -1]), (102, [32], [0, 165008, 165009]), (23, [17, 15], [0, 1, -1]), (23, [17, 15], [0, -1, 1]), (23, [18, 4], [0, 1, -1]), (23, [18, 4], [0, -1, 1]), (23, [19, 5], [0, 1, -1]), (23, [19, 5], [0, -1, 1]), (23, [20, 6], [0, 1, -1]), (23, [20, 6], [0, -1, 1]), (23, [3, 17], [-1, 1, -1]), (23, [11, 17], [-2000, -1, -1]), (23, [3, 15], [-1, 1, -1]), (23, [11, 15], [-2000, -1, -1]), (23, [10, 9], [0, 1, -1]), (23, [10], [0, -1]), (23, [4], [0, -1]), (102, [26], [0, 165008, 165009]), (23, [17, 15], [0, 1, -1]), (23, [17, 15], [0, -1, 1]), (23, [18, 4], [0, 1, -1]), (23, [18, 4], [0, -1, 1]), (23, [19, 5], [0, 1, -1]), (23, [19, 5], [0, -1, 1]), (23, [20, 6], [0, 1, -1]), (23, [20, 6], [0, -1, 1]), (23, [3, 17], [-1, 1, -1]), (23, [11, 17], [-2000, -1, -1]), (23, [3, 15], [-1, 1, -1]), (23, [11, 15], [-2000, -1, -1]), (23, [10, 9], [0, 1, -1]), (23, [10], [0, -1]), (23, [4], [0, -1]), (102, [20], [0, 165008, 165009, 165011, 165012, 165013, 165014, 165015]), (23, [17, 15], [0, 1, -1]), (23, [17, 15], [0, -1, 1]), (23, [18, 4], [0, 1, -1]), (23, [18, 4], [0, -1, 1]), (23, [19, 5], [0, 1, -1]), (23, [19, 5], [0, -1, 1]), (23, [20, 6], [0, 1, -1]), (23, [20, 6], [0, -1, 1]), (23, [3, 17], [-1, 1, -1]), (23, [11, 17], [-2000, -1, -1]), (23, [3, 15], [-1, 1, -1]), (23, [11, 15], [-2000, -1, -1]), (23, [10, 9], [0, 1, -1]), (23, [10], [0, -1]), (23, [4], [0, -1]), (102, [15], [0, 165011, 165012, 165013, 165014, 165015]), (23, [3, 15], [-1, 1, -1]), (23, [11, 15], [-2000, -1, -1]), (8, [10], [5]), (23, [10, 9], [0, 1, -1]), (23, [10], [0, -1]), (23, [4], [0, -1]), (102, [13], [0]), (23, [10, 9], [0, 1, -1]), (23, [10], [0, -1]), (23, [4], [0, -1])], [], [(0, 0, 2000, [])], [(20, [7, 7], [30, 0, 1, 1, 15, -1, 1, 11]), (20, [7], [50, 3, 0, 12, 11, 15, 2, 21, 4, 7, 1, 3, 2, 0, 12, 0, 1, 0, 3, 2, 0, 11, 4, 3, 2, 0, 15, 0, 8, 3, 7, 1, 3, 2, 0, 12, 0, 0, 0, 7, 4, 3, 2, 0, 15, 0, 1, 2, 0, 11]), (20, [3, 7], [30, -1, 1, 0, 0, -1, 1, 11]), (23, [28, 9], [0, 1, -1]), (23, [28], [0, -1]), (23, [4], [0, -1]), (20, [35, 7], [30, -2001, -1, 0, 0, -1, 1, 11]), (20, [7, 4, 28, 5, 6], [60, 8, 2, 1000, 10, 11, 12, 13, 14, 15, 8, 5, 1, 2]), (24, [0, 7], []), (24, [2, 9], [])], [(35, 11, 0, 0)], [])
theorem oo_Mo_of_at_s5003_31 {kA : Nat → ClassId} : or_ok PRD kA GG o_Mo_of_at_s5003_31 := by
  refine or_mk fun A ta ws vs hD hth hl => ?_
  intro t0 r0 t2 k2 t3 k3 t4 k4 t5 k5 t6 k6 t7 r7 t9 k9 t10 k10 t11 k11 t15 k15 t17 k17 t18 k18 t19 k19 t20 k20 t24 k24 t25 k25 t26 k26 t28 k28 t31 k31 t32 k32 t33 k33 t34 k34 f0 f1 f2 f3 f4 f5 f6 f7 f8 f9 f10 f11 f12 f13 f14 f15 f16 f17 f18 f19 f20 f21 f22 f23 f24 f25 f26 f27 f28 f29 f30 f31 f32 ta1 w1 le1 s1 f34 f35 f36 f37 f38 f39 f40 f41 f42 f43 f44 f45 f46 f47 f48 f49 f50 f51 f52 f53 ta2 w2 le2 s2 f55 f56 f57 f58 f59 f60 f61 f62 f63 f64 f65 f66 f67 f68 f69 ta3 w3 le3 s3 f71 f72 f73 f74 f75 f76 f77 f78 f79 f80 f81 f82 f83 f84 f85 ta4 w4 le4 s4 f87 f88 f89 f90 f91 f92 f93 f94 f95 f96 f97 f98 f99 f100 f101 ta5 w5 le5 s5 f103 f104 f105 f106 f107 f108 ta6 w6 le6 s6 f110 f111 f112
  replace f0 := shm_293 f0
  replace f1 := shm_193 f1
  replace f2 := shm_2011 f2
  replace f3 := shm_2020 f3
  replace f4 := shm_7 f4
  replace f5 := shm_1043 f5
  replace f6 := shm_1724 f6
  replace f7 := shm_1725 f7
  replace f8 := shm_1724 f8
  replace f9 := shm_1725 f9
  replace f10 := shm_7 f10
  replace f11 := shm_22 f11
  replace f12 := shm_7 f12
  replace f13 := shm_22 f13
  replace f14 := shm_7 f14
  replace f15 := shm_22 f15
  replace f16 := shm_7 f16
  replace f17 := shm_22 f17
  replace f18 := shm_193 f18
  replace f19 := shm_2009 f19
  replace f20 := shm_193 f20
  replace f21 := shm_2009 f21
  replace f22 := shm_7 f22
  replace f23 := shm_1043 f23
  replace f24 := shm_1043 f24
  replace f25 := shm_5 f25
  replace f26 := shm_5 f26
  replace f27 := shm_305 f27
  replace f28 := shm_306 f28
  replace f29 := shm_1437 f29
  replace f30 := shm_1438 f30
  replace f31 := shm_1436 f31
  replace f32 := shm_1439 f32
  replace f34 := shm_193 f34
  replace f35 := shm_2011 f35
  replace f36 := shm_7 f36
  replace f37 := shm_1043 f37
  replace f38 := shm_295 f38
  replace f39 := shm_7 f39
  replace f40 := shm_22 f40
  replace f41 := shm_7 f41
  replace f42 := shm_22 f42
  replace f43 := shm_7 f43
  replace f44 := shm_22 f44
  replace f45 := shm_7 f45
  replace f46 := shm_22 f46
  replace f47 := shm_193 f47
  replace f48 := shm_2009 f48
  replace f49 := shm_193 f49
  replace f50 := shm_2009 f50
  replace f51 := shm_7 f51
  replace f52 := shm_1043 f52
  replace f53 := shm_1043 f53
  replace f55 := shm_7 f55
  replace f56 := shm_22 f56
  replace f57 := shm_7 f57
  replace f58 := shm_22 f58
  replace f59 := shm_7 f59
  replace f60 := shm_22 f60
  replace f61 := shm_7 f61
  replace f62 := shm_22 f62
  replace f63 := shm_193 f63
  replace f64 := shm_2009 f64
  replace f65 := shm_193 f65
  replace f66 := shm_2009 f66
  replace f67 := shm_7 f67
  replace f68 := shm_1043 f68
  replace f69 := shm_1043 f69
  replace f71 := shm_7 f71
  replace f72 := shm_22 f72
  replace f73 := shm_7 f73
  replace f74 := shm_22 f74
  replace f75 := shm_7 f75
  replace f76 := shm_22 f76
  replace f77 := shm_7 f77
  replace f78 := shm_22 f78
  replace f79 := shm_193 f79
  replace f80 := shm_2009 f80
  replace f81 := shm_193 f81
  replace f82 := shm_2009 f82
  replace f83 := shm_7 f83
  replace f84 := shm_1043 f84
  replace f85 := shm_1043 f85
  replace f87 := shm_7 f87
  replace f88 := shm_22 f88
  replace f89 := shm_7 f89
  replace f90 := shm_22 f90
  replace f91 := shm_7 f91
  replace f92 := shm_22 f92
  replace f93 := shm_7 f93
  replace f94 := shm_22 f94
  replace f95 := shm_193 f95
  replace f96 := shm_2009 f96
  replace f97 := shm_193 f97
  replace f98 := shm_2009 f98
  replace f99 := shm_7 f99
  replace f100 := shm_1043 f100
  replace f101 := shm_1043 f101
  replace f103 := shm_193 f103
  replace f104 := shm_2009 f104
  replace f105 := shm_295 f105
  replace f106 := shm_7 f106
  replace f107 := shm_1043 f107
  replace f108 := shm_1043 f108
  replace f110 := shm_7 f110
  replace f111 := shm_1043 f111
  replace f112 := shm_1043 f112
  have q7 : n_v vs 7 = n_v vs 0 := f25.symm
  have q9 : n_v vs 9 = n_v vs 2 := f26.symm
  simp only [q7, q9] at f0 f3 f4 f6 f8 f22 f27 f28 f29 f30 f31 f32 f36 f51 f67 f83 f99 f106 f110
  have cr_0_1 := fdq_39 hD hth r0
  have cr_0_2 := fdq_10 hD hth r0
  have g0 : v_iv (n_v vs 33) = w_fi ws (n_v vs 0) 8 := congrArg v_iv f0
  have hK_0_1 := elq_7 hD hth cr_0_1
  have kz_0_8 := fdq_34 hD hth r0
  have kz_0_9 := fdq_44 hD hth r0
  have kz_0_10 := fdq_43 hD hth r0
  have kz_0_11 := fdq_237 hD hth r0
  have kz_0_12 := fdq_187 hD hth r0
  have kz_0_13 := fdq_238 hD hth r0
  have kz_0_14 := fdq_188 hD hth r0
  have kz_0_15 := fdq_239 hD hth r0
  obtain ⟨x, ex, hx⟩ := iv_ex (ta := ta) (lo := 0) (hi := 2000) (z := 0 + (1 * v_iv (n_v vs 11) + 0)) (by omega) (by omega) (by omega) (by omega)
  have ex2 : v_iv (Value.int x) = 0 + (1 * v_iv (n_v vs 11) + 0) := ex
  have ex3 : 0 ≤ v_iv (Value.int x) ∧ v_iv (Value.int x) ≤ 2000 := tv_rng hx
  have e_0 : n_v (vs ++ [Value.int x]) 0 = n_v vs 0 := n_v_old (by rw [hl]; decide)
  have e_2 : n_v (vs ++ [Value.int x]) 2 = n_v vs 2 := n_v_old (by rw [hl]; decide)
  have e_3 : n_v (vs ++ [Value.int x]) 3 = n_v vs 3 := n_v_old (by rw [hl]; decide)
  have e_4 : n_v (vs ++ [Value.int x]) 4 = n_v vs 4 := n_v_old (by rw [hl]; decide)
  have e_5 : n_v (vs ++ [Value.int x]) 5 = n_v vs 5 := n_v_old (by rw [hl]; decide)
  have e_6 : n_v (vs ++ [Value.int x]) 6 = n_v vs 6 := n_v_old (by rw [hl]; decide)
  have e_7 : n_v (vs ++ [Value.int x]) 7 = n_v vs 7 := n_v_old (by rw [hl]; decide)
  have e_9 : n_v (vs ++ [Value.int x]) 9 = n_v vs 9 := n_v_old (by rw [hl]; decide)
  have e_28 : n_v (vs ++ [Value.int x]) 28 = n_v vs 28 := n_v_old (by rw [hl]; decide)
  have e_35 : n_v (vs ++ [Value.int x]) 35 = Value.int x := n_v_new hl
  have nf0 : fc_1 PRD (20, [7, 7], [30, 0, 1, 1, 15, -1, 1, 11]) ws (vs ++ [Value.int x]) := by
    refine ⟨nf_inA hl rfl, sgq_1437 ?_⟩
    · show 1 * w_fi ws (n_v (vs ++ [Value.int x]) 7) 15 + ((-1) * w_fi ws (n_v (vs ++ [Value.int x]) 7) 11 + 0) ≤ 0
      simp only [e_7, q7]
      exact vc_Mo_of_at_s5003_31_0 (v_iv (n_v vs 25)) (v_iv (n_v vs 31)) (v_iv (n_v vs 32)) (w_fi ws (n_v vs 0) 8) (w_ei ws (w_ar ws (n_v vs 0) 1)) (w_fi ws (n_v vs 0) 9) (w_fi ws (n_v vs 0) 15) (w_fi ws (n_v vs 0) 11) (w_fi ws (n_v vs 0) 12) k25 k31 k32 f28 f29 f30 hK_0_1 kz_0_8 kz_0_9 kz_0_11 kz_0_12 kz_0_15
  have nf1 : fc_1 PRD (20, [7], [50, 3, 0, 12, 11, 15, 2, 21, 4, 7, 1, 3, 2, 0, 12, 0, 1, 0, 3, 2, 0, 11, 4, 3, 2, 0, 15, 0, 8, 3, 7, 1, 3, 2, 0, 12, 0, 0, 0, 7, 4, 3, 2, 0, 15, 0, 1, 2, 0, 11]) ws (vs ++ [Value.int x]) := by
    refine ⟨nf_inA hl rfl, sgq_1438 ?_⟩
    · show ((w_fi ws (n_v (vs ++ [Value.int x]) 7) 12 = 1) → (w_fi ws (n_v (vs ++ [Value.int x]) 7) 11 ≤ (w_fi ws (n_v (vs ++ [Value.int x]) 7) 15 + 8))) ∧ ((w_fi ws (n_v (vs ++ [Value.int x]) 7) 12 = 0) ∨ ((w_fi ws (n_v (vs ++ [Value.int x]) 7) 15 + 1) ≤ w_fi ws (n_v (vs ++ [Value.int x]) 7) 11))
      simp only [e_7, q7]
      exact vc_Mo_of_at_s5003_31_1 (v_iv (n_v vs 25)) (v_iv (n_v vs 31)) (v_iv (n_v vs 32)) (w_fi ws (n_v vs 0) 8) (w_ei ws (w_ar ws (n_v vs 0) 1)) (w_fi ws (n_v vs 0) 9) (w_fi ws (n_v vs 0) 15) (w_fi ws (n_v vs 0) 11) (w_fi ws (n_v vs 0) 12) k25 k31 k32 f28 f30 hK_0_1 kz_0_8 kz_0_9 kz_0_11 kz_0_12 kz_0_15
  have nf2 : fc_1 PRD (20, [3, 7], [30, -1, 1, 0, 0, -1, 1, 11]) ws (vs ++ [Value.int x]) := by
    refine ⟨nf_inA hl rfl, sgq_2005 ?_⟩
    · show 1 * v_iv (n_v (vs ++ [Value.int x]) 3) + ((-1) * w_fi ws (n_v (vs ++ [Value.int x]) 7) 11 + 0) ≤ (-1)
      simp only [e_3, e_7, q7]
      exact vc_Mo_of_at_s5003_31_2 (v_iv (n_v vs 2)) (v_iv (n_v vs 3)) (v_iv (n_v vs 25)) (v_iv (n_v vs 28)) (v_iv (n_v vs 31)) (v_iv (n_v vs 32)) (w_fi ws (n_v vs 0) 8) (w_ei ws (w_ar ws (n_v vs 0) 1)) (w_fi ws (n_v vs 0) 9) (w_fi ws (n_v vs 0) 15) (w_fi ws (n_v vs 0) 11) (w_fi ws (n_v vs 0) 12) k2 k3 k25 k28 k31 k32 f4 f28 f30 hK_0_1 kz_0_8 kz_0_9 kz_0_11 kz_0_12 kz_0_15
  have nf3 : fc_1 PRD (23, [28, 9], [0, 1, -1]) ws (vs ++ [Value.int x]) := by
    refine ⟨nf_inA hl rfl, sgq_7 ?_⟩
    · show 1 * v_iv (n_v (vs ++ [Value.int x]) 28) + ((-1) * v_iv (n_v (vs ++ [Value.int x]) 9) + 0) ≤ 0
      simp only [e_9, e_28, q9]
      exact vc_Mo_of_at_s5003_31_3 (v_iv (n_v vs 2)) (v_iv (n_v vs 25)) (v_iv (n_v vs 28)) (v_iv (n_v vs 31)) (v_iv (n_v vs 32)) (w_fi ws (n_v vs 0) 8) (w_ei ws (w_ar ws (n_v vs 0) 1)) (w_fi ws (n_v vs 0) 9) (w_fi ws (n_v vs 0) 15) (w_fi ws (n_v vs 0) 11) (w_fi ws (n_v vs 0) 12) k2 k25 k28 k31 k32 f28 f30 f36 hK_0_1 kz_0_8 kz_0_9 kz_0_11 kz_0_12 kz_0_15
  have nf4 : fc_1 PRD (23, [28], [0, -1]) ws (vs ++ [Value.int x]) := by
    refine ⟨nf_inA hl rfl, sgq_1043 ?_⟩
    · show (-1) * v_iv (n_v (vs ++ [Value.int x]) 28) + 0 ≤ 0
      rw [e_28]
      exact vc_Mo_of_at_s5003_31_4 (v_iv (n_v vs 25)) (v_iv (n_v vs 28)) (v_iv (n_v vs 31)) (v_iv (n_v vs 32)) (w_fi ws (n_v vs 0) 8) (w_ei ws (w_ar ws (n_v vs 0) 1)) (w_fi ws (n_v vs 0) 9) (w_fi ws (n_v vs 0) 15) (w_fi ws (n_v vs 0) 11) (w_fi ws (n_v vs 0) 12) k25 k28 k31 k32 f28 f30 f37 hK_0_1 kz_0_8 kz_0_9 kz_0_11 kz_0_12 kz_0_15
  have nf5 : fc_1 PRD (23, [4], [0, -1]) ws (vs ++ [Value.int x]) := by
    refine ⟨nf_inA hl rfl, sgq_1043 ?_⟩
    · show (-1) * v_iv (n_v (vs ++ [Value.int x]) 4) + 0 ≤ 0
      rw [e_4]
      exact vc_Mo_of_at_s5003_31_5 (v_iv (n_v vs 4)) (v_iv (n_v vs 25)) (v_iv (n_v vs 31)) (v_iv (n_v vs 32)) (w_fi ws (n_v vs 0) 8) (w_ei ws (w_ar ws (n_v vs 0) 1)) (w_fi ws (n_v vs 0) 9) (w_fi ws (n_v vs 0) 15) (w_fi ws (n_v vs 0) 11) (w_fi ws (n_v vs 0) 12) k4 k25 k31 k32 f28 f30 f112 hK_0_1 kz_0_8 kz_0_9 kz_0_11 kz_0_12 kz_0_15
  have nf6 : fc_1 PRD (20, [35, 7], [30, -2001, -1, 0, 0, -1, 1, 11]) ws (vs ++ [Value.int x]) := by
    refine ⟨nf_inA hl rfl, sgq_2013 ?_⟩
    · show (-1) * v_iv (n_v (vs ++ [Value.int x]) 35) + ((-1) * w_fi ws (n_v (vs ++ [Value.int x]) 7) 11 + 0) ≤ (-2001)
      simp only [e_7, e_35, q7]
      exact vc_Mo_of_at_s5003_31_6 (v_iv (n_v vs 2)) (v_iv (n_v vs 25)) (v_iv (n_v vs 28)) (v_iv (n_v vs 31)) (v_iv (n_v vs 32)) (w_fi ws (n_v vs 0) 8) (w_ei ws (w_ar ws (n_v vs 0) 1)) (w_fi ws (n_v vs 0) 9) (w_fi ws (n_v vs 0) 15) (w_fi ws (n_v vs 0) 11) (w_fi ws (n_v vs 0) 12) (v_iv (Value.int x)) k2 k25 k28 k31 k32 f4 f28 f30 hK_0_1 kz_0_8 kz_0_9 kz_0_11 kz_0_12 kz_0_15
  have nf7 : fc_1 PRD (20, [7, 4, 28, 5, 6], [60, 8, 2, 1000, 10, 11, 12, 13, 14, 15, 8, 5, 1, 2]) ws (vs ++ [Value.int x]) := by
    refine ⟨nf_inA hl rfl, sgq_2021 ?_⟩
    · show zO12w (w_fi ws (n_v (vs ++ [Value.int x]) 7) 10) (w_fi ws (n_v (vs ++ [Value.int x]) 7) 11) (w_fi ws (n_v (vs ++ [Value.int x]) 7) 12) (w_fi ws (n_v (vs ++ [Value.int x]) 7) 13) (w_fi ws (n_v (vs ++ [Value.int x]) 7) 14) (w_fi ws (n_v (vs ++ [Value.int x]) 7) 15) (w_fi ws (n_v (vs ++ [Value.int x]) 7) 8) (w_fi ws (n_v (vs ++ [Value.int x]) 7) 5) (w_ei ws (w_ar ws (n_v (vs ++ [Value.int x]) 7) 1)) (w_ei ws (w_ar ws (n_v (vs ++ [Value.int x]) 7) 2)) (v_iv (n_v (vs ++ [Value.int x]) 4)) (v_iv (n_v (vs ++ [Value.int x]) 28)) (v_iv (n_v (vs ++ [Value.int x]) 5)) (v_iv (n_v (vs ++ [Value.int x]) 6))
      simp only [e_4, e_5, e_6, e_7, e_28, q7]
      exact vc_Mo_of_at_s5003_31_7 (v_iv (n_v vs 2)) (v_iv (n_v vs 4)) (v_iv (n_v vs 5)) (v_iv (n_v vs 6)) (v_iv (n_v vs 15)) (v_iv (n_v vs 17)) (v_iv (n_v vs 18)) (v_iv (n_v vs 19)) (v_iv (n_v vs 20)) (v_iv (n_v vs 28)) (v_iv (n_v vs 33)) (v_iv (n_v vs 34)) (w_fi ws (n_v vs 0) 8) (w_ei ws (w_ar ws (n_v vs 0) 1)) (w_ei ws (w_ar ws (n_v vs 0) 2)) (w_fi ws (n_v vs 0) 10) (w_fi ws (n_v vs 0) 5) (w_fi ws (n_v vs 0) 15) (w_fi ws (n_v vs 0) 11) (w_fi ws (n_v vs 0) 12) (w_fi ws (n_v vs 0) 13) (w_fi ws (n_v vs 0) 14) k2 k4 k5 k6 k28 k33 k34 g0 f3 f4 f32 kz_0_8 kz_0_10 kz_0_11 kz_0_12 kz_0_13 kz_0_14 kz_0_15
  have nf8 : fc_1 PRD (24, [0, 7], []) ws (vs ++ [Value.int x]) := by
    refine ⟨nf_inA hl rfl, sgq_5 ?_⟩
    · show n_v (vs ++ [Value.int x]) 0 = n_v (vs ++ [Value.int x]) 7
      first | rfl | simp only [e_0, e_7, q7, q9]
  have nf9 : fc_1 PRD (24, [2, 9], []) ws (vs ++ [Value.int x]) := by
    refine ⟨nf_inA hl rfl, sgq_5 ?_⟩
    · show n_v (vs ++ [Value.int x]) 2 = n_v (vs ++ [Value.int x]) 9
      first | rfl | simp only [e_2, e_9, q7, q9]
  obtain ⟨x0, e0, _, _⟩ := tv_int t11 rfl
  have e1 : v_iv (n_v vs 11) = x0.toInt := by rw [e0]; rfl
  have ho : sy_ofs (vs ++ [Value.int x]) (35, 11, 0, 0) := by
    refine ⟨x, x0, by rw [List.getElem?_append_right (by rw [hl]; decide), hl]; rfl, ?_, ?_, ?_⟩
    · rw [List.getElem?_append_left (by rw [hl]; decide)]; exact n_v_some (by rw [hl]; decide) e0
    · show x0.toInt + 0 ≤ x.toInt; omega
    · show x.toInt ≤ x0.toInt + 0; omega
  exact ⟨(fun _ h => (by cases h)), [Value.int x], ag_one hx, List.forall_mem_cons.mpr ⟨⟨show (20 : Nat) < 100 from by decide, nf0⟩, List.forall_mem_cons.mpr ⟨⟨show (20 : Nat) < 100 from by decide, nf1⟩, List.forall_mem_cons.mpr ⟨⟨show (20 : Nat) < 100 from by decide, nf2⟩, List.forall_mem_cons.mpr ⟨⟨show (23 : Nat) < 100 from by decide, nf3⟩, List.forall_mem_cons.mpr ⟨⟨show (23 : Nat) < 100 from by decide, nf4⟩, List.forall_mem_cons.mpr ⟨⟨show (23 : Nat) < 100 from by decide, nf5⟩, List.forall_mem_cons.mpr ⟨⟨show (20 : Nat) < 100 from by decide, nf6⟩, List.forall_mem_cons.mpr ⟨⟨show (20 : Nat) < 100 from by decide, nf7⟩, List.forall_mem_cons.mpr ⟨⟨show (24 : Nat) < 100 from by decide, nf8⟩, List.forall_mem_cons.mpr ⟨⟨show (24 : Nat) < 100 from by decide, nf9⟩, (fun _ h => (by cases h))⟩⟩⟩⟩⟩⟩⟩⟩⟩⟩, List.forall_mem_cons.mpr ⟨ho, (fun _ h => (by cases h))⟩⟩
set_option maxHeartbeats 4000000 in
theorem vc_Mo_of_at_s5003_32_0 (x25 : Int) (x31 : Int) (x32 : Int) (kind_0 : Int) (fault_0 : Int) (tape_0 : Int → Int) (from_0 : Int) (pos_0 : Int) (faultPlace_0 : Int) (k25 : 0 ≤ x25 ∧ x25 ≤ 2000) (k31 : 5 ≤ x31 ∧ x31 ≤ 5) (k32 : 0 ≤ x32 ∧ x32 ≤ 5) (f24 : 1 * from_0 + ((-1) * pos_0 + 0) ≤ 0) (f25 : ((kind_0 = 1) → (pos_0 ≤ (from_0 + 8))) ∧ ((kind_0 = 0) ∨ ((from_0 + 1) ≤ pos_0))) (f28 : ((1 ≤ x32) ∧ (fault_0 = x32)) ∨ ((x32 = 0) ∧ ((fault_0 = x31) ∧ (faultPlace_0 = x25)))) (hK_0_1 : ∀ j : Int, 0 ≤ j → j < 2000 → (-128) ≤ tape_0 j ∧ tape_0 j ≤ 127) (kz_0_8 : 0 ≤ fault_0 ∧ fault_0 ≤ 5) (kz_0_9 : 0 ≤ faultPlace_0 ∧ faultPlace_0 ≤ 2000) (kz_0_11 : 0 ≤ pos_0 ∧ pos_0 ≤ 2000) (kz_0_12 : 0 ≤ kind_0 ∧ kind_0 ≤ 4) (kz_0_15 : 0 ≤ from_0 ∧ from_0 ≤ 2000) : 1 * from_0 + ((-1) * pos_0 + 0) ≤ 0 := by
  first | with_reducible assumption | ((have f25_c0 := f25.1); (have f25_c1 := f25.2); (try and_intros) <;> first | with_reducible assumption | (clear f25_c0 f25_c1 f25 f28 hK_0_1; omega)) | ((have f25_c0 := f25.1); (have f25_c1 := f25.2); (try and_intros) <;> first | with_reducible assumption | (clear f25_c0 f25_c1 f25 hK_0_1; omega)) | omega
set_option maxHeartbeats 4000000 in
theorem vc_Mo_of_at_s5003_32_1 (x25 : Int) (x31 : Int) (x32 : Int) (kind_0 : Int) (fault_0 : Int) (tape_0 : Int → Int) (from_0 : Int) (pos_0 : Int) (faultPlace_0 : Int) (k25 : 0 ≤ x25 ∧ x25 ≤ 2000) (k31 : 5 ≤ x31 ∧ x31 ≤ 5) (k32 : 0 ≤ x32 ∧ x32 ≤ 5) (f25 : ((kind_0 = 1) → (pos_0 ≤ (from_0 + 8))) ∧ ((kind_0 = 0) ∨ ((from_0 + 1) ≤ pos_0))) (f28 : ((1 ≤ x32) ∧ (fault_0 = x32)) ∨ ((x32 = 0) ∧ ((fault_0 = x31) ∧ (faultPlace_0 = x25)))) (hK_0_1 : ∀ j : Int, 0 ≤ j → j < 2000 → (-128) ≤ tape_0 j ∧ tape_0 j ≤ 127) (kz_0_8 : 0 ≤ fault_0 ∧ fault_0 ≤ 5) (kz_0_9 : 0 ≤ faultPlace_0 ∧ faultPlace_0 ≤ 2000) (kz_0_11 : 0 ≤ pos_0 ∧ pos_0 ≤ 2000) (kz_0_12 : 0 ≤ kind_0 ∧ kind_0 ≤ 4) (kz_0_15 : 0 ≤ from_0 ∧ from_0 ≤ 2000) : ((kind_0 = 1) → (pos_0 ≤ (from_0 + 8))) ∧ ((kind_0 = 0) ∨ ((from_0 + 1) ≤ pos_0)) := by
  first | with_reducible assumption | ((have f25_c0 := f25.1); (have f25_c1 := f25.2); (try and_intros) <;> first | with_reducible assumption | (clear f25_c0 f25_c1 f25 f28 hK_0_1; omega)) | ((have f25_c0 := f25.1); (have f25_c1 := f25.2); (try and_intros) <;> first | with_reducible assumption | (clear f25_c0 f25_c1 f25 hK_0_1; omega)) | omega
set_option maxHeartbeats 4000000 in
theorem vc_Mo_of_at_s5003_32_2 (x3 : Int) (x17 : Int) (x25 : Int) (x31 : Int) (x32 : Int) (kind_0 : Int) (fault_0 : Int) (tape_0 : Int → Int) (from_0 : Int) (pos_0 : Int) (faultPlace_0 : Int) (k3 : 0 ≤ x3 ∧ x3 ≤ 2000) (k17 : 0 ≤ x17 ∧ x17 ≤ 2000) (k25 : 0 ≤ x25 ∧ x25 ≤ 2000) (k31 : 5 ≤ x31 ∧ x31 ≤ 5) (k32 : 0 ≤ x32 ∧ x32 ≤ 5) (f17 : 1 * x3 + ((-1) * x17 + 0) ≤ (-1)) (f25 : ((kind_0 = 1) → (pos_0 ≤ (from_0 + 8))) ∧ ((kind_0 = 0) ∨ ((from_0 + 1) ≤ pos_0))) (f26 : 1 * x17 + ((-1) * pos_0 + 0) ≤ 0) (f28 : ((1 ≤ x32) ∧ (fault_0 = x32)) ∨ ((x32 = 0) ∧ ((fault_0 = x31) ∧ (faultPlace_0 = x25)))) (hK_0_1 : ∀ j : Int, 0 ≤ j → j < 2000 → (-128) ≤ tape_0 j ∧ tape_0 j ≤ 127) (kz_0_8 : 0 ≤ fault_0 ∧ fault_0 ≤ 5) (kz_0_9 : 0 ≤ faultPlace_0 ∧ faultPlace_0 ≤ 2000) (kz_0_11 : 0 ≤ pos_0 ∧ pos_0 ≤ 2000) (kz_0_12 : 0 ≤ kind_0 ∧ kind_0 ≤ 4) (kz_0_15 : 0 ≤ from_0 ∧ from_0 ≤ 2000) : 1 * x3 + ((-1) * pos_0 + 0) ≤ 0 := by
  first | with_reducible assumption | ((have f25_c0 := f25.1); (have f25_c1 := f25.2); (try and_intros) <;> first | with_reducible assumption | (clear f25_c0 f25_c1 f25 f28 hK_0_1; omega)) | ((have f25_c0 := f25.1); (have f25_c1 := f25.2); (try and_intros) <;> first | with_reducible assumption | (clear f25_c0 f25_c1 f25 hK_0_1; omega)) | omega
set_option maxHeartbeats 4000000 in
theorem vc_Mo_of_at_s5003_32_3 (x3 : Int) (x25 : Int) (x31 : Int) (x32 : Int) (x33 : Int) (kind_0 : Int) (fault_0 : Int) (tape_0 : Int → Int) (from_0 : Int) (pos_0 : Int) (faultPlace_0 : Int) (k3 : 0 ≤ x3 ∧ x3 ≤ 2000) (k25 : 0 ≤ x25 ∧ x25 ≤ 2000) (k31 : 5 ≤ x31 ∧ x31 ≤ 5) (k32 : 0 ≤ x32 ∧ x32 ≤ 5) (k33 : 1 ≤ x33 ∧ x33 ≤ 5) (g4 : x33 = fault_0) (f25 : ((kind_0 = 1) → (pos_0 ≤ (from_0 + 8))) ∧ ((kind_0 = 0) ∨ ((from_0 + 1) ≤ pos_0))) (f28 : ((1 ≤ x32) ∧ (fault_0 = x32)) ∨ ((x32 = 0) ∧ ((fault_0 = x31) ∧ (faultPlace_0 = x25)))) (hK_0_1 : ∀ j : Int, 0 ≤ j → j < 2000 → (-128) ≤ tape_0 j ∧ tape_0 j ≤ 127) (kz_0_8 : 0 ≤ fault_0 ∧ fault_0 ≤ 5) (kz_0_9 : 0 ≤ faultPlace_0 ∧ faultPlace_0 ≤ 2000) (kz_0_11 : 0 ≤ pos_0 ∧ pos_0 ≤ 2000) (kz_0_12 : 0 ≤ kind_0 ∧ kind_0 ≤ 4) (kz_0_15 : 0 ≤ from_0 ∧ from_0 ≤ 2000) : (1 ≤ fault_0) ∨ ((kind_0 = 0) ∨ ((x3 + 1) ≤ pos_0)) := by
  first | with_reducible assumption | ((have f25_c0 := f25.1); (have f25_c1 := f25.2); (try and_intros) <;> first | with_reducible assumption | (clear f25_c0 f25_c1 f25 f28 hK_0_1; omega)) | ((have f25_c0 := f25.1); (have f25_c1 := f25.2); (try and_intros) <;> first | with_reducible assumption | (clear f25_c0 f25_c1 f25 hK_0_1; omega)) | omega
set_option maxHeartbeats 4000000 in
theorem vc_Mo_of_at_s5003_32_4 (x4 : Int) (x25 : Int) (x31 : Int) (x32 : Int) (x33 : Int) (kind_0 : Int) (fault_0 : Int) (tape_0 : Int → Int) (from_0 : Int) (pos_0 : Int) (faultPlace_0 : Int) (k4 : (-1) ≤ x4 ∧ x4 ≤ 48) (k25 : 0 ≤ x25 ∧ x25 ≤ 2000) (k31 : 5 ≤ x31 ∧ x31 ≤ 5) (k32 : 0 ≤ x32 ∧ x32 ≤ 5) (k33 : 1 ≤ x33 ∧ x33 ≤ 5) (g4 : x33 = fault_0) (f25 : ((kind_0 = 1) → (pos_0 ≤ (from_0 + 8))) ∧ ((kind_0 = 0) ∨ ((from_0 + 1) ≤ pos_0))) (f28 : ((1 ≤ x32) ∧ (fault_0 = x32)) ∨ ((x32 = 0) ∧ ((fault_0 = x31) ∧ (faultPlace_0 = x25)))) (hK_0_1 : ∀ j : Int, 0 ≤ j → j < 2000 → (-128) ≤ tape_0 j ∧ tape_0 j ≤ 127) (kz_0_8 : 0 ≤ fault_0 ∧ fault_0 ≤ 5) (kz_0_9 : 0 ≤ faultPlace_0 ∧ faultPlace_0 ≤ 2000) (kz_0_11 : 0 ≤ pos_0 ∧ pos_0 ≤ 2000) (kz_0_12 : 0 ≤ kind_0 ∧ kind_0 ≤ 4) (kz_0_15 : 0 ≤ from_0 ∧ from_0 ≤ 2000) : (1 ≤ fault_0) ∨ (0 ≤ x4) := by
  first | with_reducible assumption | ((have f25_c0 := f25.1); (have f25_c1 := f25.2); (try and_intros) <;> first | with_reducible assumption | (clear f25_c0 f25_c1 f25 f28 hK_0_1; omega)) | ((have f25_c0 := f25.1); (have f25_c1 := f25.2); (try and_intros) <;> first | with_reducible assumption | (clear f25_c0 f25_c1 f25 hK_0_1; omega)) | omega
set_option maxHeartbeats 4000000 in
theorem vc_Mo_of_at_s5003_32_5 (x2 : Int) (x25 : Int) (x31 : Int) (x32 : Int) (x34 : Int) (kind_0 : Int) (fault_0 : Int) (tape_0 : Int → Int) (from_0 : Int) (pos_0 : Int) (faultPlace_0 : Int) (k2 : 9 ≤ x2 ∧ x2 ≤ 9) (k25 : 0 ≤ x25 ∧ x25 ≤ 2000) (k31 : 5 ≤ x31 ∧ x31 ≤ 5) (k32 : 0 ≤ x32 ∧ x32 ≤ 5) (k34 : 0 ≤ x34 ∧ x34 ≤ 0) (f25 : ((kind_0 = 1) → (pos_0 ≤ (from_0 + 8))) ∧ ((kind_0 = 0) ∨ ((from_0 + 1) ≤ pos_0))) (f28 : ((1 ≤ x32) ∧ (fault_0 = x32)) ∨ ((x32 = 0) ∧ ((fault_0 = x31) ∧ (faultPlace_0 = x25)))) (hK_0_1 : ∀ j : Int, 0 ≤ j → j < 2000 → (-128) ≤ tape_0 j ∧ tape_0 j ≤ 127) (kz_0_8 : 0 ≤ fault_0 ∧ fault_0 ≤ 5) (kz_0_9 : 0 ≤ faultPlace_0 ∧ faultPlace_0 ≤ 2000) (kz_0_11 : 0 ≤ pos_0 ∧ pos_0 ≤ 2000) (kz_0_12 : 0 ≤ kind_0 ∧ kind_0 ≤ 4) (kz_0_15 : 0 ≤ from_0 ∧ from_0 ≤ 2000) : 1 * x34 + ((-1) * x2 + 0) ≤ 0 := by
  first | with_reducible assumption | ((have f25_c0 := f25.1); (have f25_c1 := f25.2); (try and_intros) <;> first | with_reducible assumption | (clear f25_c0 f25_c1 f25 f28 hK_0_1; omega)) | ((have f25_c0 := f25.1); (have f25_c1 := f25.2); (try and_intros) <;> first | with_reducible assumption | (clear f25_c0 f25_c1 f25 hK_0_1; omega)) | omega
set_option maxHeartbeats 4000000 in
theorem vc_Mo_of_at_s5003_32_6 (x25 : Int) (x31 : Int) (x32 : Int) (x34 : Int) (kind_0 : Int) (fault_0 : Int) (tape_0 : Int → Int) (from_0 : Int) (pos_0 : Int) (faultPlace_0 : Int) (k25 : 0 ≤ x25 ∧ x25 ≤ 2000) (k31 : 5 ≤ x31 ∧ x31 ≤ 5) (k32 : 0 ≤ x32 ∧ x32 ≤ 5) (k34 : 0 ≤ x34 ∧ x34 ≤ 0) (f25 : ((kind_0 = 1) → (pos_0 ≤ (from_0 + 8))) ∧ ((kind_0 = 0) ∨ ((from_0 + 1) ≤ pos_0))) (f28 : ((1 ≤ x32) ∧ (fault_0 = x32)) ∨ ((x32 = 0) ∧ ((fault_0 = x31) ∧ (faultPlace_0 = x25)))) (hK_0_1 : ∀ j : Int, 0 ≤ j → j < 2000 → (-128) ≤ tape_0 j ∧ tape_0 j ≤ 127) (kz_0_8 : 0 ≤ fault_0 ∧ fault_0 ≤ 5) (kz_0_9 : 0 ≤ faultPlace_0 ∧ faultPlace_0 ≤ 2000) (kz_0_11 : 0 ≤ pos_0 ∧ pos_0 ≤ 2000) (kz_0_12 : 0 ≤ kind_0 ∧ kind_0 ≤ 4) (kz_0_15 : 0 ≤ from_0 ∧ from_0 ≤ 2000) : (-1) * x34 + 0 ≤ 0 := by
  first | with_reducible assumption | ((have f25_c0 := f25.1); (have f25_c1 := f25.2); (try and_intros) <;> first | with_reducible assumption | (clear f25_c0 f25_c1 f25 f28 hK_0_1; omega)) | ((have f25_c0 := f25.1); (have f25_c1 := f25.2); (try and_intros) <;> first | with_reducible assumption | (clear f25_c0 f25_c1 f25 hK_0_1; omega)) | omega
set_option maxHeartbeats 4000000 in
theorem vc_Mo_of_at_s5003_32_7 (x4 : Int) (x5 : Int) (x6 : Int) (x15 : Int) (x17 : Int) (x18 : Int) (x19 : Int) (x20 : Int) (x22 : Int) (x25 : Int) (x28 : Int) (x31 : Int) (x32 : Int) (x33 : Int) (x34 : Int) (value_0 : Int) (place_0 : Int) (kind_0 : Int) (fault_0 : Int) (tape_0 : Int → Int) (limit_0 : Int) (from_0 : Int) (pos_0 : Int) (faultPlace_0 : Int) (all_0 : Int → Int) (r_0 : Int) (k4 : (-1) ≤ x4 ∧ x4 ≤ 48) (k5 : 0 ≤ x5 ∧ x5 ≤ 7) (k6 : 0 ≤ x6 ∧ x6 ≤ 4) (k15 : 0 ≤ x15 ∧ x15 ≤ 2000) (k17 : 0 ≤ x17 ∧ x17 ≤ 2000) (k18 : (-1) ≤ x18 ∧ x18 ≤ 48) (k19 : 0 ≤ x19 ∧ x19 ≤ 7) (k20 : 0 ≤ x20 ∧ x20 ≤ 4) (k22 : 0 ≤ x22 ∧ x22 ≤ 4) (k25 : 0 ≤ x25 ∧ x25 ≤ 2000) (k28 : 10 ≤ x28 ∧ x28 ≤ 1048575) (k31 : 5 ≤ x31 ∧ x31 ≤ 5) (k32 : 0 ≤ x32 ∧ x32 ≤ 5) (k33 : 1 ≤ x33 ∧ x33 ≤ 5) (k34 : 0 ≤ x34 ∧ x34 ≤ 0) (g0 : x28 = value_0) (g1 : x25 = place_0) (g2 : x22 = kind_0) (g4 : x33 = fault_0) (f5 : FSX (limit_0) (tape_0) (x31) (x25)) (f6 : ZH0 (x32)) (f9 : 1 * x17 + ((-1) * x15 + 0) ≤ 0) (f10 : (-1) * x17 + (1 * x15 + 0) ≤ 0) (f11 : 1 * x18 + ((-1) * x4 + 0) ≤ 0) (f12 : (-1) * x18 + (1 * x4 + 0) ≤ 0) (f13 : 1 * x19 + ((-1) * x5 + 0) ≤ 0) (f14 : (-1) * x19 + (1 * x5 + 0) ≤ 0) (f15 : 1 * x20 + ((-1) * x6 + 0) ≤ 0) (f16 : (-1) * x20 + (1 * x6 + 0) ≤ 0) (f28 : ((1 ≤ x32) ∧ (fault_0 = x32)) ∨ ((x32 = 0) ∧ ((fault_0 = x31) ∧ (faultPlace_0 = x25)))) (kz_0_8 : 0 ≤ fault_0 ∧ fault_0 ≤ 5) (kz_0_9 : 0 ≤ faultPlace_0 ∧ faultPlace_0 ≤ 2000) (kz_0_10 : 0 ≤ limit_0 ∧ limit_0 ≤ 2000) (kz_0_11 : 0 ≤ pos_0 ∧ pos_0 ≤ 2000) (kz_0_12 : 0 ≤ kind_0 ∧ kind_0 ≤ 4) (kz_0_13 : 0 ≤ place_0 ∧ place_0 ≤ 2000) (kz_0_14 : (-49) ≤ value_0 ∧ value_0 ≤ 1048575) (kz_0_15 : 0 ≤ from_0 ∧ from_0 ≤ 2000) : zOFw (limit_0) (pos_0) (kind_0) (place_0) (value_0) (from_0) (fault_0) (faultPlace_0) (r_0) (tape_0) (all_0) (x4) (x34) (x5) (x6) := by
  first | (have el_x17 : x17 = x15 := by omega); subst el_x17 | skip
  first | (have el_x18 : x18 = x4 := by omega); subst el_x18 | skip
  first | (have el_x19 : x19 = x5 := by omega); subst el_x19 | skip
  first | (have el_x20 : x20 = x6 := by omega); subst el_x20 | skip
  first | subst g0 | skip
  first | subst g1 | skip
  first | subst g2 | skip
  first | subst g4 | skip
  first
    | exact of_no_w ‹zOBw _ _ _ _ _ _ _ _ _ _ _ _ _ _› ‹SGQ _ _ _ _ _› (by omega) (by omega) (by omega)
    | exact Or.inl ⟨by omega, fs_w ‹FSX _ _ _ _› ‹ZH0 _› (by assumption)⟩
    | (refine Or.inl ⟨by omega, fs_w ?_ ?_ (by assumption)⟩ <;> assumption)
    | exact Or.inl ⟨by omega, or_l ‹zO11w _ _ _ _ _ _ _ _ _ _ _ _ _ _› (fun q => by have := q.1; omega)⟩
    | exact Or.inr (Or.inr ⟨by omega, ‹zRP13w _ _ _ _ _ _ _ _ _ _ _ _ _ _›⟩)
    | (exfalso; omega)
def o_Mo_of_at_s5003_32 : or_T := (129, 35, [(0, (2, 0, 0, [165])), (2, (0, 9, 9, [])), (3, (0, 0, 2000, [])), (4, (0, -1, 48, [])), (5, (0, 0, 7, [])), (6, (0, 0, 4, [])), (7, (2, 0, 0, [165])), (9, (0, 9, 9, [])), (11, (0, 0, 2000, [])), (15, (0, 0, 2000, [])), (17, (0, 0, 2000, [])), (18, (0, -1, 48, [])), (19, (0, 0, 7, [])), (20, (0, 0, 4, [])), (22, (0, 0, 4, [])), (23, (0, 2, 2, [])), (24, (0, 1, 1, [])), (25, (0, 0, 2000, [])), (26, (0, 0, 5, [])), (28, (0, 10, 1048575, [])), (31, (0, 5, 5, [])), (32, (0, 0, 5, [])), (33, (0, 1, 5, [])), (34, (0, 0, 0, []))], [(9, [28, 7], [14]), (9, [25, 7], [13]), (9, [22, 7], [12]), (8, [33], [4]), (9, [33, 7], [8]), (20, [7, 31, 25], [60, 1, 1, 1026, 10, 1]), (20, [32], [61, 0, 1029]), (20, [7, 24, 25], [60, 1, 1, 1026, 10, 1]), (20, [26], [61, 0, 1029]), (23, [17, 15], [0, 1, -1]), (23, [17, 15], [0, -1, 1]), (23, [18, 4], [0, 1, -1]), (23, [18, 4], [0, -1, 1]), (23, [19, 5], [0, 1, -1]), (23, [19, 5], [0, -1, 1]), (23, [20, 6], [0, 1, -1]), (23, [20, 6], [0, -1, 1]), (23, [3, 17], [-1, 1, -1]), (23, [11, 17], [-2000, -1, -1]), (23, [3, 15], [-1, 1, -1]), (23, [11, 15], [-2000, -1, -1]), (23, [4], [0, -1]), (24, [0, 7], []), (24, [2, 9], []), (20, [7, 7], [30, 0, 1, 1, 15, -1, 1, 11]), (20, [7], [50, 3, 0, 12, 11, 15, 2, 21, 4, 7, 1, 3, 2, 0, 12, 0, 1, 0, 3, 2, 0, 11, 4, 3, 2, 0, 15, 0, 8, 3, 7, 1, 3, 2, 0, 12, 0, 0, 0, 7, 4, 3, 2, 0, 15, 0, 1, 2, 0, 11]), (20, [17, 7], [30, 0, 1, 0, 0, -1, 1, 11]), (20, [7], [30, -1, -1, 1, 8]), (20, [32, 7, 31, 25], [50, 2, 0, 1008, 1009, 3, 15, 2, 6, 0, 2, 0, 1, 1, 0, 1, 3, 2, 1, 8, 1, 0, 2, 6, 1, 2, 1, 0, 0, 0, 2, 7, 1, 3, 2, 1, 8, 1, 2, 1, 3, 2, 1, 9, 1, 3]), (102, [32], [0, 165008, 165009]), (23, [17, 15], [0, 1, -1]), (23, [17, 15], [0, -1, 1]), (23, [18, 4], [0, 1, -1]), (23, [18, 4], [0, -1, 1]), (23, [19, 5], [0, 1, -1]), (23, [19, 5], [0, -1, 1]), (23, [20, 6], [0, 1, -1]), (23, [20, 6], [0, -1, 1]), (23, [3, 17], [-1, 1, -1]), (23, [11, 17], [-2000, -1, -1]), (23, [3, 15], [-1, 1, -1]), (23, [11, 15], [-2000, -1, -1]), (23, [4], [0, -1]), (102, [26], [0, 165008, 165009]), (7, [22, 23], [1]), (23, [17, 15], [0, 1, -1]), (23, [17, 15], [0, -1, 1]), (23, [18, 4], [0, 1, -1]), (23, [18, 4], [0, -1, 1]), (23, [19, 5], [0, 1, -1]), (23, [19, 5], [0, -1, 1]), (23, [20, 6], [0, 1, -1]), (23, [20, 6], [0, -1, 1]), (23, [3, 17], [-1, 1, -1]), (23, [11, 17], [-2000, -1, -1]), (23, [3, 15], [-1, 1, -1]), (23, [11, 15], [-2000, -1, -1]), (23, [4], [0, -1]), (102, [20], [0, 165008, 165009, 165011, 165012, 165013, 165014, 165015]), (23, [17, 15], [0, 1, -1]), (23, [17, 15], [0, -1, 1]), (23, [18, 4], [0, 1, -1]), (23, [18, 4], [0, -1, 1]), (23, [19, 5], [0, 1, -1]), (23, [19, 5], [0, -1, 1]), (23, [20, 6], [0, 1, -1]), (23, [20, 6], [0, -1, 1]), (23, [3, 17], [-1, 1, -1]), (23, [11, 17], [-2000, -1, -1]), (23, [3, 15], [-1, 1, -1]), (23, [11, 15], [-2000, -1, -1]), (23, [4], [0, -1]), (102, [15], [0, 165011, 165012, 165013, 165014, 165015]), (23, [3, 15], [-1, 1, -1]), (23, [11, 15], [-2000, -1, -1]), (23, [4], [0, -1]), (102, [13], [0]), (23, [4], [0, -1])], [], [], [(20, [0, 0], [30, 0, 1, 1, 15, -1, 1, 11]), (20, [0], [50, 3, 0, 12, 11, 15, 2, 21, 4, 7, 1, 3, 2, 0, 12, 0, 1, 0, 3, 2, 0, 11, 4, 3, 2, 0, 15, 0, 8, 3, 7, 1, 3, 2, 0, 12, 0, 0, 0, 7, 4, 3, 2, 0, 15, 0, 1, 2, 0, 11]), (20, [3, 0], [30, 0, 1, 0, 0, -1, 1, 11]), (20, [0, 3], [50, 3, 0, 8, 12, 11, 3, 7, 0, 2, 0, 1, 2, 0, 8, 3, 7, 1, 3, 2, 0, 12, 0, 0, 0, 6, 4, 2, 1, 1, 0, 1, 2, 0, 11]), (20, [0, 4], [50, 1, 0, 8, 3, 7, 0, 2, 0, 1, 2, 0, 8, 0, 2, 0, 0, 1, 1]), (20, [34, 2], [30, 0, 1, 0, 0, -1, 0, 0]), (20, [34], [30, 0, -1, 0, 0]), (20, [0, 4, 34, 5, 6], [60, 9, 2, 1014, 10, 11, 12, 13, 14, 15, 8, 9, 5, 1, 2])], [], [])
theorem oo_Mo_of_at_s5003_32 {kA : Nat → ClassId} : or_ok PRD kA GG o_Mo_of_at_s5003_32 := by
  refine or_mk fun A ta ws vs hD hth hl => ?_
  intro t0 r0 t2 k2 t3 k3 t4 k4 t5 k5 t6 k6 t7 r7 t9 k9 t11 k11 t15 k15 t17 k17 t18 k18 t19 k19 t20 k20 t22 k22 t23 k23 t24 k24 t25 k25 t26 k26 t28 k28 t31 k31 t32 k32 t33 k33 t34 k34 f0 f1 f2 f3 f4 f5 f6 f7 f8 f9 f10 f11 f12 f13 f14 f15 f16 f17 f18 f19 f20 f21 f22 f23 f24 f25 f26 f27 f28 ta1 w1 le1 s1 f30 f31 f32 f33 f34 f35 f36 f37 f38 f39 f40 f41 f42 ta2 w2 le2 s2 f44 f45 f46 f47 f48 f49 f50 f51 f52 f53 f54 f55 f56 f57 ta3 w3 le3 s3 f59 f60 f61 f62 f63 f64 f65 f66 f67 f68 f69 f70 f71 ta4 w4 le4 s4 f73 f74 f75 ta5 w5 le5 s5 f77
  replace f0 := shm_115 f0
  replace f1 := shm_361 f1
  replace f2 := shm_103 f2
  replace f4 := shm_293 f4
  replace f5 := shm_1724 f5
  replace f22 := shm_5 f22
  replace f24 := shm_1437 f24
  replace f25 := shm_1438 f25
  replace f26 := shm_1431 f26
  replace f28 := shm_306 f28
  have q7 : n_v vs 7 = n_v vs 0 := f22.symm
  simp only [q7] at f0 f1 f2 f4 f5 f24 f25 f26 f28
  have cr_0_1 := fdq_39 hD hth r0
  have g0 : v_iv (n_v vs 28) = w_fi ws (n_v vs 0) 14 := congrArg v_iv f0
  have g1 : v_iv (n_v vs 25) = w_fi ws (n_v vs 0) 13 := congrArg v_iv f1
  have g2 : v_iv (n_v vs 22) = w_fi ws (n_v vs 0) 12 := congrArg v_iv f2
  have g4 : v_iv (n_v vs 33) = w_fi ws (n_v vs 0) 8 := congrArg v_iv f4
  have hK_0_1 := elq_7 hD hth cr_0_1
  have kz_0_8 := fdq_34 hD hth r0
  have kz_0_9 := fdq_44 hD hth r0
  have kz_0_10 := fdq_43 hD hth r0
  have kz_0_11 := fdq_237 hD hth r0
  have kz_0_12 := fdq_187 hD hth r0
  have kz_0_13 := fdq_238 hD hth r0
  have kz_0_14 := fdq_188 hD hth r0
  have kz_0_15 := fdq_239 hD hth r0
  have nf0 : fc_1 PRD (20, [0, 0], [30, 0, 1, 1, 15, -1, 1, 11]) ws (vs) := ⟨nf_in hl rfl, sgq_1437 (vc_Mo_of_at_s5003_32_0 (v_iv (n_v vs 25)) (v_iv (n_v vs 31)) (v_iv (n_v vs 32)) (w_fi ws (n_v vs 0) 12) (w_fi ws (n_v vs 0) 8) (w_ei ws (w_ar ws (n_v vs 0) 1)) (w_fi ws (n_v vs 0) 15) (w_fi ws (n_v vs 0) 11) (w_fi ws (n_v vs 0) 9) k25 k31 k32 f24 f25 f28 hK_0_1 kz_0_8 kz_0_9 kz_0_11 kz_0_12 kz_0_15)⟩
  have nf1 : fc_1 PRD (20, [0], [50, 3, 0, 12, 11, 15, 2, 21, 4, 7, 1, 3, 2, 0, 12, 0, 1, 0, 3, 2, 0, 11, 4, 3, 2, 0, 15, 0, 8, 3, 7, 1, 3, 2, 0, 12, 0, 0, 0, 7, 4, 3, 2, 0, 15, 0, 1, 2, 0, 11]) ws (vs) := ⟨nf_in hl rfl, sgq_1438 (vc_Mo_of_at_s5003_32_1 (v_iv (n_v vs 25)) (v_iv (n_v vs 31)) (v_iv (n_v vs 32)) (w_fi ws (n_v vs 0) 12) (w_fi ws (n_v vs 0) 8) (w_ei ws (w_ar ws (n_v vs 0) 1)) (w_fi ws (n_v vs 0) 15) (w_fi ws (n_v vs 0) 11) (w_fi ws (n_v vs 0) 9) k25 k31 k32 f25 f28 hK_0_1 kz_0_8 kz_0_9 kz_0_11 kz_0_12 kz_0_15)⟩
  have nf2 : fc_1 PRD (20, [3, 0], [30, 0, 1, 0, 0, -1, 1, 11]) ws (vs) := ⟨nf_in hl rfl, sgq_1431 (vc_Mo_of_at_s5003_32_2 (v_iv (n_v vs 3)) (v_iv (n_v vs 17)) (v_iv (n_v vs 25)) (v_iv (n_v vs 31)) (v_iv (n_v vs 32)) (w_fi ws (n_v vs 0) 12) (w_fi ws (n_v vs 0) 8) (w_ei ws (w_ar ws (n_v vs 0) 1)) (w_fi ws (n_v vs 0) 15) (w_fi ws (n_v vs 0) 11) (w_fi ws (n_v vs 0) 9) k3 k17 k25 k31 k32 (shm_193 f17) f25 f26 f28 hK_0_1 kz_0_8 kz_0_9 kz_0_11 kz_0_12 kz_0_15)⟩
  have nf3 : fc_1 PRD (20, [0, 3], [50, 3, 0, 8, 12, 11, 3, 7, 0, 2, 0, 1, 2, 0, 8, 3, 7, 1, 3, 2, 0, 12, 0, 0, 0, 6, 4, 2, 1, 1, 0, 1, 2, 0, 11]) ws (vs) := ⟨nf_in hl rfl, sgq_1722 (vc_Mo_of_at_s5003_32_3 (v_iv (n_v vs 3)) (v_iv (n_v vs 25)) (v_iv (n_v vs 31)) (v_iv (n_v vs 32)) (v_iv (n_v vs 33)) (w_fi ws (n_v vs 0) 12) (w_fi ws (n_v vs 0) 8) (w_ei ws (w_ar ws (n_v vs 0) 1)) (w_fi ws (n_v vs 0) 15) (w_fi ws (n_v vs 0) 11) (w_fi ws (n_v vs 0) 9) k3 k25 k31 k32 k33 g4 f25 f28 hK_0_1 kz_0_8 kz_0_9 kz_0_11 kz_0_12 kz_0_15)⟩
  have nf4 : fc_1 PRD (20, [0, 4], [50, 1, 0, 8, 3, 7, 0, 2, 0, 1, 2, 0, 8, 0, 2, 0, 0, 1, 1]) ws (vs) := ⟨nf_in hl rfl, sgq_2000 (vc_Mo_of_at_s5003_32_4 (v_iv (n_v vs 4)) (v_iv (n_v vs 25)) (v_iv (n_v vs 31)) (v_iv (n_v vs 32)) (v_iv (n_v vs 33)) (w_fi ws (n_v vs 0) 12) (w_fi ws (n_v vs 0) 8) (w_ei ws (w_ar ws (n_v vs 0) 1)) (w_fi ws (n_v vs 0) 15) (w_fi ws (n_v vs 0) 11) (w_fi ws (n_v vs 0) 9) k4 k25 k31 k32 k33 g4 f25 f28 hK_0_1 kz_0_8 kz_0_9 kz_0_11 kz_0_12 kz_0_15)⟩
  have nf5 : fc_1 PRD (20, [34, 2], [30, 0, 1, 0, 0, -1, 0, 0]) ws (vs) := ⟨nf_in hl rfl, sgq_201 (vc_Mo_of_at_s5003_32_5 (v_iv (n_v vs 2)) (v_iv (n_v vs 25)) (v_iv (n_v vs 31)) (v_iv (n_v vs 32)) (v_iv (n_v vs 34)) (w_fi ws (n_v vs 0) 12) (w_fi ws (n_v vs 0) 8) (w_ei ws (w_ar ws (n_v vs 0) 1)) (w_fi ws (n_v vs 0) 15) (w_fi ws (n_v vs 0) 11) (w_fi ws (n_v vs 0) 9) k2 k25 k31 k32 k34 f25 f28 hK_0_1 kz_0_8 kz_0_9 kz_0_11 kz_0_12 kz_0_15)⟩
  have nf6 : fc_1 PRD (20, [34], [30, 0, -1, 0, 0]) ws (vs) := ⟨nf_in hl rfl, sgq_2002 (vc_Mo_of_at_s5003_32_6 (v_iv (n_v vs 25)) (v_iv (n_v vs 31)) (v_iv (n_v vs 32)) (v_iv (n_v vs 34)) (w_fi ws (n_v vs 0) 12) (w_fi ws (n_v vs 0) 8) (w_ei ws (w_ar ws (n_v vs 0) 1)) (w_fi ws (n_v vs 0) 15) (w_fi ws (n_v vs 0) 11) (w_fi ws (n_v vs 0) 9) k25 k31 k32 k34 f25 f28 hK_0_1 kz_0_8 kz_0_9 kz_0_11 kz_0_12 kz_0_15)⟩
  have nf7 : fc_1 PRD (20, [0, 4, 34, 5, 6], [60, 9, 2, 1014, 10, 11, 12, 13, 14, 15, 8, 9, 5, 1, 2]) ws (vs) := ⟨nf_in hl rfl, sgq_2016 (vc_Mo_of_at_s5003_32_7 (v_iv (n_v vs 4)) (v_iv (n_v vs 5)) (v_iv (n_v vs 6)) (v_iv (n_v vs 15)) (v_iv (n_v vs 17)) (v_iv (n_v vs 18)) (v_iv (n_v vs 19)) (v_iv (n_v vs 20)) (v_iv (n_v vs 22)) (v_iv (n_v vs 25)) (v_iv (n_v vs 28)) (v_iv (n_v vs 31)) (v_iv (n_v vs 32)) (v_iv (n_v vs 33)) (v_iv (n_v vs 34)) (w_fi ws (n_v vs 0) 14) (w_fi ws (n_v vs 0) 13) (w_fi ws (n_v vs 0) 12) (w_fi ws (n_v vs 0) 8) (w_ei ws (w_ar ws (n_v vs 0) 1)) (w_fi ws (n_v vs 0) 10) (w_fi ws (n_v vs 0) 15) (w_fi ws (n_v vs 0) 11) (w_fi ws (n_v vs 0) 9) (w_ei ws (w_ar ws (n_v vs 0) 2)) (w_fi ws (n_v vs 0) 5) k4 k5 k6 k15 k17 k18 k19 k20 k22 k25 k28 k31 k32 k33 k34 g0 g1 g2 g4 f5 (shm_1725 f6) (shm_7 f9) (shm_22 f10) (shm_7 f11) (shm_22 f12) (shm_7 f13) (shm_22 f14) (shm_7 f15) (shm_22 f16) f28 kz_0_8 kz_0_9 kz_0_10 kz_0_11 kz_0_12 kz_0_13 kz_0_14 kz_0_15)⟩
  refine ⟨(fun _ h => (by cases h)), [], trivial, ?_, (fun _ h => (by cases h))⟩
  rw [List.append_nil]
  exact List.forall_mem_cons.mpr ⟨⟨show (20 : Nat) < 100 from by decide, nf0⟩, List.forall_mem_cons.mpr ⟨⟨show (20 : Nat) < 100 from by decide, nf1⟩, List.forall_mem_cons.mpr ⟨⟨show (20 : Nat) < 100 from by decide, nf2⟩, List.forall_mem_cons.mpr ⟨⟨show (20 : Nat) < 100 from by decide, nf3⟩, List.forall_mem_cons.mpr ⟨⟨show (20 : Nat) < 100 from by decide, nf4⟩, List.forall_mem_cons.mpr ⟨⟨show (20 : Nat) < 100 from by decide, nf5⟩, List.forall_mem_cons.mpr ⟨⟨show (20 : Nat) < 100 from by decide, nf6⟩, List.forall_mem_cons.mpr ⟨⟨show (20 : Nat) < 100 from by decide, nf7⟩, (fun _ h => (by cases h))⟩⟩⟩⟩⟩⟩⟩⟩
set_option maxHeartbeats 4000000 in
theorem vc_Mo_of_at_s5003_33_0 (x2 : Int) (x24 : Int) (x25 : Int) (x26 : Int) (x27 : Int) (x28 : Int) (kind_0 : Int) (fault_0 : Int) (tape_0 : Int → Int) (from_0 : Int) (pos_0 : Int) (faultPlace_0 : Int) (k2 : 9 ≤ x2 ∧ x2 ≤ 9) (k24 : 1 ≤ x24 ∧ x24 ≤ 1) (k25 : 0 ≤ x25 ∧ x25 ≤ 2000) (k26 : 0 ≤ x26 ∧ x26 ≤ 5) (k27 : 0 ≤ x27 ∧ x27 ≤ 0) (k28 : 1 ≤ x28 ∧ x28 ≤ 9) (g4 : x27 = fault_0) (f19 : ((kind_0 = 1) → (pos_0 ≤ (from_0 + 8))) ∧ ((kind_0 = 0) ∨ ((from_0 + 1) ≤ pos_0))) (f21 : (-1) * fault_0 + 0 ≤ (-1)) (f22 : ((1 ≤ x26) ∧ (fault_0 = x26)) ∨ ((x26 = 0) ∧ ((fault_0 = x24) ∧ (faultPlace_0 = x25)))) (hK_0_1 : ∀ j : Int, 0 ≤ j → j < 2000 → (-128) ≤ tape_0 j ∧ tape_0 j ≤ 127) (kz_0_8 : 0 ≤ fault_0 ∧ fault_0 ≤ 5) (kz_0_9 : 0 ≤ faultPlace_0 ∧ faultPlace_0 ≤ 2000) (kz_0_11 : 0 ≤ pos_0 ∧ pos_0 ≤ 2000) (kz_0_12 : 0 ≤ kind_0 ∧ kind_0 ≤ 4) (kz_0_15 : 0 ≤ from_0 ∧ from_0 ≤ 2000) : 1 * x28 + ((-1) * x2 + 0) ≤ 0 := by
  first | with_reducible assumption | ((have f19_c0 := f19.1); (have f19_c1 := f19.2); (try and_intros) <;> first | with_reducible assumption | (clear f19_c0 f19_c1 f19 f22 hK_0_1; omega)) | ((have f19_c0 := f19.1); (have f19_c1 := f19.2); (try and_intros) <;> first | with_reducible assumption | (clear f19_c0 f19_c1 f19 hK_0_1; omega)) | omega
set_option maxHeartbeats 4000000 in
theorem vc_Mo_of_at_s5003_33_1 (x24 : Int) (x25 : Int) (x26 : Int) (x27 : Int) (x28 : Int) (kind_0 : Int) (fault_0 : Int) (tape_0 : Int → Int) (from_0 : Int) (pos_0 : Int) (faultPlace_0 : Int) (k24 : 1 ≤ x24 ∧ x24 ≤ 1) (k25 : 0 ≤ x25 ∧ x25 ≤ 2000) (k26 : 0 ≤ x26 ∧ x26 ≤ 5) (k27 : 0 ≤ x27 ∧ x27 ≤ 0) (k28 : 1 ≤ x28 ∧ x28 ≤ 9) (g4 : x27 = fault_0) (f19 : ((kind_0 = 1) → (pos_0 ≤ (from_0 + 8))) ∧ ((kind_0 = 0) ∨ ((from_0 + 1) ≤ pos_0))) (f21 : (-1) * fault_0 + 0 ≤ (-1)) (f22 : ((1 ≤ x26) ∧ (fault_0 = x26)) ∨ ((x26 = 0) ∧ ((fault_0 = x24) ∧ (faultPlace_0 = x25)))) (hK_0_1 : ∀ j : Int, 0 ≤ j → j < 2000 → (-128) ≤ tape_0 j ∧ tape_0 j ≤ 127) (kz_0_8 : 0 ≤ fault_0 ∧ fault_0 ≤ 5) (kz_0_9 : 0 ≤ faultPlace_0 ∧ faultPlace_0 ≤ 2000) (kz_0_11 : 0 ≤ pos_0 ∧ pos_0 ≤ 2000) (kz_0_12 : 0 ≤ kind_0 ∧ kind_0 ≤ 4) (kz_0_15 : 0 ≤ from_0 ∧ from_0 ≤ 2000) : (-1) * x28 + 0 ≤ 0 := by
  first | with_reducible assumption | ((have f19_c0 := f19.1); (have f19_c1 := f19.2); (try and_intros) <;> first | with_reducible assumption | (clear f19_c0 f19_c1 f19 f22 hK_0_1; omega)) | ((have f19_c0 := f19.1); (have f19_c1 := f19.2); (try and_intros) <;> first | with_reducible assumption | (clear f19_c0 f19_c1 f19 hK_0_1; omega)) | omega
def o_Mo_of_at_s5003_33 : or_T := (135, 31, [(0, (2, 0, 0, [165])), (2, (0, 9, 9, [])), (3, (0, 0, 2000, [])), (7, (2, 0, 0, [165])), (9, (0, 9, 9, [])), (10, (0, -49, 0, [])), (11, (0, 0, 2000, [])), (15, (0, 0, 2000, [])), (17, (0, 0, 2000, [])), (22, (0, 0, 4, [])), (23, (0, 2, 2, [])), (24, (0, 1, 1, [])), (25, (0, 0, 2000, [])), (26, (0, 0, 5, [])), (27, (0, 0, 0, [])), (28, (0, 1, 9, []))], [(9, [25, 7], [13]), (9, [22, 7], [12]), (9, [28, 7], [14]), (8, [27], [5]), (9, [27, 7], [8]), (8, [27], [0]), (20, [7, 24, 25], [60, 1, 1, 1026, 10, 1]), (20, [26], [61, 0, 1029]), (23, [17, 15], [0, 1, -1]), (23, [17, 15], [0, -1, 1]), (23, [3, 17], [-1, 1, -1]), (23, [11, 17], [-2000, -1, -1]), (23, [3, 15], [-1, 1, -1]), (23, [11, 15], [-2000, -1, -1]), (23, [10, 9], [0, 1, -1]), (23, [10], [0, -1]), (24, [0, 7], []), (24, [2, 9], []), (20, [7, 7], [30, 0, 1, 1, 15, -1, 1, 11]), (20, [7], [50, 3, 0, 12, 11, 15, 2, 21, 4, 7, 1, 3, 2, 0, 12, 0, 1, 0, 3, 2, 0, 11, 4, 3, 2, 0, 15, 0, 8, 3, 7, 1, 3, 2, 0, 12, 0, 0, 0, 7, 4, 3, 2, 0, 15, 0, 1, 2, 0, 11]), (20, [17, 7], [30, 0, 1, 0, 0, -1, 1, 11]), (20, [7], [30, -1, -1, 1, 8]), (20, [26, 7, 24, 25], [50, 2, 0, 1008, 1009, 3, 15, 2, 6, 0, 2, 0, 1, 1, 0, 1, 3, 2, 1, 8, 1, 0, 2, 6, 1, 2, 1, 0, 0, 0, 2, 7, 1, 3, 2, 1, 8, 1, 2, 1, 3, 2, 1, 9, 1, 3]), (102, [26], [0, 165008, 165009]), (7, [22, 23], [1]), (23, [17, 15], [0, 1, -1]), (23, [17, 15], [0, -1, 1]), (23, [3, 17], [-1, 1, -1]), (23, [11, 17], [-2000, -1, -1]), (23, [3, 15], [-1, 1, -1]), (23, [11, 15], [-2000, -1, -1]), (23, [10, 9], [0, 1, -1]), (23, [10], [0, -1]), (102, [20], [0, 165008, 165009, 165011, 165012, 165013, 165014, 165015]), (23, [17, 15], [0, 1, -1]), (23, [17, 15], [0, -1, 1]), (23, [3, 17], [-1, 1, -1]), (23, [11, 17], [-2000, -1, -1]), (23, [3, 15], [-1, 1, -1]), (23, [11, 15], [-2000, -1, -1]), (23, [10, 9], [0, 1, -1]), (23, [10], [0, -1]), (102, [15], [0, 165011, 165012, 165013, 165014, 165015]), (23, [3, 15], [-1, 1, -1]), (23, [11, 15], [-2000, -1, -1]), (8, [10], [5]), (23, [10, 9], [0, 1, -1]), (23, [10], [0, -1]), (102, [13], [0]), (23, [10, 9], [0, 1, -1]), (23, [10], [0, -1])], [], [], [(23, [28, 9], [0, 1, -1]), (23, [28], [0, -1])], [], [])
theorem oo_Mo_of_at_s5003_33 {kA : Nat → ClassId} : or_ok PRD kA GG o_Mo_of_at_s5003_33 := by
  refine or_mk fun A ta ws vs hD hth hl => ?_
  intro t0 r0 t2 k2 t3 k3 t7 r7 t9 k9 t10 k10 t11 k11 t15 k15 t17 k17 t22 k22 t23 k23 t24 k24 t25 k25 t26 k26 t27 k27 t28 k28 f0 f1 f2 f3 f4 f5 f6 f7 f8 f9 f10 f11 f12 f13 f14 f15 f16 f17 f18 f19 f20 f21 f22 ta1 w1 le1 s1 f24 f25 f26 f27 f28 f29 f30 f31 f32 ta2 w2 le2 s2 f34 f35 f36 f37 f38 f39 f40 f41 ta3 w3 le3 s3 f43 f44 f45 f46 f47 ta4 w4 le4 s4 f49 f50
  replace f4 := shm_293 f4
  replace f16 := shm_5 f16
  replace f17 := shm_5 f17
  replace f19 := shm_1438 f19
  replace f21 := shm_305 f21
  replace f22 := shm_306 f22
  have q7 : n_v vs 7 = n_v vs 0 := f16.symm
  have q9 : n_v vs 9 = n_v vs 2 := f17.symm
  simp only [q7] at f4 f19 f21 f22
  have cr_0_1 := fdq_39 hD hth r0
  have g4 : v_iv (n_v vs 27) = w_fi ws (n_v vs 0) 8 := congrArg v_iv f4
  have hK_0_1 := elq_7 hD hth cr_0_1
  have kz_0_8 := fdq_34 hD hth r0
  have kz_0_9 := fdq_44 hD hth r0
  have kz_0_11 := fdq_237 hD hth r0
  have kz_0_12 := fdq_187 hD hth r0
  have kz_0_15 := fdq_239 hD hth r0
  have nf0 : fc_1 PRD (23, [28, 9], [0, 1, -1]) ws (vs) := by
    refine ⟨nf_in hl rfl, sgq_7 ?_⟩
    · show 1 * v_iv (n_v vs 28) + ((-1) * v_iv (n_v vs 9) + 0) ≤ 0
      rw [q9]
      exact vc_Mo_of_at_s5003_33_0 (v_iv (n_v vs 2)) (v_iv (n_v vs 24)) (v_iv (n_v vs 25)) (v_iv (n_v vs 26)) (v_iv (n_v vs 27)) (v_iv (n_v vs 28)) (w_fi ws (n_v vs 0) 12) (w_fi ws (n_v vs 0) 8) (w_ei ws (w_ar ws (n_v vs 0) 1)) (w_fi ws (n_v vs 0) 15) (w_fi ws (n_v vs 0) 11) (w_fi ws (n_v vs 0) 9) k2 k24 k25 k26 k27 k28 g4 f19 f21 f22 hK_0_1 kz_0_8 kz_0_9 kz_0_11 kz_0_12 kz_0_15
  have nf1 : fc_1 PRD (23, [28], [0, -1]) ws (vs) := ⟨nf_in hl rfl, sgq_1043 (vc_Mo_of_at_s5003_33_1 (v_iv (n_v vs 24)) (v_iv (n_v vs 25)) (v_iv (n_v vs 26)) (v_iv (n_v vs 27)) (v_iv (n_v vs 28)) (w_fi ws (n_v vs 0) 12) (w_fi ws (n_v vs 0) 8) (w_ei ws (w_ar ws (n_v vs 0) 1)) (w_fi ws (n_v vs 0) 15) (w_fi ws (n_v vs 0) 11) (w_fi ws (n_v vs 0) 9) k24 k25 k26 k27 k28 g4 f19 f21 f22 hK_0_1 kz_0_8 kz_0_9 kz_0_11 kz_0_12 kz_0_15)⟩
  refine ⟨(fun _ h => (by cases h)), [], trivial, ?_, (fun _ h => (by cases h))⟩
  rw [List.append_nil]
  exact List.forall_mem_cons.mpr ⟨⟨show (23 : Nat) < 100 from by decide, nf0⟩, List.forall_mem_cons.mpr ⟨⟨show (23 : Nat) < 100 from by decide, nf1⟩, (fun _ h => (by cases h))⟩⟩
set_option maxHeartbeats 4000000 in
theorem vc_Mo_of_at_s5003_34_0 (x24 : Int) (x25 : Int) (x26 : Int) (x27 : Int) (kind_0 : Int) (fault_0 : Int) (tape_0 : Int → Int) (from_0 : Int) (pos_0 : Int) (faultPlace_0 : Int) (gx : Int) (k24 : 1 ≤ x24 ∧ x24 ≤ 1) (k25 : 0 ≤ x25 ∧ x25 ≤ 2000) (k26 : 0 ≤ x26 ∧ x26 ≤ 5) (k27 : 0 ≤ x27 ∧ x27 ≤ 0) (g6 : x27 = fault_0) (f28 : ((kind_0 = 1) → (pos_0 ≤ (from_0 + 8))) ∧ ((kind_0 = 0) ∨ ((from_0 + 1) ≤ pos_0))) (f30 : (-1) * fault_0 + 0 ≤ (-1)) (f31 : ((1 ≤ x26) ∧ (fault_0 = x26)) ∨ ((x26 = 0) ∧ ((fault_0 = x24) ∧ (faultPlace_0 = x25)))) (hK_0_1 : ∀ j : Int, 0 ≤ j → j < 2000 → (-128) ≤ tape_0 j ∧ tape_0 j ≤ 127) (kz_0_8 : 0 ≤ fault_0 ∧ fault_0 ≤ 5) (kz_0_9 : 0 ≤ faultPlace_0 ∧ faultPlace_0 ≤ 2000) (kz_0_11 : 0 ≤ pos_0 ∧ pos_0 ≤ 2000) (kz_0_12 : 0 ≤ kind_0 ∧ kind_0 ≤ 4) (kz_0_15 : 0 ≤ from_0 ∧ from_0 ≤ 2000) : 1 * gx + ((-1) * pos_0 + 0) ≤ 0 := by
  first | with_reducible assumption | ((have f28_c0 := f28.1); (have f28_c1 := f28.2); (try and_intros) <;> first | with_reducible assumption | (clear f28_c0 f28_c1 f28 f31 hK_0_1; omega)) | ((have f28_c0 := f28.1); (have f28_c1 := f28.2); (try and_intros) <;> first | with_reducible assumption | (clear f28_c0 f28_c1 f28 hK_0_1; omega)) | omega
set_option maxHeartbeats 4000000 in
theorem vc_Mo_of_at_s5003_34_1 (x24 : Int) (x25 : Int) (x26 : Int) (kind_0 : Int) (fault_0 : Int) (tape_0 : Int → Int) (from_0 : Int) (pos_0 : Int) (faultPlace_0 : Int) (gx : Int) (k24 : 1 ≤ x24 ∧ x24 ≤ 1) (k25 : 0 ≤ x25 ∧ x25 ≤ 2000) (k26 : 0 ≤ x26 ∧ x26 ≤ 5) (f28 : ((kind_0 = 1) → (pos_0 ≤ (from_0 + 8))) ∧ ((kind_0 = 0) ∨ ((from_0 + 1) ≤ pos_0))) (f31 : ((1 ≤ x26) ∧ (fault_0 = x26)) ∨ ((x26 = 0) ∧ ((fault_0 = x24) ∧ (faultPlace_0 = x25)))) (hK_0_1 : ∀ j : Int, 0 ≤ j → j < 2000 → (-128) ≤ tape_0 j ∧ tape_0 j ≤ 127) (kz_0_8 : 0 ≤ fault_0 ∧ fault_0 ≤ 5) (kz_0_9 : 0 ≤ faultPlace_0 ∧ faultPlace_0 ≤ 2000) (kz_0_11 : 0 ≤ pos_0 ∧ pos_0 ≤ 2000) (kz_0_12 : 0 ≤ kind_0 ∧ kind_0 ≤ 4) (kz_0_15 : 0 ≤ from_0 ∧ from_0 ≤ 2000) (ex2 : gx = pos_0) : gx = pos_0 := by
  first | with_reducible assumption | ((have f28_c0 := f28.1); (have f28_c1 := f28.2); (try and_intros) <;> first | with_reducible assumption | (clear f28_c0 f28_c1 f28 f31 hK_0_1; omega)) | ((have f28_c0 := f28.1); (have f28_c1 := f28.2); (try and_intros) <;> first | with_reducible assumption | (clear f28_c0 f28_c1 f28 hK_0_1; omega)) | omega
set_option maxHeartbeats 4000000 in
theorem vc_Mo_of_at_s5003_34_2 (x4 : Int) (x5 : Int) (x6 : Int) (x15 : Int) (x17 : Int) (x18 : Int) (x19 : Int) (x20 : Int) (x22 : Int) (x25 : Int) (x27 : Int) (x28 : Int) (place_0 : Int) (kind_0 : Int) (value_0 : Int) (fault_0 : Int) (limit_0 : Int) (pos_0 : Int) (gx : Int) (k22 : 0 ≤ x22 ∧ x22 ≤ 4) (k25 : 0 ≤ x25 ∧ x25 ≤ 2000) (k27 : 0 ≤ x27 ∧ x27 ≤ 0) (k28 : 1 ≤ x28 ∧ x28 ≤ 9) (g0 : x25 = place_0) (g1 : x22 = kind_0) (g4 : x28 = value_0) (g6 : x27 = fault_0) (f30 : (-1) * fault_0 + 0 ≤ (-1)) (kz_0_8 : 0 ≤ fault_0 ∧ fault_0 ≤ 5) (kz_0_10 : 0 ≤ limit_0 ∧ limit_0 ≤ 2000) (kz_0_11 : 0 ≤ pos_0 ∧ pos_0 ≤ 2000) (kz_0_12 : 0 ≤ kind_0 ∧ kind_0 ≤ 4) (kz_0_13 : 0 ≤ place_0 ∧ place_0 ≤ 2000) (kz_0_14 : (-49) ≤ value_0 ∧ value_0 ≤ 1048575) (ex2 : gx = pos_0) : ZLM (limit_0) (pos_0) := by
  first | (have el_x17 : x17 = x15 := by omega); subst el_x17 | skip
  first | (have el_x18 : x18 = x4 := by omega); subst el_x18 | skip
  first | (have el_x19 : x19 = x5 := by omega); subst el_x19 | skip
  first | (have el_x20 : x20 = x6 := by omega); subst el_x20 | skip
  first | subst g0 | skip
  first | subst g1 | skip
  first | subst g4 | skip
  first | subst g6 | skip
  first | subst ex2 | skip
  first
    | exact ob_0_s ‹zOBs _ _ _ _ _ _ _ _ _ _ _ _ _ _› (sgq_t (C := 91) ‹SGQ _ _ _ _ _› (by omega) (by omega)).1
    | exact ob_0_w ‹zOBw _ _ _ _ _ _ _ _ _ _ _ _ _ _› (sgq_t (C := 91) ‹SGQ _ _ _ _ _› (by omega) (by omega)).1
    | exact (oi_0_s ‹zOIs _ _ _ _ _ _ _ _ _ _ _ _ _ _›).2
    | exact (oi_0_w ‹zOIw _ _ _ _ _ _ _ _ _ _ _ _ _ _›).2
    | exact o11_0_s ‹zO11s _ _ _ _ _ _ _ _ _ _ _ _ _ _› (by omega)
    | exact o11_0_w ‹zO11w _ _ _ _ _ _ _ _ _ _ _ _ _ _› (by omega)
    | (exfalso; omega)
set_option maxHeartbeats 4000000 in
theorem vc_Mo_of_at_s5003_34_3 (x3 : Int) (x24 : Int) (x25 : Int) (x26 : Int) (x27 : Int) (kind_0 : Int) (fault_0 : Int) (tape_0 : Int → Int) (from_0 : Int) (pos_0 : Int) (faultPlace_0 : Int) (gx : Int) (k3 : 0 ≤ x3 ∧ x3 ≤ 2000) (k24 : 1 ≤ x24 ∧ x24 ≤ 1) (k25 : 0 ≤ x25 ∧ x25 ≤ 2000) (k26 : 0 ≤ x26 ∧ x26 ≤ 5) (k27 : 0 ≤ x27 ∧ x27 ≤ 0) (g6 : x27 = fault_0) (f28 : ((kind_0 = 1) → (pos_0 ≤ (from_0 + 8))) ∧ ((kind_0 = 0) ∨ ((from_0 + 1) ≤ pos_0))) (f30 : (-1) * fault_0 + 0 ≤ (-1)) (f31 : ((1 ≤ x26) ∧ (fault_0 = x26)) ∨ ((x26 = 0) ∧ ((fault_0 = x24) ∧ (faultPlace_0 = x25)))) (hK_0_1 : ∀ j : Int, 0 ≤ j → j < 2000 → (-128) ≤ tape_0 j ∧ tape_0 j ≤ 127) (kz_0_8 : 0 ≤ fault_0 ∧ fault_0 ≤ 5) (kz_0_9 : 0 ≤ faultPlace_0 ∧ faultPlace_0 ≤ 2000) (kz_0_11 : 0 ≤ pos_0 ∧ pos_0 ≤ 2000) (kz_0_12 : 0 ≤ kind_0 ∧ kind_0 ≤ 4) (kz_0_15 : 0 ≤ from_0 ∧ from_0 ≤ 2000) : 1 * x3 + ((-1) * gx + 0) ≤ (-1) := by
  first | with_reducible assumption | ((have f28_c0 := f28.1); (have f28_c1 := f28.2); (try and_intros) <;> first | with_reducible assumption | (clear f28_c0 f28_c1 f28 f31 hK_0_1; omega)) | ((have f28_c0 := f28.1); (have f28_c1 := f28.2); (try and_intros) <;> first | with_reducible assumption | (clear f28_c0 f28_c1 f28 hK_0_1; omega)) | omega
set_option maxHeartbeats 4000000 in
theorem vc_Mo_of_at_s5003_34_4 (x11 : Int) (x24 : Int) (x25 : Int) (x26 : Int) (x27 : Int) (kind_0 : Int) (fault_0 : Int) (tape_0 : Int → Int) (from_0 : Int) (pos_0 : Int) (faultPlace_0 : Int) (gx : Int) (k11 : 0 ≤ x11 ∧ x11 ≤ 2000) (k24 : 1 ≤ x24 ∧ x24 ≤ 1) (k25 : 0 ≤ x25 ∧ x25 ≤ 2000) (k26 : 0 ≤ x26 ∧ x26 ≤ 5) (k27 : 0 ≤ x27 ∧ x27 ≤ 0) (g6 : x27 = fault_0) (f28 : ((kind_0 = 1) → (pos_0 ≤ (from_0 + 8))) ∧ ((kind_0 = 0) ∨ ((from_0 + 1) ≤ pos_0))) (f30 : (-1) * fault_0 + 0 ≤ (-1)) (f31 : ((1 ≤ x26) ∧ (fault_0 = x26)) ∨ ((x26 = 0) ∧ ((fault_0 = x24) ∧ (faultPlace_0 = x25)))) (hK_0_1 : ∀ j : Int, 0 ≤ j → j < 2000 → (-128) ≤ tape_0 j ∧ tape_0 j ≤ 127) (kz_0_8 : 0 ≤ fault_0 ∧ fault_0 ≤ 5) (kz_0_9 : 0 ≤ faultPlace_0 ∧ faultPlace_0 ≤ 2000) (kz_0_11 : 0 ≤ pos_0 ∧ pos_0 ≤ 2000) (kz_0_12 : 0 ≤ kind_0 ∧ kind_0 ≤ 4) (kz_0_15 : 0 ≤ from_0 ∧ from_0 ≤ 2000) : (-1) * x11 + ((-1) * gx + 0) ≤ (-2001) := by
  first | with_reducible assumption | ((have f28_c0 := f28.1); (have f28_c1 := f28.2); (try and_intros) <;> first | with_reducible assumption | (clear f28_c0 f28_c1 f28 f31 hK_0_1; omega)) | ((have f28_c0 := f28.1); (have f28_c1 := f28.2); (try and_intros) <;> first | with_reducible assumption | (clear f28_c0 f28_c1 f28 hK_0_1; omega)) | omega
set_option maxHeartbeats 4000000 in
theorem vc_Mo_of_at_s5003_34_5 (x4 : Int) (x5 : Int) (x6 : Int) (x15 : Int) (x17 : Int) (x18 : Int) (x19 : Int) (x20 : Int) (x22 : Int) (x25 : Int) (x27 : Int) (x28 : Int) (place_0 : Int) (kind_0 : Int) (value_0 : Int) (fault_0 : Int) (tape_0 : Int → Int) (limit_0 : Int) (pos_0 : Int) (gx : Int) (all_0 : Int → Int) (r_0 : Int) (k4 : (-1) ≤ x4 ∧ x4 ≤ 48) (k5 : 0 ≤ x5 ∧ x5 ≤ 7) (k6 : 0 ≤ x6 ∧ x6 ≤ 4) (k22 : 0 ≤ x22 ∧ x22 ≤ 4) (k25 : 0 ≤ x25 ∧ x25 ≤ 2000) (k27 : 0 ≤ x27 ∧ x27 ≤ 0) (k28 : 1 ≤ x28 ∧ x28 ≤ 9) (g0 : x25 = place_0) (g1 : x22 = kind_0) (g4 : x28 = value_0) (g6 : x27 = fault_0) (f30 : (-1) * fault_0 + 0 ≤ (-1)) (kz_0_8 : 0 ≤ fault_0 ∧ fault_0 ≤ 5) (kz_0_10 : 0 ≤ limit_0 ∧ limit_0 ≤ 2000) (kz_0_11 : 0 ≤ pos_0 ∧ pos_0 ≤ 2000) (kz_0_12 : 0 ≤ kind_0 ∧ kind_0 ≤ 4) (kz_0_13 : 0 ≤ place_0 ∧ place_0 ≤ 2000) (kz_0_14 : (-49) ≤ value_0 ∧ value_0 ≤ 1048575) (ex2 : gx = pos_0) : zU12w (limit_0) (fault_0) (r_0) (tape_0) (all_0) (x4) (x28) (x5) (x6) (gx) := by
  first | (have el_x17 : x17 = x15 := by omega); subst el_x17 | skip
  first | (have el_x18 : x18 = x4 := by omega); subst el_x18 | skip
  first | (have el_x19 : x19 = x5 := by omega); subst el_x19 | skip
  first | (have el_x20 : x20 = x6 := by omega); subst el_x20 | skip
  first | subst g0 | skip
  first | subst g1 | skip
  first | subst g4 | skip
  first | subst g6 | skip
  first | subst ex2 | skip
  first
    | exact of_val_w ‹zO11w _ _ _ _ _ _ _ _ _ _ _ _ _ _› (by omega) (by omega) (by omega) (by omega) (by omega)
    | (exfalso; omega)
def o_Mo_of_at_s5003_34 : or_T := (136, 31, [(0, (2, 0, 0, [165])), (2, (0, 9, 9, [])), (3, (0, 0, 2000, [])), (4, (0, -1, 48, [])), (5, (0, 0, 7, [])), (6, (0, 0, 4, [])), (7, (2, 0, 0, [165])), (9, (0, 9, 9, [])), (10, (0, -49, 0, [])), (11, (0, 0, 2000, [])), (15, (0, 0, 2000, [])), (17, (0, 0, 2000, [])), (18, (0, -1, 48, [])), (19, (0, 0, 7, [])), (20, (0, 0, 4, [])), (22, (0, 0, 4, [])), (23, (0, 2, 2, [])), (24, (0, 1, 1, [])), (25, (0, 0, 2000, [])), (26, (0, 0, 5, [])), (27, (0, 0, 0, [])), (28, (0, 1, 9, []))], [(9, [25, 7], [13]), (9, [22, 7], [12]), (23, [28, 9], [0, 1, -1]), (23, [28], [0, -1]), (9, [28, 7], [14]), (8, [27], [5]), (9, [27, 7], [8]), (8, [27], [0]), (20, [7, 24, 25], [60, 1, 1, 1026, 10, 1]), (20, [26], [61, 0, 1029]), (23, [17, 15], [0, 1, -1]), (23, [17, 15], [0, -1, 1]), (23, [18, 4], [0, 1, -1]), (23, [18, 4], [0, -1, 1]), (23, [19, 5], [0, 1, -1]), (23, [19, 5], [0, -1, 1]), (23, [20, 6], [0, 1, -1]), (23, [20, 6], [0, -1, 1]), (23, [3, 17], [-1, 1, -1]), (23, [11, 17], [-2000, -1, -1]), (23, [3, 15], [-1, 1, -1]), (23, [11, 15], [-2000, -1, -1]), (23, [10, 9], [0, 1, -1]), (23, [10], [0, -1]), (23, [4], [0, -1]), (24, [0, 7], []), (24, [2, 9], []), (20, [7, 7], [30, 0, 1, 1, 15, -1, 1, 11]), (20, [7], [50, 3, 0, 12, 11, 15, 2, 21, 4, 7, 1, 3, 2, 0, 12, 0, 1, 0, 3, 2, 0, 11, 4, 3, 2, 0, 15, 0, 8, 3, 7, 1, 3, 2, 0, 12, 0, 0, 0, 7, 4, 3, 2, 0, 15, 0, 1, 2, 0, 11]), (20, [17, 7], [30, 0, 1, 0, 0, -1, 1, 11]), (20, [7], [30, -1, -1, 1, 8]), (20, [26, 7, 24, 25], [50, 2, 0, 1008, 1009, 3, 15, 2, 6, 0, 2, 0, 1, 1, 0, 1, 3, 2, 1, 8, 1, 0, 2, 6, 1, 2, 1, 0, 0, 0, 2, 7, 1, 3, 2, 1, 8, 1, 2, 1, 3, 2, 1, 9, 1, 3]), (102, [26], [0, 165008, 165009]), (7, [22, 23], [1]), (23, [17, 15], [0, 1, -1]), (23, [17, 15], [0, -1, 1]), (23, [18, 4], [0, 1, -1]), (23, [18, 4], [0, -1, 1]), (23, [19, 5], [0, 1, -1]), (23, [19, 5], [0, -1, 1]), (23, [20, 6], [0, 1, -1]), (23, [20, 6], [0, -1, 1]), (23, [3, 17], [-1, 1, -1]), (23, [11, 17], [-2000, -1, -1]), (23, [3, 15], [-1, 1, -1]), (23, [11, 15], [-2000, -1, -1]), (23, [10, 9], [0, 1, -1]), (23, [10], [0, -1]), (23, [4], [0, -1]), (102, [20], [0, 165008, 165009, 165011, 165012, 165013, 165014, 165015]), (23, [17, 15], [0, 1, -1]), (23, [17, 15], [0, -1, 1]), (23, [18, 4], [0, 1, -1]), (23, [18, 4], [0, -1, 1]), (23, [19, 5], [0, 1, -1]), (23, [19, 5], [0, -1, 1]), (23, [20, 6], [0, 1, -1]), (23, [20, 6], [0, -1, 1]), (23, [3, 17], [-1, 1, -1]), (23, [11, 17], [-2000, -1, -1]), (23, [3, 15], [-1, 1, -1]), (23, [11, 15], [-2000, -1, -1]), (23, [10, 9], [0, 1, -1]), (23, [10], [0, -1]), (23, [4], [0, -1]), (102, [15], [0, 165011, 165012, 165013, 165014, 165015]), (23, [3, 15], [-1, 1, -1]), (23, [11, 15], [-2000, -1, -1]), (8, [10], [5]), (23, [10, 9], [0, 1, -1]), (23, [10], [0, -1]), (23, [4], [0, -1]), (102, [13], [0]), (23, [10, 9], [0, 1, -1]), (23, [10], [0, -1]), (23, [4], [0, -1])], [], [(0, 0, 2000, [])], [(20, [31, 7], [30, 0, 1, 0, 0, -1, 1, 11]), (20, [31, 7], [50, 1, 0, 1011, 1, 2, 1, 0, 2, 1, 11]), (20, [7], [60, 2, 0, 947, 10, 11]), (23, [3, 31], [-1, 1, -1]), (23, [11, 31], [-2001, -1, -1]), (20, [7, 4, 28, 5, 6, 31], [60, 3, 2, 987, 10, 8, 5, 1, 2])], [], [])
theorem oo_Mo_of_at_s5003_34 {kA : Nat → ClassId} : or_ok PRD kA GG o_Mo_of_at_s5003_34 := by
  refine or_mk fun A ta ws vs hD hth hl => ?_
  intro t0 r0 t2 k2 t3 k3 t4 k4 t5 k5 t6 k6 t7 r7 t9 k9 t10 k10 t11 k11 t15 k15 t17 k17 t18 k18 t19 k19 t20 k20 t22 k22 t23 k23 t24 k24 t25 k25 t26 k26 t27 k27 t28 k28 f0 f1 f2 f3 f4 f5 f6 f7 f8 f9 f10 f11 f12 f13 f14 f15 f16 f17 f18 f19 f20 f21 f22 f23 f24 f25 f26 f27 f28 f29 f30 f31 ta1 w1 le1 s1 f33 f34 f35 f36 f37 f38 f39 f40 f41 f42 f43 f44 f45 f46 f47 f48 ta2 w2 le2 s2 f50 f51 f52 f53 f54 f55 f56 f57 f58 f59 f60 f61 f62 f63 f64 ta3 w3 le3 s3 f66 f67 f68 f69 f70 f71 ta4 w4 le4 s4 f73 f74 f75
  replace f0 := shm_361 f0
  replace f1 := shm_103 f1
  replace f4 := shm_115 f4
  replace f6 := shm_293 f6
  replace f25 := shm_5 f25
  replace f28 := shm_1438 f28
  replace f30 := shm_305 f30
  replace f31 := shm_306 f31
  have q7 : n_v vs 7 = n_v vs 0 := f25.symm
  simp only [q7] at f0 f1 f4 f6 f28 f30 f31
  have cr_0_1 := fdq_39 hD hth r0
  have g0 : v_iv (n_v vs 25) = w_fi ws (n_v vs 0) 13 := congrArg v_iv f0
  have g1 : v_iv (n_v vs 22) = w_fi ws (n_v vs 0) 12 := congrArg v_iv f1
  have g4 : v_iv (n_v vs 28) = w_fi ws (n_v vs 0) 14 := congrArg v_iv f4
  have g6 : v_iv (n_v vs 27) = w_fi ws (n_v vs 0) 8 := congrArg v_iv f6
  have hK_0_1 := elq_7 hD hth cr_0_1
  have kz_0_8 := fdq_34 hD hth r0
  have kz_0_9 := fdq_44 hD hth r0
  have kz_0_10 := fdq_43 hD hth r0
  have kz_0_11 := fdq_237 hD hth r0
  have kz_0_12 := fdq_187 hD hth r0
  have kz_0_13 := fdq_238 hD hth r0
  have kz_0_14 := fdq_188 hD hth r0
  have kz_0_15 := fdq_239 hD hth r0
  obtain ⟨x, ex, hx⟩ := iv_ex (ta := ta) (lo := 0) (hi := 2000) (z := w_fi ws (n_v vs 0) 11) (by omega) (by omega) (by omega) (by omega)
  have ex2 : v_iv (Value.int x) = w_fi ws (n_v vs 0) 11 := ex
  have ex3 : 0 ≤ v_iv (Value.int x) ∧ v_iv (Value.int x) ≤ 2000 := tv_rng hx
  have e_3 : n_v (vs ++ [Value.int x]) 3 = n_v vs 3 := n_v_old (by rw [hl]; decide)
  have e_4 : n_v (vs ++ [Value.int x]) 4 = n_v vs 4 := n_v_old (by rw [hl]; decide)
  have e_5 : n_v (vs ++ [Value.int x]) 5 = n_v vs 5 := n_v_old (by rw [hl]; decide)
  have e_6 : n_v (vs ++ [Value.int x]) 6 = n_v vs 6 := n_v_old (by rw [hl]; decide)
  have e_7 : n_v (vs ++ [Value.int x]) 7 = n_v vs 7 := n_v_old (by rw [hl]; decide)
  have e_11 : n_v (vs ++ [Value.int x]) 11 = n_v vs 11 := n_v_old (by rw [hl]; decide)
  have e_28 : n_v (vs ++ [Value.int x]) 28 = n_v vs 28 := n_v_old (by rw [hl]; decide)
  have e_31 : n_v (vs ++ [Value.int x]) 31 = Value.int x := n_v_new hl
  have nf0 : fc_1 PRD (20, [31, 7], [30, 0, 1, 0, 0, -1, 1, 11]) ws (vs ++ [Value.int x]) := by
    refine ⟨nf_inA hl rfl, sgq_1431 ?_⟩
    · show 1 * v_iv (n_v (vs ++ [Value.int x]) 31) + ((-1) * w_fi ws (n_v (vs ++ [Value.int x]) 7) 11 + 0) ≤ 0
      simp only [e_7, e_31, q7]
      exact vc_Mo_of_at_s5003_34_0 (v_iv (n_v vs 24)) (v_iv (n_v vs 25)) (v_iv (n_v vs 26)) (v_iv (n_v vs 27)) (w_fi ws (n_v vs 0) 12) (w_fi ws (n_v vs 0) 8) (w_ei ws (w_ar ws (n_v vs 0) 1)) (w_fi ws (n_v vs 0) 15) (w_fi ws (n_v vs 0) 11) (w_fi ws (n_v vs 0) 9) (v_iv (Value.int x)) k24 k25 k26 k27 g6 f28 f30 f31 hK_0_1 kz_0_8 kz_0_9 kz_0_11 kz_0_12 kz_0_15
  have nf1 : fc_1 PRD (20, [31, 7], [50, 1, 0, 1011, 1, 2, 1, 0, 2, 1, 11]) ws (vs ++ [Value.int x]) := by
    refine ⟨nf_inA hl rfl, sgq_1432 ?_⟩
    · show v_iv (n_v (vs ++ [Value.int x]) 31) = w_fi ws (n_v (vs ++ [Value.int x]) 7) 11
      simp only [e_7, e_31, q7]
      exact vc_Mo_of_at_s5003_34_1 (v_iv (n_v vs 24)) (v_iv (n_v vs 25)) (v_iv (n_v vs 26)) (w_fi ws (n_v vs 0) 12) (w_fi ws (n_v vs 0) 8) (w_ei ws (w_ar ws (n_v vs 0) 1)) (w_fi ws (n_v vs 0) 15) (w_fi ws (n_v vs 0) 11) (w_fi ws (n_v vs 0) 9) (v_iv (Value.int x)) k24 k25 k26 f28 f31 hK_0_1 kz_0_8 kz_0_9 kz_0_11 kz_0_12 kz_0_15 ex2
  have nf2 : fc_1 PRD (20, [7], [60, 2, 0, 947, 10, 11]) ws (vs ++ [Value.int x]) := by
    refine ⟨nf_inA hl rfl, sgq_1433 ?_⟩
    · show ZLM (w_fi ws (n_v (vs ++ [Value.int x]) 7) 10) (w_fi ws (n_v (vs ++ [Value.int x]) 7) 11)
      simp only [e_7, q7]
      exact vc_Mo_of_at_s5003_34_2 (v_iv (n_v vs 4)) (v_iv (n_v vs 5)) (v_iv (n_v vs 6)) (v_iv (n_v vs 15)) (v_iv (n_v vs 17)) (v_iv (n_v vs 18)) (v_iv (n_v vs 19)) (v_iv (n_v vs 20)) (v_iv (n_v vs 22)) (v_iv (n_v vs 25)) (v_iv (n_v vs 27)) (v_iv (n_v vs 28)) (w_fi ws (n_v vs 0) 13) (w_fi ws (n_v vs 0) 12) (w_fi ws (n_v vs 0) 14) (w_fi ws (n_v vs 0) 8) (w_fi ws (n_v vs 0) 10) (w_fi ws (n_v vs 0) 11) (v_iv (Value.int x)) k22 k25 k27 k28 g0 g1 g4 g6 f30 kz_0_8 kz_0_10 kz_0_11 kz_0_12 kz_0_13 kz_0_14 ex2
  have nf3 : fc_1 PRD (23, [3, 31], [-1, 1, -1]) ws (vs ++ [Value.int x]) := by
    refine ⟨nf_inA hl rfl, sgq_193 ?_⟩
    · show 1 * v_iv (n_v (vs ++ [Value.int x]) 3) + ((-1) * v_iv (n_v (vs ++ [Value.int x]) 31) + 0) ≤ (-1)
      simp only [e_3, e_31]
      exact vc_Mo_of_at_s5003_34_3 (v_iv (n_v vs 3)) (v_iv (n_v vs 24)) (v_iv (n_v vs 25)) (v_iv (n_v vs 26)) (v_iv (n_v vs 27)) (w_fi ws (n_v vs 0) 12) (w_fi ws (n_v vs 0) 8) (w_ei ws (w_ar ws (n_v vs 0) 1)) (w_fi ws (n_v vs 0) 15) (w_fi ws (n_v vs 0) 11) (w_fi ws (n_v vs 0) 9) (v_iv (Value.int x)) k3 k24 k25 k26 k27 g6 f28 f30 f31 hK_0_1 kz_0_8 kz_0_9 kz_0_11 kz_0_12 kz_0_15
  have nf4 : fc_1 PRD (23, [11, 31], [-2001, -1, -1]) ws (vs ++ [Value.int x]) := by
    refine ⟨nf_inA hl rfl, sgq_2011 ?_⟩
    · show (-1) * v_iv (n_v (vs ++ [Value.int x]) 11) + ((-1) * v_iv (n_v (vs ++ [Value.int x]) 31) + 0) ≤ (-2001)
      simp only [e_11, e_31]
      exact vc_Mo_of_at_s5003_34_4 (v_iv (n_v vs 11)) (v_iv (n_v vs 24)) (v_iv (n_v vs 25)) (v_iv (n_v vs 26)) (v_iv (n_v vs 27)) (w_fi ws (n_v vs 0) 12) (w_fi ws (n_v vs 0) 8) (w_ei ws (w_ar ws (n_v vs 0) 1)) (w_fi ws (n_v vs 0) 15) (w_fi ws (n_v vs 0) 11) (w_fi ws (n_v vs 0) 9) (v_iv (Value.int x)) k11 k24 k25 k26 k27 g6 f28 f30 f31 hK_0_1 kz_0_8 kz_0_9 kz_0_11 kz_0_12 kz_0_15
  have nf5 : fc_1 PRD (20, [7, 4, 28, 5, 6, 31], [60, 3, 2, 987, 10, 8, 5, 1, 2]) ws (vs ++ [Value.int x]) := by
    refine ⟨nf_inA hl rfl, sgq_2020 ?_⟩
    · show zU12w (w_fi ws (n_v (vs ++ [Value.int x]) 7) 10) (w_fi ws (n_v (vs ++ [Value.int x]) 7) 8) (w_fi ws (n_v (vs ++ [Value.int x]) 7) 5) (w_ei ws (w_ar ws (n_v (vs ++ [Value.int x]) 7) 1)) (w_ei ws (w_ar ws (n_v (vs ++ [Value.int x]) 7) 2)) (v_iv (n_v (vs ++ [Value.int x]) 4)) (v_iv (n_v (vs ++ [Value.int x]) 28)) (v_iv (n_v (vs ++ [Value.int x]) 5)) (v_iv (n_v (vs ++ [Value.int x]) 6)) (v_iv (n_v (vs ++ [Value.int x]) 31))
      simp only [e_4, e_5, e_6, e_7, e_28, e_31, q7]
      exact vc_Mo_of_at_s5003_34_5 (v_iv (n_v vs 4)) (v_iv (n_v vs 5)) (v_iv (n_v vs 6)) (v_iv (n_v vs 15)) (v_iv (n_v vs 17)) (v_iv (n_v vs 18)) (v_iv (n_v vs 19)) (v_iv (n_v vs 20)) (v_iv (n_v vs 22)) (v_iv (n_v vs 25)) (v_iv (n_v vs 27)) (v_iv (n_v vs 28)) (w_fi ws (n_v vs 0) 13) (w_fi ws (n_v vs 0) 12) (w_fi ws (n_v vs 0) 14) (w_fi ws (n_v vs 0) 8) (w_ei ws (w_ar ws (n_v vs 0) 1)) (w_fi ws (n_v vs 0) 10) (w_fi ws (n_v vs 0) 11) (v_iv (Value.int x)) (w_ei ws (w_ar ws (n_v vs 0) 2)) (w_fi ws (n_v vs 0) 5) k4 k5 k6 k22 k25 k27 k28 g0 g1 g4 g6 f30 kz_0_8 kz_0_10 kz_0_11 kz_0_12 kz_0_13 kz_0_14 ex2
  exact ⟨(fun _ h => (by cases h)), [Value.int x], ag_one hx, List.forall_mem_cons.mpr ⟨⟨show (20 : Nat) < 100 from by decide, nf0⟩, List.forall_mem_cons.mpr ⟨⟨show (20 : Nat) < 100 from by decide, nf1⟩, List.forall_mem_cons.mpr ⟨⟨show (20 : Nat) < 100 from by decide, nf2⟩, List.forall_mem_cons.mpr ⟨⟨show (23 : Nat) < 100 from by decide, nf3⟩, List.forall_mem_cons.mpr ⟨⟨show (23 : Nat) < 100 from by decide, nf4⟩, List.forall_mem_cons.mpr ⟨⟨show (20 : Nat) < 100 from by decide, nf5⟩, (fun _ h => (by cases h))⟩⟩⟩⟩⟩⟩, (fun _ h => (by cases h))⟩
set_option maxHeartbeats 4000000 in
theorem vc_Mo_of_at_s5003_35_0 (x24 : Int) (x25 : Int) (x26 : Int) (fault_0 : Int) (tape_0 : Int → Int) (faultPlace_0 : Int) (from_0 : Int) (pos_0 : Int) (kind_0 : Int) (k24 : 1 ≤ x24 ∧ x24 ≤ 1) (k25 : 0 ≤ x25 ∧ x25 ≤ 2000) (k26 : 0 ≤ x26 ∧ x26 ≤ 5) (f26 : ((1 ≤ x26) ∧ (fault_0 = x26)) ∨ ((x26 = 0) ∧ ((fault_0 = x24) ∧ (faultPlace_0 = x25)))) (f27 : 1 * from_0 + ((-1) * pos_0 + 0) ≤ 0) (f28 : ((kind_0 = 1) → (pos_0 ≤ (from_0 + 8))) ∧ ((kind_0 = 0) ∨ ((from_0 + 1) ≤ pos_0))) (hK_0_1 : ∀ j : Int, 0 ≤ j → j < 2000 → (-128) ≤ tape_0 j ∧ tape_0 j ≤ 127) (kz_0_8 : 0 ≤ fault_0 ∧ fault_0 ≤ 5) (kz_0_9 : 0 ≤ faultPlace_0 ∧ faultPlace_0 ≤ 2000) (kz_0_11 : 0 ≤ pos_0 ∧ pos_0 ≤ 2000) (kz_0_12 : 0 ≤ kind_0 ∧ kind_0 ≤ 4) (kz_0_15 : 0 ≤ from_0 ∧ from_0 ≤ 2000) : 1 * from_0 + ((-1) * pos_0 + 0) ≤ 0 := by
  first | with_reducible assumption | ((have f28_c0 := f28.1); (have f28_c1 := f28.2); (try and_intros) <;> first | with_reducible assumption | (clear f26 f28_c0 f28_c1 f28 hK_0_1; omega)) | ((have f28_c0 := f28.1); (have f28_c1 := f28.2); (try and_intros) <;> first | with_reducible assumption | (clear f28_c0 f28_c1 f28 hK_0_1; omega)) | omega
set_option maxHeartbeats 4000000 in
theorem vc_Mo_of_at_s5003_35_1 (x24 : Int) (x25 : Int) (x26 : Int) (fault_0 : Int) (tape_0 : Int → Int) (faultPlace_0 : Int) (from_0 : Int) (pos_0 : Int) (kind_0 : Int) (k24 : 1 ≤ x24 ∧ x24 ≤ 1) (k25 : 0 ≤ x25 ∧ x25 ≤ 2000) (k26 : 0 ≤ x26 ∧ x26 ≤ 5) (f26 : ((1 ≤ x26) ∧ (fault_0 = x26)) ∨ ((x26 = 0) ∧ ((fault_0 = x24) ∧ (faultPlace_0 = x25)))) (f28 : ((kind_0 = 1) → (pos_0 ≤ (from_0 + 8))) ∧ ((kind_0 = 0) ∨ ((from_0 + 1) ≤ pos_0))) (hK_0_1 : ∀ j : Int, 0 ≤ j → j < 2000 → (-128) ≤ tape_0 j ∧ tape_0 j ≤ 127) (kz_0_8 : 0 ≤ fault_0 ∧ fault_0 ≤ 5) (kz_0_9 : 0 ≤ faultPlace_0 ∧ faultPlace_0 ≤ 2000) (kz_0_11 : 0 ≤ pos_0 ∧ pos_0 ≤ 2000) (kz_0_12 : 0 ≤ kind_0 ∧ kind_0 ≤ 4) (kz_0_15 : 0 ≤ from_0 ∧ from_0 ≤ 2000) : ((kind_0 = 1) → (pos_0 ≤ (from_0 + 8))) ∧ ((kind_0 = 0) ∨ ((from_0 + 1) ≤ pos_0)) := by
  first | with_reducible assumption | ((have f28_c0 := f28.1); (have f28_c1 := f28.2); (try and_intros) <;> first | with_reducible assumption | (clear f26 f28_c0 f28_c1 f28 hK_0_1; omega)) | ((have f28_c0 := f28.1); (have f28_c1 := f28.2); (try and_intros) <;> first | with_reducible assumption | (clear f28_c0 f28_c1 f28 hK_0_1; omega)) | omega
set_option maxHeartbeats 4000000 in
theorem vc_Mo_of_at_s5003_35_2 (x3 : Int) (x24 : Int) (x25 : Int) (x26 : Int) (x27 : Int) (fault_0 : Int) (tape_0 : Int → Int) (faultPlace_0 : Int) (from_0 : Int) (pos_0 : Int) (kind_0 : Int) (k3 : 0 ≤ x3 ∧ x3 ≤ 2000) (k24 : 1 ≤ x24 ∧ x24 ≤ 1) (k25 : 0 ≤ x25 ∧ x25 ≤ 2000) (k26 : 0 ≤ x26 ∧ x26 ≤ 5) (k27 : 0 ≤ x27 ∧ x27 ≤ 0) (g0 : x27 = fault_0) (f25 : (-1) * fault_0 + 0 ≤ (-1)) (f26 : ((1 ≤ x26) ∧ (fault_0 = x26)) ∨ ((x26 = 0) ∧ ((fault_0 = x24) ∧ (faultPlace_0 = x25)))) (f28 : ((kind_0 = 1) → (pos_0 ≤ (from_0 + 8))) ∧ ((kind_0 = 0) ∨ ((from_0 + 1) ≤ pos_0))) (hK_0_1 : ∀ j : Int, 0 ≤ j → j < 2000 → (-128) ≤ tape_0 j ∧ tape_0 j ≤ 127) (kz_0_8 : 0 ≤ fault_0 ∧ fault_0 ≤ 5) (kz_0_9 : 0 ≤ faultPlace_0 ∧ faultPlace_0 ≤ 2000) (kz_0_11 : 0 ≤ pos_0 ∧ pos_0 ≤ 2000) (kz_0_12 : 0 ≤ kind_0 ∧ kind_0 ≤ 4) (kz_0_15 : 0 ≤ from_0 ∧ from_0 ≤ 2000) : 1 * x3 + ((-1) * pos_0 + 0) ≤ (-1) := by
  first | with_reducible assumption | ((have f28_c0 := f28.1); (have f28_c1 := f28.2); (try and_intros) <;> first | with_reducible assumption | (clear f26 f28_c0 f28_c1 f28 hK_0_1; omega)) | ((have f28_c0 := f28.1); (have f28_c1 := f28.2); (try and_intros) <;> first | with_reducible assumption | (clear f28_c0 f28_c1 f28 hK_0_1; omega)) | omega
set_option maxHeartbeats 4000000 in
theorem vc_Mo_of_at_s5003_35_3 (x2 : Int) (x24 : Int) (x25 : Int) (x26 : Int) (x28 : Int) (fault_0 : Int) (tape_0 : Int → Int) (faultPlace_0 : Int) (from_0 : Int) (pos_0 : Int) (kind_0 : Int) (k2 : 9 ≤ x2 ∧ x2 ≤ 9) (k24 : 1 ≤ x24 ∧ x24 ≤ 1) (k25 : 0 ≤ x25 ∧ x25 ≤ 2000) (k26 : 0 ≤ x26 ∧ x26 ≤ 5) (k28 : 1 ≤ x28 ∧ x28 ≤ 9) (f26 : ((1 ≤ x26) ∧ (fault_0 = x26)) ∨ ((x26 = 0) ∧ ((fault_0 = x24) ∧ (faultPlace_0 = x25)))) (f28 : ((kind_0 = 1) → (pos_0 ≤ (from_0 + 8))) ∧ ((kind_0 = 0) ∨ ((from_0 + 1) ≤ pos_0))) (f34 : 1 * x28 + ((-1) * x2 + 0) ≤ 0) (hK_0_1 : ∀ j : Int, 0 ≤ j → j < 2000 → (-128) ≤ tape_0 j ∧ tape_0 j ≤ 127) (kz_0_8 : 0 ≤ fault_0 ∧ fault_0 ≤ 5) (kz_0_9 : 0 ≤ faultPlace_0 ∧ faultPlace_0 ≤ 2000) (kz_0_11 : 0 ≤ pos_0 ∧ pos_0 ≤ 2000) (kz_0_12 : 0 ≤ kind_0 ∧ kind_0 ≤ 4) (kz_0_15 : 0 ≤ from_0 ∧ from_0 ≤ 2000) : 1 * x28 + ((-1) * x2 + 0) ≤ 0 := by
  first | with_reducible assumption | ((have f28_c0 := f28.1); (have f28_c1 := f28.2); (try and_intros) <;> first | with_reducible assumption | (clear f26 f28_c0 f28_c1 f28 hK_0_1; omega)) | ((have f28_c0 := f28.1); (have f28_c1 := f28.2); (try and_intros) <;> first | with_reducible assumption | (clear f28_c0 f28_c1 f28 hK_0_1; omega)) | omega
set_option maxHeartbeats 4000000 in
theorem vc_Mo_of_at_s5003_35_4 (x24 : Int) (x25 : Int) (x26 : Int) (x28 : Int) (fault_0 : Int) (tape_0 : Int → Int) (faultPlace_0 : Int) (from_0 : Int) (pos_0 : Int) (kind_0 : Int) (k24 : 1 ≤ x24 ∧ x24 ≤ 1) (k25 : 0 ≤ x25 ∧ x25 ≤ 2000) (k26 : 0 ≤ x26 ∧ x26 ≤ 5) (k28 : 1 ≤ x28 ∧ x28 ≤ 9) (f26 : ((1 ≤ x26) ∧ (fault_0 = x26)) ∨ ((x26 = 0) ∧ ((fault_0 = x24) ∧ (faultPlace_0 = x25)))) (f28 : ((kind_0 = 1) → (pos_0 ≤ (from_0 + 8))) ∧ ((kind_0 = 0) ∨ ((from_0 + 1) ≤ pos_0))) (f35 : (-1) * x28 + 0 ≤ 0) (hK_0_1 : ∀ j : Int, 0 ≤ j → j < 2000 → (-128) ≤ tape_0 j ∧ tape_0 j ≤ 127) (kz_0_8 : 0 ≤ fault_0 ∧ fault_0 ≤ 5) (kz_0_9 : 0 ≤ faultPlace_0 ∧ faultPlace_0 ≤ 2000) (kz_0_11 : 0 ≤ pos_0 ∧ pos_0 ≤ 2000) (kz_0_12 : 0 ≤ kind_0 ∧ kind_0 ≤ 4) (kz_0_15 : 0 ≤ from_0 ∧ from_0 ≤ 2000) : (-1) * x28 + 0 ≤ 0 := by
  first | with_reducible assumption | ((have f28_c0 := f28.1); (have f28_c1 := f28.2); (try and_intros) <;> first | with_reducible assumption | (clear f26 f28_c0 f28_c1 f28 hK_0_1; omega)) | ((have f28_c0 := f28.1); (have f28_c1 := f28.2); (try and_intros) <;> first | with_reducible assumption | (clear f28_c0 f28_c1 f28 hK_0_1; omega)) | omega
set_option maxHeartbeats 4000000 in
theorem vc_Mo_of_at_s5003_35_5 (x4 : Int) (x24 : Int) (x25 : Int) (x26 : Int) (fault_0 : Int) (tape_0 : Int → Int) (faultPlace_0 : Int) (from_0 : Int) (pos_0 : Int) (kind_0 : Int) (k4 : (-1) ≤ x4 ∧ x4 ≤ 48) (k24 : 1 ≤ x24 ∧ x24 ≤ 1) (k25 : 0 ≤ x25 ∧ x25 ≤ 2000) (k26 : 0 ≤ x26 ∧ x26 ≤ 5) (f26 : ((1 ≤ x26) ∧ (fault_0 = x26)) ∨ ((x26 = 0) ∧ ((fault_0 = x24) ∧ (faultPlace_0 = x25)))) (f28 : ((kind_0 = 1) → (pos_0 ≤ (from_0 + 8))) ∧ ((kind_0 = 0) ∨ ((from_0 + 1) ≤ pos_0))) (f95 : (-1) * x4 + 0 ≤ 0) (hK_0_1 : ∀ j : Int, 0 ≤ j → j < 2000 → (-128) ≤ tape_0 j ∧ tape_0 j ≤ 127) (kz_0_8 : 0 ≤ fault_0 ∧ fault_0 ≤ 5) (kz_0_9 : 0 ≤ faultPlace_0 ∧ faultPlace_0 ≤ 2000) (kz_0_11 : 0 ≤ pos_0 ∧ pos_0 ≤ 2000) (kz_0_12 : 0 ≤ kind_0 ∧ kind_0 ≤ 4) (kz_0_15 : 0 ≤ from_0 ∧ from_0 ≤ 2000) : (-1) * x4 + 0 ≤ 0 := by
  first | with_reducible assumption | ((have f28_c0 := f28.1); (have f28_c1 := f28.2); (try and_intros) <;> first | with_reducible assumption | (clear f26 f28_c0 f28_c1 f28 hK_0_1; omega)) | ((have f28_c0 := f28.1); (have f28_c1 := f28.2); (try and_intros) <;> first | with_reducible assumption | (clear f28_c0 f28_c1 f28 hK_0_1; omega)) | omega
set_option maxHeartbeats 4000000 in
theorem vc_Mo_of_at_s5003_35_6 (x24 : Int) (x25 : Int) (x26 : Int) (x27 : Int) (fault_0 : Int) (tape_0 : Int → Int) (faultPlace_0 : Int) (from_0 : Int) (pos_0 : Int) (kind_0 : Int) (gx : Int) (k24 : 1 ≤ x24 ∧ x24 ≤ 1) (k25 : 0 ≤ x25 ∧ x25 ≤ 2000) (k26 : 0 ≤ x26 ∧ x26 ≤ 5) (k27 : 0 ≤ x27 ∧ x27 ≤ 0) (g0 : x27 = fault_0) (f25 : (-1) * fault_0 + 0 ≤ (-1)) (f26 : ((1 ≤ x26) ∧ (fault_0 = x26)) ∨ ((x26 = 0) ∧ ((fault_0 = x24) ∧ (faultPlace_0 = x25)))) (f28 : ((kind_0 = 1) → (pos_0 ≤ (from_0 + 8))) ∧ ((kind_0 = 0) ∨ ((from_0 + 1) ≤ pos_0))) (hK_0_1 : ∀ j : Int, 0 ≤ j → j < 2000 → (-128) ≤ tape_0 j ∧ tape_0 j ≤ 127) (kz_0_8 : 0 ≤ fault_0 ∧ fault_0 ≤ 5) (kz_0_9 : 0 ≤ faultPlace_0 ∧ faultPlace_0 ≤ 2000) (kz_0_11 : 0 ≤ pos_0 ∧ pos_0 ≤ 2000) (kz_0_12 : 0 ≤ kind_0 ∧ kind_0 ≤ 4) (kz_0_15 : 0 ≤ from_0 ∧ from_0 ≤ 2000) : (-1) * gx + ((-1) * pos_0 + 0) ≤ (-2001) := by
  first | with_reducible assumption | ((have f28_c0 := f28.1); (have f28_c1 := f28.2); (try and_intros) <;> first | with_reducible assumption | (clear f26 f28_c0 f28_c1 f28 hK_0_1; omega)) | ((have f28_c0 := f28.1); (have f28_c1 := f28.2); (try and_intros) <;> first | with_reducible assumption | (clear f28_c0 f28_c1 f28 hK_0_1; omega)) | omega
set_option maxHeartbeats 4000000 in
theorem vc_Mo_of_at_s5003_35_7 (x4 : Int) (x5 : Int) (x6 : Int) (x15 : Int) (x17 : Int) (x18 : Int) (x19 : Int) (x20 : Int) (x27 : Int) (x28 : Int) (x31 : Int) (fault_0 : Int) (tape_0 : Int → Int) (all_0 : Int → Int) (limit_0 : Int) (r_0 : Int) (from_0 : Int) (pos_0 : Int) (kind_0 : Int) (place_0 : Int) (value_0 : Int) (k4 : (-1) ≤ x4 ∧ x4 ≤ 48) (k5 : 0 ≤ x5 ∧ x5 ≤ 7) (k6 : 0 ≤ x6 ∧ x6 ≤ 4) (k27 : 0 ≤ x27 ∧ x27 ≤ 0) (k28 : 1 ≤ x28 ∧ x28 ≤ 9) (k31 : 0 ≤ x31 ∧ x31 ≤ 2000) (g0 : x27 = fault_0) (f3 : zU12w (limit_0) (fault_0) (r_0) (tape_0) (all_0) (x4) (x28) (x5) (x6) (x31)) (f25 : (-1) * fault_0 + 0 ≤ (-1)) (f30 : TKR (limit_0) (pos_0) (kind_0) (place_0) (value_0) (from_0) (tape_0) (x31)) (kz_0_8 : 0 ≤ fault_0 ∧ fault_0 ≤ 5) (kz_0_10 : 0 ≤ limit_0 ∧ limit_0 ≤ 2000) (kz_0_11 : 0 ≤ pos_0 ∧ pos_0 ≤ 2000) (kz_0_12 : 0 ≤ kind_0 ∧ kind_0 ≤ 4) (kz_0_13 : 0 ≤ place_0 ∧ place_0 ≤ 2000) (kz_0_14 : (-49) ≤ value_0 ∧ value_0 ≤ 1048575) (kz_0_15 : 0 ≤ from_0 ∧ from_0 ≤ 2000) : zO12w (limit_0) (pos_0) (kind_0) (place_0) (value_0) (from_0) (fault_0) (r_0) (tape_0) (all_0) (x4) (x28) (x5) (x6) := by
  first | (have el_x17 : x17 = x15 := by omega); subst el_x17 | skip
  first | (have el_x18 : x18 = x4 := by omega); subst el_x18 | skip
  first | (have el_x19 : x19 = x5 := by omega); subst el_x19 | skip
  first | (have el_x20 : x20 = x6 := by omega); subst el_x20 | skip
  first | subst g0 | skip
  first
    | exact of_12_w ‹zU12w _ _ _ _ _ _ _ _ _ _› ‹TKR _ _ _ _ _ _ _ _›
    | (exfalso; omega)
def o_Mo_of_at_s5003_35 : or_T := (139, 32, [(0, (2, 0, 0, [165])), (2, (0, 9, 9, [])), (3, (0, 0, 2000, [])), (4, (0, -1, 48, [])), (5, (0, 0, 7, [])), (6, (0, 0, 4, [])), (7, (2, 0, 0, [165])), (9, (0, 9, 9, [])), (10, (0, -49, 0, [])), (11, (0, 0, 2000, [])), (15, (0, 0, 2000, [])), (17, (0, 0, 2000, [])), (18, (0, -1, 48, [])), (19, (0, 0, 7, [])), (20, (0, 0, 4, [])), (24, (0, 1, 1, [])), (25, (0, 0, 2000, [])), (26, (0, 0, 5, [])), (27, (0, 0, 0, [])), (28, (0, 1, 9, [])), (31, (0, 0, 2000, []))], [(9, [27, 7], [8]), (23, [3, 31], [-1, 1, -1]), (23, [11, 31], [-2001, -1, -1]), (20, [7, 4, 28, 5, 6, 31], [60, 3, 2, 987, 10, 8, 5, 1, 2]), (23, [28, 9], [0, 1, -1]), (23, [28], [0, -1]), (20, [7, 24, 25], [60, 1, 1, 1026, 10, 1]), (20, [26], [61, 0, 1029]), (23, [17, 15], [0, 1, -1]), (23, [17, 15], [0, -1, 1]), (23, [18, 4], [0, 1, -1]), (23, [18, 4], [0, -1, 1]), (23, [19, 5], [0, 1, -1]), (23, [19, 5], [0, -1, 1]), (23, [20, 6], [0, 1, -1]), (23, [20, 6], [0, -1, 1]), (23, [3, 17], [-1, 1, -1]), (23, [11, 17], [-2000, -1, -1]), (23, [3, 15], [-1, 1, -1]), (23, [11, 15], [-2000, -1, -1]), (23, [10, 9], [0, 1, -1]), (23, [10], [0, -1]), (23, [4], [0, -1]), (24, [0, 7], []), (24, [2, 9], []), (20, [7], [30, -1, -1, 1, 8]), (20, [26, 7, 24, 25], [50, 2, 0, 1008, 1009, 3, 15, 2, 6, 0, 2, 0, 1, 1, 0, 1, 3, 2, 1, 8, 1, 0, 2, 6, 1, 2, 1, 0, 0, 0, 2, 7, 1, 3, 2, 1, 8, 1, 2, 1, 3, 2, 1, 9, 1, 3]), (20, [7, 7], [30, 0, 1, 1, 15, -1, 1, 11]), (20, [7], [50, 3, 0, 12, 11, 15, 2, 21, 4, 7, 1, 3, 2, 0, 12, 0, 1, 0, 3, 2, 0, 11, 4, 3, 2, 0, 15, 0, 8, 3, 7, 1, 3, 2, 0, 12, 0, 0, 0, 7, 4, 3, 2, 0, 15, 0, 1, 2, 0, 11]), (20, [31, 7], [30, 0, 1, 0, 0, -1, 1, 15]), (20, [7, 31], [60, 6, 1, 948, 10, 11, 12, 13, 14, 15, 1]), (102, [31], [0, 165011, 165012, 165013, 165014, 165015]), (23, [3, 31], [-1, 1, -1]), (23, [11, 31], [-2001, -1, -1]), (23, [28, 9], [0, 1, -1]), (23, [28], [0, -1]), (8, [27], [5]), (8, [27], [0]), (23, [17, 15], [0, 1, -1]), (23, [17, 15], [0, -1, 1]), (23, [18, 4], [0, 1, -1]), (23, [18, 4], [0, -1, 1]), (23, [19, 5], [0, 1, -1]), (23, [19, 5], [0, -1, 1]), (23, [20, 6], [0, 1, -1]), (23, [20, 6], [0, -1, 1]), (23, [3, 17], [-1, 1, -1]), (23, [11, 17], [-2000, -1, -1]), (23, [3, 15], [-1, 1, -1]), (23, [11, 15], [-2000, -1, -1]), (23, [10, 9], [0, 1, -1]), (23, [10], [0, -1]), (23, [4], [0, -1]), (102, [26], [0, 165008, 165009]), (23, [17, 15], [0, 1, -1]), (23, [17, 15], [0, -1, 1]), (23, [18, 4], [0, 1, -1]), (23, [18, 4], [0, -1, 1]), (23, [19, 5], [0, 1, -1]), (23, [19, 5], [0, -1, 1]), (23, [20, 6], [0, 1, -1]), (23, [20, 6], [0, -1, 1]), (23, [3, 17], [-1, 1, -1]), (23, [11, 17], [-2000, -1, -1]), (23, [3, 15], [-1, 1, -1]), (23, [11, 15], [-2000, -1, -1]), (23, [10, 9], [0, 1, -1]), (23, [10], [0, -1]), (23, [4], [0, -1]), (102, [20], [0, 165008, 165009, 165011, 165012, 165013, 165014, 165015]), (23, [17, 15], [0, 1, -1]), (23, [17, 15], [0, -1, 1]), (23, [18, 4], [0, 1, -1]), (23, [18, 4], [0, -1, 1]), (23, [19, 5], [0, 1, -1]), (23, [19, 5], [0, -1, 1]), (23, [20, 6], [0, 1, -1]), (23, [20, 6], [0, -1, 1]), (23, [3, 17], [-1, 1, -1]), (23, [11, 17], [-2000, -1, -1]), (23, [3, 15], [-1, 1, -1]), (23, [11, 15], [-2000, -1, -1]), (23, [10, 9], [0, 1, -1]), (23, [10], [0, -1]), (23, [4], [0, -1]), (102, [15], [0, 165011, 165012, 165013, 165014, 165015]), (23, [3, 15], [-1, 1, -1]), (23, [11, 15], [-2000, -1, -1]), (8, [10], [5]), (23, [10, 9], [0, 1, -1]), (23, [10], [0, -1]), (23, [4], [0, -1]), (102, [13], [0]), (23, [10, 9], [0, 1, -1]), (23, [10], [0, -1]), (23, [4], [0, -1])], [], [(0, 0, 2000, [])], [(20, [7, 7], [30, 0, 1, 1, 15, -1, 1, 11]), (20, [7], [50, 3, 0, 12, 11, 15, 2, 21, 4, 7, 1, 3, 2, 0, 12, 0, 1, 0, 3, 2, 0, 11, 4, 3, 2, 0, 15, 0, 8, 3, 7, 1, 3, 2, 0, 12, 0, 0, 0, 7, 4, 3, 2, 0, 15, 0, 1, 2, 0, 11]), (20, [3, 7], [30, -1, 1, 0, 0, -1, 1, 11]), (23, [28, 9], [0, 1, -1]), (23, [28], [0, -1]), (23, [4], [0, -1]), (20, [32, 7], [30, -2001, -1, 0, 0, -1, 1, 11]), (20, [7, 4, 28, 5, 6], [60, 8, 2, 1000, 10, 11, 12, 13, 14, 15, 8, 5, 1, 2]), (24, [0, 7], []), (24, [2, 9], [])], [(32, 11, 0, 0)], [])
theorem oo_Mo_of_at_s5003_35 {kA : Nat → ClassId} : or_ok PRD kA GG o_Mo_of_at_s5003_35 := by
  refine or_mk fun A ta ws vs hD hth hl => ?_
  intro t0 r0 t2 k2 t3 k3 t4 k4 t5 k5 t6 k6 t7 r7 t9 k9 t10 k10 t11 k11 t15 k15 t17 k17 t18 k18 t19 k19 t20 k20 t24 k24 t25 k25 t26 k26 t27 k27 t28 k28 t31 k31 f0 f1 f2 f3 f4 f5 f6 f7 f8 f9 f10 f11 f12 f13 f14 f15 f16 f17 f18 f19 f20 f21 f22 f23 f24 f25 f26 f27 f28 f29 f30 ta1 w1 le1 s1 f32 f33 f34 f35 f36 f37 f38 f39 f40 f41 f42 f43 f44 f45 f46 f47 f48 f49 f50 f51 f52 ta2 w2 le2 s2 f54 f55 f56 f57 f58 f59 f60 f61 f62 f63 f64 f65 f66 f67 f68 ta3 w3 le3 s3 f70 f71 f72 f73 f74 f75 f76 f77 f78 f79 f80 f81 f82 f83 f84 ta4 w4 le4 s4 f86 f87 f88 f89 f90 f91 ta5 w5 le5 s5 f93 f94 f95
  replace f0 := shm_293 f0
  replace f1 := shm_193 f1
  replace f2 := shm_2011 f2
  replace f3 := shm_2020 f3
  replace f4 := shm_7 f4
  replace f5 := shm_1043 f5
  replace f6 := shm_1724 f6
  replace f7 := shm_1725 f7
  replace f8 := shm_7 f8
  replace f9 := shm_22 f9
  replace f10 := shm_7 f10
  replace f11 := shm_22 f11
  replace f12 := shm_7 f12
  replace f13 := shm_22 f13
  replace f14 := shm_7 f14
  replace f15 := shm_22 f15
  replace f16 := shm_193 f16
  replace f17 := shm_2009 f17
  replace f18 := shm_193 f18
  replace f19 := shm_2009 f19
  replace f20 := shm_7 f20
  replace f21 := shm_1043 f21
  replace f22 := shm_1043 f22
  replace f23 := shm_5 f23
  replace f24 := shm_5 f24
  replace f25 := shm_305 f25
  replace f26 := shm_306 f26
  replace f27 := shm_1437 f27
  replace f28 := shm_1438 f28
  replace f29 := shm_1436 f29
  replace f30 := shm_1439 f30
  replace f32 := shm_193 f32
  replace f33 := shm_2011 f33
  replace f34 := shm_7 f34
  replace f35 := shm_1043 f35
  replace f36 := shm_295 f36
  replace f37 := shm_192 f37
  replace f38 := shm_7 f38
  replace f39 := shm_22 f39
  replace f40 := shm_7 f40
  replace f41 := shm_22 f41
  replace f42 := shm_7 f42
  replace f43 := shm_22 f43
  replace f44 := shm_7 f44
  replace f45 := shm_22 f45
  replace f46 := shm_193 f46
  replace f47 := shm_2009 f47
  replace f48 := shm_193 f48
  replace f49 := shm_2009 f49
  replace f50 := shm_7 f50
  replace f51 := shm_1043 f51
  replace f52 := shm_1043 f52
  replace f54 := shm_7 f54
  replace f55 := shm_22 f55
  replace f56 := shm_7 f56
  replace f57 := shm_22 f57
  replace f58 := shm_7 f58
  replace f59 := shm_22 f59
  replace f60 := shm_7 f60
  replace f61 := shm_22 f61
  replace f62 := shm_193 f62
  replace f63 := shm_2009 f63
  replace f64 := shm_193 f64
  replace f65 := shm_2009 f65
  replace f66 := shm_7 f66
  replace f67 := shm_1043 f67
  replace f68 := shm_1043 f68
  replace f70 := shm_7 f70
  replace f71 := shm_22 f71
  replace f72 := shm_7 f72
  replace f73 := shm_22 f73
  replace f74 := shm_7 f74
  replace f75 := shm_22 f75
  replace f76 := shm_7 f76
  replace f77 := shm_22 f77
  replace f78 := shm_193 f78
  replace f79 := shm_2009 f79
  replace f80 := shm_193 f80
  replace f81 := shm_2009 f81
  replace f82 := shm_7 f82
  replace f83 := shm_1043 f83
  replace f84 := shm_1043 f84
  replace f86 := shm_193 f86
  replace f87 := shm_2009 f87
  replace f88 := shm_295 f88
  replace f89 := shm_7 f89
  replace f90 := shm_1043 f90
  replace f91 := shm_1043 f91
  replace f93 := shm_7 f93
  replace f94 := shm_1043 f94
  replace f95 := shm_1043 f95
  have q7 : n_v vs 7 = n_v vs 0 := f23.symm
  have q9 : n_v vs 9 = n_v vs 2 := f24.symm
  simp only [q7, q9] at f0 f3 f4 f6 f20 f25 f26 f27 f28 f29 f30 f34 f50 f66 f82 f89 f93
  have cr_0_1 := fdq_39 hD hth r0
  have cr_0_2 := fdq_10 hD hth r0
  have g0 : v_iv (n_v vs 27) = w_fi ws (n_v vs 0) 8 := congrArg v_iv f0
  have hK_0_1 := elq_7 hD hth cr_0_1
  have kz_0_8 := fdq_34 hD hth r0
  have kz_0_9 := fdq_44 hD hth r0
  have kz_0_10 := fdq_43 hD hth r0
  have kz_0_11 := fdq_237 hD hth r0
  have kz_0_12 := fdq_187 hD hth r0
  have kz_0_13 := fdq_238 hD hth r0
  have kz_0_14 := fdq_188 hD hth r0
  have kz_0_15 := fdq_239 hD hth r0
  obtain ⟨x, ex, hx⟩ := iv_ex (ta := ta) (lo := 0) (hi := 2000) (z := 0 + (1 * v_iv (n_v vs 11) + 0)) (by omega) (by omega) (by omega) (by omega)
  have ex2 : v_iv (Value.int x) = 0 + (1 * v_iv (n_v vs 11) + 0) := ex
  have ex3 : 0 ≤ v_iv (Value.int x) ∧ v_iv (Value.int x) ≤ 2000 := tv_rng hx
  have e_0 : n_v (vs ++ [Value.int x]) 0 = n_v vs 0 := n_v_old (by rw [hl]; decide)
  have e_2 : n_v (vs ++ [Value.int x]) 2 = n_v vs 2 := n_v_old (by rw [hl]; decide)
  have e_3 : n_v (vs ++ [Value.int x]) 3 = n_v vs 3 := n_v_old (by rw [hl]; decide)
  have e_4 : n_v (vs ++ [Value.int x]) 4 = n_v vs 4 := n_v_old (by rw [hl]; decide)
  have e_5 : n_v (vs ++ [Value.int x]) 5 = n_v vs 5 := n_v_old (by rw [hl]; decide)
  have e_6 : n_v (vs ++ [Value.int x]) 6 = n_v vs 6 := n_v_old (by rw [hl]; decide)
  have e_7 : n_v (vs ++ [Value.int x]) 7 = n_v vs 7 := n_v_old (by rw [hl]; decide)
  have e_9 : n_v (vs ++ [Value.int x]) 9 = n_v vs 9 := n_v_old (by rw [hl]; decide)
  have e_28 : n_v (vs ++ [Value.int x]) 28 = n_v vs 28 := n_v_old (by rw [hl]; decide)
  have e_32 : n_v (vs ++ [Value.int x]) 32 = Value.int x := n_v_new hl
  have nf0 : fc_1 PRD (20, [7, 7], [30, 0, 1, 1, 15, -1, 1, 11]) ws (vs ++ [Value.int x]) := by
    refine ⟨nf_inA hl rfl, sgq_1437 ?_⟩
    · show 1 * w_fi ws (n_v (vs ++ [Value.int x]) 7) 15 + ((-1) * w_fi ws (n_v (vs ++ [Value.int x]) 7) 11 + 0) ≤ 0
      simp only [e_7, q7]
      exact vc_Mo_of_at_s5003_35_0 (v_iv (n_v vs 24)) (v_iv (n_v vs 25)) (v_iv (n_v vs 26)) (w_fi ws (n_v vs 0) 8) (w_ei ws (w_ar ws (n_v vs 0) 1)) (w_fi ws (n_v vs 0) 9) (w_fi ws (n_v vs 0) 15) (w_fi ws (n_v vs 0) 11) (w_fi ws (n_v vs 0) 12) k24 k25 k26 f26 f27 f28 hK_0_1 kz_0_8 kz_0_9 kz_0_11 kz_0_12 kz_0_15
  have nf1 : fc_1 PRD (20, [7], [50, 3, 0, 12, 11, 15, 2, 21, 4, 7, 1, 3, 2, 0, 12, 0, 1, 0, 3, 2, 0, 11, 4, 3, 2, 0, 15, 0, 8, 3, 7, 1, 3, 2, 0, 12, 0, 0, 0, 7, 4, 3, 2, 0, 15, 0, 1, 2, 0, 11]) ws (vs ++ [Value.int x]) := by
    refine ⟨nf_inA hl rfl, sgq_1438 ?_⟩
    · show ((w_fi ws (n_v (vs ++ [Value.int x]) 7) 12 = 1) → (w_fi ws (n_v (vs ++ [Value.int x]) 7) 11 ≤ (w_fi ws (n_v (vs ++ [Value.int x]) 7) 15 + 8))) ∧ ((w_fi ws (n_v (vs ++ [Value.int x]) 7) 12 = 0) ∨ ((w_fi ws (n_v (vs ++ [Value.int x]) 7) 15 + 1) ≤ w_fi ws (n_v (vs ++ [Value.int x]) 7) 11))
      simp only [e_7, q7]
      exact vc_Mo_of_at_s5003_35_1 (v_iv (n_v vs 24)) (v_iv (n_v vs 25)) (v_iv (n_v vs 26)) (w_fi ws (n_v vs 0) 8) (w_ei ws (w_ar ws (n_v vs 0) 1)) (w_fi ws (n_v vs 0) 9) (w_fi ws (n_v vs 0) 15) (w_fi ws (n_v vs 0) 11) (w_fi ws (n_v vs 0) 12) k24 k25 k26 f26 f28 hK_0_1 kz_0_8 kz_0_9 kz_0_11 kz_0_12 kz_0_15
  have nf2 : fc_1 PRD (20, [3, 7], [30, -1, 1, 0, 0, -1, 1, 11]) ws (vs ++ [Value.int x]) := by
    refine ⟨nf_inA hl rfl, sgq_2005 ?_⟩
    · show 1 * v_iv (n_v (vs ++ [Value.int x]) 3) + ((-1) * w_fi ws (n_v (vs ++ [Value.int x]) 7) 11 + 0) ≤ (-1)
      simp only [e_3, e_7, q7]
      exact vc_Mo_of_at_s5003_35_2 (v_iv (n_v vs 3)) (v_iv (n_v vs 24)) (v_iv (n_v vs 25)) (v_iv (n_v vs 26)) (v_iv (n_v vs 27)) (w_fi ws (n_v vs 0) 8) (w_ei ws (w_ar ws (n_v vs 0) 1)) (w_fi ws (n_v vs 0) 9) (w_fi ws (n_v vs 0) 15) (w_fi ws (n_v vs 0) 11) (w_fi ws (n_v vs 0) 12) k3 k24 k25 k26 k27 g0 f25 f26 f28 hK_0_1 kz_0_8 kz_0_9 kz_0_11 kz_0_12 kz_0_15
  have nf3 : fc_1 PRD (23, [28, 9], [0, 1, -1]) ws (vs ++ [Value.int x]) := by
    refine ⟨nf_inA hl rfl, sgq_7 ?_⟩
    · show 1 * v_iv (n_v (vs ++ [Value.int x]) 28) + ((-1) * v_iv (n_v (vs ++ [Value.int x]) 9) + 0) ≤ 0
      simp only [e_9, e_28, q9]
      exact vc_Mo_of_at_s5003_35_3 (v_iv (n_v vs 2)) (v_iv (n_v vs 24)) (v_iv (n_v vs 25)) (v_iv (n_v vs 26)) (v_iv (n_v vs 28)) (w_fi ws (n_v vs 0) 8) (w_ei ws (w_ar ws (n_v vs 0) 1)) (w_fi ws (n_v vs 0) 9) (w_fi ws (n_v vs 0) 15) (w_fi ws (n_v vs 0) 11) (w_fi ws (n_v vs 0) 12) k2 k24 k25 k26 k28 f26 f28 f34 hK_0_1 kz_0_8 kz_0_9 kz_0_11 kz_0_12 kz_0_15
  have nf4 : fc_1 PRD (23, [28], [0, -1]) ws (vs ++ [Value.int x]) := by
    refine ⟨nf_inA hl rfl, sgq_1043 ?_⟩
    · show (-1) * v_iv (n_v (vs ++ [Value.int x]) 28) + 0 ≤ 0
      rw [e_28]
      exact vc_Mo_of_at_s5003_35_4 (v_iv (n_v vs 24)) (v_iv (n_v vs 25)) (v_iv (n_v vs 26)) (v_iv (n_v vs 28)) (w_fi ws (n_v vs 0) 8) (w_ei ws (w_ar ws (n_v vs 0) 1)) (w_fi ws (n_v vs 0) 9) (w_fi ws (n_v vs 0) 15) (w_fi ws (n_v vs 0) 11) (w_fi ws (n_v vs 0) 12) k24 k25 k26 k28 f26 f28 f35 hK_0_1 kz_0_8 kz_0_9 kz_0_11 kz_0_12 kz_0_15
  have nf5 : fc_1 PRD (23, [4], [0, -1]) ws (vs ++ [Value.int x]) := by
    refine ⟨nf_inA hl rfl, sgq_1043 ?_⟩
    · show (-1) * v_iv (n_v (vs ++ [Value.int x]) 4) + 0 ≤ 0
      rw [e_4]
      exact vc_Mo_of_at_s5003_35_5 (v_iv (n_v vs 4)) (v_iv (n_v vs 24)) (v_iv (n_v vs 25)) (v_iv (n_v vs 26)) (w_fi ws (n_v vs 0) 8) (w_ei ws (w_ar ws (n_v vs 0) 1)) (w_fi ws (n_v vs 0) 9) (w_fi ws (n_v vs 0) 15) (w_fi ws (n_v vs 0) 11) (w_fi ws (n_v vs 0) 12) k4 k24 k25 k26 f26 f28 f95 hK_0_1 kz_0_8 kz_0_9 kz_0_11 kz_0_12 kz_0_15
  have nf6 : fc_1 PRD (20, [32, 7], [30, -2001, -1, 0, 0, -1, 1, 11]) ws (vs ++ [Value.int x]) := by
    refine ⟨nf_inA hl rfl, sgq_2013 ?_⟩
    · show (-1) * v_iv (n_v (vs ++ [Value.int x]) 32) + ((-1) * w_fi ws (n_v (vs ++ [Value.int x]) 7) 11 + 0) ≤ (-2001)
      simp only [e_7, e_32, q7]
      exact vc_Mo_of_at_s5003_35_6 (v_iv (n_v vs 24)) (v_iv (n_v vs 25)) (v_iv (n_v vs 26)) (v_iv (n_v vs 27)) (w_fi ws (n_v vs 0) 8) (w_ei ws (w_ar ws (n_v vs 0) 1)) (w_fi ws (n_v vs 0) 9) (w_fi ws (n_v vs 0) 15) (w_fi ws (n_v vs 0) 11) (w_fi ws (n_v vs 0) 12) (v_iv (Value.int x)) k24 k25 k26 k27 g0 f25 f26 f28 hK_0_1 kz_0_8 kz_0_9 kz_0_11 kz_0_12 kz_0_15
  have nf7 : fc_1 PRD (20, [7, 4, 28, 5, 6], [60, 8, 2, 1000, 10, 11, 12, 13, 14, 15, 8, 5, 1, 2]) ws (vs ++ [Value.int x]) := by
    refine ⟨nf_inA hl rfl, sgq_2021 ?_⟩
    · show zO12w (w_fi ws (n_v (vs ++ [Value.int x]) 7) 10) (w_fi ws (n_v (vs ++ [Value.int x]) 7) 11) (w_fi ws (n_v (vs ++ [Value.int x]) 7) 12) (w_fi ws (n_v (vs ++ [Value.int x]) 7) 13) (w_fi ws (n_v (vs ++ [Value.int x]) 7) 14) (w_fi ws (n_v (vs ++ [Value.int x]) 7) 15) (w_fi ws (n_v (vs ++ [Value.int x]) 7) 8) (w_fi ws (n_v (vs ++ [Value.int x]) 7) 5) (w_ei ws (w_ar ws (n_v (vs ++ [Value.int x]) 7) 1)) (w_ei ws (w_ar ws (n_v (vs ++ [Value.int x]) 7) 2)) (v_iv (n_v (vs ++ [Value.int x]) 4)) (v_iv (n_v (vs ++ [Value.int x]) 28)) (v_iv (n_v (vs ++ [Value.int x]) 5)) (v_iv (n_v (vs ++ [Value.int x]) 6))
      simp only [e_4, e_5, e_6, e_7, e_28, q7]
      exact vc_Mo_of_at_s5003_35_7 (v_iv (n_v vs 4)) (v_iv (n_v vs 5)) (v_iv (n_v vs 6)) (v_iv (n_v vs 15)) (v_iv (n_v vs 17)) (v_iv (n_v vs 18)) (v_iv (n_v vs 19)) (v_iv (n_v vs 20)) (v_iv (n_v vs 27)) (v_iv (n_v vs 28)) (v_iv (n_v vs 31)) (w_fi ws (n_v vs 0) 8) (w_ei ws (w_ar ws (n_v vs 0) 1)) (w_ei ws (w_ar ws (n_v vs 0) 2)) (w_fi ws (n_v vs 0) 10) (w_fi ws (n_v vs 0) 5) (w_fi ws (n_v vs 0) 15) (w_fi ws (n_v vs 0) 11) (w_fi ws (n_v vs 0) 12) (w_fi ws (n_v vs 0) 13) (w_fi ws (n_v vs 0) 14) k4 k5 k6 k27 k28 k31 g0 f3 f25 f30 kz_0_8 kz_0_10 kz_0_11 kz_0_12 kz_0_13 kz_0_14 kz_0_15
  have nf8 : fc_1 PRD (24, [0, 7], []) ws (vs ++ [Value.int x]) := by
    refine ⟨nf_inA hl rfl, sgq_5 ?_⟩
    · show n_v (vs ++ [Value.int x]) 0 = n_v (vs ++ [Value.int x]) 7
      first | rfl | simp only [e_0, e_7, q7, q9]
  have nf9 : fc_1 PRD (24, [2, 9], []) ws (vs ++ [Value.int x]) := by
    refine ⟨nf_inA hl rfl, sgq_5 ?_⟩
    · show n_v (vs ++ [Value.int x]) 2 = n_v (vs ++ [Value.int x]) 9
      first | rfl | simp only [e_2, e_9, q7, q9]
  obtain ⟨x0, e0, _, _⟩ := tv_int t11 rfl
  have e1 : v_iv (n_v vs 11) = x0.toInt := by rw [e0]; rfl
  have ho : sy_ofs (vs ++ [Value.int x]) (32, 11, 0, 0) := by
    refine ⟨x, x0, by rw [List.getElem?_append_right (by rw [hl]; decide), hl]; rfl, ?_, ?_, ?_⟩
    · rw [List.getElem?_append_left (by rw [hl]; decide)]; exact n_v_some (by rw [hl]; decide) e0
    · show x0.toInt + 0 ≤ x.toInt; omega
    · show x.toInt ≤ x0.toInt + 0; omega
  exact ⟨(fun _ h => (by cases h)), [Value.int x], ag_one hx, List.forall_mem_cons.mpr ⟨⟨show (20 : Nat) < 100 from by decide, nf0⟩, List.forall_mem_cons.mpr ⟨⟨show (20 : Nat) < 100 from by decide, nf1⟩, List.forall_mem_cons.mpr ⟨⟨show (20 : Nat) < 100 from by decide, nf2⟩, List.forall_mem_cons.mpr ⟨⟨show (23 : Nat) < 100 from by decide, nf3⟩, List.forall_mem_cons.mpr ⟨⟨show (23 : Nat) < 100 from by decide, nf4⟩, List.forall_mem_cons.mpr ⟨⟨show (23 : Nat) < 100 from by decide, nf5⟩, List.forall_mem_cons.mpr ⟨⟨show (20 : Nat) < 100 from by decide, nf6⟩, List.forall_mem_cons.mpr ⟨⟨show (20 : Nat) < 100 from by decide, nf7⟩, List.forall_mem_cons.mpr ⟨⟨show (24 : Nat) < 100 from by decide, nf8⟩, List.forall_mem_cons.mpr ⟨⟨show (24 : Nat) < 100 from by decide, nf9⟩, (fun _ h => (by cases h))⟩⟩⟩⟩⟩⟩⟩⟩⟩⟩, List.forall_mem_cons.mpr ⟨ho, (fun _ h => (by cases h))⟩⟩
set_option maxHeartbeats 4000000 in
theorem vc_Mo_of_at_s5003_36_0 (x4 : Int) (x5 : Int) (x6 : Int) (x10 : Int) (x12 : Int) (x15 : Int) (x16 : Int) (kind_0 : Int) (place_0 : Int) (from_0 : Int) (pos_0 : Int) (tape_0 : Int → Int) (all_0 : Int → Int) (limit_0 : Int) (value_0 : Int) (fault_0 : Int) (r_0 : Int) (gx : Int) (k4 : (-1) ≤ x4 ∧ x4 ≤ 48) (k5 : 0 ≤ x5 ∧ x5 ≤ 7) (k6 : 0 ≤ x6 ∧ x6 ≤ 4) (k10 : 1 ≤ x10 ∧ x10 ≤ 1048575) (k12 : 1 ≤ x12 ∧ x12 ≤ 1) (k15 : 4 ≤ x15 ∧ x15 ≤ 4) (k16 : 0 ≤ x16 ∧ x16 ≤ 2000) (g0 : x12 = kind_0) (g1 : x16 = place_0) (f2 : 0 < x10) (f10 : zOIw (limit_0) (pos_0) (kind_0) (place_0) (value_0) (from_0) (fault_0) (r_0) (tape_0) (all_0) (x4) (x10) (x5) (x6)) (kz_0_8 : 0 ≤ fault_0 ∧ fault_0 ≤ 5) (kz_0_10 : 0 ≤ limit_0 ∧ limit_0 ≤ 2000) (kz_0_11 : 0 ≤ pos_0 ∧ pos_0 ≤ 2000) (kz_0_12 : 0 ≤ kind_0 ∧ kind_0 ≤ 4) (kz_0_13 : 0 ≤ place_0 ∧ place_0 ≤ 2000) (kz_0_14 : (-49) ≤ value_0 ∧ value_0 ≤ 1048575) (kz_0_15 : 0 ≤ from_0 ∧ from_0 ≤ 2000) (ex2 : gx = fault_0) : FSX (limit_0) (tape_0) (x15) (x16) := by
  first | subst g0 | skip
  first | subst g1 | skip
  first | subst ex2 | skip
  first
    | exact fsx_cg (of_w_s ‹zOIs _ _ _ _ _ _ _ _ _ _ _ _ _ _› (by omega) (Or.inl ⟨‹WQs _ _ _ _ _ _›, by omega⟩)) (by omega) (by omega)
    | exact fsx_cg (of_w_s (ans := 0) ‹zOIs _ _ _ _ _ _ _ _ _ _ _ _ _ _› (by omega) (Or.inr (by omega))) (by omega) (by omega)
    | exact fsx_cg (of_w_w ‹zOIw _ _ _ _ _ _ _ _ _ _ _ _ _ _› (by omega) (Or.inl ⟨‹WQw _ _ _ _ _ _›, by omega⟩)) (by omega) (by omega)
    | exact fsx_cg (of_w_w (ans := 0) ‹zOIw _ _ _ _ _ _ _ _ _ _ _ _ _ _› (by omega) (Or.inr (by omega))) (by omega) (by omega)
    | (exfalso; omega)
set_option maxHeartbeats 4000000 in
theorem vc_Mo_of_at_s5003_36_1 (x14 : Int) (kind_0 : Int) (from_0 : Int) (pos_0 : Int) (tape_0 : Int → Int) (fault_0 : Int) (gx : Int) (k14 : 1 ≤ x14 ∧ x14 ≤ 1) (f5 : ((kind_0 = 1) → (pos_0 ≤ (from_0 + 8))) ∧ ((kind_0 = 0) ∨ ((from_0 + 1) ≤ pos_0))) (f15 : (x14 = 1) → (kind_0 = 1)) (hK_0_1 : ∀ j : Int, 0 ≤ j → j < 2000 → (-128) ≤ tape_0 j ∧ tape_0 j ≤ 127) (kz_0_8 : 0 ≤ fault_0 ∧ fault_0 ≤ 5) (kz_0_11 : 0 ≤ pos_0 ∧ pos_0 ≤ 2000) (kz_0_12 : 0 ≤ kind_0 ∧ kind_0 ≤ 4) (kz_0_15 : 0 ≤ from_0 ∧ from_0 ≤ 2000) (ex2 : gx = fault_0) : 1 * fault_0 + ((-1) * gx + 0) ≤ 0 := by
  first | with_reducible assumption | ((have f5_c0 := f5.1); (have f5_c1 := f5.2); (try and_intros) <;> first | with_reducible assumption | (clear f5_c0 f5_c1 f5 hK_0_1 f15; omega)) | ((have f5_c0 := f5.1); (have f5_c1 := f5.2); (first | have f15_b := f15 (by clear f5_c0 f5_c1 f5 hK_0_1 f15; omega) | skip); (first | have f15_d := f15 (by with_reducible assumption) | skip); (try and_intros) <;> first | with_reducible assumption | (clear f5_c0 f5_c1 f5 hK_0_1 f15; omega)) | omega
set_option maxHeartbeats 4000000 in
theorem vc_Mo_of_at_s5003_36_2 (x14 : Int) (kind_0 : Int) (from_0 : Int) (pos_0 : Int) (tape_0 : Int → Int) (fault_0 : Int) (gx : Int) (k14 : 1 ≤ x14 ∧ x14 ≤ 1) (f5 : ((kind_0 = 1) → (pos_0 ≤ (from_0 + 8))) ∧ ((kind_0 = 0) ∨ ((from_0 + 1) ≤ pos_0))) (f15 : (x14 = 1) → (kind_0 = 1)) (hK_0_1 : ∀ j : Int, 0 ≤ j → j < 2000 → (-128) ≤ tape_0 j ∧ tape_0 j ≤ 127) (kz_0_8 : 0 ≤ fault_0 ∧ fault_0 ≤ 5) (kz_0_11 : 0 ≤ pos_0 ∧ pos_0 ≤ 2000) (kz_0_12 : 0 ≤ kind_0 ∧ kind_0 ≤ 4) (kz_0_15 : 0 ≤ from_0 ∧ from_0 ≤ 2000) (ex2 : gx = fault_0) : (-1) * fault_0 + (1 * gx + 0) ≤ 0 := by
  first | with_reducible assumption | ((have f5_c0 := f5.1); (have f5_c1 := f5.2); (try and_intros) <;> first | with_reducible assumption | (clear f5_c0 f5_c1 f5 hK_0_1 f15; omega)) | ((have f5_c0 := f5.1); (have f5_c1 := f5.2); (first | have f15_b := f15 (by clear f5_c0 f5_c1 f5 hK_0_1 f15; omega) | skip); (first | have f15_d := f15 (by with_reducible assumption) | skip); (try and_intros) <;> first | with_reducible assumption | (clear f5_c0 f5_c1 f5 hK_0_1 f15; omega)) | omega
set_option maxHeartbeats 4000000 in
theorem vc_Mo_of_at_s5003_36_3 (x4 : Int) (x5 : Int) (x6 : Int) (x10 : Int) (kind_0 : Int) (place_0 : Int) (from_0 : Int) (pos_0 : Int) (tape_0 : Int → Int) (all_0 : Int → Int) (limit_0 : Int) (value_0 : Int) (fault_0 : Int) (r_0 : Int) (gx : Int) (k4 : (-1) ≤ x4 ∧ x4 ≤ 48) (k5 : 0 ≤ x5 ∧ x5 ≤ 7) (k6 : 0 ≤ x6 ∧ x6 ≤ 4) (k10 : 1 ≤ x10 ∧ x10 ≤ 1048575) (f10 : zOIw (limit_0) (pos_0) (kind_0) (place_0) (value_0) (from_0) (fault_0) (r_0) (tape_0) (all_0) (x4) (x10) (x5) (x6)) (kz_0_8 : 0 ≤ fault_0 ∧ fault_0 ≤ 5) (kz_0_10 : 0 ≤ limit_0 ∧ limit_0 ≤ 2000) (kz_0_11 : 0 ≤ pos_0 ∧ pos_0 ≤ 2000) (kz_0_12 : 0 ≤ kind_0 ∧ kind_0 ≤ 4) (kz_0_13 : 0 ≤ place_0 ∧ place_0 ≤ 2000) (kz_0_14 : (-49) ≤ value_0 ∧ value_0 ≤ 1048575) (kz_0_15 : 0 ≤ from_0 ∧ from_0 ≤ 2000) (ex2 : gx = fault_0) : ZH0 (gx) := by
  first
    | exact ⟨by omega, by omega, trivial⟩
    | (have h := (oi_0_s ‹zOIs _ _ _ _ _ _ _ _ _ _ _ _ _ _›).1; exact ⟨by omega, by omega, trivial⟩)
    | (have h := (oi_0_w ‹zOIw _ _ _ _ _ _ _ _ _ _ _ _ _ _›).1; exact ⟨by omega, by omega, trivial⟩)
    | (exfalso; omega)
def o_Mo_of_at_s5003_36 : or_T := (54, 17, [(0, (2, 0, 0, [165])), (2, (0, 9, 9, [])), (3, (0, 0, 2000, [])), (4, (0, -1, 48, [])), (5, (0, 0, 7, [])), (6, (0, 0, 4, [])), (7, (2, 0, 0, [165])), (9, (0, 9, 9, [])), (10, (0, 1, 1048575, [])), (11, (0, 0, 2000, [])), (12, (0, 1, 1, [])), (13, (0, 1, 1, [])), (14, (0, 1, 1, [])), (15, (0, 4, 4, [])), (16, (0, 0, 2000, []))], [(9, [12, 7], [12]), (9, [16, 7], [13]), (8, [10], [4]), (8, [14], [1]), (20, [7, 7], [30, 0, 1, 1, 15, -1, 1, 11]), (20, [7], [50, 3, 0, 12, 11, 15, 2, 21, 4, 7, 1, 3, 2, 0, 12, 0, 1, 0, 3, 2, 0, 11, 4, 3, 2, 0, 15, 0, 8, 3, 7, 1, 3, 2, 0, 12, 0, 0, 0, 7, 4, 3, 2, 0, 15, 0, 1, 2, 0, 11]), (20, [3, 7], [30, -1, 1, 0, 0, -1, 1, 11]), (23, [10, 9], [0, 1, -1]), (23, [10], [0, -1]), (23, [4], [0, -1]), (20, [7, 4, 10, 5, 6], [60, 8, 2, 998, 10, 11, 12, 13, 14, 15, 8, 5, 1, 2]), (24, [0, 7], []), (24, [2, 9], []), (20, [11, 7], [30, 2000, 1, 0, 0, 1, 1, 11]), (20, [11, 7], [30, -2000, -1, 0, 0, -1, 1, 11]), (20, [14, 7], [50, 1, 0, 1012, 4, 6, 1, 2, 1, 0, 0, 1, 1, 3, 2, 1, 12, 0, 1]), (20, [7, 14], [60, 4, 1, 961, 12, 11, 10, 15, 1]), (102, [13], [0]), (7, [12, 13], [0]), (23, [10, 9], [0, 1, -1]), (23, [10], [0, -1]), (23, [4], [0, -1])], [], [(0, 0, 5, [])], [(20, [7, 15, 16], [60, 1, 1, 1026, 10, 1]), (20, [7, 17], [30, 0, 1, 1, 8, -1, 0, 0]), (20, [7, 17], [30, 0, -1, 1, 8, 1, 0, 0]), (20, [17], [61, 0, 1029])], [], [])
theorem oo_Mo_of_at_s5003_36 {kA : Nat → ClassId} : or_ok PRD kA GG o_Mo_of_at_s5003_36 := by
  refine or_mk fun A ta ws vs hD hth hl => ?_
  intro t0 r0 t2 k2 t3 k3 t4 k4 t5 k5 t6 k6 t7 r7 t9 k9 t10 k10 t11 k11 t12 k12 t13 k13 t14 k14 t15 k15 t16 k16 f0 f1 f2 f3 f4 f5 f6 f7 f8 f9 f10 f11 f12 f13 f14 f15 f16 ta1 w1 le1 s1 f18 f19 f20 f21
  replace f0 := shm_103 f0
  replace f1 := shm_361 f1
  replace f2 := shm_308 f2
  replace f5 := shm_1438 f5
  replace f10 := shm_2018 f10
  replace f11 := shm_5 f11
  replace f15 := shm_1856 f15
  have q7 : n_v vs 7 = n_v vs 0 := f11.symm
  simp only [q7] at f0 f1 f5 f10 f15
  have cr_0_1 := fdq_39 hD hth r0
  have g0 : v_iv (n_v vs 12) = w_fi ws (n_v vs 0) 12 := congrArg v_iv f0
  have g1 : v_iv (n_v vs 16) = w_fi ws (n_v vs 0) 13 := congrArg v_iv f1
  have hK_0_1 := elq_7 hD hth cr_0_1
  have kz_0_8 := fdq_34 hD hth r0
  have kz_0_10 := fdq_43 hD hth r0
  have kz_0_11 := fdq_237 hD hth r0
  have kz_0_12 := fdq_187 hD hth r0
  have kz_0_13 := fdq_238 hD hth r0
  have kz_0_14 := fdq_188 hD hth r0
  have kz_0_15 := fdq_239 hD hth r0
  obtain ⟨x, ex, hx⟩ := iv_ex (ta := ta) (lo := 0) (hi := 5) (z := w_fi ws (n_v vs 0) 8) (by omega) (by omega) (by omega) (by omega)
  have ex2 : v_iv (Value.int x) = w_fi ws (n_v vs 0) 8 := ex
  have ex3 : 0 ≤ v_iv (Value.int x) ∧ v_iv (Value.int x) ≤ 5 := tv_rng hx
  have e_7 : n_v (vs ++ [Value.int x]) 7 = n_v vs 7 := n_v_old (by rw [hl]; decide)
  have e_15 : n_v (vs ++ [Value.int x]) 15 = n_v vs 15 := n_v_old (by rw [hl]; decide)
  have e_16 : n_v (vs ++ [Value.int x]) 16 = n_v vs 16 := n_v_old (by rw [hl]; decide)
  have e_17 : n_v (vs ++ [Value.int x]) 17 = Value.int x := n_v_new hl
  have nf0 : fc_1 PRD (20, [7, 15, 16], [60, 1, 1, 1026, 10, 1]) ws (vs ++ [Value.int x]) := by
    refine ⟨nf_inA hl rfl, sgq_1724 ?_⟩
    · show FSX (w_fi ws (n_v (vs ++ [Value.int x]) 7) 10) (w_ei ws (w_ar ws (n_v (vs ++ [Value.int x]) 7) 1)) (v_iv (n_v (vs ++ [Value.int x]) 15)) (v_iv (n_v (vs ++ [Value.int x]) 16))
      simp only [e_7, e_15, e_16, q7]
      exact vc_Mo_of_at_s5003_36_0 (v_iv (n_v vs 4)) (v_iv (n_v vs 5)) (v_iv (n_v vs 6)) (v_iv (n_v vs 10)) (v_iv (n_v vs 12)) (v_iv (n_v vs 15)) (v_iv (n_v vs 16)) (w_fi ws (n_v vs 0) 12) (w_fi ws (n_v vs 0) 13) (w_fi ws (n_v vs 0) 15) (w_fi ws (n_v vs 0) 11) (w_ei ws (w_ar ws (n_v vs 0) 1)) (w_ei ws (w_ar ws (n_v vs 0) 2)) (w_fi ws (n_v vs 0) 10) (w_fi ws (n_v vs 0) 14) (w_fi ws (n_v vs 0) 8) (w_fi ws (n_v vs 0) 5) (v_iv (Value.int x)) k4 k5 k6 k10 k12 k15 k16 g0 g1 f2 f10 kz_0_8 kz_0_10 kz_0_11 kz_0_12 kz_0_13 kz_0_14 kz_0_15 ex2
  have nf1 : fc_1 PRD (20, [7, 17], [30, 0, 1, 1, 8, -1, 0, 0]) ws (vs ++ [Value.int x]) := by
    refine ⟨nf_inA hl rfl, sgq_303 ?_⟩
    · show 1 * w_fi ws (n_v (vs ++ [Value.int x]) 7) 8 + ((-1) * v_iv (n_v (vs ++ [Value.int x]) 17) + 0) ≤ 0
      simp only [e_7, e_17, q7]
      exact vc_Mo_of_at_s5003_36_1 (v_iv (n_v vs 14)) (w_fi ws (n_v vs 0) 12) (w_fi ws (n_v vs 0) 15) (w_fi ws (n_v vs 0) 11) (w_ei ws (w_ar ws (n_v vs 0) 1)) (w_fi ws (n_v vs 0) 8) (v_iv (Value.int x)) k14 f5 f15 hK_0_1 kz_0_8 kz_0_11 kz_0_12 kz_0_15 ex2
  have nf2 : fc_1 PRD (20, [7, 17], [30, 0, -1, 1, 8, 1, 0, 0]) ws (vs ++ [Value.int x]) := by
    refine ⟨nf_inA hl rfl, sgq_304 ?_⟩
    · show (-1) * w_fi ws (n_v (vs ++ [Value.int x]) 7) 8 + (1 * v_iv (n_v (vs ++ [Value.int x]) 17) + 0) ≤ 0
      simp only [e_7, e_17, q7]
      exact vc_Mo_of_at_s5003_36_2 (v_iv (n_v vs 14)) (w_fi ws (n_v vs 0) 12) (w_fi ws (n_v vs 0) 15) (w_fi ws (n_v vs 0) 11) (w_ei ws (w_ar ws (n_v vs 0) 1)) (w_fi ws (n_v vs 0) 8) (v_iv (Value.int x)) k14 f5 f15 hK_0_1 kz_0_8 kz_0_11 kz_0_12 kz_0_15 ex2
  have nf3 : fc_1 PRD (20, [17], [61, 0, 1029]) ws (vs ++ [Value.int x]) := by
    refine ⟨nf_inA hl rfl, sgq_1725 ?_⟩
    · show ZH0 (v_iv (n_v (vs ++ [Value.int x]) 17))
      rw [e_17]
      exact vc_Mo_of_at_s5003_36_3 (v_iv (n_v vs 4)) (v_iv (n_v vs 5)) (v_iv (n_v vs 6)) (v_iv (n_v vs 10)) (w_fi ws (n_v vs 0) 12) (w_fi ws (n_v vs 0) 13) (w_fi ws (n_v vs 0) 15) (w_fi ws (n_v vs 0) 11) (w_ei ws (w_ar ws (n_v vs 0) 1)) (w_ei ws (w_ar ws (n_v vs 0) 2)) (w_fi ws (n_v vs 0) 10) (w_fi ws (n_v vs 0) 14) (w_fi ws (n_v vs 0) 8) (w_fi ws (n_v vs 0) 5) (v_iv (Value.int x)) k4 k5 k6 k10 f10 kz_0_8 kz_0_10 kz_0_11 kz_0_12 kz_0_13 kz_0_14 kz_0_15 ex2
  exact ⟨(fun _ h => (by cases h)), [Value.int x], ag_one hx, List.forall_mem_cons.mpr ⟨⟨show (20 : Nat) < 100 from by decide, nf0⟩, List.forall_mem_cons.mpr ⟨⟨show (20 : Nat) < 100 from by decide, nf1⟩, List.forall_mem_cons.mpr ⟨⟨show (20 : Nat) < 100 from by decide, nf2⟩, List.forall_mem_cons.mpr ⟨⟨show (20 : Nat) < 100 from by decide, nf3⟩, (fun _ h => (by cases h))⟩⟩⟩⟩, (fun _ h => (by cases h))⟩
set_option maxHeartbeats 4000000 in
theorem vc_Mo_of_at_s5003_37_0 (x14 : Int) (x15 : Int) (x16 : Int) (x17 : Int) (kind_0 : Int) (tape_0 : Int → Int) (from_0 : Int) (pos_0 : Int) (fault_0 : Int) (faultPlace_0 : Int) (k14 : 1 ≤ x14 ∧ x14 ≤ 1) (k15 : 4 ≤ x15 ∧ x15 ≤ 4) (k16 : 0 ≤ x16 ∧ x16 ≤ 2000) (k17 : 0 ≤ x17 ∧ x17 ≤ 5) (f4 : 1 * from_0 + ((-1) * pos_0 + 0) ≤ 0) (f5 : ((kind_0 = 1) → (pos_0 ≤ (from_0 + 8))) ∧ ((kind_0 = 0) ∨ ((from_0 + 1) ≤ pos_0))) (f12 : (x14 = 1) → (kind_0 = 1)) (f15 : ((1 ≤ x17) ∧ (fault_0 = x17)) ∨ ((x17 = 0) ∧ ((fault_0 = x15) ∧ (faultPlace_0 = x16)))) (hK_0_1 : ∀ j : Int, 0 ≤ j → j < 2000 → (-128) ≤ tape_0 j ∧ tape_0 j ≤ 127) (kz_0_8 : 0 ≤ fault_0 ∧ fault_0 ≤ 5) (kz_0_9 : 0 ≤ faultPlace_0 ∧ faultPlace_0 ≤ 2000) (kz_0_11 : 0 ≤ pos_0 ∧ pos_0 ≤ 2000) (kz_0_12 : 0 ≤ kind_0 ∧ kind_0 ≤ 4) (kz_0_15 : 0 ≤ from_0 ∧ from_0 ≤ 2000) : 1 * from_0 + ((-1) * pos_0 + 0) ≤ 0 := by
  first | with_reducible assumption | ((have f5_c0 := f5.1); (have f5_c1 := f5.2); (try and_intros) <;> first | with_reducible assumption | (clear f5_c0 f5_c1 f5 f15 hK_0_1 f12; omega)) | ((have f5_c0 := f5.1); (have f5_c1 := f5.2); (first | have f12_b := f12 (by clear f5_c0 f5_c1 f5 f15 hK_0_1 f12; omega) | skip); (first | have f12_d := f12 (by with_reducible assumption) | skip); (try and_intros) <;> first | with_reducible assumption | (clear f5_c0 f5_c1 f5 f15 hK_0_1 f12; omega)) | ((have f5_c0 := f5.1); (have f5_c1 := f5.2); (first | have f12_b := f12 (by clear f5_c0 f5_c1 f5 f15 hK_0_1 f12; omega) | skip); (first | have f12_d := f12 (by with_reducible assumption) | skip); (try and_intros) <;> first | with_reducible assumption | (clear f5_c0 f5_c1 f5 hK_0_1 f12; omega)) | omega
set_option maxHeartbeats 4000000 in
theorem vc_Mo_of_at_s5003_37_1 (x14 : Int) (x15 : Int) (x16 : Int) (x17 : Int) (kind_0 : Int) (tape_0 : Int → Int) (from_0 : Int) (pos_0 : Int) (fault_0 : Int) (faultPlace_0 : Int) (k14 : 1 ≤ x14 ∧ x14 ≤ 1) (k15 : 4 ≤ x15 ∧ x15 ≤ 4) (k16 : 0 ≤ x16 ∧ x16 ≤ 2000) (k17 : 0 ≤ x17 ∧ x17 ≤ 5) (f5 : ((kind_0 = 1) → (pos_0 ≤ (from_0 + 8))) ∧ ((kind_0 = 0) ∨ ((from_0 + 1) ≤ pos_0))) (f12 : (x14 = 1) → (kind_0 = 1)) (f15 : ((1 ≤ x17) ∧ (fault_0 = x17)) ∨ ((x17 = 0) ∧ ((fault_0 = x15) ∧ (faultPlace_0 = x16)))) (hK_0_1 : ∀ j : Int, 0 ≤ j → j < 2000 → (-128) ≤ tape_0 j ∧ tape_0 j ≤ 127) (kz_0_8 : 0 ≤ fault_0 ∧ fault_0 ≤ 5) (kz_0_9 : 0 ≤ faultPlace_0 ∧ faultPlace_0 ≤ 2000) (kz_0_11 : 0 ≤ pos_0 ∧ pos_0 ≤ 2000) (kz_0_12 : 0 ≤ kind_0 ∧ kind_0 ≤ 4) (kz_0_15 : 0 ≤ from_0 ∧ from_0 ≤ 2000) : ((kind_0 = 1) → (pos_0 ≤ (from_0 + 8))) ∧ ((kind_0 = 0) ∨ ((from_0 + 1) ≤ pos_0)) := by
  first | with_reducible assumption | ((have f5_c0 := f5.1); (have f5_c1 := f5.2); (try and_intros) <;> first | with_reducible assumption | (clear f5_c0 f5_c1 f5 f15 hK_0_1 f12; omega)) | ((have f5_c0 := f5.1); (have f5_c1 := f5.2); (first | have f12_b := f12 (by clear f5_c0 f5_c1 f5 f15 hK_0_1 f12; omega) | skip); (first | have f12_d := f12 (by with_reducible assumption) | skip); (try and_intros) <;> first | with_reducible assumption | (clear f5_c0 f5_c1 f5 f15 hK_0_1 f12; omega)) | ((have f5_c0 := f5.1); (have f5_c1 := f5.2); (first | have f12_b := f12 (by clear f5_c0 f5_c1 f5 f15 hK_0_1 f12; omega) | skip); (first | have f12_d := f12 (by with_reducible assumption) | skip); (try and_intros) <;> first | with_reducible assumption | (clear f5_c0 f5_c1 f5 hK_0_1 f12; omega)) | omega
set_option maxHeartbeats 4000000 in
theorem vc_Mo_of_at_s5003_37_2 (x3 : Int) (x14 : Int) (x15 : Int) (x16 : Int) (x17 : Int) (kind_0 : Int) (tape_0 : Int → Int) (from_0 : Int) (pos_0 : Int) (fault_0 : Int) (faultPlace_0 : Int) (k3 : 0 ≤ x3 ∧ x3 ≤ 2000) (k14 : 1 ≤ x14 ∧ x14 ≤ 1) (k15 : 4 ≤ x15 ∧ x15 ≤ 4) (k16 : 0 ≤ x16 ∧ x16 ≤ 2000) (k17 : 0 ≤ x17 ∧ x17 ≤ 5) (f5 : ((kind_0 = 1) → (pos_0 ≤ (from_0 + 8))) ∧ ((kind_0 = 0) ∨ ((from_0 + 1) ≤ pos_0))) (f6 : 1 * x3 + ((-1) * pos_0 + 0) ≤ (-1)) (f12 : (x14 = 1) → (kind_0 = 1)) (f15 : ((1 ≤ x17) ∧ (fault_0 = x17)) ∨ ((x17 = 0) ∧ ((fault_0 = x15) ∧ (faultPlace_0 = x16)))) (hK_0_1 : ∀ j : Int, 0 ≤ j → j < 2000 → (-128) ≤ tape_0 j ∧ tape_0 j ≤ 127) (kz_0_8 : 0 ≤ fault_0 ∧ fault_0 ≤ 5) (kz_0_9 : 0 ≤ faultPlace_0 ∧ faultPlace_0 ≤ 2000) (kz_0_11 : 0 ≤ pos_0 ∧ pos_0 ≤ 2000) (kz_0_12 : 0 ≤ kind_0 ∧ kind_0 ≤ 4) (kz_0_15 : 0 ≤ from_0 ∧ from_0 ≤ 2000) : 1 * x3 + ((-1) * pos_0 + 0) ≤ 0 := by
  first | with_reducible assumption | ((have f5_c0 := f5.1); (have f5_c1 := f5.2); (try and_intros) <;> first | with_reducible assumption | (clear f5_c0 f5_c1 f5 f15 hK_0_1 f12; omega)) | ((have f5_c0 := f5.1); (have f5_c1 := f5.2); (first | have f12_b := f12 (by clear f5_c0 f5_c1 f5 f15 hK_0_1 f12; omega) | skip); (first | have f12_d := f12 (by with_reducible assumption) | skip); (try and_intros) <;> first | with_reducible assumption | (clear f5_c0 f5_c1 f5 f15 hK_0_1 f12; omega)) | ((have f5_c0 := f5.1); (have f5_c1 := f5.2); (first | have f12_b := f12 (by clear f5_c0 f5_c1 f5 f15 hK_0_1 f12; omega) | skip); (first | have f12_d := f12 (by with_reducible assumption) | skip); (try and_intros) <;> first | with_reducible assumption | (clear f5_c0 f5_c1 f5 hK_0_1 f12; omega)) | omega
set_option maxHeartbeats 4000000 in
theorem vc_Mo_of_at_s5003_37_3 (x3 : Int) (x14 : Int) (x15 : Int) (x16 : Int) (x17 : Int) (kind_0 : Int) (tape_0 : Int → Int) (from_0 : Int) (pos_0 : Int) (fault_0 : Int) (faultPlace_0 : Int) (k3 : 0 ≤ x3 ∧ x3 ≤ 2000) (k14 : 1 ≤ x14 ∧ x14 ≤ 1) (k15 : 4 ≤ x15 ∧ x15 ≤ 4) (k16 : 0 ≤ x16 ∧ x16 ≤ 2000) (k17 : 0 ≤ x17 ∧ x17 ≤ 5) (f5 : ((kind_0 = 1) → (pos_0 ≤ (from_0 + 8))) ∧ ((kind_0 = 0) ∨ ((from_0 + 1) ≤ pos_0))) (f12 : (x14 = 1) → (kind_0 = 1)) (f14 : (-1) * fault_0 + 0 ≤ (-1)) (f15 : ((1 ≤ x17) ∧ (fault_0 = x17)) ∨ ((x17 = 0) ∧ ((fault_0 = x15) ∧ (faultPlace_0 = x16)))) (hK_0_1 : ∀ j : Int, 0 ≤ j → j < 2000 → (-128) ≤ tape_0 j ∧ tape_0 j ≤ 127) (kz_0_8 : 0 ≤ fault_0 ∧ fault_0 ≤ 5) (kz_0_9 : 0 ≤ faultPlace_0 ∧ faultPlace_0 ≤ 2000) (kz_0_11 : 0 ≤ pos_0 ∧ pos_0 ≤ 2000) (kz_0_12 : 0 ≤ kind_0 ∧ kind_0 ≤ 4) (kz_0_15 : 0 ≤ from_0 ∧ from_0 ≤ 2000) : (1 ≤ fault_0) ∨ ((kind_0 = 0) ∨ ((x3 + 1) ≤ pos_0)) := by
  first | with_reducible assumption | ((have f5_c0 := f5.1); (have f5_c1 := f5.2); (try and_intros) <;> first | with_reducible assumption | (clear f5_c0 f5_c1 f5 f15 hK_0_1 f12; omega)) | ((have f5_c0 := f5.1); (have f5_c1 := f5.2); (first | have f12_b := f12 (by clear f5_c0 f5_c1 f5 f15 hK_0_1 f12; omega) | skip); (first | have f12_d := f12 (by with_reducible assumption) | skip); (try and_intros) <;> first | with_reducible assumption | (clear f5_c0 f5_c1 f5 f15 hK_0_1 f12; omega)) | ((have f5_c0 := f5.1); (have f5_c1 := f5.2); (first | have f12_b := f12 (by clear f5_c0 f5_c1 f5 f15 hK_0_1 f12; omega) | skip); (first | have f12_d := f12 (by with_reducible assumption) | skip); (try and_intros) <;> first | with_reducible assumption | (clear f5_c0 f5_c1 f5 hK_0_1 f12; omega)) | omega
set_option maxHeartbeats 4000000 in
theorem vc_Mo_of_at_s5003_37_4 (x4 : Int) (x14 : Int) (x15 : Int) (x16 : Int) (x17 : Int) (kind_0 : Int) (tape_0 : Int → Int) (from_0 : Int) (pos_0 : Int) (fault_0 : Int) (faultPlace_0 : Int) (k4 : (-1) ≤ x4 ∧ x4 ≤ 48) (k14 : 1 ≤ x14 ∧ x14 ≤ 1) (k15 : 4 ≤ x15 ∧ x15 ≤ 4) (k16 : 0 ≤ x16 ∧ x16 ≤ 2000) (k17 : 0 ≤ x17 ∧ x17 ≤ 5) (f5 : ((kind_0 = 1) → (pos_0 ≤ (from_0 + 8))) ∧ ((kind_0 = 0) ∨ ((from_0 + 1) ≤ pos_0))) (f12 : (x14 = 1) → (kind_0 = 1)) (f14 : (-1) * fault_0 + 0 ≤ (-1)) (f15 : ((1 ≤ x17) ∧ (fault_0 = x17)) ∨ ((x17 = 0) ∧ ((fault_0 = x15) ∧ (faultPlace_0 = x16)))) (hK_0_1 : ∀ j : Int, 0 ≤ j → j < 2000 → (-128) ≤ tape_0 j ∧ tape_0 j ≤ 127) (kz_0_8 : 0 ≤ fault_0 ∧ fault_0 ≤ 5) (kz_0_9 : 0 ≤ faultPlace_0 ∧ faultPlace_0 ≤ 2000) (kz_0_11 : 0 ≤ pos_0 ∧ pos_0 ≤ 2000) (kz_0_12 : 0 ≤ kind_0 ∧ kind_0 ≤ 4) (kz_0_15 : 0 ≤ from_0 ∧ from_0 ≤ 2000) : (1 ≤ fault_0) ∨ (0 ≤ x4) := by
  first | with_reducible assumption | ((have f5_c0 := f5.1); (have f5_c1 := f5.2); (try and_intros) <;> first | with_reducible assumption | (clear f5_c0 f5_c1 f5 f15 hK_0_1 f12; omega)) | ((have f5_c0 := f5.1); (have f5_c1 := f5.2); (first | have f12_b := f12 (by clear f5_c0 f5_c1 f5 f15 hK_0_1 f12; omega) | skip); (first | have f12_d := f12 (by with_reducible assumption) | skip); (try and_intros) <;> first | with_reducible assumption | (clear f5_c0 f5_c1 f5 f15 hK_0_1 f12; omega)) | ((have f5_c0 := f5.1); (have f5_c1 := f5.2); (first | have f12_b := f12 (by clear f5_c0 f5_c1 f5 f15 hK_0_1 f12; omega) | skip); (first | have f12_d := f12 (by with_reducible assumption) | skip); (try and_intros) <;> first | with_reducible assumption | (clear f5_c0 f5_c1 f5 hK_0_1 f12; omega)) | omega
set_option maxHeartbeats 4000000 in
theorem vc_Mo_of_at_s5003_37_5 (x2 : Int) (x14 : Int) (x15 : Int) (x16 : Int) (x17 : Int) (x18 : Int) (kind_0 : Int) (tape_0 : Int → Int) (from_0 : Int) (pos_0 : Int) (fault_0 : Int) (faultPlace_0 : Int) (k2 : 9 ≤ x2 ∧ x2 ≤ 9) (k14 : 1 ≤ x14 ∧ x14 ≤ 1) (k15 : 4 ≤ x15 ∧ x15 ≤ 4) (k16 : 0 ≤ x16 ∧ x16 ≤ 2000) (k17 : 0 ≤ x17 ∧ x17 ≤ 5) (k18 : 0 ≤ x18 ∧ x18 ≤ 0) (f5 : ((kind_0 = 1) → (pos_0 ≤ (from_0 + 8))) ∧ ((kind_0 = 0) ∨ ((from_0 + 1) ≤ pos_0))) (f12 : (x14 = 1) → (kind_0 = 1)) (f15 : ((1 ≤ x17) ∧ (fault_0 = x17)) ∨ ((x17 = 0) ∧ ((fault_0 = x15) ∧ (faultPlace_0 = x16)))) (hK_0_1 : ∀ j : Int, 0 ≤ j → j < 2000 → (-128) ≤ tape_0 j ∧ tape_0 j ≤ 127) (kz_0_8 : 0 ≤ fault_0 ∧ fault_0 ≤ 5) (kz_0_9 : 0 ≤ faultPlace_0 ∧ faultPlace_0 ≤ 2000) (kz_0_11 : 0 ≤ pos_0 ∧ pos_0 ≤ 2000) (kz_0_12 : 0 ≤ kind_0 ∧ kind_0 ≤ 4) (kz_0_15 : 0 ≤ from_0 ∧ from_0 ≤ 2000) : 1 * x18 + ((-1) * x2 + 0) ≤ 0 := by
  first | with_reducible assumption | ((have f5_c0 := f5.1); (have f5_c1 := f5.2); (try and_intros) <;> first | with_reducible assumption | (clear f5_c0 f5_c1 f5 f15 hK_0_1 f12; omega)) | ((have f5_c0 := f5.1); (have f5_c1 := f5.2); (first | have f12_b := f12 (by clear f5_c0 f5_c1 f5 f15 hK_0_1 f12; omega) | skip); (first | have f12_d := f12 (by with_reducible assumption) | skip); (try and_intros) <;> first | with_reducible assumption | (clear f5_c0 f5_c1 f5 f15 hK_0_1 f12; omega)) | ((have f5_c0 := f5.1); (have f5_c1 := f5.2); (first | have f12_b := f12 (by clear f5_c0 f5_c1 f5 f15 hK_0_1 f12; omega) | skip); (first | have f12_d := f12 (by with_reducible assumption) | skip); (try and_intros) <;> first | with_reducible assumption | (clear f5_c0 f5_c1 f5 hK_0_1 f12; omega)) | omega
set_option maxHeartbeats 4000000 in
theorem vc_Mo_of_at_s5003_37_6 (x14 : Int) (x15 : Int) (x16 : Int) (x17 : Int) (x18 : Int) (kind_0 : Int) (tape_0 : Int → Int) (from_0 : Int) (pos_0 : Int) (fault_0 : Int) (faultPlace_0 : Int) (k14 : 1 ≤ x14 ∧ x14 ≤ 1) (k15 : 4 ≤ x15 ∧ x15 ≤ 4) (k16 : 0 ≤ x16 ∧ x16 ≤ 2000) (k17 : 0 ≤ x17 ∧ x17 ≤ 5) (k18 : 0 ≤ x18 ∧ x18 ≤ 0) (f5 : ((kind_0 = 1) → (pos_0 ≤ (from_0 + 8))) ∧ ((kind_0 = 0) ∨ ((from_0 + 1) ≤ pos_0))) (f12 : (x14 = 1) → (kind_0 = 1)) (f15 : ((1 ≤ x17) ∧ (fault_0 = x17)) ∨ ((x17 = 0) ∧ ((fault_0 = x15) ∧ (faultPlace_0 = x16)))) (hK_0_1 : ∀ j : Int, 0 ≤ j → j < 2000 → (-128) ≤ tape_0 j ∧ tape_0 j ≤ 127) (kz_0_8 : 0 ≤ fault_0 ∧ fault_0 ≤ 5) (kz_0_9 : 0 ≤ faultPlace_0 ∧ faultPlace_0 ≤ 2000) (kz_0_11 : 0 ≤ pos_0 ∧ pos_0 ≤ 2000) (kz_0_12 : 0 ≤ kind_0 ∧ kind_0 ≤ 4) (kz_0_15 : 0 ≤ from_0 ∧ from_0 ≤ 2000) : (-1) * x18 + 0 ≤ 0 := by
  first | with_reducible assumption | ((have f5_c0 := f5.1); (have f5_c1 := f5.2); (try and_intros) <;> first | with_reducible assumption | (clear f5_c0 f5_c1 f5 f15 hK_0_1 f12; omega)) | ((have f5_c0 := f5.1); (have f5_c1 := f5.2); (first | have f12_b := f12 (by clear f5_c0 f5_c1 f5 f15 hK_0_1 f12; omega) | skip); (first | have f12_d := f12 (by with_reducible assumption) | skip); (try and_intros) <;> first | with_reducible assumption | (clear f5_c0 f5_c1 f5 f15 hK_0_1 f12; omega)) | ((have f5_c0 := f5.1); (have f5_c1 := f5.2); (first | have f12_b := f12 (by clear f5_c0 f5_c1 f5 f15 hK_0_1 f12; omega) | skip); (first | have f12_d := f12 (by with_reducible assumption) | skip); (try and_intros) <;> first | with_reducible assumption | (clear f5_c0 f5_c1 f5 hK_0_1 f12; omega)) | omega
set_option maxHeartbeats 4000000 in
theorem vc_Mo_of_at_s5003_37_7 (x4 : Int) (x5 : Int) (x6 : Int) (x12 : Int) (x15 : Int) (x16 : Int) (x17 : Int) (x18 : Int) (place_0 : Int) (kind_0 : Int) (tape_0 : Int → Int) (limit_0 : Int) (from_0 : Int) (pos_0 : Int) (fault_0 : Int) (faultPlace_0 : Int) (value_0 : Int) (all_0 : Int → Int) (r_0 : Int) (k4 : (-1) ≤ x4 ∧ x4 ≤ 48) (k5 : 0 ≤ x5 ∧ x5 ≤ 7) (k6 : 0 ≤ x6 ∧ x6 ≤ 4) (k12 : 1 ≤ x12 ∧ x12 ≤ 1) (k15 : 4 ≤ x15 ∧ x15 ≤ 4) (k16 : 0 ≤ x16 ∧ x16 ≤ 2000) (k17 : 0 ≤ x17 ∧ x17 ≤ 5) (k18 : 0 ≤ x18 ∧ x18 ≤ 0) (g0 : x16 = place_0) (g1 : x12 = kind_0) (f2 : FSX (limit_0) (tape_0) (x15) (x16)) (f3 : ZH0 (x17)) (f15 : ((1 ≤ x17) ∧ (fault_0 = x17)) ∨ ((x17 = 0) ∧ ((fault_0 = x15) ∧ (faultPlace_0 = x16)))) (kz_0_8 : 0 ≤ fault_0 ∧ fault_0 ≤ 5) (kz_0_9 : 0 ≤ faultPlace_0 ∧ faultPlace_0 ≤ 2000) (kz_0_10 : 0 ≤ limit_0 ∧ limit_0 ≤ 2000) (kz_0_11 : 0 ≤ pos_0 ∧ pos_0 ≤ 2000) (kz_0_12 : 0 ≤ kind_0 ∧ kind_0 ≤ 4) (kz_0_13 : 0 ≤ place_0 ∧ place_0 ≤ 2000) (kz_0_14 : (-49) ≤ value_0 ∧ value_0 ≤ 1048575) (kz_0_15 : 0 ≤ from_0 ∧ from_0 ≤ 2000) : zOFw (limit_0) (pos_0) (kind_0) (place_0) (value_0) (from_0) (fault_0) (faultPlace_0) (r_0) (tape_0) (all_0) (x4) (x18) (x5) (x6) := by
  first | subst g0 | skip
  first | subst g1 | skip
  first
    | exact Or.inl ⟨by omega, fs_w ‹FSX _ _ _ _› ‹ZH0 _› (by assumption)⟩
    | (exfalso; omega)
def o_Mo_of_at_s5003_37 : or_T := (58, 19, [(0, (2, 0, 0, [165])), (2, (0, 9, 9, [])), (3, (0, 0, 2000, [])), (4, (0, -1, 48, [])), (5, (0, 0, 7, [])), (6, (0, 0, 4, [])), (7, (2, 0, 0, [165])), (9, (0, 9, 9, [])), (11, (0, 0, 2000, [])), (12, (0, 1, 1, [])), (13, (0, 1, 1, [])), (14, (0, 1, 1, [])), (15, (0, 4, 4, [])), (16, (0, 0, 2000, [])), (17, (0, 0, 5, [])), (18, (0, 0, 0, []))], [(9, [16, 7], [13]), (9, [12, 7], [12]), (20, [7, 15, 16], [60, 1, 1, 1026, 10, 1]), (20, [17], [61, 0, 1029]), (20, [7, 7], [30, 0, 1, 1, 15, -1, 1, 11]), (20, [7], [50, 3, 0, 12, 11, 15, 2, 21, 4, 7, 1, 3, 2, 0, 12, 0, 1, 0, 3, 2, 0, 11, 4, 3, 2, 0, 15, 0, 8, 3, 7, 1, 3, 2, 0, 12, 0, 0, 0, 7, 4, 3, 2, 0, 15, 0, 1, 2, 0, 11]), (20, [3, 7], [30, -1, 1, 0, 0, -1, 1, 11]), (23, [4], [0, -1]), (24, [0, 7], []), (24, [2, 9], []), (20, [11, 7], [30, 2000, 1, 0, 0, 1, 1, 11]), (20, [11, 7], [30, -2000, -1, 0, 0, -1, 1, 11]), (20, [14, 7], [50, 1, 0, 1012, 4, 6, 1, 2, 1, 0, 0, 1, 1, 3, 2, 1, 12, 0, 1]), (20, [7, 14], [60, 4, 1, 961, 12, 11, 10, 15, 1]), (20, [7], [30, -1, -1, 1, 8]), (20, [17, 7, 15, 16], [50, 2, 0, 1008, 1009, 3, 15, 2, 6, 0, 2, 0, 1, 1, 0, 1, 3, 2, 1, 8, 1, 0, 2, 6, 1, 2, 1, 0, 0, 0, 2, 7, 1, 3, 2, 1, 8, 1, 2, 1, 3, 2, 1, 9, 1, 3]), (102, [17], [0, 165008, 165009]), (8, [14], [1]), (23, [4], [0, -1]), (102, [13], [0]), (7, [12, 13], [0]), (23, [4], [0, -1])], [], [], [(20, [0, 0], [30, 0, 1, 1, 15, -1, 1, 11]), (20, [0], [50, 3, 0, 12, 11, 15, 2, 21, 4, 7, 1, 3, 2, 0, 12, 0, 1, 0, 3, 2, 0, 11, 4, 3, 2, 0, 15, 0, 8, 3, 7, 1, 3, 2, 0, 12, 0, 0, 0, 7, 4, 3, 2, 0, 15, 0, 1, 2, 0, 11]), (20, [3, 0], [30, 0, 1, 0, 0, -1, 1, 11]), (20, [0, 3], [50, 3, 0, 8, 12, 11, 3, 7, 0, 2, 0, 1, 2, 0, 8, 3, 7, 1, 3, 2, 0, 12, 0, 0, 0, 6, 4, 2, 1, 1, 0, 1, 2, 0, 11]), (20, [0, 4], [50, 1, 0, 8, 3, 7, 0, 2, 0, 1, 2, 0, 8, 0, 2, 0, 0, 1, 1]), (20, [18, 2], [30, 0, 1, 0, 0, -1, 0, 0]), (20, [18], [30, 0, -1, 0, 0]), (20, [0, 4, 18, 5, 6], [60, 9, 2, 1014, 10, 11, 12, 13, 14, 15, 8, 9, 5, 1, 2])], [], [])
theorem oo_Mo_of_at_s5003_37 {kA : Nat → ClassId} : or_ok PRD kA GG o_Mo_of_at_s5003_37 := by
  refine or_mk fun A ta ws vs hD hth hl => ?_
  intro t0 r0 t2 k2 t3 k3 t4 k4 t5 k5 t6 k6 t7 r7 t9 k9 t11 k11 t12 k12 t13 k13 t14 k14 t15 k15 t16 k16 t17 k17 t18 k18 f0 f1 f2 f3 f4 f5 f6 f7 f8 f9 f10 f11 f12 f13 f14 f15 ta1 w1 le1 s1 f17 f18 ta2 w2 le2 s2 f20 f21
  replace f0 := shm_361 f0
  replace f1 := shm_103 f1
  replace f2 := shm_1724 f2
  replace f4 := shm_1437 f4
  replace f5 := shm_1438 f5
  replace f6 := shm_2005 f6
  replace f8 := shm_5 f8
  replace f12 := shm_1856 f12
  replace f14 := shm_305 f14
  replace f15 := shm_306 f15
  have q7 : n_v vs 7 = n_v vs 0 := f8.symm
  simp only [q7] at f0 f1 f2 f4 f5 f6 f12 f14 f15
  have cr_0_1 := fdq_39 hD hth r0
  have g0 : v_iv (n_v vs 16) = w_fi ws (n_v vs 0) 13 := congrArg v_iv f0
  have g1 : v_iv (n_v vs 12) = w_fi ws (n_v vs 0) 12 := congrArg v_iv f1
  have hK_0_1 := elq_7 hD hth cr_0_1
  have kz_0_8 := fdq_34 hD hth r0
  have kz_0_9 := fdq_44 hD hth r0
  have kz_0_10 := fdq_43 hD hth r0
  have kz_0_11 := fdq_237 hD hth r0
  have kz_0_12 := fdq_187 hD hth r0
  have kz_0_13 := fdq_238 hD hth r0
  have kz_0_14 := fdq_188 hD hth r0
  have kz_0_15 := fdq_239 hD hth r0
  have nf0 : fc_1 PRD (20, [0, 0], [30, 0, 1, 1, 15, -1, 1, 11]) ws (vs) := ⟨nf_in hl rfl, sgq_1437 (vc_Mo_of_at_s5003_37_0 (v_iv (n_v vs 14)) (v_iv (n_v vs 15)) (v_iv (n_v vs 16)) (v_iv (n_v vs 17)) (w_fi ws (n_v vs 0) 12) (w_ei ws (w_ar ws (n_v vs 0) 1)) (w_fi ws (n_v vs 0) 15) (w_fi ws (n_v vs 0) 11) (w_fi ws (n_v vs 0) 8) (w_fi ws (n_v vs 0) 9) k14 k15 k16 k17 f4 f5 f12 f15 hK_0_1 kz_0_8 kz_0_9 kz_0_11 kz_0_12 kz_0_15)⟩
  have nf1 : fc_1 PRD (20, [0], [50, 3, 0, 12, 11, 15, 2, 21, 4, 7, 1, 3, 2, 0, 12, 0, 1, 0, 3, 2, 0, 11, 4, 3, 2, 0, 15, 0, 8, 3, 7, 1, 3, 2, 0, 12, 0, 0, 0, 7, 4, 3, 2, 0, 15, 0, 1, 2, 0, 11]) ws (vs) := ⟨nf_in hl rfl, sgq_1438 (vc_Mo_of_at_s5003_37_1 (v_iv (n_v vs 14)) (v_iv (n_v vs 15)) (v_iv (n_v vs 16)) (v_iv (n_v vs 17)) (w_fi ws (n_v vs 0) 12) (w_ei ws (w_ar ws (n_v vs 0) 1)) (w_fi ws (n_v vs 0) 15) (w_fi ws (n_v vs 0) 11) (w_fi ws (n_v vs 0) 8) (w_fi ws (n_v vs 0) 9) k14 k15 k16 k17 f5 f12 f15 hK_0_1 kz_0_8 kz_0_9 kz_0_11 kz_0_12 kz_0_15)⟩
  have nf2 : fc_1 PRD (20, [3, 0], [30, 0, 1, 0, 0, -1, 1, 11]) ws (vs) := ⟨nf_in hl rfl, sgq_1431 (vc_Mo_of_at_s5003_37_2 (v_iv (n_v vs 3)) (v_iv (n_v vs 14)) (v_iv (n_v vs 15)) (v_iv (n_v vs 16)) (v_iv (n_v vs 17)) (w_fi ws (n_v vs 0) 12) (w_ei ws (w_ar ws (n_v vs 0) 1)) (w_fi ws (n_v vs 0) 15) (w_fi ws (n_v vs 0) 11) (w_fi ws (n_v vs 0) 8) (w_fi ws (n_v vs 0) 9) k3 k14 k15 k16 k17 f5 f6 f12 f15 hK_0_1 kz_0_8 kz_0_9 kz_0_11 kz_0_12 kz_0_15)⟩
  have nf3 : fc_1 PRD (20, [0, 3], [50, 3, 0, 8, 12, 11, 3, 7, 0, 2, 0, 1, 2, 0, 8, 3, 7, 1, 3, 2, 0, 12, 0, 0, 0, 6, 4, 2, 1, 1, 0, 1, 2, 0, 11]) ws (vs) := ⟨nf_in hl rfl, sgq_1722 (vc_Mo_of_at_s5003_37_3 (v_iv (n_v vs 3)) (v_iv (n_v vs 14)) (v_iv (n_v vs 15)) (v_iv (n_v vs 16)) (v_iv (n_v vs 17)) (w_fi ws (n_v vs 0) 12) (w_ei ws (w_ar ws (n_v vs 0) 1)) (w_fi ws (n_v vs 0) 15) (w_fi ws (n_v vs 0) 11) (w_fi ws (n_v vs 0) 8) (w_fi ws (n_v vs 0) 9) k3 k14 k15 k16 k17 f5 f12 f14 f15 hK_0_1 kz_0_8 kz_0_9 kz_0_11 kz_0_12 kz_0_15)⟩
  have nf4 : fc_1 PRD (20, [0, 4], [50, 1, 0, 8, 3, 7, 0, 2, 0, 1, 2, 0, 8, 0, 2, 0, 0, 1, 1]) ws (vs) := ⟨nf_in hl rfl, sgq_2000 (vc_Mo_of_at_s5003_37_4 (v_iv (n_v vs 4)) (v_iv (n_v vs 14)) (v_iv (n_v vs 15)) (v_iv (n_v vs 16)) (v_iv (n_v vs 17)) (w_fi ws (n_v vs 0) 12) (w_ei ws (w_ar ws (n_v vs 0) 1)) (w_fi ws (n_v vs 0) 15) (w_fi ws (n_v vs 0) 11) (w_fi ws (n_v vs 0) 8) (w_fi ws (n_v vs 0) 9) k4 k14 k15 k16 k17 f5 f12 f14 f15 hK_0_1 kz_0_8 kz_0_9 kz_0_11 kz_0_12 kz_0_15)⟩
  have nf5 : fc_1 PRD (20, [18, 2], [30, 0, 1, 0, 0, -1, 0, 0]) ws (vs) := ⟨nf_in hl rfl, sgq_201 (vc_Mo_of_at_s5003_37_5 (v_iv (n_v vs 2)) (v_iv (n_v vs 14)) (v_iv (n_v vs 15)) (v_iv (n_v vs 16)) (v_iv (n_v vs 17)) (v_iv (n_v vs 18)) (w_fi ws (n_v vs 0) 12) (w_ei ws (w_ar ws (n_v vs 0) 1)) (w_fi ws (n_v vs 0) 15) (w_fi ws (n_v vs 0) 11) (w_fi ws (n_v vs 0) 8) (w_fi ws (n_v vs 0) 9) k2 k14 k15 k16 k17 k18 f5 f12 f15 hK_0_1 kz_0_8 kz_0_9 kz_0_11 kz_0_12 kz_0_15)⟩
  have nf6 : fc_1 PRD (20, [18], [30, 0, -1, 0, 0]) ws (vs) := ⟨nf_in hl rfl, sgq_2002 (vc_Mo_of_at_s5003_37_6 (v_iv (n_v vs 14)) (v_iv (n_v vs 15)) (v_iv (n_v vs 16)) (v_iv (n_v vs 17)) (v_iv (n_v vs 18)) (w_fi ws (n_v vs 0) 12) (w_ei ws (w_ar ws (n_v vs 0) 1)) (w_fi ws (n_v vs 0) 15) (w_fi ws (n_v vs 0) 11) (w_fi ws (n_v vs 0) 8) (w_fi ws (n_v vs 0) 9) k14 k15 k16 k17 k18 f5 f12 f15 hK_0_1 kz_0_8 kz_0_9 kz_0_11 kz_0_12 kz_0_15)⟩
  have nf7 : fc_1 PRD (20, [0, 4, 18, 5, 6], [60, 9, 2, 1014, 10, 11, 12, 13, 14, 15, 8, 9, 5, 1, 2]) ws (vs) := ⟨nf_in hl rfl, sgq_2016 (vc_Mo_of_at_s5003_37_7 (v_iv (n_v vs 4)) (v_iv (n_v vs 5)) (v_iv (n_v vs 6)) (v_iv (n_v vs 12)) (v_iv (n_v vs 15)) (v_iv (n_v vs 16)) (v_iv (n_v vs 17)) (v_iv (n_v vs 18)) (w_fi ws (n_v vs 0) 13) (w_fi ws (n_v vs 0) 12) (w_ei ws (w_ar ws (n_v vs 0) 1)) (w_fi ws (n_v vs 0) 10) (w_fi ws (n_v vs 0) 15) (w_fi ws (n_v vs 0) 11) (w_fi ws (n_v vs 0) 8) (w_fi ws (n_v vs 0) 9) (w_fi ws (n_v vs 0) 14) (w_ei ws (w_ar ws (n_v vs 0) 2)) (w_fi ws (n_v vs 0) 5) k4 k5 k6 k12 k15 k16 k17 k18 g0 g1 f2 (shm_1725 f3) f15 kz_0_8 kz_0_9 kz_0_10 kz_0_11 kz_0_12 kz_0_13 kz_0_14 kz_0_15)⟩
  refine ⟨(fun _ h => (by cases h)), [], trivial, ?_, (fun _ h => (by cases h))⟩
  rw [List.append_nil]
  exact List.forall_mem_cons.mpr ⟨⟨show (20 : Nat) < 100 from by decide, nf0⟩, List.forall_mem_cons.mpr ⟨⟨show (20 : Nat) < 100 from by decide, nf1⟩, List.forall_mem_cons.mpr ⟨⟨show (20 : Nat) < 100 from by decide, nf2⟩, List.forall_mem_cons.mpr ⟨⟨show (20 : Nat) < 100 from by decide, nf3⟩, List.forall_mem_cons.mpr ⟨⟨show (20 : Nat) < 100 from by decide, nf4⟩, List.forall_mem_cons.mpr ⟨⟨show (20 : Nat) < 100 from by decide, nf5⟩, List.forall_mem_cons.mpr ⟨⟨show (20 : Nat) < 100 from by decide, nf6⟩, List.forall_mem_cons.mpr ⟨⟨show (20 : Nat) < 100 from by decide, nf7⟩, (fun _ h => (by cases h))⟩⟩⟩⟩⟩⟩⟩⟩
set_option maxHeartbeats 4000000 in
theorem vc_Mo_of_at_s5003_38_0 (x4 : Int) (x5 : Int) (x6 : Int) (x10 : Int) (x12 : Int) (x13 : Int) (x14 : Int) (x15 : Int) (place_0 : Int) (kind_0 : Int) (from_0 : Int) (pos_0 : Int) (tape_0 : Int → Int) (all_0 : Int → Int) (limit_0 : Int) (value_0 : Int) (fault_0 : Int) (r_0 : Int) (gx : Int) (k4 : (-1) ≤ x4 ∧ x4 ≤ 48) (k5 : 0 ≤ x5 ∧ x5 ≤ 7) (k6 : 0 ≤ x6 ∧ x6 ≤ 4) (k10 : (-49) ≤ x10 ∧ x10 ≤ 1048575) (k12 : 0 ≤ x12 ∧ x12 ≤ 4) (k13 : 1 ≤ x13 ∧ x13 ≤ 1) (k14 : 1 ≤ x14 ∧ x14 ≤ 1) (k15 : 0 ≤ x15 ∧ x15 ≤ 2000) (g0 : x15 = place_0) (f1 : x12 ≠ x13) (g2 : x12 = kind_0) (f4 : ((kind_0 = 1) → (pos_0 ≤ (from_0 + 8))) ∧ ((kind_0 = 0) ∨ ((from_0 + 1) ≤ pos_0))) (f9 : zOIw (limit_0) (pos_0) (kind_0) (place_0) (value_0) (from_0) (fault_0) (r_0) (tape_0) (all_0) (x4) (x10) (x5) (x6)) (kz_0_8 : 0 ≤ fault_0 ∧ fault_0 ≤ 5) (kz_0_10 : 0 ≤ limit_0 ∧ limit_0 ≤ 2000) (kz_0_11 : 0 ≤ pos_0 ∧ pos_0 ≤ 2000) (kz_0_12 : 0 ≤ kind_0 ∧ kind_0 ≤ 4) (kz_0_13 : 0 ≤ place_0 ∧ place_0 ≤ 2000) (kz_0_14 : (-49) ≤ value_0 ∧ value_0 ≤ 1048575) (kz_0_15 : 0 ≤ from_0 ∧ from_0 ≤ 2000) (ex2 : gx = fault_0) : FSX (limit_0) (tape_0) (x14) (x15) := by
  first | subst g0 | skip
  first | subst g2 | skip
  first | subst ex2 | skip
  first
    | exact fsx_cg (of_k_s ‹zOIs _ _ _ _ _ _ _ _ _ _ _ _ _ _› (by omega)) (by omega) (by omega)
    | exact fsx_cg (of_k_w ‹zOIw _ _ _ _ _ _ _ _ _ _ _ _ _ _› (by omega)) (by omega) (by omega)
    | (exfalso; omega)
set_option maxHeartbeats 4000000 in
theorem vc_Mo_of_at_s5003_38_1 (kind_0 : Int) (from_0 : Int) (pos_0 : Int) (tape_0 : Int → Int) (fault_0 : Int) (gx : Int) (f4 : ((kind_0 = 1) → (pos_0 ≤ (from_0 + 8))) ∧ ((kind_0 = 0) ∨ ((from_0 + 1) ≤ pos_0))) (hK_0_1 : ∀ j : Int, 0 ≤ j → j < 2000 → (-128) ≤ tape_0 j ∧ tape_0 j ≤ 127) (kz_0_8 : 0 ≤ fault_0 ∧ fault_0 ≤ 5) (kz_0_11 : 0 ≤ pos_0 ∧ pos_0 ≤ 2000) (kz_0_12 : 0 ≤ kind_0 ∧ kind_0 ≤ 4) (kz_0_15 : 0 ≤ from_0 ∧ from_0 ≤ 2000) (ex2 : gx = fault_0) : 1 * fault_0 + ((-1) * gx + 0) ≤ 0 := by
  first | with_reducible assumption | ((have f4_c0 := f4.1); (have f4_c1 := f4.2); (try and_intros) <;> first | with_reducible assumption | (clear f4_c0 f4_c1 f4 hK_0_1; omega)) | omega
set_option maxHeartbeats 4000000 in
theorem vc_Mo_of_at_s5003_38_2 (kind_0 : Int) (from_0 : Int) (pos_0 : Int) (tape_0 : Int → Int) (fault_0 : Int) (gx : Int) (f4 : ((kind_0 = 1) → (pos_0 ≤ (from_0 + 8))) ∧ ((kind_0 = 0) ∨ ((from_0 + 1) ≤ pos_0))) (hK_0_1 : ∀ j : Int, 0 ≤ j → j < 2000 → (-128) ≤ tape_0 j ∧ tape_0 j ≤ 127) (kz_0_8 : 0 ≤ fault_0 ∧ fault_0 ≤ 5) (kz_0_11 : 0 ≤ pos_0 ∧ pos_0 ≤ 2000) (kz_0_12 : 0 ≤ kind_0 ∧ kind_0 ≤ 4) (kz_0_15 : 0 ≤ from_0 ∧ from_0 ≤ 2000) (ex2 : gx = fault_0) : (-1) * fault_0 + (1 * gx + 0) ≤ 0 := by
  first | with_reducible assumption | ((have f4_c0 := f4.1); (have f4_c1 := f4.2); (try and_intros) <;> first | with_reducible assumption | (clear f4_c0 f4_c1 f4 hK_0_1; omega)) | omega
set_option maxHeartbeats 4000000 in
theorem vc_Mo_of_at_s5003_38_3 (x4 : Int) (x5 : Int) (x6 : Int) (x10 : Int) (place_0 : Int) (kind_0 : Int) (from_0 : Int) (pos_0 : Int) (tape_0 : Int → Int) (all_0 : Int → Int) (limit_0 : Int) (value_0 : Int) (fault_0 : Int) (r_0 : Int) (gx : Int) (k4 : (-1) ≤ x4 ∧ x4 ≤ 48) (k5 : 0 ≤ x5 ∧ x5 ≤ 7) (k6 : 0 ≤ x6 ∧ x6 ≤ 4) (k10 : (-49) ≤ x10 ∧ x10 ≤ 1048575) (f9 : zOIw (limit_0) (pos_0) (kind_0) (place_0) (value_0) (from_0) (fault_0) (r_0) (tape_0) (all_0) (x4) (x10) (x5) (x6)) (kz_0_8 : 0 ≤ fault_0 ∧ fault_0 ≤ 5) (kz_0_10 : 0 ≤ limit_0 ∧ limit_0 ≤ 2000) (kz_0_11 : 0 ≤ pos_0 ∧ pos_0 ≤ 2000) (kz_0_12 : 0 ≤ kind_0 ∧ kind_0 ≤ 4) (kz_0_13 : 0 ≤ place_0 ∧ place_0 ≤ 2000) (kz_0_14 : (-49) ≤ value_0 ∧ value_0 ≤ 1048575) (kz_0_15 : 0 ≤ from_0 ∧ from_0 ≤ 2000) (ex2 : gx = fault_0) : ZH0 (gx) := by
  first
    | exact ⟨by omega, by omega, trivial⟩
    | (have h := (oi_0_s ‹zOIs _ _ _ _ _ _ _ _ _ _ _ _ _ _›).1; exact ⟨by omega, by omega, trivial⟩)
    | (have h := (oi_0_w ‹zOIw _ _ _ _ _ _ _ _ _ _ _ _ _ _›).1; exact ⟨by omega, by omega, trivial⟩)
    | (exfalso; omega)
def o_Mo_of_at_s5003_38 : or_T := (31, 16, [(0, (2, 0, 0, [165])), (4, (0, -1, 48, [])), (5, (0, 0, 7, [])), (6, (0, 0, 4, [])), (10, (0, -49, 1048575, [])), (12, (0, 0, 4, [])), (13, (0, 1, 1, [])), (14, (0, 1, 1, [])), (15, (0, 0, 2000, []))], [(9, [15, 7], [13]), (7, [12, 13], [1]), (9, [12, 7], [12]), (20, [7], [50, 3, 0, 12, 11, 15, 2, 21, 4, 7, 1, 3, 2, 0, 12, 0, 1, 0, 3, 2, 0, 11, 4, 3, 2, 0, 15, 0, 8, 3, 7, 1, 3, 2, 0, 12, 0, 0, 0, 7, 4, 3, 2, 0, 15, 0, 1, 2, 0, 11]), (20, [7, 4, 10, 5, 6], [60, 8, 2, 998, 10, 11, 12, 13, 14, 15, 8, 5, 1, 2]), (24, [0, 7], [])], [], [(0, 0, 5, [])], [(20, [7, 14, 15], [60, 1, 1, 1026, 10, 1]), (20, [7, 16], [30, 0, 1, 1, 8, -1, 0, 0]), (20, [7, 16], [30, 0, -1, 1, 8, 1, 0, 0]), (20, [16], [61, 0, 1029])], [], [])
theorem oo_Mo_of_at_s5003_38 {kA : Nat → ClassId} : or_ok PRD kA GG o_Mo_of_at_s5003_38 := by
  refine or_mk fun A ta ws vs hD hth hl => ?_
  intro t0 r0 t4 k4 t5 k5 t6 k6 t10 k10 t12 k12 t13 k13 t14 k14 t15 k15 f0 f1 f2 f4 f9 f10
  replace f0 := shm_361 f0
  replace f1 := shm_40 f1
  replace f2 := shm_103 f2
  replace f4 := shm_1438 f4
  replace f9 := shm_2018 f9
  replace f10 := shm_5 f10
  have q7 : n_v vs 7 = n_v vs 0 := f10.symm
  simp only [q7] at f0 f2 f4 f9
  have cr_0_1 := fdq_39 hD hth r0
  have g0 : v_iv (n_v vs 15) = w_fi ws (n_v vs 0) 13 := congrArg v_iv f0
  have g2 : v_iv (n_v vs 12) = w_fi ws (n_v vs 0) 12 := congrArg v_iv f2
  have hK_0_1 := elq_7 hD hth cr_0_1
  have kz_0_8 := fdq_34 hD hth r0
  have kz_0_10 := fdq_43 hD hth r0
  have kz_0_11 := fdq_237 hD hth r0
  have kz_0_12 := fdq_187 hD hth r0
  have kz_0_13 := fdq_238 hD hth r0
  have kz_0_14 := fdq_188 hD hth r0
  have kz_0_15 := fdq_239 hD hth r0
  obtain ⟨x, ex, hx⟩ := iv_ex (ta := ta) (lo := 0) (hi := 5) (z := w_fi ws (n_v vs 0) 8) (by omega) (by omega) (by omega) (by omega)
  have ex2 : v_iv (Value.int x) = w_fi ws (n_v vs 0) 8 := ex
  have ex3 : 0 ≤ v_iv (Value.int x) ∧ v_iv (Value.int x) ≤ 5 := tv_rng hx
  have e_7 : n_v (vs ++ [Value.int x]) 7 = n_v vs 7 := n_v_old (by rw [hl]; decide)
  have e_14 : n_v (vs ++ [Value.int x]) 14 = n_v vs 14 := n_v_old (by rw [hl]; decide)
  have e_15 : n_v (vs ++ [Value.int x]) 15 = n_v vs 15 := n_v_old (by rw [hl]; decide)
  have e_16 : n_v (vs ++ [Value.int x]) 16 = Value.int x := n_v_new hl
  have nf0 : fc_1 PRD (20, [7, 14, 15], [60, 1, 1, 1026, 10, 1]) ws (vs ++ [Value.int x]) := by
    refine ⟨nf_inA hl rfl, sgq_1724 ?_⟩
    · show FSX (w_fi ws (n_v (vs ++ [Value.int x]) 7) 10) (w_ei ws (w_ar ws (n_v (vs ++ [Value.int x]) 7) 1)) (v_iv (n_v (vs ++ [Value.int x]) 14)) (v_iv (n_v (vs ++ [Value.int x]) 15))
      simp only [e_7, e_14, e_15, q7]
      exact vc_Mo_of_at_s5003_38_0 (v_iv (n_v vs 4)) (v_iv (n_v vs 5)) (v_iv (n_v vs 6)) (v_iv (n_v vs 10)) (v_iv (n_v vs 12)) (v_iv (n_v vs 13)) (v_iv (n_v vs 14)) (v_iv (n_v vs 15)) (w_fi ws (n_v vs 0) 13) (w_fi ws (n_v vs 0) 12) (w_fi ws (n_v vs 0) 15) (w_fi ws (n_v vs 0) 11) (w_ei ws (w_ar ws (n_v vs 0) 1)) (w_ei ws (w_ar ws (n_v vs 0) 2)) (w_fi ws (n_v vs 0) 10) (w_fi ws (n_v vs 0) 14) (w_fi ws (n_v vs 0) 8) (w_fi ws (n_v vs 0) 5) (v_iv (Value.int x)) k4 k5 k6 k10 k12 k13 k14 k15 g0 f1 g2 f4 f9 kz_0_8 kz_0_10 kz_0_11 kz_0_12 kz_0_13 kz_0_14 kz_0_15 ex2
  have nf1 : fc_1 PRD (20, [7, 16], [30, 0, 1, 1, 8, -1, 0, 0]) ws (vs ++ [Value.int x]) := by
    refine ⟨nf_inA hl rfl, sgq_303 ?_⟩
    · show 1 * w_fi ws (n_v (vs ++ [Value.int x]) 7) 8 + ((-1) * v_iv (n_v (vs ++ [Value.int x]) 16) + 0) ≤ 0
      simp only [e_7, e_16, q7]
      exact vc_Mo_of_at_s5003_38_1 (w_fi ws (n_v vs 0) 12) (w_fi ws (n_v vs 0) 15) (w_fi ws (n_v vs 0) 11) (w_ei ws (w_ar ws (n_v vs 0) 1)) (w_fi ws (n_v vs 0) 8) (v_iv (Value.int x)) f4 hK_0_1 kz_0_8 kz_0_11 kz_0_12 kz_0_15 ex2
  have nf2 : fc_1 PRD (20, [7, 16], [30, 0, -1, 1, 8, 1, 0, 0]) ws (vs ++ [Value.int x]) := by
    refine ⟨nf_inA hl rfl, sgq_304 ?_⟩
    · show (-1) * w_fi ws (n_v (vs ++ [Value.int x]) 7) 8 + (1 * v_iv (n_v (vs ++ [Value.int x]) 16) + 0) ≤ 0
      simp only [e_7, e_16, q7]
      exact vc_Mo_of_at_s5003_38_2 (w_fi ws (n_v vs 0) 12) (w_fi ws (n_v vs 0) 15) (w_fi ws (n_v vs 0) 11) (w_ei ws (w_ar ws (n_v vs 0) 1)) (w_fi ws (n_v vs 0) 8) (v_iv (Value.int x)) f4 hK_0_1 kz_0_8 kz_0_11 kz_0_12 kz_0_15 ex2
  have nf3 : fc_1 PRD (20, [16], [61, 0, 1029]) ws (vs ++ [Value.int x]) := by
    refine ⟨nf_inA hl rfl, sgq_1725 ?_⟩
    · show ZH0 (v_iv (n_v (vs ++ [Value.int x]) 16))
      rw [e_16]
      exact vc_Mo_of_at_s5003_38_3 (v_iv (n_v vs 4)) (v_iv (n_v vs 5)) (v_iv (n_v vs 6)) (v_iv (n_v vs 10)) (w_fi ws (n_v vs 0) 13) (w_fi ws (n_v vs 0) 12) (w_fi ws (n_v vs 0) 15) (w_fi ws (n_v vs 0) 11) (w_ei ws (w_ar ws (n_v vs 0) 1)) (w_ei ws (w_ar ws (n_v vs 0) 2)) (w_fi ws (n_v vs 0) 10) (w_fi ws (n_v vs 0) 14) (w_fi ws (n_v vs 0) 8) (w_fi ws (n_v vs 0) 5) (v_iv (Value.int x)) k4 k5 k6 k10 f9 kz_0_8 kz_0_10 kz_0_11 kz_0_12 kz_0_13 kz_0_14 kz_0_15 ex2
  exact ⟨(fun _ h => (by cases h)), [Value.int x], ag_one hx, List.forall_mem_cons.mpr ⟨⟨show (20 : Nat) < 100 from by decide, nf0⟩, List.forall_mem_cons.mpr ⟨⟨show (20 : Nat) < 100 from by decide, nf1⟩, List.forall_mem_cons.mpr ⟨⟨show (20 : Nat) < 100 from by decide, nf2⟩, List.forall_mem_cons.mpr ⟨⟨show (20 : Nat) < 100 from by decide, nf3⟩, (fun _ h => (by cases h))⟩⟩⟩⟩, (fun _ h => (by cases h))⟩
set_option maxHeartbeats 4000000 in
theorem vc_Mo_of_at_s5003_39_0 (x14 : Int) (x15 : Int) (x16 : Int) (kind_0 : Int) (tape_0 : Int → Int) (from_0 : Int) (pos_0 : Int) (fault_0 : Int) (faultPlace_0 : Int) (k14 : 1 ≤ x14 ∧ x14 ≤ 1) (k15 : 0 ≤ x15 ∧ x15 ≤ 2000) (k16 : 0 ≤ x16 ∧ x16 ≤ 5) (f4 : 1 * from_0 + ((-1) * pos_0 + 0) ≤ 0) (f5 : ((kind_0 = 1) → (pos_0 ≤ (from_0 + 8))) ∧ ((kind_0 = 0) ∨ ((from_0 + 1) ≤ pos_0))) (f13 : ((1 ≤ x16) ∧ (fault_0 = x16)) ∨ ((x16 = 0) ∧ ((fault_0 = x14) ∧ (faultPlace_0 = x15)))) (hK_0_1 : ∀ j : Int, 0 ≤ j → j < 2000 → (-128) ≤ tape_0 j ∧ tape_0 j ≤ 127) (kz_0_8 : 0 ≤ fault_0 ∧ fault_0 ≤ 5) (kz_0_9 : 0 ≤ faultPlace_0 ∧ faultPlace_0 ≤ 2000) (kz_0_11 : 0 ≤ pos_0 ∧ pos_0 ≤ 2000) (kz_0_12 : 0 ≤ kind_0 ∧ kind_0 ≤ 4) (kz_0_15 : 0 ≤ from_0 ∧ from_0 ≤ 2000) : 1 * from_0 + ((-1) * pos_0 + 0) ≤ 0 := by
  first | with_reducible assumption | ((have f5_c0 := f5.1); (have f5_c1 := f5.2); (try and_intros) <;> first | with_reducible assumption | (clear f5_c0 f5_c1 f5 f13 hK_0_1; omega)) | ((have f5_c0 := f5.1); (have f5_c1 := f5.2); (try and_intros) <;> first | with_reducible assumption | (clear f5_c0 f5_c1 f5 hK_0_1; omega)) | omega
set_option maxHeartbeats 4000000 in
theorem vc_Mo_of_at_s5003_39_1 (x14 : Int) (x15 : Int) (x16 : Int) (kind_0 : Int) (tape_0 : Int → Int) (from_0 : Int) (pos_0 : Int) (fault_0 : Int) (faultPlace_0 : Int) (k14 : 1 ≤ x14 ∧ x14 ≤ 1) (k15 : 0 ≤ x15 ∧ x15 ≤ 2000) (k16 : 0 ≤ x16 ∧ x16 ≤ 5) (f5 : ((kind_0 = 1) → (pos_0 ≤ (from_0 + 8))) ∧ ((kind_0 = 0) ∨ ((from_0 + 1) ≤ pos_0))) (f13 : ((1 ≤ x16) ∧ (fault_0 = x16)) ∨ ((x16 = 0) ∧ ((fault_0 = x14) ∧ (faultPlace_0 = x15)))) (hK_0_1 : ∀ j : Int, 0 ≤ j → j < 2000 → (-128) ≤ tape_0 j ∧ tape_0 j ≤ 127) (kz_0_8 : 0 ≤ fault_0 ∧ fault_0 ≤ 5) (kz_0_9 : 0 ≤ faultPlace_0 ∧ faultPlace_0 ≤ 2000) (kz_0_11 : 0 ≤ pos_0 ∧ pos_0 ≤ 2000) (kz_0_12 : 0 ≤ kind_0 ∧ kind_0 ≤ 4) (kz_0_15 : 0 ≤ from_0 ∧ from_0 ≤ 2000) : ((kind_0 = 1) → (pos_0 ≤ (from_0 + 8))) ∧ ((kind_0 = 0) ∨ ((from_0 + 1) ≤ pos_0)) := by
  first | with_reducible assumption | ((have f5_c0 := f5.1); (have f5_c1 := f5.2); (try and_intros) <;> first | with_reducible assumption | (clear f5_c0 f5_c1 f5 f13 hK_0_1; omega)) | ((have f5_c0 := f5.1); (have f5_c1 := f5.2); (try and_intros) <;> first | with_reducible assumption | (clear f5_c0 f5_c1 f5 hK_0_1; omega)) | omega
set_option maxHeartbeats 4000000 in
theorem vc_Mo_of_at_s5003_39_2 (x3 : Int) (x14 : Int) (x15 : Int) (x16 : Int) (kind_0 : Int) (tape_0 : Int → Int) (from_0 : Int) (pos_0 : Int) (fault_0 : Int) (faultPlace_0 : Int) (k3 : 0 ≤ x3 ∧ x3 ≤ 2000) (k14 : 1 ≤ x14 ∧ x14 ≤ 1) (k15 : 0 ≤ x15 ∧ x15 ≤ 2000) (k16 : 0 ≤ x16 ∧ x16 ≤ 5) (f5 : ((kind_0 = 1) → (pos_0 ≤ (from_0 + 8))) ∧ ((kind_0 = 0) ∨ ((from_0 + 1) ≤ pos_0))) (f6 : 1 * x3 + ((-1) * pos_0 + 0) ≤ (-1)) (f13 : ((1 ≤ x16) ∧ (fault_0 = x16)) ∨ ((x16 = 0) ∧ ((fault_0 = x14) ∧ (faultPlace_0 = x15)))) (hK_0_1 : ∀ j : Int, 0 ≤ j → j < 2000 → (-128) ≤ tape_0 j ∧ tape_0 j ≤ 127) (kz_0_8 : 0 ≤ fault_0 ∧ fault_0 ≤ 5) (kz_0_9 : 0 ≤ faultPlace_0 ∧ faultPlace_0 ≤ 2000) (kz_0_11 : 0 ≤ pos_0 ∧ pos_0 ≤ 2000) (kz_0_12 : 0 ≤ kind_0 ∧ kind_0 ≤ 4) (kz_0_15 : 0 ≤ from_0 ∧ from_0 ≤ 2000) : 1 * x3 + ((-1) * pos_0 + 0) ≤ 0 := by
  first | with_reducible assumption | ((have f5_c0 := f5.1); (have f5_c1 := f5.2); (try and_intros) <;> first | with_reducible assumption | (clear f5_c0 f5_c1 f5 f13 hK_0_1; omega)) | ((have f5_c0 := f5.1); (have f5_c1 := f5.2); (try and_intros) <;> first | with_reducible assumption | (clear f5_c0 f5_c1 f5 hK_0_1; omega)) | omega
set_option maxHeartbeats 4000000 in
theorem vc_Mo_of_at_s5003_39_3 (x3 : Int) (x14 : Int) (x15 : Int) (x16 : Int) (kind_0 : Int) (tape_0 : Int → Int) (from_0 : Int) (pos_0 : Int) (fault_0 : Int) (faultPlace_0 : Int) (k3 : 0 ≤ x3 ∧ x3 ≤ 2000) (k14 : 1 ≤ x14 ∧ x14 ≤ 1) (k15 : 0 ≤ x15 ∧ x15 ≤ 2000) (k16 : 0 ≤ x16 ∧ x16 ≤ 5) (f5 : ((kind_0 = 1) → (pos_0 ≤ (from_0 + 8))) ∧ ((kind_0 = 0) ∨ ((from_0 + 1) ≤ pos_0))) (f12 : (-1) * fault_0 + 0 ≤ (-1)) (f13 : ((1 ≤ x16) ∧ (fault_0 = x16)) ∨ ((x16 = 0) ∧ ((fault_0 = x14) ∧ (faultPlace_0 = x15)))) (hK_0_1 : ∀ j : Int, 0 ≤ j → j < 2000 → (-128) ≤ tape_0 j ∧ tape_0 j ≤ 127) (kz_0_8 : 0 ≤ fault_0 ∧ fault_0 ≤ 5) (kz_0_9 : 0 ≤ faultPlace_0 ∧ faultPlace_0 ≤ 2000) (kz_0_11 : 0 ≤ pos_0 ∧ pos_0 ≤ 2000) (kz_0_12 : 0 ≤ kind_0 ∧ kind_0 ≤ 4) (kz_0_15 : 0 ≤ from_0 ∧ from_0 ≤ 2000) : (1 ≤ fault_0) ∨ ((kind_0 = 0) ∨ ((x3 + 1) ≤ pos_0)) := by
  first | with_reducible assumption | ((have f5_c0 := f5.1); (have f5_c1 := f5.2); (try and_intros) <;> first | with_reducible assumption | (clear f5_c0 f5_c1 f5 f13 hK_0_1; omega)) | ((have f5_c0 := f5.1); (have f5_c1 := f5.2); (try and_intros) <;> first | with_reducible assumption | (clear f5_c0 f5_c1 f5 hK_0_1; omega)) | omega
set_option maxHeartbeats 4000000 in
theorem vc_Mo_of_at_s5003_39_4 (x4 : Int) (x14 : Int) (x15 : Int) (x16 : Int) (kind_0 : Int) (tape_0 : Int → Int) (from_0 : Int) (pos_0 : Int) (fault_0 : Int) (faultPlace_0 : Int) (k4 : (-1) ≤ x4 ∧ x4 ≤ 48) (k14 : 1 ≤ x14 ∧ x14 ≤ 1) (k15 : 0 ≤ x15 ∧ x15 ≤ 2000) (k16 : 0 ≤ x16 ∧ x16 ≤ 5) (f5 : ((kind_0 = 1) → (pos_0 ≤ (from_0 + 8))) ∧ ((kind_0 = 0) ∨ ((from_0 + 1) ≤ pos_0))) (f12 : (-1) * fault_0 + 0 ≤ (-1)) (f13 : ((1 ≤ x16) ∧ (fault_0 = x16)) ∨ ((x16 = 0) ∧ ((fault_0 = x14) ∧ (faultPlace_0 = x15)))) (hK_0_1 : ∀ j : Int, 0 ≤ j → j < 2000 → (-128) ≤ tape_0 j ∧ tape_0 j ≤ 127) (kz_0_8 : 0 ≤ fault_0 ∧ fault_0 ≤ 5) (kz_0_9 : 0 ≤ faultPlace_0 ∧ faultPlace_0 ≤ 2000) (kz_0_11 : 0 ≤ pos_0 ∧ pos_0 ≤ 2000) (kz_0_12 : 0 ≤ kind_0 ∧ kind_0 ≤ 4) (kz_0_15 : 0 ≤ from_0 ∧ from_0 ≤ 2000) : (1 ≤ fault_0) ∨ (0 ≤ x4) := by
  first | with_reducible assumption | ((have f5_c0 := f5.1); (have f5_c1 := f5.2); (try and_intros) <;> first | with_reducible assumption | (clear f5_c0 f5_c1 f5 f13 hK_0_1; omega)) | ((have f5_c0 := f5.1); (have f5_c1 := f5.2); (try and_intros) <;> first | with_reducible assumption | (clear f5_c0 f5_c1 f5 hK_0_1; omega)) | omega
set_option maxHeartbeats 4000000 in
theorem vc_Mo_of_at_s5003_39_5 (x2 : Int) (x14 : Int) (x15 : Int) (x16 : Int) (x17 : Int) (kind_0 : Int) (tape_0 : Int → Int) (from_0 : Int) (pos_0 : Int) (fault_0 : Int) (faultPlace_0 : Int) (k2 : 9 ≤ x2 ∧ x2 ≤ 9) (k14 : 1 ≤ x14 ∧ x14 ≤ 1) (k15 : 0 ≤ x15 ∧ x15 ≤ 2000) (k16 : 0 ≤ x16 ∧ x16 ≤ 5) (k17 : 0 ≤ x17 ∧ x17 ≤ 0) (f5 : ((kind_0 = 1) → (pos_0 ≤ (from_0 + 8))) ∧ ((kind_0 = 0) ∨ ((from_0 + 1) ≤ pos_0))) (f13 : ((1 ≤ x16) ∧ (fault_0 = x16)) ∨ ((x16 = 0) ∧ ((fault_0 = x14) ∧ (faultPlace_0 = x15)))) (hK_0_1 : ∀ j : Int, 0 ≤ j → j < 2000 → (-128) ≤ tape_0 j ∧ tape_0 j ≤ 127) (kz_0_8 : 0 ≤ fault_0 ∧ fault_0 ≤ 5) (kz_0_9 : 0 ≤ faultPlace_0 ∧ faultPlace_0 ≤ 2000) (kz_0_11 : 0 ≤ pos_0 ∧ pos_0 ≤ 2000) (kz_0_12 : 0 ≤ kind_0 ∧ kind_0 ≤ 4) (kz_0_15 : 0 ≤ from_0 ∧ from_0 ≤ 2000) : 1 * x17 + ((-1) * x2 + 0) ≤ 0 := by
  first | with_reducible assumption | ((have f5_c0 := f5.1); (have f5_c1 := f5.2); (try and_intros) <;> first | with_reducible assumption | (clear f5_c0 f5_c1 f5 f13 hK_0_1; omega)) | ((have f5_c0 := f5.1); (have f5_c1 := f5.2); (try and_intros) <;> first | with_reducible assumption | (clear f5_c0 f5_c1 f5 hK_0_1; omega)) | omega
set_option maxHeartbeats 4000000 in
theorem vc_Mo_of_at_s5003_39_6 (x14 : Int) (x15 : Int) (x16 : Int) (x17 : Int) (kind_0 : Int) (tape_0 : Int → Int) (from_0 : Int) (pos_0 : Int) (fault_0 : Int) (faultPlace_0 : Int) (k14 : 1 ≤ x14 ∧ x14 ≤ 1) (k15 : 0 ≤ x15 ∧ x15 ≤ 2000) (k16 : 0 ≤ x16 ∧ x16 ≤ 5) (k17 : 0 ≤ x17 ∧ x17 ≤ 0) (f5 : ((kind_0 = 1) → (pos_0 ≤ (from_0 + 8))) ∧ ((kind_0 = 0) ∨ ((from_0 + 1) ≤ pos_0))) (f13 : ((1 ≤ x16) ∧ (fault_0 = x16)) ∨ ((x16 = 0) ∧ ((fault_0 = x14) ∧ (faultPlace_0 = x15)))) (hK_0_1 : ∀ j : Int, 0 ≤ j → j < 2000 → (-128) ≤ tape_0 j ∧ tape_0 j ≤ 127) (kz_0_8 : 0 ≤ fault_0 ∧ fault_0 ≤ 5) (kz_0_9 : 0 ≤ faultPlace_0 ∧ faultPlace_0 ≤ 2000) (kz_0_11 : 0 ≤ pos_0 ∧ pos_0 ≤ 2000) (kz_0_12 : 0 ≤ kind_0 ∧ kind_0 ≤ 4) (kz_0_15 : 0 ≤ from_0 ∧ from_0 ≤ 2000) : (-1) * x17 + 0 ≤ 0 := by
  first | with_reducible assumption | ((have f5_c0 := f5.1); (have f5_c1 := f5.2); (try and_intros) <;> first | with_reducible assumption | (clear f5_c0 f5_c1 f5 f13 hK_0_1; omega)) | ((have f5_c0 := f5.1); (have f5_c1 := f5.2); (try and_intros) <;> first | with_reducible assumption | (clear f5_c0 f5_c1 f5 hK_0_1; omega)) | omega
set_option maxHeartbeats 4000000 in
theorem vc_Mo_of_at_s5003_39_7 (x4 : Int) (x5 : Int) (x6 : Int) (x12 : Int) (x14 : Int) (x15 : Int) (x16 : Int) (x17 : Int) (place_0 : Int) (kind_0 : Int) (tape_0 : Int → Int) (limit_0 : Int) (from_0 : Int) (pos_0 : Int) (fault_0 : Int) (faultPlace_0 : Int) (value_0 : Int) (all_0 : Int → Int) (r_0 : Int) (k4 : (-1) ≤ x4 ∧ x4 ≤ 48) (k5 : 0 ≤ x5 ∧ x5 ≤ 7) (k6 : 0 ≤ x6 ∧ x6 ≤ 4) (k12 : 0 ≤ x12 ∧ x12 ≤ 4) (k14 : 1 ≤ x14 ∧ x14 ≤ 1) (k15 : 0 ≤ x15 ∧ x15 ≤ 2000) (k16 : 0 ≤ x16 ∧ x16 ≤ 5) (k17 : 0 ≤ x17 ∧ x17 ≤ 0) (g0 : x15 = place_0) (g1 : x12 = kind_0) (f2 : FSX (limit_0) (tape_0) (x14) (x15)) (f3 : ZH0 (x16)) (f13 : ((1 ≤ x16) ∧ (fault_0 = x16)) ∨ ((x16 = 0) ∧ ((fault_0 = x14) ∧ (faultPlace_0 = x15)))) (kz_0_8 : 0 ≤ fault_0 ∧ fault_0 ≤ 5) (kz_0_9 : 0 ≤ faultPlace_0 ∧ faultPlace_0 ≤ 2000) (kz_0_10 : 0 ≤ limit_0 ∧ limit_0 ≤ 2000) (kz_0_11 : 0 ≤ pos_0 ∧ pos_0 ≤ 2000) (kz_0_12 : 0 ≤ kind_0 ∧ kind_0 ≤ 4) (kz_0_13 : 0 ≤ place_0 ∧ place_0 ≤ 2000) (kz_0_14 : (-49) ≤ value_0 ∧ value_0 ≤ 1048575) (kz_0_15 : 0 ≤ from_0 ∧ from_0 ≤ 2000) : zOFw (limit_0) (pos_0) (kind_0) (place_0) (value_0) (from_0) (fault_0) (faultPlace_0) (r_0) (tape_0) (all_0) (x4) (x17) (x5) (x6) := by
  first | subst g0 | skip
  first | subst g1 | skip
  first
    | exact Or.inl ⟨by omega, fs_w ‹FSX _ _ _ _› ‹ZH0 _› (by assumption)⟩
    | (exfalso; omega)
def o_Mo_of_at_s5003_39 : or_T := (35, 18, [(0, (2, 0, 0, [165])), (2, (0, 9, 9, [])), (3, (0, 0, 2000, [])), (4, (0, -1, 48, [])), (5, (0, 0, 7, [])), (6, (0, 0, 4, [])), (12, (0, 0, 4, [])), (14, (0, 1, 1, [])), (15, (0, 0, 2000, [])), (16, (0, 0, 5, [])), (17, (0, 0, 0, []))], [(9, [15, 7], [13]), (9, [12, 7], [12]), (20, [7, 14, 15], [60, 1, 1, 1026, 10, 1]), (20, [16], [61, 0, 1029]), (20, [7, 7], [30, 0, 1, 1, 15, -1, 1, 11]), (20, [7], [50, 3, 0, 12, 11, 15, 2, 21, 4, 7, 1, 3, 2, 0, 12, 0, 1, 0, 3, 2, 0, 11, 4, 3, 2, 0, 15, 0, 8, 3, 7, 1, 3, 2, 0, 12, 0, 0, 0, 7, 4, 3, 2, 0, 15, 0, 1, 2, 0, 11]), (20, [3, 7], [30, -1, 1, 0, 0, -1, 1, 11]), (24, [0, 7], []), (20, [7], [30, -1, -1, 1, 8]), (20, [16, 7, 14, 15], [50, 2, 0, 1008, 1009, 3, 15, 2, 6, 0, 2, 0, 1, 1, 0, 1, 3, 2, 1, 8, 1, 0, 2, 6, 1, 2, 1, 0, 0, 0, 2, 7, 1, 3, 2, 1, 8, 1, 2, 1, 3, 2, 1, 9, 1, 3])], [], [], [(20, [0, 0], [30, 0, 1, 1, 15, -1, 1, 11]), (20, [0], [50, 3, 0, 12, 11, 15, 2, 21, 4, 7, 1, 3, 2, 0, 12, 0, 1, 0, 3, 2, 0, 11, 4, 3, 2, 0, 15, 0, 8, 3, 7, 1, 3, 2, 0, 12, 0, 0, 0, 7, 4, 3, 2, 0, 15, 0, 1, 2, 0, 11]), (20, [3, 0], [30, 0, 1, 0, 0, -1, 1, 11]), (20, [0, 3], [50, 3, 0, 8, 12, 11, 3, 7, 0, 2, 0, 1, 2, 0, 8, 3, 7, 1, 3, 2, 0, 12, 0, 0, 0, 6, 4, 2, 1, 1, 0, 1, 2, 0, 11]), (20, [0, 4], [50, 1, 0, 8, 3, 7, 0, 2, 0, 1, 2, 0, 8, 0, 2, 0, 0, 1, 1]), (20, [17, 2], [30, 0, 1, 0, 0, -1, 0, 0]), (20, [17], [30, 0, -1, 0, 0]), (20, [0, 4, 17, 5, 6], [60, 9, 2, 1014, 10, 11, 12, 13, 14, 15, 8, 9, 5, 1, 2])], [], [])
theorem oo_Mo_of_at_s5003_39 {kA : Nat → ClassId} : or_ok PRD kA GG o_Mo_of_at_s5003_39 := by
  refine or_mk fun A ta ws vs hD hth hl => ?_
  intro t0 r0 t2 k2 t3 k3 t4 k4 t5 k5 t6 k6 t12 k12 t14 k14 t15 k15 t16 k16 t17 k17 f0 f1 f2 f3 f4 f5 f6 f8 f12 f13
  replace f0 := shm_361 f0
  replace f1 := shm_103 f1
  replace f2 := shm_1724 f2
  replace f4 := shm_1437 f4
  replace f5 := shm_1438 f5
  replace f6 := shm_2005 f6
  replace f8 := shm_5 f8
  replace f12 := shm_305 f12
  replace f13 := shm_306 f13
  have q7 : n_v vs 7 = n_v vs 0 := f8.symm
  simp only [q7] at f0 f1 f2 f4 f5 f6 f12 f13
  have cr_0_1 := fdq_39 hD hth r0
  have g0 : v_iv (n_v vs 15) = w_fi ws (n_v vs 0) 13 := congrArg v_iv f0
  have g1 : v_iv (n_v vs 12) = w_fi ws (n_v vs 0) 12 := congrArg v_iv f1
  have hK_0_1 := elq_7 hD hth cr_0_1
  have kz_0_8 := fdq_34 hD hth r0
  have kz_0_9 := fdq_44 hD hth r0
  have kz_0_10 := fdq_43 hD hth r0
  have kz_0_11 := fdq_237 hD hth r0
  have kz_0_12 := fdq_187 hD hth r0
  have kz_0_13 := fdq_238 hD hth r0
  have kz_0_14 := fdq_188 hD hth r0
  have kz_0_15 := fdq_239 hD hth r0
  have nf0 : fc_1 PRD (20, [0, 0], [30, 0, 1, 1, 15, -1, 1, 11]) ws (vs) := ⟨nf_in hl rfl, sgq_1437 (vc_Mo_of_at_s5003_39_0 (v_iv (n_v vs 14)) (v_iv (n_v vs 15)) (v_iv (n_v vs 16)) (w_fi ws (n_v vs 0) 12) (w_ei ws (w_ar ws (n_v vs 0) 1)) (w_fi ws (n_v vs 0) 15) (w_fi ws (n_v vs 0) 11) (w_fi ws (n_v vs 0) 8) (w_fi ws (n_v vs 0) 9) k14 k15 k16 f4 f5 f13 hK_0_1 kz_0_8 kz_0_9 kz_0_11 kz_0_12 kz_0_15)⟩
  have nf1 : fc_1 PRD (20, [0], [50, 3, 0, 12, 11, 15, 2, 21, 4, 7, 1, 3, 2, 0, 12, 0, 1, 0, 3, 2, 0, 11, 4, 3, 2, 0, 15, 0, 8, 3, 7, 1, 3, 2, 0, 12, 0, 0, 0, 7, 4, 3, 2, 0, 15, 0, 1, 2, 0, 11]) ws (vs) := ⟨nf_in hl rfl, sgq_1438 (vc_Mo_of_at_s5003_39_1 (v_iv (n_v vs 14)) (v_iv (n_v vs 15)) (v_iv (n_v vs 16)) (w_fi ws (n_v vs 0) 12) (w_ei ws (w_ar ws (n_v vs 0) 1)) (w_fi ws (n_v vs 0) 15) (w_fi ws (n_v vs 0) 11) (w_fi ws (n_v vs 0) 8) (w_fi ws (n_v vs 0) 9) k14 k15 k16 f5 f13 hK_0_1 kz_0_8 kz_0_9 kz_0_11 kz_0_12 kz_0_15)⟩
  have nf2 : fc_1 PRD (20, [3, 0], [30, 0, 1, 0, 0, -1, 1, 11]) ws (vs) := ⟨nf_in hl rfl, sgq_1431 (vc_Mo_of_at_s5003_39_2 (v_iv (n_v vs 3)) (v_iv (n_v vs 14)) (v_iv (n_v vs 15)) (v_iv (n_v vs 16)) (w_fi ws (n_v vs 0) 12) (w_ei ws (w_ar ws (n_v vs 0) 1)) (w_fi ws (n_v vs 0) 15) (w_fi ws (n_v vs 0) 11) (w_fi ws (n_v vs 0) 8) (w_fi ws (n_v vs 0) 9) k3 k14 k15 k16 f5 f6 f13 hK_0_1 kz_0_8 kz_0_9 kz_0_11 kz_0_12 kz_0_15)⟩
  have nf3 : fc_1 PRD (20, [0, 3], [50, 3, 0, 8, 12, 11, 3, 7, 0, 2, 0, 1, 2, 0, 8, 3, 7, 1, 3, 2, 0, 12, 0, 0, 0, 6, 4, 2, 1, 1, 0, 1, 2, 0, 11]) ws (vs) := ⟨nf_in hl rfl, sgq_1722 (vc_Mo_of_at_s5003_39_3 (v_iv (n_v vs 3)) (v_iv (n_v vs 14)) (v_iv (n_v vs 15)) (v_iv (n_v vs 16)) (w_fi ws (n_v vs 0) 12) (w_ei ws (w_ar ws (n_v vs 0) 1)) (w_fi ws (n_v vs 0) 15) (w_fi ws (n_v vs 0) 11) (w_fi ws (n_v vs 0) 8) (w_fi ws (n_v vs 0) 9) k3 k14 k15 k16 f5 f12 f13 hK_0_1 kz_0_8 kz_0_9 kz_0_11 kz_0_12 kz_0_15)⟩
  have nf4 : fc_1 PRD (20, [0, 4], [50, 1, 0, 8, 3, 7, 0, 2, 0, 1, 2, 0, 8, 0, 2, 0, 0, 1, 1]) ws (vs) := ⟨nf_in hl rfl, sgq_2000 (vc_Mo_of_at_s5003_39_4 (v_iv (n_v vs 4)) (v_iv (n_v vs 14)) (v_iv (n_v vs 15)) (v_iv (n_v vs 16)) (w_fi ws (n_v vs 0) 12) (w_ei ws (w_ar ws (n_v vs 0) 1)) (w_fi ws (n_v vs 0) 15) (w_fi ws (n_v vs 0) 11) (w_fi ws (n_v vs 0) 8) (w_fi ws (n_v vs 0) 9) k4 k14 k15 k16 f5 f12 f13 hK_0_1 kz_0_8 kz_0_9 kz_0_11 kz_0_12 kz_0_15)⟩
  have nf5 : fc_1 PRD (20, [17, 2], [30, 0, 1, 0, 0, -1, 0, 0]) ws (vs) := ⟨nf_in hl rfl, sgq_201 (vc_Mo_of_at_s5003_39_5 (v_iv (n_v vs 2)) (v_iv (n_v vs 14)) (v_iv (n_v vs 15)) (v_iv (n_v vs 16)) (v_iv (n_v vs 17)) (w_fi ws (n_v vs 0) 12) (w_ei ws (w_ar ws (n_v vs 0) 1)) (w_fi ws (n_v vs 0) 15) (w_fi ws (n_v vs 0) 11) (w_fi ws (n_v vs 0) 8) (w_fi ws (n_v vs 0) 9) k2 k14 k15 k16 k17 f5 f13 hK_0_1 kz_0_8 kz_0_9 kz_0_11 kz_0_12 kz_0_15)⟩
  have nf6 : fc_1 PRD (20, [17], [30, 0, -1, 0, 0]) ws (vs) := ⟨nf_in hl rfl, sgq_2002 (vc_Mo_of_at_s5003_39_6 (v_iv (n_v vs 14)) (v_iv (n_v vs 15)) (v_iv (n_v vs 16)) (v_iv (n_v vs 17)) (w_fi ws (n_v vs 0) 12) (w_ei ws (w_ar ws (n_v vs 0) 1)) (w_fi ws (n_v vs 0) 15) (w_fi ws (n_v vs 0) 11) (w_fi ws (n_v vs 0) 8) (w_fi ws (n_v vs 0) 9) k14 k15 k16 k17 f5 f13 hK_0_1 kz_0_8 kz_0_9 kz_0_11 kz_0_12 kz_0_15)⟩
  have nf7 : fc_1 PRD (20, [0, 4, 17, 5, 6], [60, 9, 2, 1014, 10, 11, 12, 13, 14, 15, 8, 9, 5, 1, 2]) ws (vs) := ⟨nf_in hl rfl, sgq_2016 (vc_Mo_of_at_s5003_39_7 (v_iv (n_v vs 4)) (v_iv (n_v vs 5)) (v_iv (n_v vs 6)) (v_iv (n_v vs 12)) (v_iv (n_v vs 14)) (v_iv (n_v vs 15)) (v_iv (n_v vs 16)) (v_iv (n_v vs 17)) (w_fi ws (n_v vs 0) 13) (w_fi ws (n_v vs 0) 12) (w_ei ws (w_ar ws (n_v vs 0) 1)) (w_fi ws (n_v vs 0) 10) (w_fi ws (n_v vs 0) 15) (w_fi ws (n_v vs 0) 11) (w_fi ws (n_v vs 0) 8) (w_fi ws (n_v vs 0) 9) (w_fi ws (n_v vs 0) 14) (w_ei ws (w_ar ws (n_v vs 0) 2)) (w_fi ws (n_v vs 0) 5) k4 k5 k6 k12 k14 k15 k16 k17 g0 g1 f2 (shm_1725 f3) f13 kz_0_8 kz_0_9 kz_0_10 kz_0_11 kz_0_12 kz_0_13 kz_0_14 kz_0_15)⟩
  refine ⟨(fun _ h => (by cases h)), [], trivial, ?_, (fun _ h => (by cases h))⟩
  rw [List.append_nil]
  exact List.forall_mem_cons.mpr ⟨⟨show (20 : Nat) < 100 from by decide, nf0⟩, List.forall_mem_cons.mpr ⟨⟨show (20 : Nat) < 100 from by decide, nf1⟩, List.forall_mem_cons.mpr ⟨⟨show (20 : Nat) < 100 from by decide, nf2⟩, List.forall_mem_cons.mpr ⟨⟨show (20 : Nat) < 100 from by decide, nf3⟩, List.forall_mem_cons.mpr ⟨⟨show (20 : Nat) < 100 from by decide, nf4⟩, List.forall_mem_cons.mpr ⟨⟨show (20 : Nat) < 100 from by decide, nf5⟩, List.forall_mem_cons.mpr ⟨⟨show (20 : Nat) < 100 from by decide, nf6⟩, List.forall_mem_cons.mpr ⟨⟨show (20 : Nat) < 100 from by decide, nf7⟩, (fun _ h => (by cases h))⟩⟩⟩⟩⟩⟩⟩⟩
set_option maxHeartbeats 4000000 in
theorem vc_Mo_of_at_s5003_40_0 (x14 : Int) (kind_0 : Int) (fault_0 : Int) (from_0 : Int) (pos_0 : Int) (tape_0 : Int → Int) (k14 : 0 ≤ x14 ∧ x14 ≤ 0) (f1 : (x14 = 1) → ((kind_0 = 3) ∧ (fault_0 = 0))) (f5 : 1 * from_0 + ((-1) * pos_0 + 0) ≤ 0) (f6 : ((kind_0 = 1) → (pos_0 ≤ (from_0 + 8))) ∧ ((kind_0 = 0) ∨ ((from_0 + 1) ≤ pos_0))) (hK_0_1 : ∀ j : Int, 0 ≤ j → j < 2000 → (-128) ≤ tape_0 j ∧ tape_0 j ≤ 127) (kz_0_8 : 0 ≤ fault_0 ∧ fault_0 ≤ 5) (kz_0_11 : 0 ≤ pos_0 ∧ pos_0 ≤ 2000) (kz_0_12 : 0 ≤ kind_0 ∧ kind_0 ≤ 4) (kz_0_15 : 0 ≤ from_0 ∧ from_0 ≤ 2000) : 1 * from_0 + ((-1) * pos_0 + 0) ≤ 0 := by
  first | with_reducible assumption | ((have f6_c0 := f6.1); (have f6_c1 := f6.2); (try and_intros) <;> first | with_reducible assumption | (clear f6_c0 f6_c1 f6 hK_0_1 f1; omega)) | ((have f6_c0 := f6.1); (have f6_c1 := f6.2); (first | have f1_b := f1 (by clear f6_c0 f6_c1 f6 hK_0_1 f1; omega) | skip); (first | have f1_d := f1 (by with_reducible assumption) | skip); (try and_intros) <;> first | with_reducible assumption | (clear f6_c0 f6_c1 f6 hK_0_1 f1; omega)) | omega
set_option maxHeartbeats 4000000 in
theorem vc_Mo_of_at_s5003_40_1 (x14 : Int) (kind_0 : Int) (fault_0 : Int) (from_0 : Int) (pos_0 : Int) (tape_0 : Int → Int) (k14 : 0 ≤ x14 ∧ x14 ≤ 0) (f1 : (x14 = 1) → ((kind_0 = 3) ∧ (fault_0 = 0))) (f6 : ((kind_0 = 1) → (pos_0 ≤ (from_0 + 8))) ∧ ((kind_0 = 0) ∨ ((from_0 + 1) ≤ pos_0))) (hK_0_1 : ∀ j : Int, 0 ≤ j → j < 2000 → (-128) ≤ tape_0 j ∧ tape_0 j ≤ 127) (kz_0_8 : 0 ≤ fault_0 ∧ fault_0 ≤ 5) (kz_0_11 : 0 ≤ pos_0 ∧ pos_0 ≤ 2000) (kz_0_12 : 0 ≤ kind_0 ∧ kind_0 ≤ 4) (kz_0_15 : 0 ≤ from_0 ∧ from_0 ≤ 2000) : ((kind_0 = 1) → (pos_0 ≤ (from_0 + 8))) ∧ ((kind_0 = 0) ∨ ((from_0 + 1) ≤ pos_0)) := by
  first | with_reducible assumption | ((have f6_c0 := f6.1); (have f6_c1 := f6.2); (try and_intros) <;> first | with_reducible assumption | (clear f6_c0 f6_c1 f6 hK_0_1 f1; omega)) | ((have f6_c0 := f6.1); (have f6_c1 := f6.2); (first | have f1_b := f1 (by clear f6_c0 f6_c1 f6 hK_0_1 f1; omega) | skip); (first | have f1_d := f1 (by with_reducible assumption) | skip); (try and_intros) <;> first | with_reducible assumption | (clear f6_c0 f6_c1 f6 hK_0_1 f1; omega)) | omega
set_option maxHeartbeats 4000000 in
theorem vc_Mo_of_at_s5003_40_2 (x3 : Int) (x14 : Int) (kind_0 : Int) (fault_0 : Int) (from_0 : Int) (pos_0 : Int) (tape_0 : Int → Int) (k3 : 0 ≤ x3 ∧ x3 ≤ 2000) (k14 : 0 ≤ x14 ∧ x14 ≤ 0) (f1 : (x14 = 1) → ((kind_0 = 3) ∧ (fault_0 = 0))) (f6 : ((kind_0 = 1) → (pos_0 ≤ (from_0 + 8))) ∧ ((kind_0 = 0) ∨ ((from_0 + 1) ≤ pos_0))) (f7 : 1 * x3 + ((-1) * pos_0 + 0) ≤ (-1)) (hK_0_1 : ∀ j : Int, 0 ≤ j → j < 2000 → (-128) ≤ tape_0 j ∧ tape_0 j ≤ 127) (kz_0_8 : 0 ≤ fault_0 ∧ fault_0 ≤ 5) (kz_0_11 : 0 ≤ pos_0 ∧ pos_0 ≤ 2000) (kz_0_12 : 0 ≤ kind_0 ∧ kind_0 ≤ 4) (kz_0_15 : 0 ≤ from_0 ∧ from_0 ≤ 2000) : 1 * x3 + ((-1) * pos_0 + 0) ≤ (-1) := by
  first | with_reducible assumption | ((have f6_c0 := f6.1); (have f6_c1 := f6.2); (try and_intros) <;> first | with_reducible assumption | (clear f6_c0 f6_c1 f6 hK_0_1 f1; omega)) | ((have f6_c0 := f6.1); (have f6_c1 := f6.2); (first | have f1_b := f1 (by clear f6_c0 f6_c1 f6 hK_0_1 f1; omega) | skip); (first | have f1_d := f1 (by with_reducible assumption) | skip); (try and_intros) <;> first | with_reducible assumption | (clear f6_c0 f6_c1 f6 hK_0_1 f1; omega)) | omega
set_option maxHeartbeats 4000000 in
theorem vc_Mo_of_at_s5003_40_3 (x2 : Int) (x10 : Int) (x14 : Int) (kind_0 : Int) (fault_0 : Int) (from_0 : Int) (pos_0 : Int) (tape_0 : Int → Int) (k2 : 9 ≤ x2 ∧ x2 ≤ 9) (k10 : (-49) ≤ x10 ∧ x10 ≤ 1048575) (k14 : 0 ≤ x14 ∧ x14 ≤ 0) (f1 : (x14 = 1) → ((kind_0 = 3) ∧ (fault_0 = 0))) (f6 : ((kind_0 = 1) → (pos_0 ≤ (from_0 + 8))) ∧ ((kind_0 = 0) ∨ ((from_0 + 1) ≤ pos_0))) (f8 : 1 * x10 + ((-1) * x2 + 0) ≤ 0) (hK_0_1 : ∀ j : Int, 0 ≤ j → j < 2000 → (-128) ≤ tape_0 j ∧ tape_0 j ≤ 127) (kz_0_8 : 0 ≤ fault_0 ∧ fault_0 ≤ 5) (kz_0_11 : 0 ≤ pos_0 ∧ pos_0 ≤ 2000) (kz_0_12 : 0 ≤ kind_0 ∧ kind_0 ≤ 4) (kz_0_15 : 0 ≤ from_0 ∧ from_0 ≤ 2000) : 1 * x10 + ((-1) * x2 + 0) ≤ 0 := by
  first | with_reducible assumption | ((have f6_c0 := f6.1); (have f6_c1 := f6.2); (try and_intros) <;> first | with_reducible assumption | (clear f6_c0 f6_c1 f6 hK_0_1 f1; omega)) | ((have f6_c0 := f6.1); (have f6_c1 := f6.2); (first | have f1_b := f1 (by clear f6_c0 f6_c1 f6 hK_0_1 f1; omega) | skip); (first | have f1_d := f1 (by with_reducible assumption) | skip); (try and_intros) <;> first | with_reducible assumption | (clear f6_c0 f6_c1 f6 hK_0_1 f1; omega)) | omega
set_option maxHeartbeats 4000000 in
theorem vc_Mo_of_at_s5003_40_4 (x10 : Int) (x14 : Int) (kind_0 : Int) (fault_0 : Int) (from_0 : Int) (pos_0 : Int) (tape_0 : Int → Int) (k10 : (-49) ≤ x10 ∧ x10 ≤ 1048575) (k14 : 0 ≤ x14 ∧ x14 ≤ 0) (f1 : (x14 = 1) → ((kind_0 = 3) ∧ (fault_0 = 0))) (f6 : ((kind_0 = 1) → (pos_0 ≤ (from_0 + 8))) ∧ ((kind_0 = 0) ∨ ((from_0 + 1) ≤ pos_0))) (f9 : (-1) * x10 + 0 ≤ 0) (hK_0_1 : ∀ j : Int, 0 ≤ j → j < 2000 → (-128) ≤ tape_0 j ∧ tape_0 j ≤ 127) (kz_0_8 : 0 ≤ fault_0 ∧ fault_0 ≤ 5) (kz_0_11 : 0 ≤ pos_0 ∧ pos_0 ≤ 2000) (kz_0_12 : 0 ≤ kind_0 ∧ kind_0 ≤ 4) (kz_0_15 : 0 ≤ from_0 ∧ from_0 ≤ 2000) : (-1) * x10 + 0 ≤ 0 := by
  first | with_reducible assumption | ((have f6_c0 := f6.1); (have f6_c1 := f6.2); (try and_intros) <;> first | with_reducible assumption | (clear f6_c0 f6_c1 f6 hK_0_1 f1; omega)) | ((have f6_c0 := f6.1); (have f6_c1 := f6.2); (first | have f1_b := f1 (by clear f6_c0 f6_c1 f6 hK_0_1 f1; omega) | skip); (first | have f1_d := f1 (by with_reducible assumption) | skip); (try and_intros) <;> first | with_reducible assumption | (clear f6_c0 f6_c1 f6 hK_0_1 f1; omega)) | omega
set_option maxHeartbeats 4000000 in
theorem vc_Mo_of_at_s5003_40_5 (x4 : Int) (x14 : Int) (kind_0 : Int) (fault_0 : Int) (from_0 : Int) (pos_0 : Int) (tape_0 : Int → Int) (k4 : (-1) ≤ x4 ∧ x4 ≤ 48) (k14 : 0 ≤ x14 ∧ x14 ≤ 0) (f1 : (x14 = 1) → ((kind_0 = 3) ∧ (fault_0 = 0))) (f6 : ((kind_0 = 1) → (pos_0 ≤ (from_0 + 8))) ∧ ((kind_0 = 0) ∨ ((from_0 + 1) ≤ pos_0))) (f10 : (-1) * x4 + 0 ≤ 0) (hK_0_1 : ∀ j : Int, 0 ≤ j → j < 2000 → (-128) ≤ tape_0 j ∧ tape_0 j ≤ 127) (kz_0_8 : 0 ≤ fault_0 ∧ fault_0 ≤ 5) (kz_0_11 : 0 ≤ pos_0 ∧ pos_0 ≤ 2000) (kz_0_12 : 0 ≤ kind_0 ∧ kind_0 ≤ 4) (kz_0_15 : 0 ≤ from_0 ∧ from_0 ≤ 2000) : (-1) * x4 + 0 ≤ 0 := by
  first | with_reducible assumption | ((have f6_c0 := f6.1); (have f6_c1 := f6.2); (try and_intros) <;> first | with_reducible assumption | (clear f6_c0 f6_c1 f6 hK_0_1 f1; omega)) | ((have f6_c0 := f6.1); (have f6_c1 := f6.2); (first | have f1_b := f1 (by clear f6_c0 f6_c1 f6 hK_0_1 f1; omega) | skip); (first | have f1_d := f1 (by with_reducible assumption) | skip); (try and_intros) <;> first | with_reducible assumption | (clear f6_c0 f6_c1 f6 hK_0_1 f1; omega)) | omega
set_option maxHeartbeats 4000000 in
theorem vc_Mo_of_at_s5003_40_6 (x4 : Int) (x5 : Int) (x6 : Int) (x10 : Int) (x11 : Int) (x13 : Int) (x14 : Int) (kind_0 : Int) (fault_0 : Int) (value_0 : Int) (from_0 : Int) (pos_0 : Int) (tape_0 : Int → Int) (all_0 : Int → Int) (limit_0 : Int) (place_0 : Int) (r_0 : Int) (k4 : (-1) ≤ x4 ∧ x4 ≤ 48) (k5 : 0 ≤ x5 ∧ x5 ≤ 7) (k6 : 0 ≤ x6 ∧ x6 ≤ 4) (k10 : (-49) ≤ x10 ∧ x10 ≤ 1048575) (k11 : 0 ≤ x11 ∧ x11 ≤ 0) (k13 : 93 ≤ x13 ∧ x13 ≤ 93) (k14 : 0 ≤ x14 ∧ x14 ≤ 0) (f0 : x14 = 0) (f2 : SGQ (fault_0) (kind_0) (value_0) (x13) (x14)) (g4 : x11 = fault_0) (f12 : zO12w (limit_0) (pos_0) (kind_0) (place_0) (value_0) (from_0) (fault_0) (r_0) (tape_0) (all_0) (x4) (x10) (x5) (x6)) (kz_0_8 : 0 ≤ fault_0 ∧ fault_0 ≤ 5) (kz_0_10 : 0 ≤ limit_0 ∧ limit_0 ≤ 2000) (kz_0_11 : 0 ≤ pos_0 ∧ pos_0 ≤ 2000) (kz_0_12 : 0 ≤ kind_0 ∧ kind_0 ≤ 4) (kz_0_13 : 0 ≤ place_0 ∧ place_0 ≤ 2000) (kz_0_14 : (-49) ≤ value_0 ∧ value_0 ≤ 1048575) (kz_0_15 : 0 ≤ from_0 ∧ from_0 ≤ 2000) : zOIw (limit_0) (pos_0) (kind_0) (place_0) (value_0) (from_0) (fault_0) (r_0) (tape_0) (all_0) (x4) (x10) (x5) (x6) := by
  first | subst g4 | skip
  first
    | exact oi_start_w ‹zTS9w _ _ _ _ _ _ _ _ _› ‹TKR _ _ _ _ _ _ _ _› (by omega)
    | exact of_back_w ‹zO12w _ _ _ _ _ _ _ _ _ _ _ _ _ _› ‹SGQ _ _ _ _ _› (by omega) (by omega)
    | (exfalso; omega)
set_option maxHeartbeats 4000000 in
theorem vc_Mo_of_at_s5003_40_9 (x14 : Int) (kind_0 : Int) (fault_0 : Int) (from_0 : Int) (pos_0 : Int) (tape_0 : Int → Int) (gx : Int) (k14 : 0 ≤ x14 ∧ x14 ≤ 0) (f1 : (x14 = 1) → ((kind_0 = 3) ∧ (fault_0 = 0))) (f6 : ((kind_0 = 1) → (pos_0 ≤ (from_0 + 8))) ∧ ((kind_0 = 0) ∨ ((from_0 + 1) ≤ pos_0))) (hK_0_1 : ∀ j : Int, 0 ≤ j → j < 2000 → (-128) ≤ tape_0 j ∧ tape_0 j ≤ 127) (kz_0_8 : 0 ≤ fault_0 ∧ fault_0 ≤ 5) (kz_0_11 : 0 ≤ pos_0 ∧ pos_0 ≤ 2000) (kz_0_12 : 0 ≤ kind_0 ∧ kind_0 ≤ 4) (kz_0_15 : 0 ≤ from_0 ∧ from_0 ≤ 2000) (ex2 : gx = 2000 + ((-1) * pos_0 + 0)) : 1 * gx + (1 * pos_0 + 0) ≤ 2000 := by
  first | with_reducible assumption | ((have f6_c0 := f6.1); (have f6_c1 := f6.2); (try and_intros) <;> first | with_reducible assumption | (clear f6_c0 f6_c1 f6 hK_0_1 f1; omega)) | ((have f6_c0 := f6.1); (have f6_c1 := f6.2); (first | have f1_b := f1 (by clear f6_c0 f6_c1 f6 hK_0_1 f1; omega) | skip); (first | have f1_d := f1 (by with_reducible assumption) | skip); (try and_intros) <;> first | with_reducible assumption | (clear f6_c0 f6_c1 f6 hK_0_1 f1; omega)) | omega
set_option maxHeartbeats 4000000 in
theorem vc_Mo_of_at_s5003_40_10 (x14 : Int) (kind_0 : Int) (fault_0 : Int) (from_0 : Int) (pos_0 : Int) (tape_0 : Int → Int) (gx : Int) (k14 : 0 ≤ x14 ∧ x14 ≤ 0) (f1 : (x14 = 1) → ((kind_0 = 3) ∧ (fault_0 = 0))) (f6 : ((kind_0 = 1) → (pos_0 ≤ (from_0 + 8))) ∧ ((kind_0 = 0) ∨ ((from_0 + 1) ≤ pos_0))) (hK_0_1 : ∀ j : Int, 0 ≤ j → j < 2000 → (-128) ≤ tape_0 j ∧ tape_0 j ≤ 127) (kz_0_8 : 0 ≤ fault_0 ∧ fault_0 ≤ 5) (kz_0_11 : 0 ≤ pos_0 ∧ pos_0 ≤ 2000) (kz_0_12 : 0 ≤ kind_0 ∧ kind_0 ≤ 4) (kz_0_15 : 0 ≤ from_0 ∧ from_0 ≤ 2000) (ex2 : gx = 2000 + ((-1) * pos_0 + 0)) : (-1) * gx + ((-1) * pos_0 + 0) ≤ (-2000) := by
  first | with_reducible assumption | ((have f6_c0 := f6.1); (have f6_c1 := f6.2); (try and_intros) <;> first | with_reducible assumption | (clear f6_c0 f6_c1 f6 hK_0_1 f1; omega)) | ((have f6_c0 := f6.1); (have f6_c1 := f6.2); (first | have f1_b := f1 (by clear f6_c0 f6_c1 f6 hK_0_1 f1; omega) | skip); (first | have f1_d := f1 (by with_reducible assumption) | skip); (try and_intros) <;> first | with_reducible assumption | (clear f6_c0 f6_c1 f6 hK_0_1 f1; omega)) | omega
def o_Mo_of_at_s5003_40 : or_T := (17, 15, [(0, (2, 0, 0, [165])), (2, (0, 9, 9, [])), (3, (0, 0, 2000, [])), (4, (0, -1, 48, [])), (5, (0, 0, 7, [])), (6, (0, 0, 4, [])), (7, (2, 0, 0, [165])), (9, (0, 9, 9, [])), (10, (0, -49, 1048575, [])), (11, (0, 0, 0, [])), (12, (0, 0, 2000, [])), (13, (0, 93, 93, [])), (14, (0, 0, 0, []))], [(8, [14], [0]), (20, [14, 7], [50, 2, 0, 1012, 1008, 4, 6, 1, 2, 1, 0, 0, 1, 2, 7, 1, 3, 2, 1, 12, 0, 3, 1, 3, 2, 1, 8, 0, 0]), (20, [7, 13, 14], [60, 3, 0, 963, 8, 12, 14]), (8, [11], [0]), (9, [11, 7], [8]), (20, [7, 7], [30, 0, 1, 1, 15, -1, 1, 11]), (20, [7], [50, 3, 0, 12, 11, 15, 2, 21, 4, 7, 1, 3, 2, 0, 12, 0, 1, 0, 3, 2, 0, 11, 4, 3, 2, 0, 15, 0, 8, 3, 7, 1, 3, 2, 0, 12, 0, 0, 0, 7, 4, 3, 2, 0, 15, 0, 1, 2, 0, 11]), (20, [3, 7], [30, -1, 1, 0, 0, -1, 1, 11]), (23, [10, 9], [0, 1, -1]), (23, [10], [0, -1]), (23, [4], [0, -1]), (20, [12, 7], [30, -2001, -1, 0, 0, -1, 1, 11]), (20, [7, 4, 10, 5, 6], [60, 8, 2, 1000, 10, 11, 12, 13, 14, 15, 8, 5, 1, 2]), (24, [0, 7], []), (24, [2, 9], [])], [], [(0, 0, 2000, [])], [(20, [7, 7], [30, 0, 1, 1, 15, -1, 1, 11]), (20, [7], [50, 3, 0, 12, 11, 15, 2, 21, 4, 7, 1, 3, 2, 0, 12, 0, 1, 0, 3, 2, 0, 11, 4, 3, 2, 0, 15, 0, 8, 3, 7, 1, 3, 2, 0, 12, 0, 0, 0, 7, 4, 3, 2, 0, 15, 0, 1, 2, 0, 11]), (20, [3, 7], [30, -1, 1, 0, 0, -1, 1, 11]), (23, [10, 9], [0, 1, -1]), (23, [10], [0, -1]), (23, [4], [0, -1]), (20, [7, 4, 10, 5, 6], [60, 8, 2, 998, 10, 11, 12, 13, 14, 15, 8, 5, 1, 2]), (24, [0, 7], []), (24, [2, 9], []), (20, [15, 7], [30, 2000, 1, 0, 0, 1, 1, 11]), (20, [15, 7], [30, -2000, -1, 0, 0, -1, 1, 11])], [(15, 12, -1000000000000, -1)], [])
theorem oo_Mo_of_at_s5003_40 {kA : Nat → ClassId} : or_ok PRD kA GG o_Mo_of_at_s5003_40 := by
  refine or_mk fun A ta ws vs hD hth hl => ?_
  intro t0 r0 t2 k2 t3 k3 t4 k4 t5 k5 t6 k6 t7 r7 t9 k9 t10 k10 t11 k11 t12 k12 t13 k13 t14 k14 f0 f1 f2 f3 f4 f5 f6 f7 f8 f9 f10 f11 f12 f13 f14
  replace f0 := shm_192 f0
  replace f1 := shm_730 f1
  replace f2 := shm_731 f2
  replace f3 := shm_192 f3
  replace f4 := shm_293 f4
  replace f5 := shm_1437 f5
  replace f6 := shm_1438 f6
  replace f7 := shm_2005 f7
  replace f8 := shm_7 f8
  replace f9 := shm_1043 f9
  replace f10 := shm_1043 f10
  replace f11 := shm_2013 f11
  replace f12 := shm_2021 f12
  replace f13 := shm_5 f13
  replace f14 := shm_5 f14
  have q7 : n_v vs 7 = n_v vs 0 := f13.symm
  have q9 : n_v vs 9 = n_v vs 2 := f14.symm
  simp only [q7, q9] at f1 f2 f4 f5 f6 f7 f8 f11 f12
  have cr_0_1 := fdq_39 hD hth r0
  have cr_0_2 := fdq_10 hD hth r0
  have g4 : v_iv (n_v vs 11) = w_fi ws (n_v vs 0) 8 := congrArg v_iv f4
  have hK_0_1 := elq_7 hD hth cr_0_1
  have kz_0_8 := fdq_34 hD hth r0
  have kz_0_10 := fdq_43 hD hth r0
  have kz_0_11 := fdq_237 hD hth r0
  have kz_0_12 := fdq_187 hD hth r0
  have kz_0_13 := fdq_238 hD hth r0
  have kz_0_14 := fdq_188 hD hth r0
  have kz_0_15 := fdq_239 hD hth r0
  have kb_0_11 := fdq_237 hD hth r0
  obtain ⟨x, ex, hx⟩ := iv_ex (ta := ta) (lo := 0) (hi := 2000) (z := 2000 + ((-1) * w_fi ws (n_v vs 0) 11 + 0)) (by omega) (by omega) (by omega) (by omega)
  have ex2 : v_iv (Value.int x) = 2000 + ((-1) * w_fi ws (n_v vs 0) 11 + 0) := ex
  have ex3 : 0 ≤ v_iv (Value.int x) ∧ v_iv (Value.int x) ≤ 2000 := tv_rng hx
  have e_0 : n_v (vs ++ [Value.int x]) 0 = n_v vs 0 := n_v_old (by rw [hl]; decide)
  have e_2 : n_v (vs ++ [Value.int x]) 2 = n_v vs 2 := n_v_old (by rw [hl]; decide)
  have e_3 : n_v (vs ++ [Value.int x]) 3 = n_v vs 3 := n_v_old (by rw [hl]; decide)
  have e_4 : n_v (vs ++ [Value.int x]) 4 = n_v vs 4 := n_v_old (by rw [hl]; decide)
  have e_5 : n_v (vs ++ [Value.int x]) 5 = n_v vs 5 := n_v_old (by rw [hl]; decide)
  have e_6 : n_v (vs ++ [Value.int x]) 6 = n_v vs 6 := n_v_old (by rw [hl]; decide)
  have e_7 : n_v (vs ++ [Value.int x]) 7 = n_v vs 7 := n_v_old (by rw [hl]; decide)
  have e_9 : n_v (vs ++ [Value.int x]) 9 = n_v vs 9 := n_v_old (by rw [hl]; decide)
  have e_10 : n_v (vs ++ [Value.int x]) 10 = n_v vs 10 := n_v_old (by rw [hl]; decide)
  have e_15 : n_v (vs ++ [Value.int x]) 15 = Value.int x := n_v_new hl
  have nf0 : fc_1 PRD (20, [7, 7], [30, 0, 1, 1, 15, -1, 1, 11]) ws (vs ++ [Value.int x]) := by
    refine ⟨nf_inA hl rfl, sgq_1437 ?_⟩
    · show 1 * w_fi ws (n_v (vs ++ [Value.int x]) 7) 15 + ((-1) * w_fi ws (n_v (vs ++ [Value.int x]) 7) 11 + 0) ≤ 0
      simp only [e_7, q7]
      exact vc_Mo_of_at_s5003_40_0 (v_iv (n_v vs 14)) (w_fi ws (n_v vs 0) 12) (w_fi ws (n_v vs 0) 8) (w_fi ws (n_v vs 0) 15) (w_fi ws (n_v vs 0) 11) (w_ei ws (w_ar ws (n_v vs 0) 1)) k14 f1 f5 f6 hK_0_1 kz_0_8 kz_0_11 kz_0_12 kz_0_15
  have nf1 : fc_1 PRD (20, [7], [50, 3, 0, 12, 11, 15, 2, 21, 4, 7, 1, 3, 2, 0, 12, 0, 1, 0, 3, 2, 0, 11, 4, 3, 2, 0, 15, 0, 8, 3, 7, 1, 3, 2, 0, 12, 0, 0, 0, 7, 4, 3, 2, 0, 15, 0, 1, 2, 0, 11]) ws (vs ++ [Value.int x]) := by
    refine ⟨nf_inA hl rfl, sgq_1438 ?_⟩
    · show ((w_fi ws (n_v (vs ++ [Value.int x]) 7) 12 = 1) → (w_fi ws (n_v (vs ++ [Value.int x]) 7) 11 ≤ (w_fi ws (n_v (vs ++ [Value.int x]) 7) 15 + 8))) ∧ ((w_fi ws (n_v (vs ++ [Value.int x]) 7) 12 = 0) ∨ ((w_fi ws (n_v (vs ++ [Value.int x]) 7) 15 + 1) ≤ w_fi ws (n_v (vs ++ [Value.int x]) 7) 11))
      simp only [e_7, q7]
      exact vc_Mo_of_at_s5003_40_1 (v_iv (n_v vs 14)) (w_fi ws (n_v vs 0) 12) (w_fi ws (n_v vs 0) 8) (w_fi ws (n_v vs 0) 15) (w_fi ws (n_v vs 0) 11) (w_ei ws (w_ar ws (n_v vs 0) 1)) k14 f1 f6 hK_0_1 kz_0_8 kz_0_11 kz_0_12 kz_0_15
  have nf2 : fc_1 PRD (20, [3, 7], [30, -1, 1, 0, 0, -1, 1, 11]) ws (vs ++ [Value.int x]) := by
    refine ⟨nf_inA hl rfl, sgq_2005 ?_⟩
    · show 1 * v_iv (n_v (vs ++ [Value.int x]) 3) + ((-1) * w_fi ws (n_v (vs ++ [Value.int x]) 7) 11 + 0) ≤ (-1)
      simp only [e_3, e_7, q7]
      exact vc_Mo_of_at_s5003_40_2 (v_iv (n_v vs 3)) (v_iv (n_v vs 14)) (w_fi ws (n_v vs 0) 12) (w_fi ws (n_v vs 0) 8) (w_fi ws (n_v vs 0) 15) (w_fi ws (n_v vs 0) 11) (w_ei ws (w_ar ws (n_v vs 0) 1)) k3 k14 f1 f6 f7 hK_0_1 kz_0_8 kz_0_11 kz_0_12 kz_0_15
  have nf3 : fc_1 PRD (23, [10, 9], [0, 1, -1]) ws (vs ++ [Value.int x]) := by
    refine ⟨nf_inA hl rfl, sgq_7 ?_⟩
    · show 1 * v_iv (n_v (vs ++ [Value.int x]) 10) + ((-1) * v_iv (n_v (vs ++ [Value.int x]) 9) + 0) ≤ 0
      simp only [e_9, e_10, q9]
      exact vc_Mo_of_at_s5003_40_3 (v_iv (n_v vs 2)) (v_iv (n_v vs 10)) (v_iv (n_v vs 14)) (w_fi ws (n_v vs 0) 12) (w_fi ws (n_v vs 0) 8) (w_fi ws (n_v vs 0) 15) (w_fi ws (n_v vs 0) 11) (w_ei ws (w_ar ws (n_v vs 0) 1)) k2 k10 k14 f1 f6 f8 hK_0_1 kz_0_8 kz_0_11 kz_0_12 kz_0_15
  have nf4 : fc_1 PRD (23, [10], [0, -1]) ws (vs ++ [Value.int x]) := by
    refine ⟨nf_inA hl rfl, sgq_1043 ?_⟩
    · show (-1) * v_iv (n_v (vs ++ [Value.int x]) 10) + 0 ≤ 0
      rw [e_10]
      exact vc_Mo_of_at_s5003_40_4 (v_iv (n_v vs 10)) (v_iv (n_v vs 14)) (w_fi ws (n_v vs 0) 12) (w_fi ws (n_v vs 0) 8) (w_fi ws (n_v vs 0) 15) (w_fi ws (n_v vs 0) 11) (w_ei ws (w_ar ws (n_v vs 0) 1)) k10 k14 f1 f6 f9 hK_0_1 kz_0_8 kz_0_11 kz_0_12 kz_0_15
  have nf5 : fc_1 PRD (23, [4], [0, -1]) ws (vs ++ [Value.int x]) := by
    refine ⟨nf_inA hl rfl, sgq_1043 ?_⟩
    · show (-1) * v_iv (n_v (vs ++ [Value.int x]) 4) + 0 ≤ 0
      rw [e_4]
      exact vc_Mo_of_at_s5003_40_5 (v_iv (n_v vs 4)) (v_iv (n_v vs 14)) (w_fi ws (n_v vs 0) 12) (w_fi ws (n_v vs 0) 8) (w_fi ws (n_v vs 0) 15) (w_fi ws (n_v vs 0) 11) (w_ei ws (w_ar ws (n_v vs 0) 1)) k4 k14 f1 f6 f10 hK_0_1 kz_0_8 kz_0_11 kz_0_12 kz_0_15
  have nf6 : fc_1 PRD (20, [7, 4, 10, 5, 6], [60, 8, 2, 998, 10, 11, 12, 13, 14, 15, 8, 5, 1, 2]) ws (vs ++ [Value.int x]) := by
    refine ⟨nf_inA hl rfl, sgq_2018 ?_⟩
    · show zOIw (w_fi ws (n_v (vs ++ [Value.int x]) 7) 10) (w_fi ws (n_v (vs ++ [Value.int x]) 7) 11) (w_fi ws (n_v (vs ++ [Value.int x]) 7) 12) (w_fi ws (n_v (vs ++ [Value.int x]) 7) 13) (w_fi ws (n_v (vs ++ [Value.int x]) 7) 14) (w_fi ws (n_v (vs ++ [Value.int x]) 7) 15) (w_fi ws (n_v (vs ++ [Value.int x]) 7) 8) (w_fi ws (n_v (vs ++ [Value.int x]) 7) 5) (w_ei ws (w_ar ws (n_v (vs ++ [Value.int x]) 7) 1)) (w_ei ws (w_ar ws (n_v (vs ++ [Value.int x]) 7) 2)) (v_iv (n_v (vs ++ [Value.int x]) 4)) (v_iv (n_v (vs ++ [Value.int x]) 10)) (v_iv (n_v (vs ++ [Value.int x]) 5)) (v_iv (n_v (vs ++ [Value.int x]) 6))
      simp only [e_4, e_5, e_6, e_7, e_10, q7]
      exact vc_Mo_of_at_s5003_40_6 (v_iv (n_v vs 4)) (v_iv (n_v vs 5)) (v_iv (n_v vs 6)) (v_iv (n_v vs 10)) (v_iv (n_v vs 11)) (v_iv (n_v vs 13)) (v_iv (n_v vs 14)) (w_fi ws (n_v vs 0) 12) (w_fi ws (n_v vs 0) 8) (w_fi ws (n_v vs 0) 14) (w_fi ws (n_v vs 0) 15) (w_fi ws (n_v vs 0) 11) (w_ei ws (w_ar ws (n_v vs 0) 1)) (w_ei ws (w_ar ws (n_v vs 0) 2)) (w_fi ws (n_v vs 0) 10) (w_fi ws (n_v vs 0) 13) (w_fi ws (n_v vs 0) 5) k4 k5 k6 k10 k11 k13 k14 f0 f2 g4 f12 kz_0_8 kz_0_10 kz_0_11 kz_0_12 kz_0_13 kz_0_14 kz_0_15
  have nf7 : fc_1 PRD (24, [0, 7], []) ws (vs ++ [Value.int x]) := by
    refine ⟨nf_inA hl rfl, sgq_5 ?_⟩
    · show n_v (vs ++ [Value.int x]) 0 = n_v (vs ++ [Value.int x]) 7
      first | rfl | simp only [e_0, e_7, q7, q9]
  have nf8 : fc_1 PRD (24, [2, 9], []) ws (vs ++ [Value.int x]) := by
    refine ⟨nf_inA hl rfl, sgq_5 ?_⟩
    · show n_v (vs ++ [Value.int x]) 2 = n_v (vs ++ [Value.int x]) 9
      first | rfl | simp only [e_2, e_9, q7, q9]
  have nf9 : fc_1 PRD (20, [15, 7], [30, 2000, 1, 0, 0, 1, 1, 11]) ws (vs ++ [Value.int x]) := by
    refine ⟨nf_inA hl rfl, sgq_2007 ?_⟩
    · show 1 * v_iv (n_v (vs ++ [Value.int x]) 15) + (1 * w_fi ws (n_v (vs ++ [Value.int x]) 7) 11 + 0) ≤ 2000
      simp only [e_7, e_15, q7]
      exact vc_Mo_of_at_s5003_40_9 (v_iv (n_v vs 14)) (w_fi ws (n_v vs 0) 12) (w_fi ws (n_v vs 0) 8) (w_fi ws (n_v vs 0) 15) (w_fi ws (n_v vs 0) 11) (w_ei ws (w_ar ws (n_v vs 0) 1)) (v_iv (Value.int x)) k14 f1 f6 hK_0_1 kz_0_8 kz_0_11 kz_0_12 kz_0_15 ex2
  have nf10 : fc_1 PRD (20, [15, 7], [30, -2000, -1, 0, 0, -1, 1, 11]) ws (vs ++ [Value.int x]) := by
    refine ⟨nf_inA hl rfl, sgq_2008 ?_⟩
    · show (-1) * v_iv (n_v (vs ++ [Value.int x]) 15) + ((-1) * w_fi ws (n_v (vs ++ [Value.int x]) 7) 11 + 0) ≤ (-2000)
      simp only [e_7, e_15, q7]
      exact vc_Mo_of_at_s5003_40_10 (v_iv (n_v vs 14)) (w_fi ws (n_v vs 0) 12) (w_fi ws (n_v vs 0) 8) (w_fi ws (n_v vs 0) 15) (w_fi ws (n_v vs 0) 11) (w_ei ws (w_ar ws (n_v vs 0) 1)) (v_iv (Value.int x)) k14 f1 f6 hK_0_1 kz_0_8 kz_0_11 kz_0_12 kz_0_15 ex2
  obtain ⟨x0, e0, _, _⟩ := tv_int t12 rfl
  have e1 : v_iv (n_v vs 12) = x0.toInt := by rw [e0]; rfl
  have ho : sy_ofs (vs ++ [Value.int x]) (15, 12, -1000000000000, -1) := by
    refine ⟨x, x0, by rw [List.getElem?_append_right (by rw [hl]; decide), hl]; rfl, ?_, ?_, ?_⟩
    · rw [List.getElem?_append_left (by rw [hl]; decide)]; exact n_v_some (by rw [hl]; decide) e0
    · show x0.toInt + (-1000000000000) ≤ x.toInt; omega
    · show x.toInt ≤ x0.toInt + (-1); omega
  exact ⟨(fun _ h => (by cases h)), [Value.int x], ag_one hx, List.forall_mem_cons.mpr ⟨⟨show (20 : Nat) < 100 from by decide, nf0⟩, List.forall_mem_cons.mpr ⟨⟨show (20 : Nat) < 100 from by decide, nf1⟩, List.forall_mem_cons.mpr ⟨⟨show (20 : Nat) < 100 from by decide, nf2⟩, List.forall_mem_cons.mpr ⟨⟨show (23 : Nat) < 100 from by decide, nf3⟩, List.forall_mem_cons.mpr ⟨⟨show (23 : Nat) < 100 from by decide, nf4⟩, List.forall_mem_cons.mpr ⟨⟨show (23 : Nat) < 100 from by decide, nf5⟩, List.forall_mem_cons.mpr ⟨⟨show (20 : Nat) < 100 from by decide, nf6⟩, List.forall_mem_cons.mpr ⟨⟨show (24 : Nat) < 100 from by decide, nf7⟩, List.forall_mem_cons.mpr ⟨⟨show (24 : Nat) < 100 from by decide, nf8⟩, List.forall_mem_cons.mpr ⟨⟨show (20 : Nat) < 100 from by decide, nf9⟩, List.forall_mem_cons.mpr ⟨⟨show (20 : Nat) < 100 from by decide, nf10⟩, (fun _ h => (by cases h))⟩⟩⟩⟩⟩⟩⟩⟩⟩⟩⟩, List.forall_mem_cons.mpr ⟨ho, (fun _ h => (by cases h))⟩⟩
set_option maxHeartbeats 4000000 in
theorem vc_Mo_of_at_s5003_41_0 (x3 : Int) (gx : Int) (k3 : 0 ≤ x3 ∧ x3 ≤ 2000) (ex2 : gx = x3) : 1 * gx + ((-1) * x3 + 0) ≤ 0 := by
  first
    | exact (‹zO12s _ _ _ _ _ _ _ _ _ _ _ _ _ _›).2.1
    | exact (‹zO12w _ _ _ _ _ _ _ _ _ _ _ _ _ _›).1
    | omega
set_option maxHeartbeats 4000000 in
theorem vc_Mo_of_at_s5003_41_1 (x3 : Int) (gx : Int) (k3 : 0 ≤ x3 ∧ x3 ≤ 2000) (ex2 : gx = x3) : (-1) * gx + (1 * x3 + 0) ≤ 0 := by
  first
    | exact (‹zO12s _ _ _ _ _ _ _ _ _ _ _ _ _ _›).2.1
    | exact (‹zO12w _ _ _ _ _ _ _ _ _ _ _ _ _ _›).1
    | omega
set_option maxHeartbeats 4000000 in
theorem vc_Mo_of_at_s5003_41_2 (x4 : Int) (gy : Int) (k4 : (-1) ≤ x4 ∧ x4 ≤ 48) (ey2 : gy = x4) : 1 * gy + ((-1) * x4 + 0) ≤ 0 := by
  first
    | exact (‹zO12s _ _ _ _ _ _ _ _ _ _ _ _ _ _›).2.1
    | exact (‹zO12w _ _ _ _ _ _ _ _ _ _ _ _ _ _›).1
    | omega
set_option maxHeartbeats 4000000 in
theorem vc_Mo_of_at_s5003_41_3 (x4 : Int) (gy : Int) (k4 : (-1) ≤ x4 ∧ x4 ≤ 48) (ey2 : gy = x4) : (-1) * gy + (1 * x4 + 0) ≤ 0 := by
  first
    | exact (‹zO12s _ _ _ _ _ _ _ _ _ _ _ _ _ _›).2.1
    | exact (‹zO12w _ _ _ _ _ _ _ _ _ _ _ _ _ _›).1
    | omega
set_option maxHeartbeats 4000000 in
theorem vc_Mo_of_at_s5003_41_4 (x10 : Int) (gu : Int) (k10 : (-49) ≤ x10 ∧ x10 ≤ 1048575) (eu2 : gu = x10) : 1 * gu + ((-1) * x10 + 0) ≤ 0 := by
  first
    | exact (‹zO12s _ _ _ _ _ _ _ _ _ _ _ _ _ _›).2.1
    | exact (‹zO12w _ _ _ _ _ _ _ _ _ _ _ _ _ _›).1
    | omega
set_option maxHeartbeats 4000000 in
theorem vc_Mo_of_at_s5003_41_5 (x10 : Int) (gu : Int) (k10 : (-49) ≤ x10 ∧ x10 ≤ 1048575) (eu2 : gu = x10) : (-1) * gu + (1 * x10 + 0) ≤ 0 := by
  first
    | exact (‹zO12s _ _ _ _ _ _ _ _ _ _ _ _ _ _›).2.1
    | exact (‹zO12w _ _ _ _ _ _ _ _ _ _ _ _ _ _›).1
    | omega
set_option maxHeartbeats 4000000 in
theorem vc_Mo_of_at_s5003_41_6 (x5 : Int) (gw : Int) (k5 : 0 ≤ x5 ∧ x5 ≤ 7) (ew2 : gw = x5) : 1 * gw + ((-1) * x5 + 0) ≤ 0 := by
  first
    | exact (‹zO12s _ _ _ _ _ _ _ _ _ _ _ _ _ _›).2.1
    | exact (‹zO12w _ _ _ _ _ _ _ _ _ _ _ _ _ _›).1
    | omega
set_option maxHeartbeats 4000000 in
theorem vc_Mo_of_at_s5003_41_7 (x5 : Int) (gw : Int) (k5 : 0 ≤ x5 ∧ x5 ≤ 7) (ew2 : gw = x5) : (-1) * gw + (1 * x5 + 0) ≤ 0 := by
  first
    | exact (‹zO12s _ _ _ _ _ _ _ _ _ _ _ _ _ _›).2.1
    | exact (‹zO12w _ _ _ _ _ _ _ _ _ _ _ _ _ _›).1
    | omega
set_option maxHeartbeats 4000000 in
theorem vc_Mo_of_at_s5003_41_8 (x6 : Int) (gc : Int) (k6 : 0 ≤ x6 ∧ x6 ≤ 4) (ec2 : gc = x6) : 1 * gc + ((-1) * x6 + 0) ≤ 0 := by
  first
    | exact (‹zO12s _ _ _ _ _ _ _ _ _ _ _ _ _ _›).2.1
    | exact (‹zO12w _ _ _ _ _ _ _ _ _ _ _ _ _ _›).1
    | omega
set_option maxHeartbeats 4000000 in
theorem vc_Mo_of_at_s5003_41_9 (x6 : Int) (gc : Int) (k6 : 0 ≤ x6 ∧ x6 ≤ 4) (ec2 : gc = x6) : (-1) * gc + (1 * x6 + 0) ≤ 0 := by
  first
    | exact (‹zO12s _ _ _ _ _ _ _ _ _ _ _ _ _ _›).2.1
    | exact (‹zO12w _ _ _ _ _ _ _ _ _ _ _ _ _ _›).1
    | omega
set_option maxHeartbeats 4000000 in
theorem vc_Mo_of_at_s5003_41_10 (from_0 : Int) (pos_0 : Int) (f5 : 1 * from_0 + ((-1) * pos_0 + 0) ≤ 0) (kz_0_11 : 0 ≤ pos_0 ∧ pos_0 ≤ 2000) (kz_0_15 : 0 ≤ from_0 ∧ from_0 ≤ 2000) : 1 * from_0 + ((-1) * pos_0 + 0) ≤ 0 := by
  first
    | exact (‹zO12s _ _ _ _ _ _ _ _ _ _ _ _ _ _›).2.1
    | exact (‹zO12w _ _ _ _ _ _ _ _ _ _ _ _ _ _›).1
    | omega
set_option maxHeartbeats 4000000 in
theorem vc_Mo_of_at_s5003_41_11 (kind_0 : Int) (from_0 : Int) (pos_0 : Int) (f6 : ((kind_0 = 1) → (pos_0 ≤ (from_0 + 8))) ∧ ((kind_0 = 0) ∨ ((from_0 + 1) ≤ pos_0))) (kz_0_11 : 0 ≤ pos_0 ∧ pos_0 ≤ 2000) (kz_0_12 : 0 ≤ kind_0 ∧ kind_0 ≤ 4) (kz_0_15 : 0 ≤ from_0 ∧ from_0 ≤ 2000) : ((kind_0 = 1) → (pos_0 ≤ (from_0 + 8))) ∧ ((kind_0 = 0) ∨ ((from_0 + 1) ≤ pos_0)) := by
  first
    | exact (‹zO12s _ _ _ _ _ _ _ _ _ _ _ _ _ _›).2.1
    | exact (‹zO12w _ _ _ _ _ _ _ _ _ _ _ _ _ _›).1
    | omega
set_option maxHeartbeats 4000000 in
theorem vc_Mo_of_at_s5003_41_12 (x3 : Int) (pos_0 : Int) (gx : Int) (k3 : 0 ≤ x3 ∧ x3 ≤ 2000) (f7 : 1 * x3 + ((-1) * pos_0 + 0) ≤ (-1)) (kz_0_11 : 0 ≤ pos_0 ∧ pos_0 ≤ 2000) (ex2 : gx = x3) : 1 * gx + ((-1) * pos_0 + 0) ≤ 0 := by
  first
    | exact (‹zO12s _ _ _ _ _ _ _ _ _ _ _ _ _ _›).2.1
    | exact (‹zO12w _ _ _ _ _ _ _ _ _ _ _ _ _ _›).1
    | omega
set_option maxHeartbeats 4000000 in
theorem vc_Mo_of_at_s5003_41_13 (x3 : Int) (kind_0 : Int) (fault_0 : Int) (pos_0 : Int) (gx : Int) (k3 : 0 ≤ x3 ∧ x3 ≤ 2000) (f7 : 1 * x3 + ((-1) * pos_0 + 0) ≤ (-1)) (kz_0_8 : 0 ≤ fault_0 ∧ fault_0 ≤ 5) (kz_0_11 : 0 ≤ pos_0 ∧ pos_0 ≤ 2000) (kz_0_12 : 0 ≤ kind_0 ∧ kind_0 ≤ 4) (ex2 : gx = x3) : (1 ≤ fault_0) ∨ ((kind_0 = 0) ∨ ((gx + 1) ≤ pos_0)) := by
  first
    | exact (‹zO12s _ _ _ _ _ _ _ _ _ _ _ _ _ _›).2.1
    | exact (‹zO12w _ _ _ _ _ _ _ _ _ _ _ _ _ _›).1
    | omega
set_option maxHeartbeats 4000000 in
theorem vc_Mo_of_at_s5003_41_14 (x3 : Int) (x4 : Int) (x5 : Int) (x6 : Int) (x10 : Int) (x11 : Int) (x13 : Int) (x14 : Int) (kind_0 : Int) (fault_0 : Int) (value_0 : Int) (from_0 : Int) (pos_0 : Int) (tape_0 : Int → Int) (all_0 : Int → Int) (limit_0 : Int) (place_0 : Int) (r_0 : Int) (gx : Int) (gy : Int) (gu : Int) (gw : Int) (gc : Int) (k3 : 0 ≤ x3 ∧ x3 ≤ 2000) (k4 : (-1) ≤ x4 ∧ x4 ≤ 48) (k5 : 0 ≤ x5 ∧ x5 ≤ 7) (k6 : 0 ≤ x6 ∧ x6 ≤ 4) (k10 : (-49) ≤ x10 ∧ x10 ≤ 1048575) (k11 : 0 ≤ x11 ∧ x11 ≤ 0) (k13 : 93 ≤ x13 ∧ x13 ≤ 93) (k14 : 1 ≤ x14 ∧ x14 ≤ 1) (f0 : x14 ≠ 0) (f2 : SGQ (fault_0) (kind_0) (value_0) (x13) (x14)) (g4 : x11 = fault_0) (f12 : zO12w (limit_0) (pos_0) (kind_0) (place_0) (value_0) (from_0) (fault_0) (r_0) (tape_0) (all_0) (x4) (x10) (x5) (x6)) (kz_0_8 : 0 ≤ fault_0 ∧ fault_0 ≤ 5) (kz_0_10 : 0 ≤ limit_0 ∧ limit_0 ≤ 2000) (kz_0_11 : 0 ≤ pos_0 ∧ pos_0 ≤ 2000) (kz_0_12 : 0 ≤ kind_0 ∧ kind_0 ≤ 4) (kz_0_13 : 0 ≤ place_0 ∧ place_0 ≤ 2000) (kz_0_14 : (-49) ≤ value_0 ∧ value_0 ≤ 1048575) (kz_0_15 : 0 ≤ from_0 ∧ from_0 ≤ 2000) (ex2 : gx = x3) (ey2 : gy = x4) (eu2 : gu = x10) (ew2 : gw = x5) (ec2 : gc = x6) : zNbw (limit_0) (pos_0) (kind_0) (place_0) (value_0) (from_0) (fault_0) (r_0) (tape_0) (all_0) (gy) (gu) (gw) (gc) := by
  first | subst g4 | skip
  first | subst ex2 | skip
  first | subst ey2 | skip
  first | subst eu2 | skip
  first | subst ew2 | skip
  first | subst ec2 | skip
  first
    | exact of_end_w ‹zO12w _ _ _ _ _ _ _ _ _ _ _ _ _ _› (Or.inl (by omega))
    | exact of_end_w ‹zO12w _ _ _ _ _ _ _ _ _ _ _ _ _ _› (Or.inr (sgq_t (C := 93) ‹SGQ _ _ _ _ _› (by omega) (by omega)))
    | (exfalso; omega)
set_option maxHeartbeats 4000000 in
theorem vc_Mo_of_at_s5003_41_15 (x4 : Int) (x5 : Int) (x6 : Int) (x10 : Int) (kind_0 : Int) (fault_0 : Int) (value_0 : Int) (from_0 : Int) (pos_0 : Int) (tape_0 : Int → Int) (all_0 : Int → Int) (limit_0 : Int) (place_0 : Int) (r_0 : Int) (k4 : (-1) ≤ x4 ∧ x4 ≤ 48) (k5 : 0 ≤ x5 ∧ x5 ≤ 7) (k6 : 0 ≤ x6 ∧ x6 ≤ 4) (k10 : (-49) ≤ x10 ∧ x10 ≤ 1048575) (f12 : zO12w (limit_0) (pos_0) (kind_0) (place_0) (value_0) (from_0) (fault_0) (r_0) (tape_0) (all_0) (x4) (x10) (x5) (x6)) (kz_0_8 : 0 ≤ fault_0 ∧ fault_0 ≤ 5) (kz_0_10 : 0 ≤ limit_0 ∧ limit_0 ≤ 2000) (kz_0_11 : 0 ≤ pos_0 ∧ pos_0 ≤ 2000) (kz_0_12 : 0 ≤ kind_0 ∧ kind_0 ≤ 4) (kz_0_13 : 0 ≤ place_0 ∧ place_0 ≤ 2000) (kz_0_14 : (-49) ≤ value_0 ∧ value_0 ≤ 1048575) (kz_0_15 : 0 ≤ from_0 ∧ from_0 ≤ 2000) : 1 ≤ x10 := by
  first
    | exact (‹zO12s _ _ _ _ _ _ _ _ _ _ _ _ _ _›).2.1
    | exact (‹zO12w _ _ _ _ _ _ _ _ _ _ _ _ _ _›).1
    | omega
def o_Mo_of_at_s5003_41 : or_T := (158, 16, [(0, (2, 0, 0, [165])), (3, (0, 0, 2000, [])), (4, (0, -1, 48, [])), (5, (0, 0, 7, [])), (6, (0, 0, 4, [])), (10, (0, -49, 1048575, [])), (11, (0, 0, 0, [])), (13, (0, 93, 93, [])), (14, (0, 1, 1, []))], [(8, [14], [1]), (20, [7, 13, 14], [60, 3, 0, 963, 8, 12, 14]), (9, [11, 7], [8]), (20, [7, 7], [30, 0, 1, 1, 15, -1, 1, 11]), (20, [7], [50, 3, 0, 12, 11, 15, 2, 21, 4, 7, 1, 3, 2, 0, 12, 0, 1, 0, 3, 2, 0, 11, 4, 3, 2, 0, 15, 0, 8, 3, 7, 1, 3, 2, 0, 12, 0, 0, 0, 7, 4, 3, 2, 0, 15, 0, 1, 2, 0, 11]), (20, [3, 7], [30, -1, 1, 0, 0, -1, 1, 11]), (20, [7, 4, 10, 5, 6], [60, 8, 2, 1000, 10, 11, 12, 13, 14, 15, 8, 5, 1, 2]), (24, [0, 7], [])], [], [(0, 0, 2000, []), (0, -1, 48, []), (0, -2147483648, 2147483647, []), (0, 0, 7, []), (0, 0, 4, [])], [(23, [16, 3], [0, 1, -1]), (23, [16, 3], [0, -1, 1]), (23, [17, 4], [0, 1, -1]), (23, [17, 4], [0, -1, 1]), (23, [18, 10], [0, 1, -1]), (23, [18, 10], [0, -1, 1]), (23, [19, 5], [0, 1, -1]), (23, [19, 5], [0, -1, 1]), (23, [20, 6], [0, 1, -1]), (23, [20, 6], [0, -1, 1]), (20, [7, 7], [30, 0, 1, 1, 15, -1, 1, 11]), (20, [7], [50, 3, 0, 12, 11, 15, 2, 21, 4, 7, 1, 3, 2, 0, 12, 0, 1, 0, 3, 2, 0, 11, 4, 3, 2, 0, 15, 0, 8, 3, 7, 1, 3, 2, 0, 12, 0, 0, 0, 7, 4, 3, 2, 0, 15, 0, 1, 2, 0, 11]), (20, [16, 7], [30, 0, 1, 0, 0, -1, 1, 11]), (20, [7, 16], [50, 3, 0, 8, 12, 11, 3, 7, 0, 2, 0, 1, 2, 0, 8, 3, 7, 1, 3, 2, 0, 12, 0, 0, 0, 6, 4, 2, 1, 1, 0, 1, 2, 0, 11]), (20, [7, 17, 18, 19, 20], [60, 8, 2, 1002, 10, 11, 12, 13, 14, 15, 8, 5, 1, 2]), (20, [10], [50, 0, 0, 0, 2, 0, 1, 1, 0])], [], [])
theorem oo_Mo_of_at_s5003_41 {kA : Nat → ClassId} : or_ok PRD kA GG o_Mo_of_at_s5003_41 := by
  refine or_mk fun A ta ws vs hD hth hl => ?_
  intro t0 r0 t3 k3 t4 k4 t5 k5 t6 k6 t10 k10 t11 k11 t13 k13 t14 k14 f0 f2 f4 f5 f6 f7 f12 f13
  replace f0 := shm_142 f0
  replace f2 := shm_731 f2
  replace f4 := shm_293 f4
  replace f5 := shm_1437 f5
  replace f6 := shm_1438 f6
  replace f7 := shm_2005 f7
  replace f12 := shm_2021 f12
  replace f13 := shm_5 f13
  have q7 : n_v vs 7 = n_v vs 0 := f13.symm
  simp only [q7] at f2 f4 f5 f6 f7 f12
  have g4 : v_iv (n_v vs 11) = w_fi ws (n_v vs 0) 8 := congrArg v_iv f4
  have kz_0_8 := fdq_34 hD hth r0
  have kz_0_10 := fdq_43 hD hth r0
  have kz_0_11 := fdq_237 hD hth r0
  have kz_0_12 := fdq_187 hD hth r0
  have kz_0_13 := fdq_238 hD hth r0
  have kz_0_14 := fdq_188 hD hth r0
  have kz_0_15 := fdq_239 hD hth r0
  obtain ⟨x, ex, hx⟩ := iv_ex (ta := ta) (lo := 0) (hi := 2000) (z := v_iv (n_v vs 3)) (by omega) (by omega) (by omega) (by omega)
  have ex2 : v_iv (Value.int x) = v_iv (n_v vs 3) := ex
  have ex3 : 0 ≤ v_iv (Value.int x) ∧ v_iv (Value.int x) ≤ 2000 := tv_rng hx
  obtain ⟨y, ey, hy⟩ := iv_ex (ta := ta) (lo := (-1)) (hi := 48) (z := v_iv (n_v vs 4)) (by omega) (by omega) (by omega) (by omega)
  have ey2 : v_iv (Value.int y) = v_iv (n_v vs 4) := ey
  have ey3 : (-1) ≤ v_iv (Value.int y) ∧ v_iv (Value.int y) ≤ 48 := tv_rng hy
  obtain ⟨u, eu, hu⟩ := iv_ex (ta := ta) (lo := (-2147483648)) (hi := 2147483647) (z := v_iv (n_v vs 10)) (by omega) (by omega) (by omega) (by omega)
  have eu2 : v_iv (Value.int u) = v_iv (n_v vs 10) := eu
  have eu3 : (-2147483648) ≤ v_iv (Value.int u) ∧ v_iv (Value.int u) ≤ 2147483647 := tv_rng hu
  obtain ⟨w, ew, hw⟩ := iv_ex (ta := ta) (lo := 0) (hi := 7) (z := v_iv (n_v vs 5)) (by omega) (by omega) (by omega) (by omega)
  have ew2 : v_iv (Value.int w) = v_iv (n_v vs 5) := ew
  have ew3 : 0 ≤ v_iv (Value.int w) ∧ v_iv (Value.int w) ≤ 7 := tv_rng hw
  obtain ⟨c, ec, hc⟩ := iv_ex (ta := ta) (lo := 0) (hi := 4) (z := v_iv (n_v vs 6)) (by omega) (by omega) (by omega) (by omega)
  have ec2 : v_iv (Value.int c) = v_iv (n_v vs 6) := ec
  have ec3 : 0 ≤ v_iv (Value.int c) ∧ v_iv (Value.int c) ≤ 4 := tv_rng hc
  have e_3 : n_v (vs ++ [Value.int x, Value.int y, Value.int u, Value.int w, Value.int c]) 3 = n_v vs 3 := n_v_old (by rw [hl]; decide)
  have e_4 : n_v (vs ++ [Value.int x, Value.int y, Value.int u, Value.int w, Value.int c]) 4 = n_v vs 4 := n_v_old (by rw [hl]; decide)
  have e_5 : n_v (vs ++ [Value.int x, Value.int y, Value.int u, Value.int w, Value.int c]) 5 = n_v vs 5 := n_v_old (by rw [hl]; decide)
  have e_6 : n_v (vs ++ [Value.int x, Value.int y, Value.int u, Value.int w, Value.int c]) 6 = n_v vs 6 := n_v_old (by rw [hl]; decide)
  have e_7 : n_v (vs ++ [Value.int x, Value.int y, Value.int u, Value.int w, Value.int c]) 7 = n_v vs 7 := n_v_old (by rw [hl]; decide)
  have e_10 : n_v (vs ++ [Value.int x, Value.int y, Value.int u, Value.int w, Value.int c]) 10 = n_v vs 10 := n_v_old (by rw [hl]; decide)
  have e_16 : n_v (vs ++ [Value.int x, Value.int y, Value.int u, Value.int w, Value.int c]) 16 = Value.int x := n_v_newk (k := 0) hl rfl
  have e_17 : n_v (vs ++ [Value.int x, Value.int y, Value.int u, Value.int w, Value.int c]) 17 = Value.int y := n_v_newk (k := 1) hl rfl
  have e_18 : n_v (vs ++ [Value.int x, Value.int y, Value.int u, Value.int w, Value.int c]) 18 = Value.int u := n_v_newk (k := 2) hl rfl
  have e_19 : n_v (vs ++ [Value.int x, Value.int y, Value.int u, Value.int w, Value.int c]) 19 = Value.int w := n_v_newk (k := 3) hl rfl
  have e_20 : n_v (vs ++ [Value.int x, Value.int y, Value.int u, Value.int w, Value.int c]) 20 = Value.int c := n_v_newk (k := 4) hl rfl
  have nf0 : fc_1 PRD (23, [16, 3], [0, 1, -1]) ws (vs ++ [Value.int x, Value.int y, Value.int u, Value.int w, Value.int c]) := by
    refine ⟨nf_inA hl rfl, sgq_7 ?_⟩
    · show 1 * v_iv (n_v (vs ++ [Value.int x, Value.int y, Value.int u, Value.int w, Value.int c]) 16) + ((-1) * v_iv (n_v (vs ++ [Value.int x, Value.int y, Value.int u, Value.int w, Value.int c]) 3) + 0) ≤ 0
      simp only [e_3, e_16]
      exact vc_Mo_of_at_s5003_41_0 (v_iv (n_v vs 3)) (v_iv (Value.int x)) k3 ex2
  have nf1 : fc_1 PRD (23, [16, 3], [0, -1, 1]) ws (vs ++ [Value.int x, Value.int y, Value.int u, Value.int w, Value.int c]) := by
    refine ⟨nf_inA hl rfl, sgq_22 ?_⟩
    · show (-1) * v_iv (n_v (vs ++ [Value.int x, Value.int y, Value.int u, Value.int w, Value.int c]) 16) + (1 * v_iv (n_v (vs ++ [Value.int x, Value.int y, Value.int u, Value.int w, Value.int c]) 3) + 0) ≤ 0
      simp only [e_3, e_16]
      exact vc_Mo_of_at_s5003_41_1 (v_iv (n_v vs 3)) (v_iv (Value.int x)) k3 ex2
  have nf2 : fc_1 PRD (23, [17, 4], [0, 1, -1]) ws (vs ++ [Value.int x, Value.int y, Value.int u, Value.int w, Value.int c]) := by
    refine ⟨nf_inA hl rfl, sgq_7 ?_⟩
    · show 1 * v_iv (n_v (vs ++ [Value.int x, Value.int y, Value.int u, Value.int w, Value.int c]) 17) + ((-1) * v_iv (n_v (vs ++ [Value.int x, Value.int y, Value.int u, Value.int w, Value.int c]) 4) + 0) ≤ 0
      simp only [e_4, e_17]
      exact vc_Mo_of_at_s5003_41_2 (v_iv (n_v vs 4)) (v_iv (Value.int y)) k4 ey2
  have nf3 : fc_1 PRD (23, [17, 4], [0, -1, 1]) ws (vs ++ [Value.int x, Value.int y, Value.int u, Value.int w, Value.int c]) := by
    refine ⟨nf_inA hl rfl, sgq_22 ?_⟩
    · show (-1) * v_iv (n_v (vs ++ [Value.int x, Value.int y, Value.int u, Value.int w, Value.int c]) 17) + (1 * v_iv (n_v (vs ++ [Value.int x, Value.int y, Value.int u, Value.int w, Value.int c]) 4) + 0) ≤ 0
      simp only [e_4, e_17]
      exact vc_Mo_of_at_s5003_41_3 (v_iv (n_v vs 4)) (v_iv (Value.int y)) k4 ey2
  have nf4 : fc_1 PRD (23, [18, 10], [0, 1, -1]) ws (vs ++ [Value.int x, Value.int y, Value.int u, Value.int w, Value.int c]) := by
    refine ⟨nf_inA hl rfl, sgq_7 ?_⟩
    · show 1 * v_iv (n_v (vs ++ [Value.int x, Value.int y, Value.int u, Value.int w, Value.int c]) 18) + ((-1) * v_iv (n_v (vs ++ [Value.int x, Value.int y, Value.int u, Value.int w, Value.int c]) 10) + 0) ≤ 0
      simp only [e_10, e_18]
      exact vc_Mo_of_at_s5003_41_4 (v_iv (n_v vs 10)) (v_iv (Value.int u)) k10 eu2
  have nf5 : fc_1 PRD (23, [18, 10], [0, -1, 1]) ws (vs ++ [Value.int x, Value.int y, Value.int u, Value.int w, Value.int c]) := by
    refine ⟨nf_inA hl rfl, sgq_22 ?_⟩
    · show (-1) * v_iv (n_v (vs ++ [Value.int x, Value.int y, Value.int u, Value.int w, Value.int c]) 18) + (1 * v_iv (n_v (vs ++ [Value.int x, Value.int y, Value.int u, Value.int w, Value.int c]) 10) + 0) ≤ 0
      simp only [e_10, e_18]
      exact vc_Mo_of_at_s5003_41_5 (v_iv (n_v vs 10)) (v_iv (Value.int u)) k10 eu2
  have nf6 : fc_1 PRD (23, [19, 5], [0, 1, -1]) ws (vs ++ [Value.int x, Value.int y, Value.int u, Value.int w, Value.int c]) := by
    refine ⟨nf_inA hl rfl, sgq_7 ?_⟩
    · show 1 * v_iv (n_v (vs ++ [Value.int x, Value.int y, Value.int u, Value.int w, Value.int c]) 19) + ((-1) * v_iv (n_v (vs ++ [Value.int x, Value.int y, Value.int u, Value.int w, Value.int c]) 5) + 0) ≤ 0
      simp only [e_5, e_19]
      exact vc_Mo_of_at_s5003_41_6 (v_iv (n_v vs 5)) (v_iv (Value.int w)) k5 ew2
  have nf7 : fc_1 PRD (23, [19, 5], [0, -1, 1]) ws (vs ++ [Value.int x, Value.int y, Value.int u, Value.int w, Value.int c]) := by
    refine ⟨nf_inA hl rfl, sgq_22 ?_⟩
    · show (-1) * v_iv (n_v (vs ++ [Value.int x, Value.int y, Value.int u, Value.int w, Value.int c]) 19) + (1 * v_iv (n_v (vs ++ [Value.int x, Value.int y, Value.int u, Value.int w, Value.int c]) 5) + 0) ≤ 0
      simp only [e_5, e_19]
      exact vc_Mo_of_at_s5003_41_7 (v_iv (n_v vs 5)) (v_iv (Value.int w)) k5 ew2
  have nf8 : fc_1 PRD (23, [20, 6], [0, 1, -1]) ws (vs ++ [Value.int x, Value.int y, Value.int u, Value.int w, Value.int c]) := by
    refine ⟨nf_inA hl rfl, sgq_7 ?_⟩
    · show 1 * v_iv (n_v (vs ++ [Value.int x, Value.int y, Value.int u, Value.int w, Value.int c]) 20) + ((-1) * v_iv (n_v (vs ++ [Value.int x, Value.int y, Value.int u, Value.int w, Value.int c]) 6) + 0) ≤ 0
      simp only [e_6, e_20]
      exact vc_Mo_of_at_s5003_41_8 (v_iv (n_v vs 6)) (v_iv (Value.int c)) k6 ec2
  have nf9 : fc_1 PRD (23, [20, 6], [0, -1, 1]) ws (vs ++ [Value.int x, Value.int y, Value.int u, Value.int w, Value.int c]) := by
    refine ⟨nf_inA hl rfl, sgq_22 ?_⟩
    · show (-1) * v_iv (n_v (vs ++ [Value.int x, Value.int y, Value.int u, Value.int w, Value.int c]) 20) + (1 * v_iv (n_v (vs ++ [Value.int x, Value.int y, Value.int u, Value.int w, Value.int c]) 6) + 0) ≤ 0
      simp only [e_6, e_20]
      exact vc_Mo_of_at_s5003_41_9 (v_iv (n_v vs 6)) (v_iv (Value.int c)) k6 ec2
  have nf10 : fc_1 PRD (20, [7, 7], [30, 0, 1, 1, 15, -1, 1, 11]) ws (vs ++ [Value.int x, Value.int y, Value.int u, Value.int w, Value.int c]) := by
    refine ⟨nf_inA hl rfl, sgq_1437 ?_⟩
    · show 1 * w_fi ws (n_v (vs ++ [Value.int x, Value.int y, Value.int u, Value.int w, Value.int c]) 7) 15 + ((-1) * w_fi ws (n_v (vs ++ [Value.int x, Value.int y, Value.int u, Value.int w, Value.int c]) 7) 11 + 0) ≤ 0
      simp only [e_7, q7]
      exact vc_Mo_of_at_s5003_41_10 (w_fi ws (n_v vs 0) 15) (w_fi ws (n_v vs 0) 11) f5 kz_0_11 kz_0_15
  have nf11 : fc_1 PRD (20, [7], [50, 3, 0, 12, 11, 15, 2, 21, 4, 7, 1, 3, 2, 0, 12, 0, 1, 0, 3, 2, 0, 11, 4, 3, 2, 0, 15, 0, 8, 3, 7, 1, 3, 2, 0, 12, 0, 0, 0, 7, 4, 3, 2, 0, 15, 0, 1, 2, 0, 11]) ws (vs ++ [Value.int x, Value.int y, Value.int u, Value.int w, Value.int c]) := by
    refine ⟨nf_inA hl rfl, sgq_1438 ?_⟩
    · show ((w_fi ws (n_v (vs ++ [Value.int x, Value.int y, Value.int u, Value.int w, Value.int c]) 7) 12 = 1) → (w_fi ws (n_v (vs ++ [Value.int x, Value.int y, Value.int u, Value.int w, Value.int c]) 7) 11 ≤ (w_fi ws (n_v (vs ++ [Value.int x, Value.int y, Value.int u, Value.int w, Value.int c]) 7) 15 + 8))) ∧ ((w_fi ws (n_v (vs ++ [Value.int x, Value.int y, Value.int u, Value.int w, Value.int c]) 7) 12 = 0) ∨ ((w_fi ws (n_v (vs ++ [Value.int x, Value.int y, Value.int u, Value.int w, Value.int c]) 7) 15 + 1) ≤ w_fi ws (n_v (vs ++ [Value.int x, Value.int y, Value.int u, Value.int w, Value.int c]) 7) 11))
      simp only [e_7, q7]
      exact vc_Mo_of_at_s5003_41_11 (w_fi ws (n_v vs 0) 12) (w_fi ws (n_v vs 0) 15) (w_fi ws (n_v vs 0) 11) f6 kz_0_11 kz_0_12 kz_0_15
  have nf12 : fc_1 PRD (20, [16, 7], [30, 0, 1, 0, 0, -1, 1, 11]) ws (vs ++ [Value.int x, Value.int y, Value.int u, Value.int w, Value.int c]) := by
    refine ⟨nf_inA hl rfl, sgq_1431 ?_⟩
    · show 1 * v_iv (n_v (vs ++ [Value.int x, Value.int y, Value.int u, Value.int w, Value.int c]) 16) + ((-1) * w_fi ws (n_v (vs ++ [Value.int x, Value.int y, Value.int u, Value.int w, Value.int c]) 7) 11 + 0) ≤ 0
      simp only [e_7, e_16, q7]
      exact vc_Mo_of_at_s5003_41_12 (v_iv (n_v vs 3)) (w_fi ws (n_v vs 0) 11) (v_iv (Value.int x)) k3 f7 kz_0_11 ex2
  have nf13 : fc_1 PRD (20, [7, 16], [50, 3, 0, 8, 12, 11, 3, 7, 0, 2, 0, 1, 2, 0, 8, 3, 7, 1, 3, 2, 0, 12, 0, 0, 0, 6, 4, 2, 1, 1, 0, 1, 2, 0, 11]) ws (vs ++ [Value.int x, Value.int y, Value.int u, Value.int w, Value.int c]) := by
    refine ⟨nf_inA hl rfl, sgq_1722 ?_⟩
    · show (1 ≤ w_fi ws (n_v (vs ++ [Value.int x, Value.int y, Value.int u, Value.int w, Value.int c]) 7) 8) ∨ ((w_fi ws (n_v (vs ++ [Value.int x, Value.int y, Value.int u, Value.int w, Value.int c]) 7) 12 = 0) ∨ ((v_iv (n_v (vs ++ [Value.int x, Value.int y, Value.int u, Value.int w, Value.int c]) 16) + 1) ≤ w_fi ws (n_v (vs ++ [Value.int x, Value.int y, Value.int u, Value.int w, Value.int c]) 7) 11))
      simp only [e_7, e_16, q7]
      exact vc_Mo_of_at_s5003_41_13 (v_iv (n_v vs 3)) (w_fi ws (n_v vs 0) 12) (w_fi ws (n_v vs 0) 8) (w_fi ws (n_v vs 0) 11) (v_iv (Value.int x)) k3 f7 kz_0_8 kz_0_11 kz_0_12 ex2
  have nf14 : fc_1 PRD (20, [7, 17, 18, 19, 20], [60, 8, 2, 1002, 10, 11, 12, 13, 14, 15, 8, 5, 1, 2]) ws (vs ++ [Value.int x, Value.int y, Value.int u, Value.int w, Value.int c]) := by
    refine ⟨nf_inA hl rfl, sgq_1740 ?_⟩
    · show zNbw (w_fi ws (n_v (vs ++ [Value.int x, Value.int y, Value.int u, Value.int w, Value.int c]) 7) 10) (w_fi ws (n_v (vs ++ [Value.int x, Value.int y, Value.int u, Value.int w, Value.int c]) 7) 11) (w_fi ws (n_v (vs ++ [Value.int x, Value.int y, Value.int u, Value.int w, Value.int c]) 7) 12) (w_fi ws (n_v (vs ++ [Value.int x, Value.int y, Value.int u, Value.int w, Value.int c]) 7) 13) (w_fi ws (n_v (vs ++ [Value.int x, Value.int y, Value.int u, Value.int w, Value.int c]) 7) 14) (w_fi ws (n_v (vs ++ [Value.int x, Value.int y, Value.int u, Value.int w, Value.int c]) 7) 15) (w_fi ws (n_v (vs ++ [Value.int x, Value.int y, Value.int u, Value.int w, Value.int c]) 7) 8) (w_fi ws (n_v (vs ++ [Value.int x, Value.int y, Value.int u, Value.int w, Value.int c]) 7) 5) (w_ei ws (w_ar ws (n_v (vs ++ [Value.int x, Value.int y, Value.int u, Value.int w, Value.int c]) 7) 1)) (w_ei ws (w_ar ws (n_v (vs ++ [Value.int x, Value.int y, Value.int u, Value.int w, Value.int c]) 7) 2)) (v_iv (n_v (vs ++ [Value.int x, Value.int y, Value.int u, Value.int w, Value.int c]) 17)) (v_iv (n_v (vs ++ [Value.int x, Value.int y, Value.int u, Value.int w, Value.int c]) 18)) (v_iv (n_v (vs ++ [Value.int x, Value.int y, Value.int u, Value.int w, Value.int c]) 19)) (v_iv (n_v (vs ++ [Value.int x, Value.int y, Value.int u, Value.int w, Value.int c]) 20))
      simp only [e_7, e_17, e_18, e_19, e_20, q7]
      exact vc_Mo_of_at_s5003_41_14 (v_iv (n_v vs 3)) (v_iv (n_v vs 4)) (v_iv (n_v vs 5)) (v_iv (n_v vs 6)) (v_iv (n_v vs 10)) (v_iv (n_v vs 11)) (v_iv (n_v vs 13)) (v_iv (n_v vs 14)) (w_fi ws (n_v vs 0) 12) (w_fi ws (n_v vs 0) 8) (w_fi ws (n_v vs 0) 14) (w_fi ws (n_v vs 0) 15) (w_fi ws (n_v vs 0) 11) (w_ei ws (w_ar ws (n_v vs 0) 1)) (w_ei ws (w_ar ws (n_v vs 0) 2)) (w_fi ws (n_v vs 0) 10) (w_fi ws (n_v vs 0) 13) (w_fi ws (n_v vs 0) 5) (v_iv (Value.int x)) (v_iv (Value.int y)) (v_iv (Value.int u)) (v_iv (Value.int w)) (v_iv (Value.int c)) k3 k4 k5 k6 k10 k11 k13 k14 f0 f2 g4 f12 kz_0_8 kz_0_10 kz_0_11 kz_0_12 kz_0_13 kz_0_14 kz_0_15 ex2 ey2 eu2 ew2 ec2
  have nf15 : fc_1 PRD (20, [10], [50, 0, 0, 0, 2, 0, 1, 1, 0]) ws (vs ++ [Value.int x, Value.int y, Value.int u, Value.int w, Value.int c]) := by
    refine ⟨nf_inA hl rfl, sgq_710 ?_⟩
    · show 1 ≤ v_iv (n_v (vs ++ [Value.int x, Value.int y, Value.int u, Value.int w, Value.int c]) 10)
      rw [e_10]
      exact vc_Mo_of_at_s5003_41_15 (v_iv (n_v vs 4)) (v_iv (n_v vs 5)) (v_iv (n_v vs 6)) (v_iv (n_v vs 10)) (w_fi ws (n_v vs 0) 12) (w_fi ws (n_v vs 0) 8) (w_fi ws (n_v vs 0) 14) (w_fi ws (n_v vs 0) 15) (w_fi ws (n_v vs 0) 11) (w_ei ws (w_ar ws (n_v vs 0) 1)) (w_ei ws (w_ar ws (n_v vs 0) 2)) (w_fi ws (n_v vs 0) 10) (w_fi ws (n_v vs 0) 13) (w_fi ws (n_v vs 0) 5) k4 k5 k6 k10 f12 kz_0_8 kz_0_10 kz_0_11 kz_0_12 kz_0_13 kz_0_14 kz_0_15
  exact ⟨(fun _ h => (by cases h)), [Value.int x, Value.int y, Value.int u, Value.int w, Value.int c], ag_five hx hy hu hw hc, List.forall_mem_cons.mpr ⟨⟨show (23 : Nat) < 100 from by decide, nf0⟩, List.forall_mem_cons.mpr ⟨⟨show (23 : Nat) < 100 from by decide, nf1⟩, List.forall_mem_cons.mpr ⟨⟨show (23 : Nat) < 100 from by decide, nf2⟩, List.forall_mem_cons.mpr ⟨⟨show (23 : Nat) < 100 from by decide, nf3⟩, List.forall_mem_cons.mpr ⟨⟨show (23 : Nat) < 100 from by decide, nf4⟩, List.forall_mem_cons.mpr ⟨⟨show (23 : Nat) < 100 from by decide, nf5⟩, List.forall_mem_cons.mpr ⟨⟨show (23 : Nat) < 100 from by decide, nf6⟩, List.forall_mem_cons.mpr ⟨⟨show (23 : Nat) < 100 from by decide, nf7⟩, List.forall_mem_cons.mpr ⟨⟨show (23 : Nat) < 100 from by decide, nf8⟩, List.forall_mem_cons.mpr ⟨⟨show (23 : Nat) < 100 from by decide, nf9⟩, List.forall_mem_cons.mpr ⟨⟨show (20 : Nat) < 100 from by decide, nf10⟩, List.forall_mem_cons.mpr ⟨⟨show (20 : Nat) < 100 from by decide, nf11⟩, List.forall_mem_cons.mpr ⟨⟨show (20 : Nat) < 100 from by decide, nf12⟩, List.forall_mem_cons.mpr ⟨⟨show (20 : Nat) < 100 from by decide, nf13⟩, List.forall_mem_cons.mpr ⟨⟨show (20 : Nat) < 100 from by decide, nf14⟩, List.forall_mem_cons.mpr ⟨⟨show (20 : Nat) < 100 from by decide, nf15⟩, (fun _ h => (by cases h))⟩⟩⟩⟩⟩⟩⟩⟩⟩⟩⟩⟩⟩⟩⟩⟩, (fun _ h => (by cases h))⟩
set_option maxHeartbeats 4000000 in
theorem vc_Mo_of_at_s5003_42_0 (x16 : Int) (from_0 : Int) (pos_0 : Int) (kind_0 : Int) (fault_0 : Int) (tape_0 : Int → Int) (k16 : 0 ≤ x16 ∧ x16 ≤ 2000) (f16 : 1 * from_0 + ((-1) * pos_0 + 0) ≤ 0) (f17 : ((kind_0 = 1) → (pos_0 ≤ (from_0 + 8))) ∧ ((kind_0 = 0) ∨ ((from_0 + 1) ≤ pos_0))) (f19 : (1 ≤ fault_0) ∨ ((x16 + 1) ≤ pos_0)) (hK_0_1 : ∀ j : Int, 0 ≤ j → j < 2000 → (-128) ≤ tape_0 j ∧ tape_0 j ≤ 127) (kz_0_8 : 0 ≤ fault_0 ∧ fault_0 ≤ 5) (kz_0_11 : 0 ≤ pos_0 ∧ pos_0 ≤ 2000) (kz_0_12 : 0 ≤ kind_0 ∧ kind_0 ≤ 4) (kz_0_15 : 0 ≤ from_0 ∧ from_0 ≤ 2000) : 1 * from_0 + ((-1) * pos_0 + 0) ≤ 0 := by
  first | with_reducible assumption | ((have f17_c0 := f17.1); (have f17_c1 := f17.2); (try and_intros) <;> first | with_reducible assumption | (clear f17_c0 f17_c1 f17 f19 hK_0_1; omega)) | ((have f17_c0 := f17.1); (have f17_c1 := f17.2); (try and_intros) <;> first | with_reducible assumption | (clear f17_c0 f17_c1 f17 hK_0_1; omega)) | omega
set_option maxHeartbeats 4000000 in
theorem vc_Mo_of_at_s5003_42_1 (x16 : Int) (from_0 : Int) (pos_0 : Int) (kind_0 : Int) (fault_0 : Int) (tape_0 : Int → Int) (k16 : 0 ≤ x16 ∧ x16 ≤ 2000) (f17 : ((kind_0 = 1) → (pos_0 ≤ (from_0 + 8))) ∧ ((kind_0 = 0) ∨ ((from_0 + 1) ≤ pos_0))) (f19 : (1 ≤ fault_0) ∨ ((x16 + 1) ≤ pos_0)) (hK_0_1 : ∀ j : Int, 0 ≤ j → j < 2000 → (-128) ≤ tape_0 j ∧ tape_0 j ≤ 127) (kz_0_8 : 0 ≤ fault_0 ∧ fault_0 ≤ 5) (kz_0_11 : 0 ≤ pos_0 ∧ pos_0 ≤ 2000) (kz_0_12 : 0 ≤ kind_0 ∧ kind_0 ≤ 4) (kz_0_15 : 0 ≤ from_0 ∧ from_0 ≤ 2000) : ((kind_0 = 1) → (pos_0 ≤ (from_0 + 8))) ∧ ((kind_0 = 0) ∨ ((from_0 + 1) ≤ pos_0)) := by
  first | with_reducible assumption | ((have f17_c0 := f17.1); (have f17_c1 := f17.2); (try and_intros) <;> first | with_reducible assumption | (clear f17_c0 f17_c1 f17 f19 hK_0_1; omega)) | ((have f17_c0 := f17.1); (have f17_c1 := f17.2); (try and_intros) <;> first | with_reducible assumption | (clear f17_c0 f17_c1 f17 hK_0_1; omega)) | omega
set_option maxHeartbeats 4000000 in
theorem vc_Mo_of_at_s5003_42_2 (x3 : Int) (x16 : Int) (from_0 : Int) (pos_0 : Int) (kind_0 : Int) (fault_0 : Int) (tape_0 : Int → Int) (k3 : 0 ≤ x3 ∧ x3 ≤ 2000) (k16 : 0 ≤ x16 ∧ x16 ≤ 2000) (f0 : 1 * x16 + ((-1) * x3 + 0) ≤ 0) (f1 : (-1) * x16 + (1 * x3 + 0) ≤ 0) (f17 : ((kind_0 = 1) → (pos_0 ≤ (from_0 + 8))) ∧ ((kind_0 = 0) ∨ ((from_0 + 1) ≤ pos_0))) (f18 : 1 * x16 + ((-1) * pos_0 + 0) ≤ 0) (f19 : (1 ≤ fault_0) ∨ ((x16 + 1) ≤ pos_0)) (hK_0_1 : ∀ j : Int, 0 ≤ j → j < 2000 → (-128) ≤ tape_0 j ∧ tape_0 j ≤ 127) (kz_0_8 : 0 ≤ fault_0 ∧ fault_0 ≤ 5) (kz_0_11 : 0 ≤ pos_0 ∧ pos_0 ≤ 2000) (kz_0_12 : 0 ≤ kind_0 ∧ kind_0 ≤ 4) (kz_0_15 : 0 ≤ from_0 ∧ from_0 ≤ 2000) : 1 * x3 + ((-1) * pos_0 + 0) ≤ 0 := by
  first | with_reducible assumption | ((have f17_c0 := f17.1); (have f17_c1 := f17.2); (try and_intros) <;> first | with_reducible assumption | (clear f17_c0 f17_c1 f17 f19 hK_0_1; omega)) | ((have f17_c0 := f17.1); (have f17_c1 := f17.2); (try and_intros) <;> first | with_reducible assumption | (clear f17_c0 f17_c1 f17 hK_0_1; omega)) | omega
set_option maxHeartbeats 4000000 in
theorem vc_Mo_of_at_s5003_42_3 (x3 : Int) (x16 : Int) (from_0 : Int) (pos_0 : Int) (kind_0 : Int) (fault_0 : Int) (tape_0 : Int → Int) (k3 : 0 ≤ x3 ∧ x3 ≤ 2000) (k16 : 0 ≤ x16 ∧ x16 ≤ 2000) (f0 : 1 * x16 + ((-1) * x3 + 0) ≤ 0) (f1 : (-1) * x16 + (1 * x3 + 0) ≤ 0) (f17 : ((kind_0 = 1) → (pos_0 ≤ (from_0 + 8))) ∧ ((kind_0 = 0) ∨ ((from_0 + 1) ≤ pos_0))) (f18 : 1 * x16 + ((-1) * pos_0 + 0) ≤ 0) (f19 : (1 ≤ fault_0) ∨ ((x16 + 1) ≤ pos_0)) (hK_0_1 : ∀ j : Int, 0 ≤ j → j < 2000 → (-128) ≤ tape_0 j ∧ tape_0 j ≤ 127) (kz_0_8 : 0 ≤ fault_0 ∧ fault_0 ≤ 5) (kz_0_11 : 0 ≤ pos_0 ∧ pos_0 ≤ 2000) (kz_0_12 : 0 ≤ kind_0 ∧ kind_0 ≤ 4) (kz_0_15 : 0 ≤ from_0 ∧ from_0 ≤ 2000) : (1 ≤ fault_0) ∨ ((kind_0 = 0) ∨ ((x3 + 1) ≤ pos_0)) := by
  first | with_reducible assumption | ((have f17_c0 := f17.1); (have f17_c1 := f17.2); (try and_intros) <;> first | with_reducible assumption | (clear f17_c0 f17_c1 f17 f19 hK_0_1; omega)) | ((have f17_c0 := f17.1); (have f17_c1 := f17.2); (try and_intros) <;> first | with_reducible assumption | (clear f17_c0 f17_c1 f17 hK_0_1; omega)) | omega
set_option maxHeartbeats 4000000 in
theorem vc_Mo_of_at_s5003_42_4 (x4 : Int) (x16 : Int) (x17 : Int) (from_0 : Int) (pos_0 : Int) (kind_0 : Int) (fault_0 : Int) (tape_0 : Int → Int) (k4 : (-1) ≤ x4 ∧ x4 ≤ 48) (k16 : 0 ≤ x16 ∧ x16 ≤ 2000) (k17 : (-1) ≤ x17 ∧ x17 ≤ 48) (f2 : 1 * x17 + ((-1) * x4 + 0) ≤ 0) (f3 : (-1) * x17 + (1 * x4 + 0) ≤ 0) (f13 : (-1) * x4 + 0 ≤ 0) (f17 : ((kind_0 = 1) → (pos_0 ≤ (from_0 + 8))) ∧ ((kind_0 = 0) ∨ ((from_0 + 1) ≤ pos_0))) (f19 : (1 ≤ fault_0) ∨ ((x16 + 1) ≤ pos_0)) (hK_0_1 : ∀ j : Int, 0 ≤ j → j < 2000 → (-128) ≤ tape_0 j ∧ tape_0 j ≤ 127) (kz_0_8 : 0 ≤ fault_0 ∧ fault_0 ≤ 5) (kz_0_11 : 0 ≤ pos_0 ∧ pos_0 ≤ 2000) (kz_0_12 : 0 ≤ kind_0 ∧ kind_0 ≤ 4) (kz_0_15 : 0 ≤ from_0 ∧ from_0 ≤ 2000) : (1 ≤ fault_0) ∨ (0 ≤ x4) := by
  first | with_reducible assumption | ((have f17_c0 := f17.1); (have f17_c1 := f17.2); (try and_intros) <;> first | with_reducible assumption | (clear f17_c0 f17_c1 f17 f19 hK_0_1; omega)) | ((have f17_c0 := f17.1); (have f17_c1 := f17.2); (try and_intros) <;> first | with_reducible assumption | (clear f17_c0 f17_c1 f17 hK_0_1; omega)) | omega
set_option maxHeartbeats 4000000 in
theorem vc_Mo_of_at_s5003_42_5 (x2 : Int) (x10 : Int) (x16 : Int) (from_0 : Int) (pos_0 : Int) (kind_0 : Int) (fault_0 : Int) (tape_0 : Int → Int) (k2 : 9 ≤ x2 ∧ x2 ≤ 9) (k10 : (-49) ≤ x10 ∧ x10 ≤ 1048575) (k16 : 0 ≤ x16 ∧ x16 ≤ 2000) (f17 : ((kind_0 = 1) → (pos_0 ≤ (from_0 + 8))) ∧ ((kind_0 = 0) ∨ ((from_0 + 1) ≤ pos_0))) (f19 : (1 ≤ fault_0) ∨ ((x16 + 1) ≤ pos_0)) (f32 : 1 * x10 + ((-1) * x2 + 0) ≤ 0) (hK_0_1 : ∀ j : Int, 0 ≤ j → j < 2000 → (-128) ≤ tape_0 j ∧ tape_0 j ≤ 127) (kz_0_8 : 0 ≤ fault_0 ∧ fault_0 ≤ 5) (kz_0_11 : 0 ≤ pos_0 ∧ pos_0 ≤ 2000) (kz_0_12 : 0 ≤ kind_0 ∧ kind_0 ≤ 4) (kz_0_15 : 0 ≤ from_0 ∧ from_0 ≤ 2000) : 1 * x10 + ((-1) * x2 + 0) ≤ 0 := by
  first | with_reducible assumption | ((have f17_c0 := f17.1); (have f17_c1 := f17.2); (try and_intros) <;> first | with_reducible assumption | (clear f17_c0 f17_c1 f17 f19 hK_0_1; omega)) | ((have f17_c0 := f17.1); (have f17_c1 := f17.2); (try and_intros) <;> first | with_reducible assumption | (clear f17_c0 f17_c1 f17 hK_0_1; omega)) | omega
set_option maxHeartbeats 4000000 in
theorem vc_Mo_of_at_s5003_42_6 (x10 : Int) (x16 : Int) (from_0 : Int) (pos_0 : Int) (kind_0 : Int) (fault_0 : Int) (tape_0 : Int → Int) (k10 : (-49) ≤ x10 ∧ x10 ≤ 1048575) (k16 : 0 ≤ x16 ∧ x16 ≤ 2000) (f17 : ((kind_0 = 1) → (pos_0 ≤ (from_0 + 8))) ∧ ((kind_0 = 0) ∨ ((from_0 + 1) ≤ pos_0))) (f19 : (1 ≤ fault_0) ∨ ((x16 + 1) ≤ pos_0)) (f33 : (-1) * x10 + 0 ≤ 0) (hK_0_1 : ∀ j : Int, 0 ≤ j → j < 2000 → (-128) ≤ tape_0 j ∧ tape_0 j ≤ 127) (kz_0_8 : 0 ≤ fault_0 ∧ fault_0 ≤ 5) (kz_0_11 : 0 ≤ pos_0 ∧ pos_0 ≤ 2000) (kz_0_12 : 0 ≤ kind_0 ∧ kind_0 ≤ 4) (kz_0_15 : 0 ≤ from_0 ∧ from_0 ≤ 2000) : (-1) * x10 + 0 ≤ 0 := by
  first | with_reducible assumption | ((have f17_c0 := f17.1); (have f17_c1 := f17.2); (try and_intros) <;> first | with_reducible assumption | (clear f17_c0 f17_c1 f17 f19 hK_0_1; omega)) | ((have f17_c0 := f17.1); (have f17_c1 := f17.2); (try and_intros) <;> first | with_reducible assumption | (clear f17_c0 f17_c1 f17 hK_0_1; omega)) | omega
set_option maxHeartbeats 4000000 in
theorem vc_Mo_of_at_s5003_42_7 (x2 : Int) (x3 : Int) (x4 : Int) (x5 : Int) (x6 : Int) (x10 : Int) (x16 : Int) (x17 : Int) (x18 : Int) (x19 : Int) (x20 : Int) (from_0 : Int) (pos_0 : Int) (kind_0 : Int) (fault_0 : Int) (tape_0 : Int → Int) (all_0 : Int → Int) (limit_0 : Int) (place_0 : Int) (value_0 : Int) (r_0 : Int) (faultPlace_0 : Int) (k2 : 9 ≤ x2 ∧ x2 ≤ 9) (k3 : 0 ≤ x3 ∧ x3 ≤ 2000) (k4 : (-1) ≤ x4 ∧ x4 ≤ 48) (k5 : 0 ≤ x5 ∧ x5 ≤ 7) (k6 : 0 ≤ x6 ∧ x6 ≤ 4) (k10 : (-49) ≤ x10 ∧ x10 ≤ 1048575) (k16 : 0 ≤ x16 ∧ x16 ≤ 2000) (k17 : (-1) ≤ x17 ∧ x17 ≤ 48) (k18 : (-2147483648) ≤ x18 ∧ x18 ≤ 2147483647) (k19 : 0 ≤ x19 ∧ x19 ≤ 7) (k20 : 0 ≤ x20 ∧ x20 ≤ 4) (f0 : 1 * x16 + ((-1) * x3 + 0) ≤ 0) (f1 : (-1) * x16 + (1 * x3 + 0) ≤ 0) (f2 : 1 * x17 + ((-1) * x4 + 0) ≤ 0) (f3 : (-1) * x17 + (1 * x4 + 0) ≤ 0) (f4 : 1 * x18 + ((-1) * x10 + 0) ≤ 0) (f5 : (-1) * x18 + (1 * x10 + 0) ≤ 0) (f6 : 1 * x19 + ((-1) * x5 + 0) ≤ 0) (f7 : (-1) * x19 + (1 * x5 + 0) ≤ 0) (f8 : 1 * x20 + ((-1) * x6 + 0) ≤ 0) (f9 : (-1) * x20 + (1 * x6 + 0) ≤ 0) (f10 : 1 ≤ x10) (f11 : 1 * x10 + ((-1) * x2 + 0) ≤ 0) (f20 : zRP13w (limit_0) (pos_0) (kind_0) (place_0) (value_0) (from_0) (fault_0) (r_0) (tape_0) (all_0) (x17) (x18) (x19) (x20)) (kz_0_8 : 0 ≤ fault_0 ∧ fault_0 ≤ 5) (kz_0_9 : 0 ≤ faultPlace_0 ∧ faultPlace_0 ≤ 2000) (kz_0_10 : 0 ≤ limit_0 ∧ limit_0 ≤ 2000) (kz_0_11 : 0 ≤ pos_0 ∧ pos_0 ≤ 2000) (kz_0_12 : 0 ≤ kind_0 ∧ kind_0 ≤ 4) (kz_0_13 : 0 ≤ place_0 ∧ place_0 ≤ 2000) (kz_0_14 : (-49) ≤ value_0 ∧ value_0 ≤ 1048575) (kz_0_15 : 0 ≤ from_0 ∧ from_0 ≤ 2000) : zOFw (limit_0) (pos_0) (kind_0) (place_0) (value_0) (from_0) (fault_0) (faultPlace_0) (r_0) (tape_0) (all_0) (x4) (x10) (x5) (x6) := by
  first | (have el_x16 : x16 = x3 := by omega); subst el_x16 | skip
  first | (have el_x17 : x17 = x4 := by omega); subst el_x17 | skip
  first | (have el_x18 : x18 = x10 := by omega); subst el_x18 | skip
  first | (have el_x19 : x19 = x5 := by omega); subst el_x19 | skip
  first | (have el_x20 : x20 = x6 := by omega); subst el_x20 | skip
  first
    | exact Or.inr (Or.inr ⟨by omega, ‹zRP13w _ _ _ _ _ _ _ _ _ _ _ _ _ _›⟩)
    | (exfalso; omega)
def o_Mo_of_at_s5003_42 : or_T := (162, 21, [(0, (2, 0, 0, [165])), (2, (0, 9, 9, [])), (3, (0, 0, 2000, [])), (4, (0, -1, 48, [])), (5, (0, 0, 7, [])), (6, (0, 0, 4, [])), (10, (0, -49, 1048575, [])), (16, (0, 0, 2000, [])), (17, (0, -1, 48, [])), (18, (0, -2147483648, 2147483647, [])), (19, (0, 0, 7, [])), (20, (0, 0, 4, []))], [(23, [16, 3], [0, 1, -1]), (23, [16, 3], [0, -1, 1]), (23, [17, 4], [0, 1, -1]), (23, [17, 4], [0, -1, 1]), (23, [18, 10], [0, 1, -1]), (23, [18, 10], [0, -1, 1]), (23, [19, 5], [0, 1, -1]), (23, [19, 5], [0, -1, 1]), (23, [20, 6], [0, 1, -1]), (23, [20, 6], [0, -1, 1]), (20, [10], [50, 0, 0, 0, 2, 0, 1, 1, 0]), (23, [10, 9], [0, 1, -1]), (23, [4], [0, -1]), (24, [0, 7], []), (24, [2, 9], []), (20, [7, 7], [30, 0, 1, 1, 15, -1, 1, 11]), (20, [7], [50, 3, 0, 12, 11, 15, 2, 21, 4, 7, 1, 3, 2, 0, 12, 0, 1, 0, 3, 2, 0, 11, 4, 3, 2, 0, 15, 0, 8, 3, 7, 1, 3, 2, 0, 12, 0, 0, 0, 7, 4, 3, 2, 0, 15, 0, 1, 2, 0, 11]), (20, [16, 7], [30, 0, 1, 0, 0, -1, 1, 11]), (20, [7, 16], [50, 2, 0, 8, 11, 3, 7, 0, 2, 0, 1, 2, 0, 8, 0, 6, 4, 2, 1, 1, 0, 1, 2, 0, 11]), (20, [7, 17, 18, 19, 20], [60, 8, 2, 996, 10, 11, 12, 13, 14, 15, 8, 5, 1, 2]), (102, [20], [0, 165008, 165009, 165011, 165012, 165013, 165014, 165015]), (23, [10, 9], [0, 1, -1]), (23, [10], [0, -1])], [], [], [(20, [0, 0], [30, 0, 1, 1, 15, -1, 1, 11]), (20, [0], [50, 3, 0, 12, 11, 15, 2, 21, 4, 7, 1, 3, 2, 0, 12, 0, 1, 0, 3, 2, 0, 11, 4, 3, 2, 0, 15, 0, 8, 3, 7, 1, 3, 2, 0, 12, 0, 0, 0, 7, 4, 3, 2, 0, 15, 0, 1, 2, 0, 11]), (20, [3, 0], [30, 0, 1, 0, 0, -1, 1, 11]), (20, [0, 3], [50, 3, 0, 8, 12, 11, 3, 7, 0, 2, 0, 1, 2, 0, 8, 3, 7, 1, 3, 2, 0, 12, 0, 0, 0, 6, 4, 2, 1, 1, 0, 1, 2, 0, 11]), (20, [0, 4], [50, 1, 0, 8, 3, 7, 0, 2, 0, 1, 2, 0, 8, 0, 2, 0, 0, 1, 1]), (20, [10, 2], [30, 0, 1, 0, 0, -1, 0, 0]), (20, [10], [30, 0, -1, 0, 0]), (20, [0, 4, 10, 5, 6], [60, 9, 2, 1014, 10, 11, 12, 13, 14, 15, 8, 9, 5, 1, 2])], [], [])
theorem oo_Mo_of_at_s5003_42 {kA : Nat → ClassId} : or_ok PRD kA GG o_Mo_of_at_s5003_42 := by
  refine or_mk fun A ta ws vs hD hth hl => ?_
  intro t0 r0 t2 k2 t3 k3 t4 k4 t5 k5 t6 k6 t10 k10 t16 k16 t17 k17 t18 k18 t19 k19 t20 k20 f0 f1 f2 f3 f4 f5 f6 f7 f8 f9 f10 f11 f13 f14 f15 f16 f17 f18 f19 f20 ta1 w1 le1 s1 f32 f33
  replace f11 := shm_7 f11
  replace f14 := shm_5 f14
  replace f15 := shm_5 f15
  replace f16 := shm_1437 f16
  replace f17 := shm_1438 f17
  replace f18 := shm_1431 f18
  replace f19 := shm_1726 f19
  replace f20 := shm_1741 f20
  replace f32 := shm_7 f32
  have q7 : n_v vs 7 = n_v vs 0 := f14.symm
  have q9 : n_v vs 9 = n_v vs 2 := f15.symm
  simp only [q9, q7] at f11 f16 f17 f18 f19 f20 f32
  have cr_0_1 := fdq_39 hD hth r0
  have hK_0_1 := elq_7 hD hth cr_0_1
  have kz_0_8 := fdq_34 hD hth r0
  have kz_0_9 := fdq_44 hD hth r0
  have kz_0_10 := fdq_43 hD hth r0
  have kz_0_11 := fdq_237 hD hth r0
  have kz_0_12 := fdq_187 hD hth r0
  have kz_0_13 := fdq_238 hD hth r0
  have kz_0_14 := fdq_188 hD hth r0
  have kz_0_15 := fdq_239 hD hth r0
  have nf0 : fc_1 PRD (20, [0, 0], [30, 0, 1, 1, 15, -1, 1, 11]) ws (vs) := ⟨nf_in hl rfl, sgq_1437 (vc_Mo_of_at_s5003_42_0 (v_iv (n_v vs 16)) (w_fi ws (n_v vs 0) 15) (w_fi ws (n_v vs 0) 11) (w_fi ws (n_v vs 0) 12) (w_fi ws (n_v vs 0) 8) (w_ei ws (w_ar ws (n_v vs 0) 1)) k16 f16 f17 f19 hK_0_1 kz_0_8 kz_0_11 kz_0_12 kz_0_15)⟩
  have nf1 : fc_1 PRD (20, [0], [50, 3, 0, 12, 11, 15, 2, 21, 4, 7, 1, 3, 2, 0, 12, 0, 1, 0, 3, 2, 0, 11, 4, 3, 2, 0, 15, 0, 8, 3, 7, 1, 3, 2, 0, 12, 0, 0, 0, 7, 4, 3, 2, 0, 15, 0, 1, 2, 0, 11]) ws (vs) := ⟨nf_in hl rfl, sgq_1438 (vc_Mo_of_at_s5003_42_1 (v_iv (n_v vs 16)) (w_fi ws (n_v vs 0) 15) (w_fi ws (n_v vs 0) 11) (w_fi ws (n_v vs 0) 12) (w_fi ws (n_v vs 0) 8) (w_ei ws (w_ar ws (n_v vs 0) 1)) k16 f17 f19 hK_0_1 kz_0_8 kz_0_11 kz_0_12 kz_0_15)⟩
  have nf2 : fc_1 PRD (20, [3, 0], [30, 0, 1, 0, 0, -1, 1, 11]) ws (vs) := ⟨nf_in hl rfl, sgq_1431 (vc_Mo_of_at_s5003_42_2 (v_iv (n_v vs 3)) (v_iv (n_v vs 16)) (w_fi ws (n_v vs 0) 15) (w_fi ws (n_v vs 0) 11) (w_fi ws (n_v vs 0) 12) (w_fi ws (n_v vs 0) 8) (w_ei ws (w_ar ws (n_v vs 0) 1)) k3 k16 (shm_7 f0) (shm_22 f1) f17 f18 f19 hK_0_1 kz_0_8 kz_0_11 kz_0_12 kz_0_15)⟩
  have nf3 : fc_1 PRD (20, [0, 3], [50, 3, 0, 8, 12, 11, 3, 7, 0, 2, 0, 1, 2, 0, 8, 3, 7, 1, 3, 2, 0, 12, 0, 0, 0, 6, 4, 2, 1, 1, 0, 1, 2, 0, 11]) ws (vs) := ⟨nf_in hl rfl, sgq_1722 (vc_Mo_of_at_s5003_42_3 (v_iv (n_v vs 3)) (v_iv (n_v vs 16)) (w_fi ws (n_v vs 0) 15) (w_fi ws (n_v vs 0) 11) (w_fi ws (n_v vs 0) 12) (w_fi ws (n_v vs 0) 8) (w_ei ws (w_ar ws (n_v vs 0) 1)) k3 k16 (shm_7 f0) (shm_22 f1) f17 f18 f19 hK_0_1 kz_0_8 kz_0_11 kz_0_12 kz_0_15)⟩
  have nf4 : fc_1 PRD (20, [0, 4], [50, 1, 0, 8, 3, 7, 0, 2, 0, 1, 2, 0, 8, 0, 2, 0, 0, 1, 1]) ws (vs) := ⟨nf_in hl rfl, sgq_2000 (vc_Mo_of_at_s5003_42_4 (v_iv (n_v vs 4)) (v_iv (n_v vs 16)) (v_iv (n_v vs 17)) (w_fi ws (n_v vs 0) 15) (w_fi ws (n_v vs 0) 11) (w_fi ws (n_v vs 0) 12) (w_fi ws (n_v vs 0) 8) (w_ei ws (w_ar ws (n_v vs 0) 1)) k4 k16 k17 (shm_7 f2) (shm_22 f3) (shm_1043 f13) f17 f19 hK_0_1 kz_0_8 kz_0_11 kz_0_12 kz_0_15)⟩
  have nf5 : fc_1 PRD (20, [10, 2], [30, 0, 1, 0, 0, -1, 0, 0]) ws (vs) := ⟨nf_in hl rfl, sgq_201 (vc_Mo_of_at_s5003_42_5 (v_iv (n_v vs 2)) (v_iv (n_v vs 10)) (v_iv (n_v vs 16)) (w_fi ws (n_v vs 0) 15) (w_fi ws (n_v vs 0) 11) (w_fi ws (n_v vs 0) 12) (w_fi ws (n_v vs 0) 8) (w_ei ws (w_ar ws (n_v vs 0) 1)) k2 k10 k16 f17 f19 f32 hK_0_1 kz_0_8 kz_0_11 kz_0_12 kz_0_15)⟩
  have nf6 : fc_1 PRD (20, [10], [30, 0, -1, 0, 0]) ws (vs) := ⟨nf_in hl rfl, sgq_2002 (vc_Mo_of_at_s5003_42_6 (v_iv (n_v vs 10)) (v_iv (n_v vs 16)) (w_fi ws (n_v vs 0) 15) (w_fi ws (n_v vs 0) 11) (w_fi ws (n_v vs 0) 12) (w_fi ws (n_v vs 0) 8) (w_ei ws (w_ar ws (n_v vs 0) 1)) k10 k16 f17 f19 (shm_1043 f33) hK_0_1 kz_0_8 kz_0_11 kz_0_12 kz_0_15)⟩
  have nf7 : fc_1 PRD (20, [0, 4, 10, 5, 6], [60, 9, 2, 1014, 10, 11, 12, 13, 14, 15, 8, 9, 5, 1, 2]) ws (vs) := ⟨nf_in hl rfl, sgq_2016 (vc_Mo_of_at_s5003_42_7 (v_iv (n_v vs 2)) (v_iv (n_v vs 3)) (v_iv (n_v vs 4)) (v_iv (n_v vs 5)) (v_iv (n_v vs 6)) (v_iv (n_v vs 10)) (v_iv (n_v vs 16)) (v_iv (n_v vs 17)) (v_iv (n_v vs 18)) (v_iv (n_v vs 19)) (v_iv (n_v vs 20)) (w_fi ws (n_v vs 0) 15) (w_fi ws (n_v vs 0) 11) (w_fi ws (n_v vs 0) 12) (w_fi ws (n_v vs 0) 8) (w_ei ws (w_ar ws (n_v vs 0) 1)) (w_ei ws (w_ar ws (n_v vs 0) 2)) (w_fi ws (n_v vs 0) 10) (w_fi ws (n_v vs 0) 13) (w_fi ws (n_v vs 0) 14) (w_fi ws (n_v vs 0) 5) (w_fi ws (n_v vs 0) 9) k2 k3 k4 k5 k6 k10 k16 k17 k18 k19 k20 (shm_7 f0) (shm_22 f1) (shm_7 f2) (shm_22 f3) (shm_7 f4) (shm_22 f5) (shm_7 f6) (shm_22 f7) (shm_7 f8) (shm_22 f9) (shm_710 f10) f11 f20 kz_0_8 kz_0_9 kz_0_10 kz_0_11 kz_0_12 kz_0_13 kz_0_14 kz_0_15)⟩
  refine ⟨(fun _ h => (by cases h)), [], trivial, ?_, (fun _ h => (by cases h))⟩
  rw [List.append_nil]
  exact List.forall_mem_cons.mpr ⟨⟨show (20 : Nat) < 100 from by decide, nf0⟩, List.forall_mem_cons.mpr ⟨⟨show (20 : Nat) < 100 from by decide, nf1⟩, List.forall_mem_cons.mpr ⟨⟨show (20 : Nat) < 100 from by decide, nf2⟩, List.forall_mem_cons.mpr ⟨⟨show (20 : Nat) < 100 from by decide, nf3⟩, List.forall_mem_cons.mpr ⟨⟨show (20 : Nat) < 100 from by decide, nf4⟩, List.forall_mem_cons.mpr ⟨⟨show (20 : Nat) < 100 from by decide, nf5⟩, List.forall_mem_cons.mpr ⟨⟨show (20 : Nat) < 100 from by decide, nf6⟩, List.forall_mem_cons.mpr ⟨⟨show (20 : Nat) < 100 from by decide, nf7⟩, (fun _ h => (by cases h))⟩⟩⟩⟩⟩⟩⟩⟩

def n_Mo_of_at_s5003_an : List an_T := [(17, [(0, (2, 0, 0, [165])), (1, (2, 0, 0, [5003])), (2, (0, 9, 9, [])), (3, (0, (Int.negSucc 48), 1048575, []))], [], (0, 0), [(0, 0, 99983), (2, 11, 0), (0, 0, 100000)], [], [], [(2, 0, 0, [165]), (2, 0, 0, [5003]), (0, 9, 9, []), (0, 0, 2000, []), (0, (Int.negSucc 0), 48, []), (0, 0, 7, []), (0, 0, 4, [])], 0, [(0, 0, 2000, [])], [(20, [7, 7], [30, 0, 1, 1, 15, (Int.negSucc 0), 1, 11]), (20, [7], [50, 3, 0, 12, 11, 15, 2, 21, 4, 7, 1, 3, 2, 0, 12, 0, 1, 0, 3, 2, 0, 11, 4, 3, 2, 0, 15, 0, 8, 3, 7, 1, 3, 2, 0, 12, 0, 0, 0, 7, 4, 3, 2, 0, 15, 0, 1, 2, 0, 11]), (20, [3, 7], [30, (Int.negSucc 0), 1, 0, 0, (Int.negSucc 0), 1, 11]), (23, [10, 9], [0, 1, (Int.negSucc 0)]), (23, [10], [0, (Int.negSucc 0)]), (23, [4], [0, (Int.negSucc 0)]), (20, [7, 4, 10, 5, 6], [60, 8, 2, 998, 10, 11, 12, 13, 14, 15, 8, 5, 1, 2]), (24, [0, 7], []), (24, [2, 9], []), (20, [11, 7], [30, 2000, 1, 0, 0, 1, 1, 11]), (20, [11, 7], [30, (Int.negSucc 1999), (Int.negSucc 0), 0, 0, (Int.negSucc 0), 1, 11])]), (139, [(0, (2, 0, 0, [165])), (1, (2, 0, 0, [5003])), (2, (0, 9, 9, [])), (3, (0, (Int.negSucc 48), 1048575, []))], [], (0, 0), [(0, 0, 99983), (2, 12, 0), (0, 0, 99861)], [], [((0, 8), (0, 0, 0, []))], [(2, 0, 0, [165]), (2, 0, 0, [5003]), (0, 9, 9, []), (0, 0, 2000, []), (0, (Int.negSucc 0), 48, []), (0, 0, 7, []), (0, 0, 4, [])], 0, [(0, 0, 2000, [])], [(20, [7, 7], [30, 0, 1, 1, 15, (Int.negSucc 0), 1, 11]), (20, [7], [50, 3, 0, 12, 11, 15, 2, 21, 4, 7, 1, 3, 2, 0, 12, 0, 1, 0, 3, 2, 0, 11, 4, 3, 2, 0, 15, 0, 8, 3, 7, 1, 3, 2, 0, 12, 0, 0, 0, 7, 4, 3, 2, 0, 15, 0, 1, 2, 0, 11]), (20, [3, 7], [30, (Int.negSucc 0), 1, 0, 0, (Int.negSucc 0), 1, 11]), (23, [10, 9], [0, 1, (Int.negSucc 0)]), (23, [10], [0, (Int.negSucc 0)]), (23, [4], [0, (Int.negSucc 0)]), (20, [12, 7], [30, (Int.negSucc 2000), (Int.negSucc 0), 0, 0, (Int.negSucc 0), 1, 11]), (20, [7, 4, 10, 5, 6], [60, 8, 2, 1000, 10, 11, 12, 13, 14, 15, 8, 5, 1, 2]), (24, [0, 7], []), (24, [2, 9], [])])]
def t_Mo_of_at_s5003_ct : ct_L := [(0, 387, e_Mo_in), (1, 457, e_Mo_sign), (1, 460, e_Mo_next), (1, 463, e_Mo_wrong), (118, 469, e_Mo_isWord_at_s5003), (202, 491, e_Mo_need_at_gs5003e), (478, 491, e_Mo_need_at_gs5003b)]
set_option maxRecDepth 100000 in
theorem c_Mo_of_at_s5003 {l : Launch} {D : va_G} {kA : Nat → ClassId} (h_Mo_in : ct_ok PRD l D kA GG y_Mo_in z_Mo_in e_Mo_in) (h_Mo_isWord_at_s5003 : ct_ok PRD l D kA GG y_Mo_isWord_at_s5003 z_Mo_isWord_at_s5003 e_Mo_isWord_at_s5003) (h_Mo_need_at_gs5003b : ct_ok PRD l D kA GG y_Mo_need_at_gs5003b z_Mo_need_at_gs5003b e_Mo_need_at_gs5003b) (h_Mo_need_at_gs5003e : ct_ok PRD l D kA GG y_Mo_need_at_gs5003e z_Mo_need_at_gs5003e e_Mo_need_at_gs5003e) (h_Mo_next : ct_ok PRD l D kA GG y_Mo_next z_Mo_next e_Mo_next) (h_Mo_sign : ct_ok PRD l D kA GG y_Mo_sign z_Mo_sign e_Mo_sign) (h_Mo_wrong : ct_ok PRD l D kA GG y_Mo_wrong z_Mo_wrong e_Mo_wrong) : ct_ok PRD l D kA GG y_Mo_of_at_s5003 z_Mo_of_at_s5003 e_Mo_of_at_s5003 := chk_all_ok (FT := [(413, 13, 8), (428, 13, 13), (434, 13, 12), (437, 13, 14)]) (PT := []) (CT := t_Mo_of_at_s5003_ct) (KT := []) (NT := []) (AN := n_Mo_of_at_s5003_an) (OT := [o_Mo_of_at_s5003_0, o_Mo_of_at_s5003_1, o_Mo_of_at_s5003_2, o_Mo_of_at_s5003_3, o_Mo_of_at_s5003_4, o_Mo_of_at_s5003_5, o_Mo_of_at_s5003_6, o_Mo_of_at_s5003_7, o_Mo_of_at_s5003_8, o_Mo_of_at_s5003_9, o_Mo_of_at_s5003_10, o_Mo_of_at_s5003_11, o_Mo_of_at_s5003_12, o_Mo_of_at_s5003_13, o_Mo_of_at_s5003_14, o_Mo_of_at_s5003_15, o_Mo_of_at_s5003_16, o_Mo_of_at_s5003_17, o_Mo_of_at_s5003_18, o_Mo_of_at_s5003_19, o_Mo_of_at_s5003_20, o_Mo_of_at_s5003_21, o_Mo_of_at_s5003_22, o_Mo_of_at_s5003_23, o_Mo_of_at_s5003_24, o_Mo_of_at_s5003_25, o_Mo_of_at_s5003_26, o_Mo_of_at_s5003_27, o_Mo_of_at_s5003_28, o_Mo_of_at_s5003_29, o_Mo_of_at_s5003_30, o_Mo_of_at_s5003_31, o_Mo_of_at_s5003_32, o_Mo_of_at_s5003_33, o_Mo_of_at_s5003_34, o_Mo_of_at_s5003_35, o_Mo_of_at_s5003_36, o_Mo_of_at_s5003_37, o_Mo_of_at_s5003_38, o_Mo_of_at_s5003_39, o_Mo_of_at_s5003_40, o_Mo_of_at_s5003_41, o_Mo_of_at_s5003_42]) 3 732 (List.forall_mem_cons.mpr ⟨oo_Mo_of_at_s5003_0, List.forall_mem_cons.mpr ⟨oo_Mo_of_at_s5003_1, List.forall_mem_cons.mpr ⟨oo_Mo_of_at_s5003_2, List.forall_mem_cons.mpr ⟨oo_Mo_of_at_s5003_3, List.forall_mem_cons.mpr ⟨oo_Mo_of_at_s5003_4, List.forall_mem_cons.mpr ⟨oo_Mo_of_at_s5003_5, List.forall_mem_cons.mpr ⟨oo_Mo_of_at_s5003_6, List.forall_mem_cons.mpr ⟨oo_Mo_of_at_s5003_7, List.forall_mem_cons.mpr ⟨oo_Mo_of_at_s5003_8, List.forall_mem_cons.mpr ⟨oo_Mo_of_at_s5003_9, List.forall_mem_cons.mpr ⟨oo_Mo_of_at_s5003_10, List.forall_mem_cons.mpr ⟨oo_Mo_of_at_s5003_11, List.forall_mem_cons.mpr ⟨oo_Mo_of_at_s5003_12, List.forall_mem_cons.mpr ⟨oo_Mo_of_at_s5003_13, List.forall_mem_cons.mpr ⟨oo_Mo_of_at_s5003_14, List.forall_mem_cons.mpr ⟨oo_Mo_of_at_s5003_15, List.forall_mem_cons.mpr ⟨oo_Mo_of_at_s5003_16, List.forall_mem_cons.mpr ⟨oo_Mo_of_at_s5003_17, List.forall_mem_cons.mpr ⟨oo_Mo_of_at_s5003_18, List.forall_mem_cons.mpr ⟨oo_Mo_of_at_s5003_19, List.forall_mem_cons.mpr ⟨oo_Mo_of_at_s5003_20, List.forall_mem_cons.mpr ⟨oo_Mo_of_at_s5003_21, List.forall_mem_cons.mpr ⟨oo_Mo_of_at_s5003_22, List.forall_mem_cons.mpr ⟨oo_Mo_of_at_s5003_23, List.forall_mem_cons.mpr ⟨oo_Mo_of_at_s5003_24, List.forall_mem_cons.mpr ⟨oo_Mo_of_at_s5003_25, List.forall_mem_cons.mpr ⟨oo_Mo_of_at_s5003_26, List.forall_mem_cons.mpr ⟨oo_Mo_of_at_s5003_27, List.forall_mem_cons.mpr ⟨oo_Mo_of_at_s5003_28, List.forall_mem_cons.mpr ⟨oo_Mo_of_at_s5003_29, List.forall_mem_cons.mpr ⟨oo_Mo_of_at_s5003_30, List.forall_mem_cons.mpr ⟨oo_Mo_of_at_s5003_31, List.forall_mem_cons.mpr ⟨oo_Mo_of_at_s5003_32, List.forall_mem_cons.mpr ⟨oo_Mo_of_at_s5003_33, List.forall_mem_cons.mpr ⟨oo_Mo_of_at_s5003_34, List.forall_mem_cons.mpr ⟨oo_Mo_of_at_s5003_35, List.forall_mem_cons.mpr ⟨oo_Mo_of_at_s5003_36, List.forall_mem_cons.mpr ⟨oo_Mo_of_at_s5003_37, List.forall_mem_cons.mpr ⟨oo_Mo_of_at_s5003_38, List.forall_mem_cons.mpr ⟨oo_Mo_of_at_s5003_39, List.forall_mem_cons.mpr ⟨oo_Mo_of_at_s5003_40, List.forall_mem_cons.mpr ⟨oo_Mo_of_at_s5003_41, List.forall_mem_cons.mpr ⟨oo_Mo_of_at_s5003_42, List.forall_mem_nil _⟩⟩⟩⟩⟩⟩⟩⟩⟩⟩⟩⟩⟩⟩⟩⟩⟩⟩⟩⟩⟩⟩⟩⟩⟩⟩⟩⟩⟩⟩⟩⟩⟩⟩⟩⟩⟩⟩⟩⟩⟩⟩⟩) (by decide +kernel) ⟨List.forall_mem_cons.mpr ⟨gf_Mo_413, List.forall_mem_cons.mpr ⟨gf_Mo_428, List.forall_mem_cons.mpr ⟨gf_Mo_434, List.forall_mem_cons.mpr ⟨gf_Mo_437, List.forall_mem_nil _⟩⟩⟩⟩, List.forall_mem_nil _, List.forall_mem_cons.mpr ⟨cl_static (y := y_Mo_in) h_Mo_in wm_2971 wm_9 wm_2969 wm_2970 ⟨by decide, by decide, by decide +kernel⟩ (by decide), List.forall_mem_cons.mpr ⟨cl_virtual (y := y_Mo_sign) (ci := 13) rfl rfl ⟨_, _, rfl⟩ (by decide +kernel) h_Mo_sign wm_3058 wm_9 wm_3055 wm_3057 wv_13_11 ⟨by decide, by decide, by decide +kernel⟩ (by decide), List.forall_mem_cons.mpr ⟨cl_virtual (y := y_Mo_next) (ci := 13) rfl rfl ⟨_, _, rfl⟩ (by decide +kernel) h_Mo_next wm_2982 wm_9 wm_2979 wm_2981 wv_12_11 ⟨by decide, by decide, by decide +kernel⟩ (by decide), List.forall_mem_cons.mpr ⟨cl_virtual (y := y_Mo_wrong) (ci := 13) rfl rfl ⟨_, _, rfl⟩ (by decide +kernel) h_Mo_wrong wm_3017 wm_9 wm_3014 wm_3016 wv_13_1 ⟨by decide, by decide, by decide +kernel⟩ (by decide), List.forall_mem_cons.mpr ⟨cl_virtual (y := y_Mo_isWord_at_s5003) (ci := 13) rfl rfl ⟨_, _, rfl⟩ (by decide +kernel) h_Mo_isWord_at_s5003 wm_3002 wm_9 wm_2999 wm_3001 wv_12_14 ⟨by decide, by decide, by decide +kernel⟩ (by decide), List.forall_mem_cons.mpr ⟨cl_virtual (y := y_Mo_need_at_gs5003e) (ci := 13) rfl rfl ⟨_, _, rfl⟩ (by decide +kernel) h_Mo_need_at_gs5003e wm_3062 wm_9 wm_3059 wm_3061 wv_13_12 ⟨by decide, by decide, by decide +kernel⟩ (by decide), List.forall_mem_cons.mpr ⟨cl_virtual (y := y_Mo_need_at_gs5003b) (ci := 13) rfl rfl ⟨_, _, rfl⟩ (by decide +kernel) h_Mo_need_at_gs5003b wm_3062 wm_9 wm_3059 wm_3061 wv_13_12 ⟨by decide, by decide, by decide +kernel⟩ (by decide), List.forall_mem_nil _⟩⟩⟩⟩⟩⟩⟩, List.forall_mem_nil _, List.forall_mem_nil _, GG_pl⟩ (by decide +kernel)
set_option maxHeartbeats 4000000 in
theorem vc_Re_readGroup_0_0 (x3 : Int) (x5 : Int) (groups_0o1 : Int) (tail_0o1 : Int → Int) (head_0o1 : Int → Int) (nodes_0o1 : Int) (edges_0o1 : Int) (next_0 : Int) (tape_0 : Int → Int) (open_0 : Int → Int) (nameLength_0o1 : Int → Int) (name_0o1 : Int → Int) (end_0 : Int) (kind_0 : Int) (begin_0 : Int) (number_0 : Int) (depth_0 : Int) (k3 : 8 ≤ x3 ∧ x3 ≤ 8) (k5 : 3 ≤ x5 ∧ x5 ≤ 3) (g1 : x3 = groups_0o1) (f6 : cRGp (end_0) (next_0) (kind_0) (begin_0) (number_0) (depth_0) (nodes_0o1) (edges_0o1) (groups_0o1) (tape_0) (open_0) (nameLength_0o1) (name_0o1) (tail_0o1) (head_0o1)) (kz_0_5 : 0 ≤ end_0 ∧ end_0 ≤ 2000) (kz_0_6 : 0 ≤ next_0 ∧ next_0 ≤ 2000) (kz_0_7 : (-128) ≤ kind_0 ∧ kind_0 ≤ 127) (kz_0_8 : 0 ≤ begin_0 ∧ begin_0 ≤ 2000) (kz_0_9 : (-176) ≤ number_0 ∧ number_0 ≤ 1000000) (kz_0_11 : 0 ≤ depth_0 ∧ depth_0 ≤ 4) (kz_1_0 : 0 ≤ nodes_0o1 ∧ nodes_0o1 ≤ 24) (kz_1_1 : 0 ≤ edges_0o1 ∧ edges_0o1 ≤ 48) (kz_1_2 : 0 ≤ groups_0o1 ∧ groups_0o1 ≤ 8) : FSY (end_0) (begin_0) (tape_0) (x5) := by
  exact fsy_of (g0_f ‹cRGp _ _ _ _ _ _ _ _ _ _ _ _ _ _ _› (by omega)) (by omega)
def o_Re_readGroup_0 : or_T := (22, 6, [(0, (2, 0, 0, [8])), (1, (2, 0, 0, [164])), (3, (0, 8, 8, [])), (5, (0, 3, 3, []))], [(9, [3, 1], [2]), (20, [0, 1], [60, 9, 6, 1059, 5, 6, 7, 8, 9, 11, 1000, 1001, 1002, 0, 10, 1004, 1003, 1007, 1008])], [], [], [(20, [0, 5], [60, 2, 1, 1078, 5, 8, 0])], [], [])
theorem oo_Re_readGroup_0 {kA : Nat → ClassId} : or_ok PRD kA GG o_Re_readGroup_0 := by
  refine or_mk fun A ta ws vs hD hth hl => ?_
  intro t0 r0 t1 r1 t3 k3 t5 k5 f1 f6
  replace f1 := shm_120 f1
  have g1 : v_iv (n_v vs 3) = w_fi ws (n_v vs 1) 2 := congrArg v_iv f1
  have kz_0_5 := fdq_207 hD hth r0
  have kz_0_6 := fdq_208 hD hth r0
  have kz_0_7 := fdq_297 hD hth r0
  have kz_0_8 := fdq_99 hD hth r0
  have kz_0_9 := fdq_296 hD hth r0
  have kz_0_11 := fdq_320 hD hth r0
  have kz_1_0 := fdq_73 hD hth r1
  have kz_1_1 := fdq_74 hD hth r1
  have kz_1_2 := fdq_206 hD hth r1
  have nf0 : fc_1 PRD (20, [0, 5], [60, 2, 1, 1078, 5, 8, 0]) ws (vs) := ⟨nf_in hl rfl, sgq_1988 (vc_Re_readGroup_0_0 (v_iv (n_v vs 3)) (v_iv (n_v vs 5)) (w_fi ws (n_v vs 1) 2) (w_ei ws (w_ar ws (n_v vs 1) 7)) (w_ei ws (w_ar ws (n_v vs 1) 8)) (w_fi ws (n_v vs 1) 0) (w_fi ws (n_v vs 1) 1) (w_fi ws (n_v vs 0) 6) (w_ei ws (w_ar ws (n_v vs 0) 0)) (w_ei ws (w_ar ws (n_v vs 0) 10)) (w_ei ws (w_ar ws (n_v vs 1) 4)) (w_ei ws (w_ar ws (n_v vs 1) 3)) (w_fi ws (n_v vs 0) 5) (w_fi ws (n_v vs 0) 7) (w_fi ws (n_v vs 0) 8) (w_fi ws (n_v vs 0) 9) (w_fi ws (n_v vs 0) 11) k3 k5 g1 (shm_2022 f6) kz_0_5 kz_0_6 kz_0_7 kz_0_8 kz_0_9 kz_0_11 kz_1_0 kz_1_1 kz_1_2)⟩
  refine ⟨(fun _ h => (by cases h)), [], trivial, ?_, (fun _ h => (by cases h))⟩
  rw [List.append_nil]
  exact List.forall_mem_cons.mpr ⟨⟨show (20 : Nat) < 100 from by decide, nf0⟩, (fun _ h => (by cases h))⟩
set_option maxHeartbeats 4000000 in
theorem vc_Re_readGroup_1_0 (x3 : Int) (x5 : Int) (x6 : Int) (groups_0o1 : Int) (tape_0 : Int → Int) (end_0 : Int) (begin_0 : Int) (tail_0o1 : Int → Int) (head_0o1 : Int → Int) (nodes_0o1 : Int) (edges_0o1 : Int) (next_0 : Int) (open_0 : Int → Int) (nameLength_0o1 : Int → Int) (name_0o1 : Int → Int) (depth_0 : Int) (fault_0 : Int) (faultPlace_0 : Int) (k3 : 8 ≤ x3 ∧ x3 ≤ 8) (k5 : 3 ≤ x5 ∧ x5 ≤ 3) (k6 : 0 ≤ x6 ∧ x6 ≤ 0) (g0 : x3 = groups_0o1) (f1 : FSY (end_0) (begin_0) (tape_0) (x5)) (f7 : (x6 = 0) ∧ ((fault_0 = x5) ∧ (faultPlace_0 = begin_0))) (kz_0_2 : (-1) ≤ fault_0 ∧ fault_0 ≤ 5) (kz_0_3 : (-1) ≤ faultPlace_0 ∧ faultPlace_0 ≤ 2000) (kz_0_5 : 0 ≤ end_0 ∧ end_0 ≤ 2000) (kz_0_6 : 0 ≤ next_0 ∧ next_0 ≤ 2000) (kz_0_8 : 0 ≤ begin_0 ∧ begin_0 ≤ 2000) (kz_0_11 : 0 ≤ depth_0 ∧ depth_0 ≤ 4) (kz_1_0 : 0 ≤ nodes_0o1 ∧ nodes_0o1 ≤ 24) (kz_1_1 : 0 ≤ edges_0o1 ∧ edges_0o1 ≤ 48) (kz_1_2 : 0 ≤ groups_0o1 ∧ groups_0o1 ≤ 8) : cO0 (end_0) (next_0) (depth_0) (fault_0) (faultPlace_0) (nodes_0o1) (edges_0o1) (groups_0o1) (tape_0) (open_0) (nameLength_0o1) (name_0o1) (tail_0o1) (head_0o1) (x6) := by
  first | subst g0 | skip
  first
    | exact cO0_f ‹FSY _ _ _ _› (by omega) (by omega) (by omega)
    | exact cO0_t (g7_go ‹TKC _ _ _ _ _ _ _› ‹cG7 _ _ _ _ _ _ _ _ _ _ _ _› (by omega) rfl) (by omega) (by omega)
set_option maxHeartbeats 4000000 in
theorem vc_Re_readGroup_1_1 (x2 : Int) (next_0 : Int) (k2 : 0 ≤ x2 ∧ x2 ≤ 2000) (f4 : 1 * next_0 + ((-1) * x2 + 0) ≤ 0) (f5 : (-1) * next_0 + (1 * x2 + 0) ≤ 0) (kz_0_6 : 0 ≤ next_0 ∧ next_0 ≤ 2000) : 1 * x2 + ((-1) * next_0 + 0) ≤ 0 := by
  first
    | omega
  
def o_Re_readGroup_1 : or_T := (25, 7, [(0, (2, 0, 0, [8])), (1, (2, 0, 0, [164])), (2, (0, 0, 2000, [])), (3, (0, 8, 8, [])), (5, (0, 3, 3, [])), (6, (0, 0, 0, []))], [(9, [3, 1], [2]), (20, [0, 5], [60, 2, 1, 1078, 5, 8, 0]), (20, [0, 2], [30, 0, 1, 1, 6, -1, 0, 0]), (20, [0, 2], [30, 0, -1, 1, 6, 1, 0, 0]), (20, [6, 0, 5], [50, 3, 0, 1002, 1003, 1008, 2, 6, 1, 2, 1, 0, 0, 0, 2, 7, 1, 3, 2, 1, 2, 1, 2, 1, 3, 2, 1, 3, 2, 1, 8])], [], [], [(20, [0, 1, 6], [60, 8, 6, 1063, 5, 6, 11, 2, 3, 1000, 1001, 1002, 0, 10, 1004, 1003, 1007, 1008]), (20, [2, 0], [30, 0, 1, 0, 0, -1, 1, 6])], [], [])
theorem oo_Re_readGroup_1 {kA : Nat → ClassId} : or_ok PRD kA GG o_Re_readGroup_1 := by
  refine or_mk fun A ta ws vs hD hth hl => ?_
  intro t0 r0 t1 r1 t2 k2 t3 k3 t5 k5 t6 k6 f0 f1 f4 f5 f7
  replace f0 := shm_120 f0
  have g0 : v_iv (n_v vs 3) = w_fi ws (n_v vs 1) 2 := congrArg v_iv f0
  have kz_0_2 := fdq_97 hD hth r0
  have kz_0_3 := fdq_98 hD hth r0
  have kz_0_5 := fdq_207 hD hth r0
  have kz_0_6 := fdq_208 hD hth r0
  have kz_0_8 := fdq_99 hD hth r0
  have kz_0_11 := fdq_320 hD hth r0
  have kz_1_0 := fdq_73 hD hth r1
  have kz_1_1 := fdq_74 hD hth r1
  have kz_1_2 := fdq_206 hD hth r1
  have nf0 : fc_1 PRD (20, [0, 1, 6], [60, 8, 6, 1063, 5, 6, 11, 2, 3, 1000, 1001, 1002, 0, 10, 1004, 1003, 1007, 1008]) ws (vs) := ⟨nf_in hl rfl, sgq_2023 (vc_Re_readGroup_1_0 (v_iv (n_v vs 3)) (v_iv (n_v vs 5)) (v_iv (n_v vs 6)) (w_fi ws (n_v vs 1) 2) (w_ei ws (w_ar ws (n_v vs 0) 0)) (w_fi ws (n_v vs 0) 5) (w_fi ws (n_v vs 0) 8) (w_ei ws (w_ar ws (n_v vs 1) 7)) (w_ei ws (w_ar ws (n_v vs 1) 8)) (w_fi ws (n_v vs 1) 0) (w_fi ws (n_v vs 1) 1) (w_fi ws (n_v vs 0) 6) (w_ei ws (w_ar ws (n_v vs 0) 10)) (w_ei ws (w_ar ws (n_v vs 1) 4)) (w_ei ws (w_ar ws (n_v vs 1) 3)) (w_fi ws (n_v vs 0) 11) (w_fi ws (n_v vs 0) 2) (w_fi ws (n_v vs 0) 3) k3 k5 k6 g0 (shm_1988 f1) (shm_451 f7) kz_0_2 kz_0_3 kz_0_5 kz_0_6 kz_0_8 kz_0_11 kz_1_0 kz_1_1 kz_1_2)⟩
  have nf1 : fc_1 PRD (20, [2, 0], [30, 0, 1, 0, 0, -1, 1, 6]) ws (vs) := ⟨nf_in hl rfl, sgq_1527 (vc_Re_readGroup_1_1 (v_iv (n_v vs 2)) (w_fi ws (n_v vs 0) 6) k2 (shm_1523 f4) (shm_1524 f5) kz_0_6)⟩
  refine ⟨(fun _ h => (by cases h)), [], trivial, ?_, (fun _ h => (by cases h))⟩
  rw [List.append_nil]
  exact List.forall_mem_cons.mpr ⟨⟨show (20 : Nat) < 100 from by decide, nf0⟩, List.forall_mem_cons.mpr ⟨⟨show (20 : Nat) < 100 from by decide, nf1⟩, (fun _ h => (by cases h))⟩⟩
set_option maxHeartbeats 4000000 in
theorem vc_Re_readGroup_2_0 (number_0 : Int) (gx : Int) (kz_0_9 : (-176) ≤ number_0 ∧ number_0 ≤ 1000000) (ex2 : gx = number_0) : 1 * number_0 + ((-1) * gx + 0) ≤ 0 := by
  first
    | omega
  
set_option maxHeartbeats 4000000 in
theorem vc_Re_readGroup_2_1 (number_0 : Int) (gx : Int) (kz_0_9 : (-176) ≤ number_0 ∧ number_0 ≤ 1000000) (ex2 : gx = number_0) : (-1) * number_0 + (1 * gx + 0) ≤ 0 := by
  first
    | omega
  
set_option maxHeartbeats 4000000 in
theorem vc_Re_readGroup_2_2 (next_0 : Int) (gy : Int) (kz_0_6 : 0 ≤ next_0 ∧ next_0 ≤ 2000) (ey2 : gy = next_0) : 1 * next_0 + ((-1) * gy + 0) ≤ 0 := by
  first
    | omega
  
set_option maxHeartbeats 4000000 in
theorem vc_Re_readGroup_2_3 (next_0 : Int) (gy : Int) (kz_0_6 : 0 ≤ next_0 ∧ next_0 ≤ 2000) (ey2 : gy = next_0) : (-1) * next_0 + (1 * gy + 0) ≤ 0 := by
  first
    | omega
  
set_option maxHeartbeats 4000000 in
theorem vc_Re_readGroup_2_4 (x2 : Int) (depth_0 : Int) (groups_0o1 : Int) (tail_0o1 : Int → Int) (head_0o1 : Int → Int) (nodes_0o1 : Int) (edges_0o1 : Int) (next_0 : Int) (tape_0 : Int → Int) (open_0 : Int → Int) (nameLength_0o1 : Int → Int) (name_0o1 : Int → Int) (end_0 : Int) (kind_0 : Int) (begin_0 : Int) (number_0 : Int) (gy : Int) (k2 : 0 ≤ x2 ∧ x2 ≤ 2000) (f6 : 1 * next_0 + ((-1) * x2 + 0) ≤ 0) (f7 : (-1) * next_0 + (1 * x2 + 0) ≤ 0) (f8 : cRGp (end_0) (next_0) (kind_0) (begin_0) (number_0) (depth_0) (nodes_0o1) (edges_0o1) (groups_0o1) (tape_0) (open_0) (nameLength_0o1) (name_0o1) (tail_0o1) (head_0o1)) (kz_0_5 : 0 ≤ end_0 ∧ end_0 ≤ 2000) (kz_0_6 : 0 ≤ next_0 ∧ next_0 ≤ 2000) (kz_0_7 : (-128) ≤ kind_0 ∧ kind_0 ≤ 127) (kz_0_8 : 0 ≤ begin_0 ∧ begin_0 ≤ 2000) (kz_0_9 : (-176) ≤ number_0 ∧ number_0 ≤ 1000000) (kz_0_11 : 0 ≤ depth_0 ∧ depth_0 ≤ 4) (kz_1_0 : 0 ≤ nodes_0o1 ∧ nodes_0o1 ≤ 24) (kz_1_1 : 0 ≤ edges_0o1 ∧ edges_0o1 ≤ 48) (kz_1_2 : 0 ≤ groups_0o1 ∧ groups_0o1 ≤ 8) (ey2 : gy = next_0) : CLM (end_0) (next_0) := by
  exact clm_gp ‹cRGp _ _ _ _ _ _ _ _ _ _ _ _ _ _ _› (by omega)
set_option maxHeartbeats 4000000 in
theorem vc_Re_readGroup_2_5 (x3 : Int) (x5 : Int) (depth_0 : Int) (groups_0o1 : Int) (tail_0o1 : Int → Int) (head_0o1 : Int → Int) (nodes_0o1 : Int) (edges_0o1 : Int) (next_0 : Int) (tape_0 : Int → Int) (open_0 : Int → Int) (nameLength_0o1 : Int → Int) (name_0o1 : Int → Int) (end_0 : Int) (kind_0 : Int) (begin_0 : Int) (number_0 : Int) (gy : Int) (k3 : 0 ≤ x3 ∧ x3 ≤ 7) (k5 : 0 ≤ x5 ∧ x5 ≤ 3) (g1 : x5 = depth_0) (g3 : x3 = groups_0o1) (f8 : cRGp (end_0) (next_0) (kind_0) (begin_0) (number_0) (depth_0) (nodes_0o1) (edges_0o1) (groups_0o1) (tape_0) (open_0) (nameLength_0o1) (name_0o1) (tail_0o1) (head_0o1)) (kz_0_5 : 0 ≤ end_0 ∧ end_0 ≤ 2000) (kz_0_6 : 0 ≤ next_0 ∧ next_0 ≤ 2000) (kz_0_7 : (-128) ≤ kind_0 ∧ kind_0 ≤ 127) (kz_0_8 : 0 ≤ begin_0 ∧ begin_0 ≤ 2000) (kz_0_9 : (-176) ≤ number_0 ∧ number_0 ≤ 1000000) (kz_0_11 : 0 ≤ depth_0 ∧ depth_0 ≤ 4) (kz_1_0 : 0 ≤ nodes_0o1 ∧ nodes_0o1 ≤ 24) (kz_1_1 : 0 ≤ edges_0o1 ∧ edges_0o1 ≤ 48) (kz_1_2 : 0 ≤ groups_0o1 ∧ groups_0o1 ≤ 8) (ey2 : gy = next_0) : cG5 (end_0) (depth_0) (nodes_0o1) (edges_0o1) (groups_0o1) (tape_0) (open_0) (nameLength_0o1) (name_0o1) (tail_0o1) (head_0o1) (gy) := by
  exact g0_5 ‹cRGp _ _ _ _ _ _ _ _ _ _ _ _ _ _ _› (by omega) (by omega)
set_option maxHeartbeats 4000000 in
theorem vc_Re_readGroup_2_6 (x2 : Int) (next_0 : Int) (gy : Int) (k2 : 0 ≤ x2 ∧ x2 ≤ 2000) (f6 : 1 * next_0 + ((-1) * x2 + 0) ≤ 0) (f7 : (-1) * next_0 + (1 * x2 + 0) ≤ 0) (kz_0_6 : 0 ≤ next_0 ∧ next_0 ≤ 2000) (ey2 : gy = next_0) : 1 * x2 + ((-1) * gy + 0) ≤ 0 := by
  first
    | omega
  
def o_Re_readGroup_2 : or_T := (27, 7, [(0, (2, 0, 0, [8])), (1, (2, 0, 0, [164])), (2, (0, 0, 2000, [])), (3, (0, 0, 7, [])), (5, (0, 0, 3, []))], [(9, [5, 0], [11]), (9, [3, 1], [2]), (20, [0, 2], [30, 0, 1, 1, 6, -1, 0, 0]), (20, [0, 2], [30, 0, -1, 1, 6, 1, 0, 0]), (20, [0, 1], [60, 9, 6, 1059, 5, 6, 7, 8, 9, 11, 1000, 1001, 1002, 0, 10, 1004, 1003, 1007, 1008])], [], [(0, -2147483648, 1000000, []), (0, 0, 2000, [])], [(20, [0, 7], [30, 0, 1, 1, 9, -1, 0, 0]), (20, [0, 7], [30, 0, -1, 1, 9, 1, 0, 0]), (20, [0, 8], [30, 0, 1, 1, 6, -1, 0, 0]), (20, [0, 8], [30, 0, -1, 1, 6, 1, 0, 0]), (20, [0], [60, 2, 0, 1073, 5, 6]), (20, [0, 1, 8], [60, 5, 6, 1044, 5, 11, 1000, 1001, 1002, 0, 10, 1004, 1003, 1007, 1008]), (20, [2, 8], [30, 0, 1, 0, 0, -1, 0, 0])], [], [])
theorem oo_Re_readGroup_2 {kA : Nat → ClassId} : or_ok PRD kA GG o_Re_readGroup_2 := by
  refine or_mk fun A ta ws vs hD hth hl => ?_
  intro t0 r0 t1 r1 t2 k2 t3 k3 t5 k5 f1 f3 f6 f7 f8
  replace f1 := shm_116 f1
  replace f3 := shm_120 f3
  replace f6 := shm_1523 f6
  replace f7 := shm_1524 f7
  replace f8 := shm_2022 f8
  have g1 : v_iv (n_v vs 5) = w_fi ws (n_v vs 0) 11 := congrArg v_iv f1
  have g3 : v_iv (n_v vs 3) = w_fi ws (n_v vs 1) 2 := congrArg v_iv f3
  have kz_0_5 := fdq_207 hD hth r0
  have kz_0_6 := fdq_208 hD hth r0
  have kz_0_7 := fdq_297 hD hth r0
  have kz_0_8 := fdq_99 hD hth r0
  have kz_0_9 := fdq_296 hD hth r0
  have kz_0_11 := fdq_320 hD hth r0
  have kz_1_0 := fdq_73 hD hth r1
  have kz_1_1 := fdq_74 hD hth r1
  have kz_1_2 := fdq_206 hD hth r1
  obtain ⟨x, ex, hx⟩ := iv_ex (ta := ta) (lo := (-2147483648)) (hi := 1000000) (z := w_fi ws (n_v vs 0) 9) (by omega) (by omega) (by omega) (by omega)
  have ex2 : v_iv (Value.int x) = w_fi ws (n_v vs 0) 9 := ex
  have ex3 : (-2147483648) ≤ v_iv (Value.int x) ∧ v_iv (Value.int x) ≤ 1000000 := tv_rng hx
  obtain ⟨y, ey, hy⟩ := iv_ex (ta := ta) (lo := 0) (hi := 2000) (z := w_fi ws (n_v vs 0) 6) (by omega) (by omega) (by omega) (by omega)
  have ey2 : v_iv (Value.int y) = w_fi ws (n_v vs 0) 6 := ey
  have ey3 : 0 ≤ v_iv (Value.int y) ∧ v_iv (Value.int y) ≤ 2000 := tv_rng hy
  have e_0 : n_v (vs ++ [Value.int x, Value.int y]) 0 = n_v vs 0 := n_v_old (by rw [hl]; decide)
  have e_1 : n_v (vs ++ [Value.int x, Value.int y]) 1 = n_v vs 1 := n_v_old (by rw [hl]; decide)
  have e_2 : n_v (vs ++ [Value.int x, Value.int y]) 2 = n_v vs 2 := n_v_old (by rw [hl]; decide)
  have e_7 : n_v (vs ++ [Value.int x, Value.int y]) 7 = Value.int x := n_v_new0 hl
  have e_8 : n_v (vs ++ [Value.int x, Value.int y]) 8 = Value.int y := n_v_new1 hl
  have nf0 : fc_1 PRD (20, [0, 7], [30, 0, 1, 1, 9, -1, 0, 0]) ws (vs ++ [Value.int x, Value.int y]) := by
    refine ⟨nf_inA hl rfl, sgq_1521 ?_⟩
    · show 1 * w_fi ws (n_v (vs ++ [Value.int x, Value.int y]) 0) 9 + ((-1) * v_iv (n_v (vs ++ [Value.int x, Value.int y]) 7) + 0) ≤ 0
      simp only [e_0, e_7]
      exact vc_Re_readGroup_2_0 (w_fi ws (n_v vs 0) 9) (v_iv (Value.int x)) kz_0_9 ex2
  have nf1 : fc_1 PRD (20, [0, 7], [30, 0, -1, 1, 9, 1, 0, 0]) ws (vs ++ [Value.int x, Value.int y]) := by
    refine ⟨nf_inA hl rfl, sgq_1522 ?_⟩
    · show (-1) * w_fi ws (n_v (vs ++ [Value.int x, Value.int y]) 0) 9 + (1 * v_iv (n_v (vs ++ [Value.int x, Value.int y]) 7) + 0) ≤ 0
      simp only [e_0, e_7]
      exact vc_Re_readGroup_2_1 (w_fi ws (n_v vs 0) 9) (v_iv (Value.int x)) kz_0_9 ex2
  have nf2 : fc_1 PRD (20, [0, 8], [30, 0, 1, 1, 6, -1, 0, 0]) ws (vs ++ [Value.int x, Value.int y]) := by
    refine ⟨nf_inA hl rfl, sgq_1523 ?_⟩
    · show 1 * w_fi ws (n_v (vs ++ [Value.int x, Value.int y]) 0) 6 + ((-1) * v_iv (n_v (vs ++ [Value.int x, Value.int y]) 8) + 0) ≤ 0
      simp only [e_0, e_8]
      exact vc_Re_readGroup_2_2 (w_fi ws (n_v vs 0) 6) (v_iv (Value.int y)) kz_0_6 ey2
  have nf3 : fc_1 PRD (20, [0, 8], [30, 0, -1, 1, 6, 1, 0, 0]) ws (vs ++ [Value.int x, Value.int y]) := by
    refine ⟨nf_inA hl rfl, sgq_1524 ?_⟩
    · show (-1) * w_fi ws (n_v (vs ++ [Value.int x, Value.int y]) 0) 6 + (1 * v_iv (n_v (vs ++ [Value.int x, Value.int y]) 8) + 0) ≤ 0
      simp only [e_0, e_8]
      exact vc_Re_readGroup_2_3 (w_fi ws (n_v vs 0) 6) (v_iv (Value.int y)) kz_0_6 ey2
  have nf4 : fc_1 PRD (20, [0], [60, 2, 0, 1073, 5, 6]) ws (vs ++ [Value.int x, Value.int y]) := by
    refine ⟨nf_inA hl rfl, sgq_1525 ?_⟩
    · show CLM (w_fi ws (n_v (vs ++ [Value.int x, Value.int y]) 0) 5) (w_fi ws (n_v (vs ++ [Value.int x, Value.int y]) 0) 6)
      rw [e_0]
      exact vc_Re_readGroup_2_4 (v_iv (n_v vs 2)) (w_fi ws (n_v vs 0) 11) (w_fi ws (n_v vs 1) 2) (w_ei ws (w_ar ws (n_v vs 1) 7)) (w_ei ws (w_ar ws (n_v vs 1) 8)) (w_fi ws (n_v vs 1) 0) (w_fi ws (n_v vs 1) 1) (w_fi ws (n_v vs 0) 6) (w_ei ws (w_ar ws (n_v vs 0) 0)) (w_ei ws (w_ar ws (n_v vs 0) 10)) (w_ei ws (w_ar ws (n_v vs 1) 4)) (w_ei ws (w_ar ws (n_v vs 1) 3)) (w_fi ws (n_v vs 0) 5) (w_fi ws (n_v vs 0) 7) (w_fi ws (n_v vs 0) 8) (w_fi ws (n_v vs 0) 9) (v_iv (Value.int y)) k2 f6 f7 f8 kz_0_5 kz_0_6 kz_0_7 kz_0_8 kz_0_9 kz_0_11 kz_1_0 kz_1_1 kz_1_2 ey2
  have nf5 : fc_1 PRD (20, [0, 1, 8], [60, 5, 6, 1044, 5, 11, 1000, 1001, 1002, 0, 10, 1004, 1003, 1007, 1008]) ws (vs ++ [Value.int x, Value.int y]) := by
    refine ⟨nf_inA hl rfl, sgq_2024 ?_⟩
    · show cG5 (w_fi ws (n_v (vs ++ [Value.int x, Value.int y]) 0) 5) (w_fi ws (n_v (vs ++ [Value.int x, Value.int y]) 0) 11) (w_fi ws (n_v (vs ++ [Value.int x, Value.int y]) 1) 0) (w_fi ws (n_v (vs ++ [Value.int x, Value.int y]) 1) 1) (w_fi ws (n_v (vs ++ [Value.int x, Value.int y]) 1) 2) (w_ei ws (w_ar ws (n_v (vs ++ [Value.int x, Value.int y]) 0) 0)) (w_ei ws (w_ar ws (n_v (vs ++ [Value.int x, Value.int y]) 0) 10)) (w_ei ws (w_ar ws (n_v (vs ++ [Value.int x, Value.int y]) 1) 4)) (w_ei ws (w_ar ws (n_v (vs ++ [Value.int x, Value.int y]) 1) 3)) (w_ei ws (w_ar ws (n_v (vs ++ [Value.int x, Value.int y]) 1) 7)) (w_ei ws (w_ar ws (n_v (vs ++ [Value.int x, Value.int y]) 1) 8)) (v_iv (n_v (vs ++ [Value.int x, Value.int y]) 8))
      simp only [e_0, e_1, e_8]
      exact vc_Re_readGroup_2_5 (v_iv (n_v vs 3)) (v_iv (n_v vs 5)) (w_fi ws (n_v vs 0) 11) (w_fi ws (n_v vs 1) 2) (w_ei ws (w_ar ws (n_v vs 1) 7)) (w_ei ws (w_ar ws (n_v vs 1) 8)) (w_fi ws (n_v vs 1) 0) (w_fi ws (n_v vs 1) 1) (w_fi ws (n_v vs 0) 6) (w_ei ws (w_ar ws (n_v vs 0) 0)) (w_ei ws (w_ar ws (n_v vs 0) 10)) (w_ei ws (w_ar ws (n_v vs 1) 4)) (w_ei ws (w_ar ws (n_v vs 1) 3)) (w_fi ws (n_v vs 0) 5) (w_fi ws (n_v vs 0) 7) (w_fi ws (n_v vs 0) 8) (w_fi ws (n_v vs 0) 9) (v_iv (Value.int y)) k3 k5 g1 g3 f8 kz_0_5 kz_0_6 kz_0_7 kz_0_8 kz_0_9 kz_0_11 kz_1_0 kz_1_1 kz_1_2 ey2
  have nf6 : fc_1 PRD (20, [2, 8], [30, 0, 1, 0, 0, -1, 0, 0]) ws (vs ++ [Value.int x, Value.int y]) := by
    refine ⟨nf_inA hl rfl, sgq_201 ?_⟩
    · show 1 * v_iv (n_v (vs ++ [Value.int x, Value.int y]) 2) + ((-1) * v_iv (n_v (vs ++ [Value.int x, Value.int y]) 8) + 0) ≤ 0
      simp only [e_2, e_8]
      exact vc_Re_readGroup_2_6 (v_iv (n_v vs 2)) (w_fi ws (n_v vs 0) 6) (v_iv (Value.int y)) k2 f6 f7 kz_0_6 ey2
  exact ⟨(fun _ h => (by cases h)), [Value.int x, Value.int y], ag_two hx hy, List.forall_mem_cons.mpr ⟨⟨show (20 : Nat) < 100 from by decide, nf0⟩, List.forall_mem_cons.mpr ⟨⟨show (20 : Nat) < 100 from by decide, nf1⟩, List.forall_mem_cons.mpr ⟨⟨show (20 : Nat) < 100 from by decide, nf2⟩, List.forall_mem_cons.mpr ⟨⟨show (20 : Nat) < 100 from by decide, nf3⟩, List.forall_mem_cons.mpr ⟨⟨show (20 : Nat) < 100 from by decide, nf4⟩, List.forall_mem_cons.mpr ⟨⟨show (20 : Nat) < 100 from by decide, nf5⟩, List.forall_mem_cons.mpr ⟨⟨show (20 : Nat) < 100 from by decide, nf6⟩, (fun _ h => (by cases h))⟩⟩⟩⟩⟩⟩⟩, (fun _ h => (by cases h))⟩
set_option maxHeartbeats 4000000 in
theorem vc_Re_readGroup_3_r0 (x9 : Int) (x14 : Int) (x15 : Int) (x16 : Int) (depth_0 : Int) (groups_0o1 : Int) (begin_0 : Int) (next_0 : Int) (tape_0 : Int → Int) (open_0 : Int → Int) (nameLength_0o1 : Int → Int) (name_0o1 : Int → Int) (tail_0o1 : Int → Int) (head_0o1 : Int → Int) (end_0 : Int) (nodes_0o1 : Int) (edges_0o1 : Int) (near_0o1 : Int → Int) (fault_0 : Int) (kind_0 : Int) (number_0 : Int) (open_1 : Int → Int) (tape_1 : Int → Int) (nameLength_1o1 : Int → Int) (name_1o1 : Int → Int) (tail_1o1 : Int → Int) (head_1o1 : Int → Int) (end_1 : Int) (depth_1 : Int) (nodes_1o1 : Int) (edges_1o1 : Int) (groups_1o1 : Int) (near_1o1 : Int → Int) (fault_1 : Int) (kind_1 : Int) (number_1 : Int) (next_1 : Int) (begin_1 : Int) (k9 : 1 ≤ x9 ∧ x9 ≤ 1) (k14 : 0 ≤ x14 ∧ x14 ≤ 2000) (k15 : 0 ≤ x15 ∧ x15 ≤ 2000) (k16 : (-2000) ≤ x16 ∧ x16 ≤ 2000) (f4 : x16 = x14 - x15) (g5 : x15 = begin_0) (g6 : x14 = next_0) (f15 : 1 * begin_0 + ((-1) * next_0 + 0) ≤ 0) (f18 : 1 * next_0 + ((-1) * begin_0 + (2000 * x9 + 0)) ≤ 2008) (fe_0_2_1 : fault_0 = fault_1) (fe_0_5_1 : end_0 = end_1) (fe_0_6_1 : next_0 = next_1) (fe_0_7_1 : kind_0 = kind_1) (fe_0_8_1 : begin_0 = begin_1) (fe_0_9_1 : number_0 = number_1) (fe_0_11_1 : depth_0 = depth_1) (fe_1_0_1 : nodes_0o1 = nodes_1o1) (fe_1_1_1 : edges_0o1 = edges_1o1) (fe_1_2_1 : groups_0o1 = groups_1o1) (hE_0_0_1 : ∀ j : Int, tape_0 j = tape_1 j) (hE_0_10_1 : ∀ j : Int, open_0 j = open_1 j) (hE_1_3_1 : ∀ j : Int, name_0o1 j = name_1o1 j) (hE_1_4_1 : ∀ j : Int, nameLength_0o1 j = nameLength_1o1 j) (hE_1_7_1 : ∀ j : Int, tail_0o1 j = tail_1o1 j) (hE_1_8_1 : ∀ j : Int, head_0o1 j = head_1o1 j) (hE_1_14_1 : ∀ j : Int, near_0o1 j = near_1o1 j) (kz_0_2 : (-1) ≤ fault_0 ∧ fault_0 ≤ 5) (kz_0_5 : 0 ≤ end_0 ∧ end_0 ≤ 2000) (kz_0_6 : 0 ≤ next_0 ∧ next_0 ≤ 2000) (kz_0_7 : (-128) ≤ kind_0 ∧ kind_0 ≤ 127) (kz_0_8 : 0 ≤ begin_0 ∧ begin_0 ≤ 2000) (kz_0_9 : (-176) ≤ number_0 ∧ number_0 ≤ 1000000) (kz_0_11 : 0 ≤ depth_0 ∧ depth_0 ≤ 4) (kz_1_0 : 0 ≤ nodes_0o1 ∧ nodes_0o1 ≤ 24) (kz_1_1 : 0 ≤ edges_0o1 ∧ edges_0o1 ≤ 48) (kz_1_2 : 0 ≤ groups_0o1 ∧ groups_0o1 ≤ 8) : 0 ≤ x16 ∧ x16 ≤ 8 := by
  subst fe_0_2_1
  subst fe_0_5_1
  subst fe_0_6_1
  subst fe_0_7_1
  subst fe_0_8_1
  subst fe_0_9_1
  subst fe_0_11_1
  subst fe_1_0_1
  subst fe_1_1_1
  subst fe_1_2_1
  have e_hE_0_0_1 := funext hE_0_0_1; subst e_hE_0_0_1
  have e_hE_0_10_1 := funext hE_0_10_1; subst e_hE_0_10_1
  have e_hE_1_3_1 := funext hE_1_3_1; subst e_hE_1_3_1
  have e_hE_1_4_1 := funext hE_1_4_1; subst e_hE_1_4_1
  have e_hE_1_7_1 := funext hE_1_7_1; subst e_hE_1_7_1
  have e_hE_1_8_1 := funext hE_1_8_1; subst e_hE_1_8_1
  have e_hE_1_14_1 := funext hE_1_14_1; subst e_hE_1_14_1
  first
    | omega
  
def o_Re_readGroup_3 : or_T := (86, 17, [(0, (2, 0, 0, [8])), (1, (2, 0, 0, [164])), (2, (0, 0, 2000, [])), (3, (0, 0, 7, [])), (4, (0, 8, 8, [])), (5, (0, 0, 3, [])), (6, (0, 4, 4, [])), (7, (0, -2147483648, 1000000, [])), (8, (0, 0, 2000, [])), (9, (0, 1, 1, [])), (10, (2, 0, 0, [158])), (11, (2, 0, 0, [110])), (12, (0, 0, 7, [])), (14, (0, 0, 2000, [])), (15, (0, 0, 2000, [])), (16, (0, -2000, 2000, []))], [(9, [11, 0], [10]), (9, [10, 1], [11]), (9, [5, 0], [11]), (9, [3, 1], [2]), (2, [16, 14, 15], []), (9, [15, 0], [8]), (9, [14, 0], [6]), (20, [0, 1, 8], [60, 5, 6, 1044, 5, 11, 1000, 1001, 1002, 0, 10, 1004, 1003, 1007, 1008]), (20, [2, 8], [30, 0, 1, 0, 0, -1, 0, 0]), (20, [1], [60, 2, 3, 670, 0, 1, 14, 7, 8]), (20, [1], [60, 2, 2, 596, 0, 1, 7, 8]), (20, [0], [50, 1, 0, 2, 1, 3, 2, 0, 2, 0, 0]), (20, [0, 0, 7], [31, 1, 3, 1, 1, 7, 0, 1, 1, 9, -1, 0, 0]), (20, [0, 0, 7], [31, 1, 3, 1, 1, 7, 0, -1, 1, 9, 1, 0, 0]), (20, [0, 0, 0, 0], [31, 1, -3, -1, 1, 7, 4008, 1, 1, 6, -1, 1, 8, 2000, 1, 7]), (20, [0, 0], [30, 0, 1, 1, 8, -1, 1, 6]), (20, [0, 8], [60, 5, 1, 1072, 5, 6, 7, 8, 9, 0]), (20, [8, 0], [30, 0, 1, 0, 0, -1, 1, 6]), (20, [0, 0, 9], [30, 2008, 1, 1, 6, -1, 1, 8, 2000, 0, 0]), (20, [0, 9], [60, 3, 1, 1079, 7, 6, 8, 0]), (100, [10, 3, 12], []), (10, [12, 11, 5], []), (8, [9], [1]), (20, [0, 1, 8], [60, 5, 6, 1044, 5, 11, 1000, 1001, 1002, 0, 10, 1004, 1003, 1007, 1008]), (20, [2, 8], [30, 0, 1, 0, 0, -1, 0, 0]), (20, [1], [60, 2, 3, 670, 0, 1, 14, 7, 8]), (20, [1], [60, 2, 2, 596, 0, 1, 7, 8]), (20, [0], [50, 1, 0, 2, 1, 3, 2, 0, 2, 0, 0]), (20, [0, 0, 7], [31, 1, 3, 1, 1, 7, 0, 1, 1, 9, -1, 0, 0]), (20, [0, 0, 7], [31, 1, 3, 1, 1, 7, 0, -1, 1, 9, 1, 0, 0]), (20, [0, 0, 0, 0], [31, 1, -3, -1, 1, 7, 4008, 1, 1, 6, -1, 1, 8, 2000, 1, 7]), (20, [0, 0], [30, 0, 1, 1, 8, -1, 1, 6]), (20, [0, 8], [60, 5, 1, 1072, 5, 6, 7, 8, 9, 0]), (20, [8, 0], [30, 0, 1, 0, 0, -1, 1, 6]), (20, [0, 0, 9], [30, 2008, 1, 1, 6, -1, 1, 8, 2000, 0, 0]), (20, [0, 9], [60, 3, 1, 1079, 7, 6, 8, 0]), (102, [8], [0]), (102, [8], [0, 8006, 8007, 8008, 8009]), (7, [5, 6], [2]), (7, [3, 4], [2])], [(16, (0, 0, 8, []))], [], [], [], [(16, 14, -2000, 0)])
theorem oo_Re_readGroup_3 {kA : Nat → ClassId} : or_ok PRD kA GG o_Re_readGroup_3 := by
  refine or_mk fun A ta ws vs hD hth hl => ?_
  intro t0 r0 t1 r1 t2 k2 t3 k3 t4 k4 t5 k5 t6 k6 t7 k7 t8 k8 t9 k9 t10 r10 t11 r11 t12 k12 t14 k14 t15 k15 t16 k16 d0 f0 f1 f2 f3 f4 f5 f6 f7 f8 f9 f10 f11 f12 f13 f14 f15 f16 f17 f18 f19 ta1 w1 le1 s1 f21 f22 f23 f24 f25 f26 f27 f28 f29 f30 f31 f32 f33 f34 f35 ta2 w2 le2 s2 ta3 w3 le3 s3 f38 f39
  replace f5 := shm_293 f5
  replace f6 := shm_111 f6
  have s1 : (∀ b j, w_el ws b j = if b = v_ad (n_v vs 10) ∧ j = (v_iv (n_v vs 3)).toNat then v_iv (n_v vs 12) else w_el w1 b j) ∧ ∀ b k, w_fd ws b k = w_fd w1 b k := s1.2
  have cr_0_0 := fdq_95 hD hth r0
  have cr_0_10 := fdq_319 hD hth r0
  have cr_1_3 := fdq_68 hD hth r1
  have cr_1_4 := fdq_67 hD hth r1
  have cr_1_7 := fdq_70 hD hth r1
  have cr_1_8 := fdq_71 hD hth r1
  have cr_1_14 := fdq_72 hD hth r1
  have g5 : v_iv (n_v vs 15) = w_fi ws (n_v vs 0) 8 := congrArg v_iv f5
  have g6 : v_iv (n_v vs 14) = w_fi ws (n_v vs 0) 6 := congrArg v_iv f6
  have fe_0_2_1 : w_fi ws (n_v vs 0) 2 = w_fi w1 (n_v vs 0) 2 := congrArg v_iv (s1.2 _ _)
  have fe_0_5_1 : w_fi ws (n_v vs 0) 5 = w_fi w1 (n_v vs 0) 5 := congrArg v_iv (s1.2 _ _)
  have fe_0_6_1 : w_fi ws (n_v vs 0) 6 = w_fi w1 (n_v vs 0) 6 := congrArg v_iv (s1.2 _ _)
  have fe_0_7_1 : w_fi ws (n_v vs 0) 7 = w_fi w1 (n_v vs 0) 7 := congrArg v_iv (s1.2 _ _)
  have fe_0_8_1 : w_fi ws (n_v vs 0) 8 = w_fi w1 (n_v vs 0) 8 := congrArg v_iv (s1.2 _ _)
  have fe_0_9_1 : w_fi ws (n_v vs 0) 9 = w_fi w1 (n_v vs 0) 9 := congrArg v_iv (s1.2 _ _)
  have fe_0_11_1 : w_fi ws (n_v vs 0) 11 = w_fi w1 (n_v vs 0) 11 := congrArg v_iv (s1.2 _ _)
  have fe_1_0_1 : w_fi ws (n_v vs 1) 0 = w_fi w1 (n_v vs 1) 0 := congrArg v_iv (s1.2 _ _)
  have fe_1_1_1 : w_fi ws (n_v vs 1) 1 = w_fi w1 (n_v vs 1) 1 := congrArg v_iv (s1.2 _ _)
  have fe_1_2_1 : w_fi ws (n_v vs 1) 2 = w_fi w1 (n_v vs 1) 2 := congrArg v_iv (s1.2 _ _)
  have hE_0_0_1 : ∀ j : Int, w_ei ws (w_ar ws (n_v vs 0) 0) j = w_ei w1 (w_ar ws (n_v vs 0) 0) j := el_kp s1.1 r10 cr_0_0 (by decide)
  have hE_0_10_1 : ∀ j : Int, w_ei ws (w_ar ws (n_v vs 0) 10) j = w_ei w1 (w_ar ws (n_v vs 0) 10) j := el_kp s1.1 r10 cr_0_10 (by decide)
  have hE_1_3_1 : ∀ j : Int, w_ei ws (w_ar ws (n_v vs 1) 3) j = w_ei w1 (w_ar ws (n_v vs 1) 3) j := el_kp s1.1 r10 cr_1_3 (by decide)
  have hE_1_4_1 : ∀ j : Int, w_ei ws (w_ar ws (n_v vs 1) 4) j = w_ei w1 (w_ar ws (n_v vs 1) 4) j := el_kp s1.1 r10 cr_1_4 (by decide)
  have hE_1_7_1 : ∀ j : Int, w_ei ws (w_ar ws (n_v vs 1) 7) j = w_ei w1 (w_ar ws (n_v vs 1) 7) j := el_kp s1.1 r10 cr_1_7 (by decide)
  have hE_1_8_1 : ∀ j : Int, w_ei ws (w_ar ws (n_v vs 1) 8) j = w_ei w1 (w_ar ws (n_v vs 1) 8) j := el_kp s1.1 r10 cr_1_8 (by decide)
  have hE_1_14_1 : ∀ j : Int, w_ei ws (w_ar ws (n_v vs 1) 14) j = w_ei w1 (w_ar ws (n_v vs 1) 14) j := el_kp s1.1 r10 cr_1_14 (by decide)
  have kz_0_2 := fdq_97 hD hth r0
  have kz_0_5 := fdq_207 hD hth r0
  have kz_0_6 := fdq_208 hD hth r0
  have kz_0_7 := fdq_297 hD hth r0
  have kz_0_8 := fdq_99 hD hth r0
  have kz_0_9 := fdq_296 hD hth r0
  have kz_0_11 := fdq_320 hD hth r0
  have kz_1_0 := fdq_73 hD hth r1
  have kz_1_1 := fdq_74 hD hth r1
  have kz_1_2 := fdq_206 hD hth r1
  have hrf0 : 0 ≤ v_iv (n_v vs 16) ∧ v_iv (n_v vs 16) ≤ 8 := vc_Re_readGroup_3_r0 (v_iv (n_v vs 9)) (v_iv (n_v vs 14)) (v_iv (n_v vs 15)) (v_iv (n_v vs 16)) (w_fi ws (n_v vs 0) 11) (w_fi ws (n_v vs 1) 2) (w_fi ws (n_v vs 0) 8) (w_fi ws (n_v vs 0) 6) (w_ei ws (w_ar ws (n_v vs 0) 0)) (w_ei ws (w_ar ws (n_v vs 0) 10)) (w_ei ws (w_ar ws (n_v vs 1) 4)) (w_ei ws (w_ar ws (n_v vs 1) 3)) (w_ei ws (w_ar ws (n_v vs 1) 7)) (w_ei ws (w_ar ws (n_v vs 1) 8)) (w_fi ws (n_v vs 0) 5) (w_fi ws (n_v vs 1) 0) (w_fi ws (n_v vs 1) 1) (w_ei ws (w_ar ws (n_v vs 1) 14)) (w_fi ws (n_v vs 0) 2) (w_fi ws (n_v vs 0) 7) (w_fi ws (n_v vs 0) 9) (w_ei w1 (w_ar ws (n_v vs 0) 10)) (w_ei w1 (w_ar ws (n_v vs 0) 0)) (w_ei w1 (w_ar ws (n_v vs 1) 4)) (w_ei w1 (w_ar ws (n_v vs 1) 3)) (w_ei w1 (w_ar ws (n_v vs 1) 7)) (w_ei w1 (w_ar ws (n_v vs 1) 8)) (w_fi w1 (n_v vs 0) 5) (w_fi w1 (n_v vs 0) 11) (w_fi w1 (n_v vs 1) 0) (w_fi w1 (n_v vs 1) 1) (w_fi w1 (n_v vs 1) 2) (w_ei w1 (w_ar ws (n_v vs 1) 14)) (w_fi w1 (n_v vs 0) 2) (w_fi w1 (n_v vs 0) 7) (w_fi w1 (n_v vs 0) 9) (w_fi w1 (n_v vs 0) 6) (w_fi w1 (n_v vs 0) 8) k9 k14 k15 k16 (shm_14 f4) g5 g6 (shm_1531 f15) (shm_1836 f18) fe_0_2_1 fe_0_5_1 fe_0_6_1 fe_0_7_1 fe_0_8_1 fe_0_9_1 fe_0_11_1 fe_1_0_1 fe_1_1_1 fe_1_2_1 hE_0_0_1 hE_0_10_1 hE_1_3_1 hE_1_4_1 hE_1_7_1 hE_1_8_1 hE_1_14_1 kz_0_2 kz_0_5 kz_0_6 kz_0_7 kz_0_8 kz_0_9 kz_0_11 kz_1_0 kz_1_1 kz_1_2
  have rf16 : tv_ok ta (0, 0, 8, []) (n_v vs 16) := tv_in t16 (by first | omega | grind) (by first | omega | grind)
  refine ⟨List.forall_mem_cons.mpr ⟨rf16, (fun _ h => (by cases h))⟩, [], trivial, ?_, (fun _ h => (by cases h))⟩
  rw [List.append_nil]
  exact (fun _ h => (by cases h))
