set_option maxHeartbeats 4000000 in
theorem vc_Ne_traceFaces_at_Nq_12_0 (x2 : Int) (x3 : Int) (x4 : Int) (x5 : Int) (x10 : Int) (x12 : Int) (x18 : Int) (x20 : Int) (x22 : Int) (x31 : Int) (x32 : Int) (faces_0 : Int) (edges_0 : Int) (faceOf_2 : Int → Int) (edges_2 : Int) (faces_2 : Int) (edges_1 : Int) (faces_1 : Int) (rowNode_1 : Int → Int) (rowNode_2 : Int → Int) (faceOf_0 : Int → Int) (faceOf_1 : Int → Int) (k2 : 0 ≤ x2 ∧ x2 ≤ 143) (k3 : 0 ≤ x3 ∧ x3 ≤ 143) (k4 : 0 ≤ x4 ∧ x4 ≤ 143) (k5 : 0 ≤ x5 ∧ x5 ≤ 143) (k10 : (-1) ≤ x10 ∧ x10 ≤ (-1)) (k12 : 0 ≤ x12 ∧ x12 ≤ 143) (k18 : 0 ≤ x18 ∧ x18 ≤ 71) (k20 : 1 ≤ x20 ∧ x20 ≤ 144) (k22 : 1 ≤ x22 ∧ x22 ≤ 1) (k31 : 1 ≤ x31 ∧ x31 ≤ 143) (k32 : 1 ≤ x32 ∧ x32 ≤ 144) (g1 : x12 = faces_0) (f4 : x32 = x5 + 1) (f8 : x22 = x4 % 2) (f10 : x20 = x2 + 1) (f13 : x18 = x4 / 2) (h19 : x10 = faceOf_2 (x4)) (f22 : TFI (edges_2) (faces_2) (faceOf_2) (x3) (x2) (x4) (x5)) (fe_0_6_1 : edges_0 = edges_1) (fe_0_13_1 : faces_0 = faces_1) (fe_0_6_2 : edges_1 = edges_2) (fe_0_13_2 : faces_1 = faces_2) (hE_0_15_2 : ∀ j : Int, rowNode_1 j = rowNode_2 j) (hE_0_16_1 : ∀ j : Int, faceOf_0 j = faceOf_1 j) (hE_0_16_2 : ∀ j : Int, 0 ≤ j → (j = x4 → faceOf_1 j = x12) ∧ (j ≠ x4 → faceOf_1 j = faceOf_2 j)) (kz_0_6 : 0 ≤ edges_0 ∧ edges_0 ≤ 72) (kz_0_13 : 0 ≤ faces_0 ∧ faces_0 ≤ 144) : TFI (edges_0) (faces_0) (faceOf_0) (x3) (x20) (x31) (x32) := by
  subst fe_0_6_1
  subst fe_0_13_1
  subst fe_0_6_2
  subst fe_0_13_2
  have e_hE_0_15_2 := funext hE_0_15_2; subst e_hE_0_15_2
  have e_hE_0_16_1 := funext hE_0_16_1; subst e_hE_0_16_1
  first
    | (skip; (first | subst h19 | skip); exact tfi_start ‹TFO _ _ _ _ _› (by omega) (by omega) (by omega) (by omega))
    | (skip; (first | subst h19 | skip); exact tfi_step ‹TFI _ _ _ _ _ _ _› (by assumption) rfl (by omega) (by omega) (by omega) (by omega) (by omega) (by omega))
  
def o_Ne_traceFaces_at_Nq_12 : or_T := (55, 33, [(0, (2, 0, 0, [294])), (1, (2, 0, 0, [294])), (2, (0, 0, 143, [])), (3, (0, 0, 143, [])), (4, (0, 0, 143, [])), (5, (0, 0, 143, [])), (6, (0, 2, 2, [])), (7, (0, 0, 72, [])), (8, (0, 1, 144, [])), (9, (2, 0, 0, [293])), (10, (0, -1, -1, [])), (11, (0, -1, -1, [])), (12, (0, 0, 143, [])), (13, (2, 0, 0, [292])), (14, (0, 1, 1, [])), (15, (0, 1, 1, [])), (18, (0, 0, 71, [])), (20, (0, 1, 144, [])), (21, (0, 1, 1, [])), (22, (0, 1, 1, [])), (25, (0, 0, 71, [])), (28, (0, 1, 1, [])), (29, (0, 0, 143, [])), (31, (0, 1, 143, [])), (32, (0, 1, 144, []))], [(9, [13, 1], [15]), (9, [12, 1], [13]), (9, [9, 1], [16]), (9, [7, 1], [6]), (6, [32, 5], [1]), (16, [29, 4, 28], [2]), (11, [25, 4], [2]), (8, [22], [1]), (12, [22, 4], [2]), (16, [22, 4, 21], [0]), (6, [20, 2], [1]), (24, [0, 1], []), (100, [13, 2, 19], []), (11, [18, 4], [2]), (8, [15], [1]), (12, [15, 4], [2]), (16, [15, 4, 14], [0]), (100, [9, 4, 12], []), (7, [10, 11], [0]), (10, [10, 9, 4], []), (7, [5, 8], [2]), (3, [8, 6, 7], []), (20, [1, 3, 2, 4, 5], [60, 2, 1, 552, 6, 13, 16])], [], [], [(20, [1, 3, 20, 31, 32], [60, 2, 1, 552, 6, 13, 16])], [], [(32, 5, 1, 1), (32, 8, -4294967296, 0), (32, 2, -4294967296, 1), (20, 2, 1, 1), (5, 8, -4294967296, -1), (5, 2, -4294967296, 0)])
theorem oo_Ne_traceFaces_at_Nq_12 {kA : Nat → ClassId} : or_ok PRD kA GG o_Ne_traceFaces_at_Nq_12 := by
  refine or_mk fun A ta ws vs hD hth hl => ?_
  intro t0 r0 t1 r1 t2 k2 t3 k3 t4 k4 t5 k5 t6 k6 t7 k7 t8 k8 t9 r9 t10 k10 t11 k11 t12 k12 t13 r13 t14 k14 t15 k15 t18 k18 t20 k20 t21 k21 t22 k22 t25 k25 t28 k28 t29 k29 t31 k31 t32 k32 d0 d1 d2 d3 d4 d5 f0 f1 f2 f3 f4 f5 f6 f7 f8 f9 f10 f11 ta1 w1 le1 s1 f13 f14 f15 f16 ta2 w2 le2 s2 f18 f19 f20 f21 f22
  replace f1 := shm_379 f1
  replace f2 := shm_188 f2
  replace f4 := shm_4 f4
  replace f8 := shm_382 f8
  replace f10 := shm_4 f10
  replace f11 := shm_5 f11
  have s1 : (∀ b j, w_el ws b j = if b = v_ad (n_v vs 13) ∧ j = (v_iv (n_v vs 2)).toNat then v_iv (n_v vs 19) else w_el w1 b j) ∧ ∀ b k, w_fd ws b k = w_fd w1 b k := s1.2
  replace f13 := shm_573 f13
  have s2 : (∀ b j, w_el w1 b j = if b = v_ad (n_v vs 9) ∧ j = (v_iv (n_v vs 4)).toNat then v_iv (n_v vs 12) else w_el w2 b j) ∧ ∀ b k, w_fd w1 b k = w_fd w2 b k := s2.2
  replace f19 := shm_106 f19
  replace f22 := shm_1072 f22
  have q1 : n_v vs 1 = n_v vs 0 := f11.symm
  simp only [q1] at f1 f2 f22
  have cr_0_15 := fdq_255 hD hth r0
  have ar_0_16_1 : w_ar w1 (n_v vs 0) 16 = w_ar ws (n_v vs 0) 16 := congrArg v_ad (s1.2 _ _).symm
  have ar_0_16_2 : w_ar w2 (n_v vs 0) 16 = w_ar ws (n_v vs 0) 16 := by rw [← ar_0_16_1]; show v_ad (w_fd w2 _ _) = v_ad (w_fd w1 _ _); rw [s2.2]
  have cr_0_16 := fdq_252 hD hth r0
  have ad_9 : v_ad (n_v vs 9) = w_ar ws (n_v vs 0) 16 := congrArg v_ad f2
  have g1 : v_iv (n_v vs 12) = w_fi ws (n_v vs 0) 13 := congrArg v_iv f1
  simp only [ad_9] at f19
  have h19 : v_iv (n_v vs 10) = w_ei w2 (w_ar ws (n_v vs 0) 16) (v_iv (n_v vs 4)) := f19
  simp only [ar_0_16_2] at f22
  have fe_0_6_1 : w_fi ws (n_v vs 0) 6 = w_fi w1 (n_v vs 0) 6 := congrArg v_iv (s1.2 _ _)
  have fe_0_13_1 : w_fi ws (n_v vs 0) 13 = w_fi w1 (n_v vs 0) 13 := congrArg v_iv (s1.2 _ _)
  have fe_0_6_2 : w_fi w1 (n_v vs 0) 6 = w_fi w2 (n_v vs 0) 6 := congrArg v_iv (s2.2 _ _)
  have fe_0_13_2 : w_fi w1 (n_v vs 0) 13 = w_fi w2 (n_v vs 0) 13 := congrArg v_iv (s2.2 _ _)
  have hE_0_15_2 : ∀ j : Int, w_ei w1 (w_ar ws (n_v vs 0) 15) j = w_ei w2 (w_ar ws (n_v vs 0) 15) j := el_kp s2.1 r9 cr_0_15 (by decide)
  have hE_0_16_1 : ∀ j : Int, w_ei ws (w_ar ws (n_v vs 0) 16) j = w_ei w1 (w_ar ws (n_v vs 0) 16) j := el_kp s1.1 r13 cr_0_16 (by decide)
  have hE_0_16_2 : ∀ j : Int, 0 ≤ j → (j = v_iv (n_v vs 4) → w_ei w1 (w_ar ws (n_v vs 0) 16) j = v_iv (n_v vs 12)) ∧ (j ≠ v_iv (n_v vs 4) → w_ei w1 (w_ar ws (n_v vs 0) 16) j = w_ei w2 (w_ar ws (n_v vs 0) 16) j) := fun j hj => ⟨fun h => by unfold w_ei; rw [s2.1, if_pos ⟨ad_9.symm, by rw [h]⟩], fun h => by unfold w_ei; rw [s2.1, if_neg (fun e => h (by have := e.2; omega))]⟩
  have kz_0_6 := fdq_220 hD hth r0
  have kz_0_13 := fdq_253 hD hth r0
  have nf0 : fc_1 PRD (20, [1, 3, 20, 31, 32], [60, 2, 1, 552, 6, 13, 16]) ws (vs) := by
    refine ⟨nf_in hl rfl, sgq_1072 ?_⟩
    · show TFI (w_fi ws (n_v vs 1) 6) (w_fi ws (n_v vs 1) 13) (w_ei ws (w_ar ws (n_v vs 1) 16)) (v_iv (n_v vs 3)) (v_iv (n_v vs 20)) (v_iv (n_v vs 31)) (v_iv (n_v vs 32))
      rw [q1]
      exact vc_Ne_traceFaces_at_Nq_12_0 (v_iv (n_v vs 2)) (v_iv (n_v vs 3)) (v_iv (n_v vs 4)) (v_iv (n_v vs 5)) (v_iv (n_v vs 10)) (v_iv (n_v vs 12)) (v_iv (n_v vs 18)) (v_iv (n_v vs 20)) (v_iv (n_v vs 22)) (v_iv (n_v vs 31)) (v_iv (n_v vs 32)) (w_fi ws (n_v vs 0) 13) (w_fi ws (n_v vs 0) 6) (w_ei w2 (w_ar ws (n_v vs 0) 16)) (w_fi w2 (n_v vs 0) 6) (w_fi w2 (n_v vs 0) 13) (w_fi w1 (n_v vs 0) 6) (w_fi w1 (n_v vs 0) 13) (w_ei w1 (w_ar ws (n_v vs 0) 15)) (w_ei w2 (w_ar ws (n_v vs 0) 15)) (w_ei ws (w_ar ws (n_v vs 0) 16)) (w_ei w1 (w_ar ws (n_v vs 0) 16)) k2 k3 k4 k5 k10 k12 k18 k20 k22 k31 k32 g1 f4 f8 f10 f13 h19 f22 fe_0_6_1 fe_0_13_1 fe_0_6_2 fe_0_13_2 hE_0_15_2 hE_0_16_1 hE_0_16_2 kz_0_6 kz_0_13
  refine ⟨(fun _ h => (by cases h)), [], trivial, ?_, (fun _ h => (by cases h))⟩
  rw [List.append_nil]
  exact List.forall_mem_cons.mpr ⟨⟨show (20 : Nat) < 100 from by decide, nf0⟩, (fun _ h => (by cases h))⟩
set_option maxHeartbeats 4000000 in
theorem vc_Ne_traceFaces_at_Nq_13_0 (x2 : Int) (x3 : Int) (x4 : Int) (x5 : Int) (x10 : Int) (x12 : Int) (x18 : Int) (x20 : Int) (x22 : Int) (x31 : Int) (x32 : Int) (faces_0 : Int) (edges_0 : Int) (faceOf_2 : Int → Int) (edges_2 : Int) (faces_2 : Int) (edges_1 : Int) (faces_1 : Int) (rowNode_1 : Int → Int) (rowNode_2 : Int → Int) (faceOf_0 : Int → Int) (faceOf_1 : Int → Int) (k2 : 0 ≤ x2 ∧ x2 ≤ 143) (k3 : 0 ≤ x3 ∧ x3 ≤ 143) (k4 : 0 ≤ x4 ∧ x4 ≤ 143) (k5 : 0 ≤ x5 ∧ x5 ≤ 143) (k10 : (-1) ≤ x10 ∧ x10 ≤ (-1)) (k12 : 0 ≤ x12 ∧ x12 ≤ 143) (k18 : 0 ≤ x18 ∧ x18 ≤ 71) (k20 : 1 ≤ x20 ∧ x20 ≤ 144) (k22 : 1 ≤ x22 ∧ x22 ≤ 1) (k31 : 0 ≤ x31 ∧ x31 ≤ 142) (k32 : 1 ≤ x32 ∧ x32 ≤ 144) (g1 : x12 = faces_0) (f4 : x32 = x5 + 1) (f8 : x22 = x4 % 2) (f10 : x20 = x2 + 1) (f13 : x18 = x4 / 2) (h19 : x10 = faceOf_2 (x4)) (f22 : TFI (edges_2) (faces_2) (faceOf_2) (x3) (x2) (x4) (x5)) (fe_0_6_1 : edges_0 = edges_1) (fe_0_13_1 : faces_0 = faces_1) (fe_0_6_2 : edges_1 = edges_2) (fe_0_13_2 : faces_1 = faces_2) (hE_0_15_2 : ∀ j : Int, rowNode_1 j = rowNode_2 j) (hE_0_16_1 : ∀ j : Int, faceOf_0 j = faceOf_1 j) (hE_0_16_2 : ∀ j : Int, 0 ≤ j → (j = x4 → faceOf_1 j = x12) ∧ (j ≠ x4 → faceOf_1 j = faceOf_2 j)) (kz_0_6 : 0 ≤ edges_0 ∧ edges_0 ≤ 72) (kz_0_13 : 0 ≤ faces_0 ∧ faces_0 ≤ 144) : TFI (edges_0) (faces_0) (faceOf_0) (x3) (x20) (x31) (x32) := by
  subst fe_0_6_1
  subst fe_0_13_1
  subst fe_0_6_2
  subst fe_0_13_2
  have e_hE_0_15_2 := funext hE_0_15_2; subst e_hE_0_15_2
  have e_hE_0_16_1 := funext hE_0_16_1; subst e_hE_0_16_1
  first
    | (skip; (first | subst h19 | skip); exact tfi_start ‹TFO _ _ _ _ _› (by omega) (by omega) (by omega) (by omega))
    | (skip; (first | subst h19 | skip); exact tfi_step ‹TFI _ _ _ _ _ _ _› (by assumption) rfl (by omega) (by omega) (by omega) (by omega) (by omega) (by omega))
  
def o_Ne_traceFaces_at_Nq_13 : or_T := (55, 33, [(0, (2, 0, 0, [294])), (1, (2, 0, 0, [294])), (2, (0, 0, 143, [])), (3, (0, 0, 143, [])), (4, (0, 0, 143, [])), (5, (0, 0, 143, [])), (6, (0, 2, 2, [])), (7, (0, 0, 72, [])), (8, (0, 1, 144, [])), (9, (2, 0, 0, [293])), (10, (0, -1, -1, [])), (11, (0, -1, -1, [])), (12, (0, 0, 143, [])), (13, (2, 0, 0, [292])), (14, (0, 1, 1, [])), (15, (0, 1, 1, [])), (18, (0, 0, 71, [])), (20, (0, 1, 144, [])), (21, (0, 1, 1, [])), (22, (0, 1, 1, [])), (25, (0, 0, 71, [])), (28, (0, 1, 1, [])), (29, (0, 0, 143, [])), (31, (0, 0, 142, [])), (32, (0, 1, 144, []))], [(9, [13, 1], [15]), (9, [12, 1], [13]), (9, [9, 1], [16]), (9, [7, 1], [6]), (6, [32, 5], [1]), (16, [29, 4, 28], [2]), (11, [25, 4], [2]), (8, [22], [1]), (12, [22, 4], [2]), (16, [22, 4, 21], [0]), (6, [20, 2], [1]), (24, [0, 1], []), (100, [13, 2, 19], []), (11, [18, 4], [2]), (8, [15], [1]), (12, [15, 4], [2]), (16, [15, 4, 14], [0]), (100, [9, 4, 12], []), (7, [10, 11], [0]), (10, [10, 9, 4], []), (7, [5, 8], [2]), (3, [8, 6, 7], []), (20, [1, 3, 2, 4, 5], [60, 2, 1, 552, 6, 13, 16])], [], [], [(20, [1, 3, 20, 31, 32], [60, 2, 1, 552, 6, 13, 16])], [], [(32, 5, 1, 1), (32, 8, -4294967296, 0), (32, 2, -4294967296, 1), (20, 2, 1, 1), (5, 8, -4294967296, -1), (5, 2, -4294967296, 0)])
theorem oo_Ne_traceFaces_at_Nq_13 {kA : Nat → ClassId} : or_ok PRD kA GG o_Ne_traceFaces_at_Nq_13 := by
  refine or_mk fun A ta ws vs hD hth hl => ?_
  intro t0 r0 t1 r1 t2 k2 t3 k3 t4 k4 t5 k5 t6 k6 t7 k7 t8 k8 t9 r9 t10 k10 t11 k11 t12 k12 t13 r13 t14 k14 t15 k15 t18 k18 t20 k20 t21 k21 t22 k22 t25 k25 t28 k28 t29 k29 t31 k31 t32 k32 d0 d1 d2 d3 d4 d5 f0 f1 f2 f3 f4 f5 f6 f7 f8 f9 f10 f11 ta1 w1 le1 s1 f13 f14 f15 f16 ta2 w2 le2 s2 f18 f19 f20 f21 f22
  replace f1 := shm_379 f1
  replace f2 := shm_188 f2
  replace f4 := shm_4 f4
  replace f8 := shm_382 f8
  replace f10 := shm_4 f10
  replace f11 := shm_5 f11
  have s1 : (∀ b j, w_el ws b j = if b = v_ad (n_v vs 13) ∧ j = (v_iv (n_v vs 2)).toNat then v_iv (n_v vs 19) else w_el w1 b j) ∧ ∀ b k, w_fd ws b k = w_fd w1 b k := s1.2
  replace f13 := shm_573 f13
  have s2 : (∀ b j, w_el w1 b j = if b = v_ad (n_v vs 9) ∧ j = (v_iv (n_v vs 4)).toNat then v_iv (n_v vs 12) else w_el w2 b j) ∧ ∀ b k, w_fd w1 b k = w_fd w2 b k := s2.2
  replace f19 := shm_106 f19
  replace f22 := shm_1072 f22
  have q1 : n_v vs 1 = n_v vs 0 := f11.symm
  simp only [q1] at f1 f2 f22
  have cr_0_15 := fdq_255 hD hth r0
  have ar_0_16_1 : w_ar w1 (n_v vs 0) 16 = w_ar ws (n_v vs 0) 16 := congrArg v_ad (s1.2 _ _).symm
  have ar_0_16_2 : w_ar w2 (n_v vs 0) 16 = w_ar ws (n_v vs 0) 16 := by rw [← ar_0_16_1]; show v_ad (w_fd w2 _ _) = v_ad (w_fd w1 _ _); rw [s2.2]
  have cr_0_16 := fdq_252 hD hth r0
  have ad_9 : v_ad (n_v vs 9) = w_ar ws (n_v vs 0) 16 := congrArg v_ad f2
  have g1 : v_iv (n_v vs 12) = w_fi ws (n_v vs 0) 13 := congrArg v_iv f1
  simp only [ad_9] at f19
  have h19 : v_iv (n_v vs 10) = w_ei w2 (w_ar ws (n_v vs 0) 16) (v_iv (n_v vs 4)) := f19
  simp only [ar_0_16_2] at f22
  have fe_0_6_1 : w_fi ws (n_v vs 0) 6 = w_fi w1 (n_v vs 0) 6 := congrArg v_iv (s1.2 _ _)
  have fe_0_13_1 : w_fi ws (n_v vs 0) 13 = w_fi w1 (n_v vs 0) 13 := congrArg v_iv (s1.2 _ _)
  have fe_0_6_2 : w_fi w1 (n_v vs 0) 6 = w_fi w2 (n_v vs 0) 6 := congrArg v_iv (s2.2 _ _)
  have fe_0_13_2 : w_fi w1 (n_v vs 0) 13 = w_fi w2 (n_v vs 0) 13 := congrArg v_iv (s2.2 _ _)
  have hE_0_15_2 : ∀ j : Int, w_ei w1 (w_ar ws (n_v vs 0) 15) j = w_ei w2 (w_ar ws (n_v vs 0) 15) j := el_kp s2.1 r9 cr_0_15 (by decide)
  have hE_0_16_1 : ∀ j : Int, w_ei ws (w_ar ws (n_v vs 0) 16) j = w_ei w1 (w_ar ws (n_v vs 0) 16) j := el_kp s1.1 r13 cr_0_16 (by decide)
  have hE_0_16_2 : ∀ j : Int, 0 ≤ j → (j = v_iv (n_v vs 4) → w_ei w1 (w_ar ws (n_v vs 0) 16) j = v_iv (n_v vs 12)) ∧ (j ≠ v_iv (n_v vs 4) → w_ei w1 (w_ar ws (n_v vs 0) 16) j = w_ei w2 (w_ar ws (n_v vs 0) 16) j) := fun j hj => ⟨fun h => by unfold w_ei; rw [s2.1, if_pos ⟨ad_9.symm, by rw [h]⟩], fun h => by unfold w_ei; rw [s2.1, if_neg (fun e => h (by have := e.2; omega))]⟩
  have kz_0_6 := fdq_220 hD hth r0
  have kz_0_13 := fdq_253 hD hth r0
  have nf0 : fc_1 PRD (20, [1, 3, 20, 31, 32], [60, 2, 1, 552, 6, 13, 16]) ws (vs) := by
    refine ⟨nf_in hl rfl, sgq_1072 ?_⟩
    · show TFI (w_fi ws (n_v vs 1) 6) (w_fi ws (n_v vs 1) 13) (w_ei ws (w_ar ws (n_v vs 1) 16)) (v_iv (n_v vs 3)) (v_iv (n_v vs 20)) (v_iv (n_v vs 31)) (v_iv (n_v vs 32))
      rw [q1]
      exact vc_Ne_traceFaces_at_Nq_13_0 (v_iv (n_v vs 2)) (v_iv (n_v vs 3)) (v_iv (n_v vs 4)) (v_iv (n_v vs 5)) (v_iv (n_v vs 10)) (v_iv (n_v vs 12)) (v_iv (n_v vs 18)) (v_iv (n_v vs 20)) (v_iv (n_v vs 22)) (v_iv (n_v vs 31)) (v_iv (n_v vs 32)) (w_fi ws (n_v vs 0) 13) (w_fi ws (n_v vs 0) 6) (w_ei w2 (w_ar ws (n_v vs 0) 16)) (w_fi w2 (n_v vs 0) 6) (w_fi w2 (n_v vs 0) 13) (w_fi w1 (n_v vs 0) 6) (w_fi w1 (n_v vs 0) 13) (w_ei w1 (w_ar ws (n_v vs 0) 15)) (w_ei w2 (w_ar ws (n_v vs 0) 15)) (w_ei ws (w_ar ws (n_v vs 0) 16)) (w_ei w1 (w_ar ws (n_v vs 0) 16)) k2 k3 k4 k5 k10 k12 k18 k20 k22 k31 k32 g1 f4 f8 f10 f13 h19 f22 fe_0_6_1 fe_0_13_1 fe_0_6_2 fe_0_13_2 hE_0_15_2 hE_0_16_1 hE_0_16_2 kz_0_6 kz_0_13
  refine ⟨(fun _ h => (by cases h)), [], trivial, ?_, (fun _ h => (by cases h))⟩
  rw [List.append_nil]
  exact List.forall_mem_cons.mpr ⟨⟨show (20 : Nat) < 100 from by decide, nf0⟩, (fun _ h => (by cases h))⟩
set_option maxHeartbeats 4000000 in
theorem vc_Ne_traceFaces_at_Nq_14_r0 (x3 : Int) (x4 : Int) (x10 : Int) (x15 : Int) (x22 : Int) (x28 : Int) (faces_0 : Int) (edges_0 : Int) (faceOf_2 : Int → Int) (edges_2 : Int) (faces_2 : Int) (edges_1 : Int) (faces_1 : Int) (rowNode_1 : Int → Int) (rowNode_2 : Int → Int) (faceOf_0 : Int → Int) (faceOf_1 : Int → Int) (k4 : 0 ≤ x4 ∧ x4 ≤ 143) (k10 : (-1) ≤ x10 ∧ x10 ≤ (-1)) (k15 : 1 ≤ x15 ∧ x15 ≤ 1) (k22 : 0 ≤ x22 ∧ x22 ≤ 0) (k28 : 0 ≤ x28 ∧ x28 ≤ 255) (f7 : x22 = x4 % 2) (f14 : x15 = x4 % 2) (h18 : x10 = faceOf_2 (x4)) (fe_0_6_1 : edges_0 = edges_1) (fe_0_13_1 : faces_0 = faces_1) (fe_0_6_2 : edges_1 = edges_2) (fe_0_13_2 : faces_1 = faces_2) (hE_0_15_2 : ∀ j : Int, rowNode_1 j = rowNode_2 j) (hE_0_16_1 : ∀ j : Int, faceOf_0 j = faceOf_1 j) (kz_0_6 : 0 ≤ edges_0 ∧ edges_0 ≤ 72) (kz_0_13 : 0 ≤ faces_0 ∧ faces_0 ≤ 144) : 0 ≤ x28 ∧ x28 ≤ 143 := by
  subst fe_0_6_1
  subst fe_0_13_1
  subst fe_0_6_2
  subst fe_0_13_2
  have e_hE_0_15_2 := funext hE_0_15_2; subst e_hE_0_15_2
  have e_hE_0_16_1 := funext hE_0_16_1; subst e_hE_0_16_1
  first
    | omega
    | (have q := tfo_low ‹TFO _ _ _ _ _›; omega)
    | (skip; (first | subst h18 | skip); have q := tfc_lt (‹TFO _ _ _ _ _›).2.2.2.1 (e := x3) (by omega) (by omega) (by omega); have q2 := tfo_low ‹TFO _ _ _ _ _›; omega)
    | (skip; (first | subst h18 | skip); have q := (tfo_next (faces_zq := faces_0 + 1) (st_zq := x3 + 1) ‹TFI _ _ _ _ _ _ _› (by first | (left; omega) | (right; omega)) rfl rfl).2; have q2 := (‹TFI _ _ _ _ _ _ _›).2.2.1; omega)
    | (skip; (first | subst h18 | skip); have q := tfi_low ‹TFI _ _ _ _ _ _ _› (by omega) (by omega) (by omega); omega)
    | (have q := xor_one (x := x29) (a := x4) (b := x28) (by assumption) (by omega) (by omega) (by omega) (by omega) (by omega); split at q <;> omega)
  
def o_Ne_traceFaces_at_Nq_14 : or_T := (155, 29, [(0, (2, 0, 0, [294])), (1, (2, 0, 0, [294])), (2, (0, 0, 143, [])), (3, (0, 0, 143, [])), (4, (0, 0, 143, [])), (5, (0, 0, 143, [])), (6, (0, 2, 2, [])), (7, (0, 0, 72, [])), (8, (0, 1, 144, [])), (9, (2, 0, 0, [293])), (10, (0, -1, -1, [])), (11, (0, -1, -1, [])), (12, (0, 0, 143, [])), (13, (2, 0, 0, [292])), (14, (0, 1, 1, [])), (15, (0, 1, 1, [])), (18, (0, 0, 71, [])), (20, (0, 1, 144, [])), (21, (0, 1, 1, [])), (22, (0, 0, 0, [])), (24, (0, 0, 71, [])), (27, (0, 1, 1, [])), (28, (0, 0, 255, []))], [(9, [13, 1], [15]), (9, [12, 1], [13]), (9, [9, 1], [16]), (9, [7, 1], [6]), (16, [28, 4, 27], [2]), (11, [24, 4], [2]), (8, [22], [0]), (12, [22, 4], [2]), (16, [22, 4, 21], [0]), (6, [20, 2], [1]), (24, [0, 1], []), (100, [13, 2, 19], []), (11, [18, 4], [2]), (8, [15], [1]), (12, [15, 4], [2]), (16, [15, 4, 14], [0]), (100, [9, 4, 12], []), (7, [10, 11], [0]), (10, [10, 9, 4], []), (7, [5, 8], [2]), (3, [8, 6, 7], []), (20, [1, 3, 2, 4, 5], [60, 2, 1, 552, 6, 13, 16])], [(28, (0, 0, 143, []))], [], [], [], [(20, 2, 1, 1), (5, 8, -4294967296, -1), (5, 2, -4294967296, 0)])
theorem oo_Ne_traceFaces_at_Nq_14 {kA : Nat → ClassId} : or_ok PRD kA GG o_Ne_traceFaces_at_Nq_14 := by
  refine or_mk fun A ta ws vs hD hth hl => ?_
  intro t0 r0 t1 r1 t2 k2 t3 k3 t4 k4 t5 k5 t6 k6 t7 k7 t8 k8 t9 r9 t10 k10 t11 k11 t12 k12 t13 r13 t14 k14 t15 k15 t18 k18 t20 k20 t21 k21 t22 k22 t24 k24 t27 k27 t28 k28 d0 d1 d2 f0 f1 f2 f3 f4 f5 f6 f7 f8 f9 f10 ta1 w1 le1 s1 f12 f13 f14 f15 ta2 w2 le2 s2 f17 f18 f19 f20 f21
  replace f2 := shm_188 f2
  replace f10 := shm_5 f10
  have s1 : (∀ b j, w_el ws b j = if b = v_ad (n_v vs 13) ∧ j = (v_iv (n_v vs 2)).toNat then v_iv (n_v vs 19) else w_el w1 b j) ∧ ∀ b k, w_fd ws b k = w_fd w1 b k := s1.2
  have s2 : (∀ b j, w_el w1 b j = if b = v_ad (n_v vs 9) ∧ j = (v_iv (n_v vs 4)).toNat then v_iv (n_v vs 12) else w_el w2 b j) ∧ ∀ b k, w_fd w1 b k = w_fd w2 b k := s2.2
  replace f18 := shm_106 f18
  have q1 : n_v vs 1 = n_v vs 0 := f10.symm
  simp only [q1] at f2
  have cr_0_15 := fdq_255 hD hth r0
  have cr_0_16 := fdq_252 hD hth r0
  have ad_9 : v_ad (n_v vs 9) = w_ar ws (n_v vs 0) 16 := congrArg v_ad f2
  simp only [ad_9] at f18
  have h18 : v_iv (n_v vs 10) = w_ei w2 (w_ar ws (n_v vs 0) 16) (v_iv (n_v vs 4)) := f18
  have fe_0_6_1 : w_fi ws (n_v vs 0) 6 = w_fi w1 (n_v vs 0) 6 := congrArg v_iv (s1.2 _ _)
  have fe_0_13_1 : w_fi ws (n_v vs 0) 13 = w_fi w1 (n_v vs 0) 13 := congrArg v_iv (s1.2 _ _)
  have fe_0_6_2 : w_fi w1 (n_v vs 0) 6 = w_fi w2 (n_v vs 0) 6 := congrArg v_iv (s2.2 _ _)
  have fe_0_13_2 : w_fi w1 (n_v vs 0) 13 = w_fi w2 (n_v vs 0) 13 := congrArg v_iv (s2.2 _ _)
  have hE_0_15_2 : ∀ j : Int, w_ei w1 (w_ar ws (n_v vs 0) 15) j = w_ei w2 (w_ar ws (n_v vs 0) 15) j := el_kp s2.1 r9 cr_0_15 (by decide)
  have hE_0_16_1 : ∀ j : Int, w_ei ws (w_ar ws (n_v vs 0) 16) j = w_ei w1 (w_ar ws (n_v vs 0) 16) j := el_kp s1.1 r13 cr_0_16 (by decide)
  have kz_0_6 := fdq_220 hD hth r0
  have kz_0_13 := fdq_253 hD hth r0
  have hrf0 : 0 ≤ v_iv (n_v vs 28) ∧ v_iv (n_v vs 28) ≤ 143 := vc_Ne_traceFaces_at_Nq_14_r0 (v_iv (n_v vs 3)) (v_iv (n_v vs 4)) (v_iv (n_v vs 10)) (v_iv (n_v vs 15)) (v_iv (n_v vs 22)) (v_iv (n_v vs 28)) (w_fi ws (n_v vs 0) 13) (w_fi ws (n_v vs 0) 6) (w_ei w2 (w_ar ws (n_v vs 0) 16)) (w_fi w2 (n_v vs 0) 6) (w_fi w2 (n_v vs 0) 13) (w_fi w1 (n_v vs 0) 6) (w_fi w1 (n_v vs 0) 13) (w_ei w1 (w_ar ws (n_v vs 0) 15)) (w_ei w2 (w_ar ws (n_v vs 0) 15)) (w_ei ws (w_ar ws (n_v vs 0) 16)) (w_ei w1 (w_ar ws (n_v vs 0) 16)) k4 k10 k15 k22 k28 (shm_382 f7) (shm_382 f14) h18 fe_0_6_1 fe_0_13_1 fe_0_6_2 fe_0_13_2 hE_0_15_2 hE_0_16_1 kz_0_6 kz_0_13
  have rf28 : tv_ok ta (0, 0, 143, []) (n_v vs 28) := tv_in t28 (by first | omega | grind) (by first | omega | grind)
  refine ⟨List.forall_mem_cons.mpr ⟨rf28, (fun _ h => (by cases h))⟩, [], trivial, ?_, (fun _ h => (by cases h))⟩
  rw [List.append_nil]
  exact (fun _ h => (by cases h))
set_option maxHeartbeats 4000000 in
theorem vc_Ne_traceFaces_at_Nq_15_0 (x2 : Int) (x3 : Int) (x4 : Int) (x5 : Int) (x10 : Int) (x12 : Int) (x15 : Int) (x20 : Int) (x22 : Int) (x30 : Int) (x31 : Int) (faces_0 : Int) (edges_0 : Int) (faceOf_2 : Int → Int) (edges_2 : Int) (faces_2 : Int) (edges_1 : Int) (faces_1 : Int) (rowNode_1 : Int → Int) (rowNode_2 : Int → Int) (faceOf_0 : Int → Int) (faceOf_1 : Int → Int) (k2 : 0 ≤ x2 ∧ x2 ≤ 143) (k3 : 0 ≤ x3 ∧ x3 ≤ 143) (k4 : 0 ≤ x4 ∧ x4 ≤ 143) (k5 : 0 ≤ x5 ∧ x5 ≤ 143) (k10 : (-1) ≤ x10 ∧ x10 ≤ (-1)) (k12 : 0 ≤ x12 ∧ x12 ≤ 143) (k15 : 1 ≤ x15 ∧ x15 ≤ 1) (k20 : 1 ≤ x20 ∧ x20 ≤ 144) (k22 : 0 ≤ x22 ∧ x22 ≤ 0) (k30 : 1 ≤ x30 ∧ x30 ≤ 143) (k31 : 1 ≤ x31 ∧ x31 ≤ 144) (g1 : x12 = faces_0) (f4 : x31 = x5 + 1) (f8 : x22 = x4 % 2) (f10 : x20 = x2 + 1) (f15 : x15 = x4 % 2) (h19 : x10 = faceOf_2 (x4)) (f22 : TFI (edges_2) (faces_2) (faceOf_2) (x3) (x2) (x4) (x5)) (fe_0_6_1 : edges_0 = edges_1) (fe_0_13_1 : faces_0 = faces_1) (fe_0_6_2 : edges_1 = edges_2) (fe_0_13_2 : faces_1 = faces_2) (hE_0_15_2 : ∀ j : Int, rowNode_1 j = rowNode_2 j) (hE_0_16_1 : ∀ j : Int, faceOf_0 j = faceOf_1 j) (hE_0_16_2 : ∀ j : Int, 0 ≤ j → (j = x4 → faceOf_1 j = x12) ∧ (j ≠ x4 → faceOf_1 j = faceOf_2 j)) (kz_0_6 : 0 ≤ edges_0 ∧ edges_0 ≤ 72) (kz_0_13 : 0 ≤ faces_0 ∧ faces_0 ≤ 144) : TFI (edges_0) (faces_0) (faceOf_0) (x3) (x20) (x30) (x31) := by
  subst fe_0_6_1
  subst fe_0_13_1
  subst fe_0_6_2
  subst fe_0_13_2
  have e_hE_0_15_2 := funext hE_0_15_2; subst e_hE_0_15_2
  have e_hE_0_16_1 := funext hE_0_16_1; subst e_hE_0_16_1
  first
    | (skip; (first | subst h19 | skip); exact tfi_start ‹TFO _ _ _ _ _› (by omega) (by omega) (by omega) (by omega))
    | (skip; (first | subst h19 | skip); exact tfi_step ‹TFI _ _ _ _ _ _ _› (by assumption) rfl (by omega) (by omega) (by omega) (by omega) (by omega) (by omega))
  
def o_Ne_traceFaces_at_Nq_15 : or_T := (55, 32, [(0, (2, 0, 0, [294])), (1, (2, 0, 0, [294])), (2, (0, 0, 143, [])), (3, (0, 0, 143, [])), (4, (0, 0, 143, [])), (5, (0, 0, 143, [])), (6, (0, 2, 2, [])), (7, (0, 0, 72, [])), (8, (0, 1, 144, [])), (9, (2, 0, 0, [293])), (10, (0, -1, -1, [])), (11, (0, -1, -1, [])), (12, (0, 0, 143, [])), (13, (2, 0, 0, [292])), (14, (0, 1, 1, [])), (15, (0, 1, 1, [])), (18, (0, 0, 71, [])), (20, (0, 1, 144, [])), (21, (0, 1, 1, [])), (22, (0, 0, 0, [])), (24, (0, 0, 71, [])), (27, (0, 1, 1, [])), (28, (0, 0, 143, [])), (30, (0, 1, 143, [])), (31, (0, 1, 144, []))], [(9, [13, 1], [15]), (9, [12, 1], [13]), (9, [9, 1], [16]), (9, [7, 1], [6]), (6, [31, 5], [1]), (16, [28, 4, 27], [2]), (11, [24, 4], [2]), (8, [22], [0]), (12, [22, 4], [2]), (16, [22, 4, 21], [0]), (6, [20, 2], [1]), (24, [0, 1], []), (100, [13, 2, 19], []), (11, [18, 4], [2]), (8, [15], [1]), (12, [15, 4], [2]), (16, [15, 4, 14], [0]), (100, [9, 4, 12], []), (7, [10, 11], [0]), (10, [10, 9, 4], []), (7, [5, 8], [2]), (3, [8, 6, 7], []), (20, [1, 3, 2, 4, 5], [60, 2, 1, 552, 6, 13, 16])], [], [], [(20, [1, 3, 20, 30, 31], [60, 2, 1, 552, 6, 13, 16])], [], [(31, 5, 1, 1), (31, 8, -4294967296, 0), (31, 2, -4294967296, 1), (20, 2, 1, 1), (5, 8, -4294967296, -1), (5, 2, -4294967296, 0)])
theorem oo_Ne_traceFaces_at_Nq_15 {kA : Nat → ClassId} : or_ok PRD kA GG o_Ne_traceFaces_at_Nq_15 := by
  refine or_mk fun A ta ws vs hD hth hl => ?_
  intro t0 r0 t1 r1 t2 k2 t3 k3 t4 k4 t5 k5 t6 k6 t7 k7 t8 k8 t9 r9 t10 k10 t11 k11 t12 k12 t13 r13 t14 k14 t15 k15 t18 k18 t20 k20 t21 k21 t22 k22 t24 k24 t27 k27 t28 k28 t30 k30 t31 k31 d0 d1 d2 d3 d4 d5 f0 f1 f2 f3 f4 f5 f6 f7 f8 f9 f10 f11 ta1 w1 le1 s1 f13 f14 f15 f16 ta2 w2 le2 s2 f18 f19 f20 f21 f22
  replace f1 := shm_379 f1
  replace f2 := shm_188 f2
  replace f4 := shm_4 f4
  replace f8 := shm_382 f8
  replace f10 := shm_4 f10
  replace f11 := shm_5 f11
  have s1 : (∀ b j, w_el ws b j = if b = v_ad (n_v vs 13) ∧ j = (v_iv (n_v vs 2)).toNat then v_iv (n_v vs 19) else w_el w1 b j) ∧ ∀ b k, w_fd ws b k = w_fd w1 b k := s1.2
  replace f15 := shm_382 f15
  have s2 : (∀ b j, w_el w1 b j = if b = v_ad (n_v vs 9) ∧ j = (v_iv (n_v vs 4)).toNat then v_iv (n_v vs 12) else w_el w2 b j) ∧ ∀ b k, w_fd w1 b k = w_fd w2 b k := s2.2
  replace f19 := shm_106 f19
  replace f22 := shm_1072 f22
  have q1 : n_v vs 1 = n_v vs 0 := f11.symm
  simp only [q1] at f1 f2 f22
  have cr_0_15 := fdq_255 hD hth r0
  have ar_0_16_1 : w_ar w1 (n_v vs 0) 16 = w_ar ws (n_v vs 0) 16 := congrArg v_ad (s1.2 _ _).symm
  have ar_0_16_2 : w_ar w2 (n_v vs 0) 16 = w_ar ws (n_v vs 0) 16 := by rw [← ar_0_16_1]; show v_ad (w_fd w2 _ _) = v_ad (w_fd w1 _ _); rw [s2.2]
  have cr_0_16 := fdq_252 hD hth r0
  have ad_9 : v_ad (n_v vs 9) = w_ar ws (n_v vs 0) 16 := congrArg v_ad f2
  have g1 : v_iv (n_v vs 12) = w_fi ws (n_v vs 0) 13 := congrArg v_iv f1
  simp only [ad_9] at f19
  have h19 : v_iv (n_v vs 10) = w_ei w2 (w_ar ws (n_v vs 0) 16) (v_iv (n_v vs 4)) := f19
  simp only [ar_0_16_2] at f22
  have fe_0_6_1 : w_fi ws (n_v vs 0) 6 = w_fi w1 (n_v vs 0) 6 := congrArg v_iv (s1.2 _ _)
  have fe_0_13_1 : w_fi ws (n_v vs 0) 13 = w_fi w1 (n_v vs 0) 13 := congrArg v_iv (s1.2 _ _)
  have fe_0_6_2 : w_fi w1 (n_v vs 0) 6 = w_fi w2 (n_v vs 0) 6 := congrArg v_iv (s2.2 _ _)
  have fe_0_13_2 : w_fi w1 (n_v vs 0) 13 = w_fi w2 (n_v vs 0) 13 := congrArg v_iv (s2.2 _ _)
  have hE_0_15_2 : ∀ j : Int, w_ei w1 (w_ar ws (n_v vs 0) 15) j = w_ei w2 (w_ar ws (n_v vs 0) 15) j := el_kp s2.1 r9 cr_0_15 (by decide)
  have hE_0_16_1 : ∀ j : Int, w_ei ws (w_ar ws (n_v vs 0) 16) j = w_ei w1 (w_ar ws (n_v vs 0) 16) j := el_kp s1.1 r13 cr_0_16 (by decide)
  have hE_0_16_2 : ∀ j : Int, 0 ≤ j → (j = v_iv (n_v vs 4) → w_ei w1 (w_ar ws (n_v vs 0) 16) j = v_iv (n_v vs 12)) ∧ (j ≠ v_iv (n_v vs 4) → w_ei w1 (w_ar ws (n_v vs 0) 16) j = w_ei w2 (w_ar ws (n_v vs 0) 16) j) := fun j hj => ⟨fun h => by unfold w_ei; rw [s2.1, if_pos ⟨ad_9.symm, by rw [h]⟩], fun h => by unfold w_ei; rw [s2.1, if_neg (fun e => h (by have := e.2; omega))]⟩
  have kz_0_6 := fdq_220 hD hth r0
  have kz_0_13 := fdq_253 hD hth r0
  have nf0 : fc_1 PRD (20, [1, 3, 20, 30, 31], [60, 2, 1, 552, 6, 13, 16]) ws (vs) := by
    refine ⟨nf_in hl rfl, sgq_1072 ?_⟩
    · show TFI (w_fi ws (n_v vs 1) 6) (w_fi ws (n_v vs 1) 13) (w_ei ws (w_ar ws (n_v vs 1) 16)) (v_iv (n_v vs 3)) (v_iv (n_v vs 20)) (v_iv (n_v vs 30)) (v_iv (n_v vs 31))
      rw [q1]
      exact vc_Ne_traceFaces_at_Nq_15_0 (v_iv (n_v vs 2)) (v_iv (n_v vs 3)) (v_iv (n_v vs 4)) (v_iv (n_v vs 5)) (v_iv (n_v vs 10)) (v_iv (n_v vs 12)) (v_iv (n_v vs 15)) (v_iv (n_v vs 20)) (v_iv (n_v vs 22)) (v_iv (n_v vs 30)) (v_iv (n_v vs 31)) (w_fi ws (n_v vs 0) 13) (w_fi ws (n_v vs 0) 6) (w_ei w2 (w_ar ws (n_v vs 0) 16)) (w_fi w2 (n_v vs 0) 6) (w_fi w2 (n_v vs 0) 13) (w_fi w1 (n_v vs 0) 6) (w_fi w1 (n_v vs 0) 13) (w_ei w1 (w_ar ws (n_v vs 0) 15)) (w_ei w2 (w_ar ws (n_v vs 0) 15)) (w_ei ws (w_ar ws (n_v vs 0) 16)) (w_ei w1 (w_ar ws (n_v vs 0) 16)) k2 k3 k4 k5 k10 k12 k15 k20 k22 k30 k31 g1 f4 f8 f10 f15 h19 f22 fe_0_6_1 fe_0_13_1 fe_0_6_2 fe_0_13_2 hE_0_15_2 hE_0_16_1 hE_0_16_2 kz_0_6 kz_0_13
  refine ⟨(fun _ h => (by cases h)), [], trivial, ?_, (fun _ h => (by cases h))⟩
  rw [List.append_nil]
  exact List.forall_mem_cons.mpr ⟨⟨show (20 : Nat) < 100 from by decide, nf0⟩, (fun _ h => (by cases h))⟩
set_option maxHeartbeats 4000000 in
theorem vc_Ne_traceFaces_at_Nq_16_0 (x2 : Int) (x3 : Int) (x4 : Int) (x5 : Int) (x10 : Int) (x12 : Int) (x15 : Int) (x20 : Int) (x22 : Int) (x30 : Int) (x31 : Int) (faces_0 : Int) (edges_0 : Int) (faceOf_2 : Int → Int) (edges_2 : Int) (faces_2 : Int) (edges_1 : Int) (faces_1 : Int) (rowNode_1 : Int → Int) (rowNode_2 : Int → Int) (faceOf_0 : Int → Int) (faceOf_1 : Int → Int) (k2 : 0 ≤ x2 ∧ x2 ≤ 143) (k3 : 0 ≤ x3 ∧ x3 ≤ 143) (k4 : 0 ≤ x4 ∧ x4 ≤ 143) (k5 : 0 ≤ x5 ∧ x5 ≤ 143) (k10 : (-1) ≤ x10 ∧ x10 ≤ (-1)) (k12 : 0 ≤ x12 ∧ x12 ≤ 143) (k15 : 1 ≤ x15 ∧ x15 ≤ 1) (k20 : 1 ≤ x20 ∧ x20 ≤ 144) (k22 : 0 ≤ x22 ∧ x22 ≤ 0) (k30 : 0 ≤ x30 ∧ x30 ≤ 142) (k31 : 1 ≤ x31 ∧ x31 ≤ 144) (g1 : x12 = faces_0) (f4 : x31 = x5 + 1) (f8 : x22 = x4 % 2) (f10 : x20 = x2 + 1) (f15 : x15 = x4 % 2) (h19 : x10 = faceOf_2 (x4)) (f22 : TFI (edges_2) (faces_2) (faceOf_2) (x3) (x2) (x4) (x5)) (fe_0_6_1 : edges_0 = edges_1) (fe_0_13_1 : faces_0 = faces_1) (fe_0_6_2 : edges_1 = edges_2) (fe_0_13_2 : faces_1 = faces_2) (hE_0_15_2 : ∀ j : Int, rowNode_1 j = rowNode_2 j) (hE_0_16_1 : ∀ j : Int, faceOf_0 j = faceOf_1 j) (hE_0_16_2 : ∀ j : Int, 0 ≤ j → (j = x4 → faceOf_1 j = x12) ∧ (j ≠ x4 → faceOf_1 j = faceOf_2 j)) (kz_0_6 : 0 ≤ edges_0 ∧ edges_0 ≤ 72) (kz_0_13 : 0 ≤ faces_0 ∧ faces_0 ≤ 144) : TFI (edges_0) (faces_0) (faceOf_0) (x3) (x20) (x30) (x31) := by
  subst fe_0_6_1
  subst fe_0_13_1
  subst fe_0_6_2
  subst fe_0_13_2
  have e_hE_0_15_2 := funext hE_0_15_2; subst e_hE_0_15_2
  have e_hE_0_16_1 := funext hE_0_16_1; subst e_hE_0_16_1
  first
    | (skip; (first | subst h19 | skip); exact tfi_start ‹TFO _ _ _ _ _› (by omega) (by omega) (by omega) (by omega))
    | (skip; (first | subst h19 | skip); exact tfi_step ‹TFI _ _ _ _ _ _ _› (by assumption) rfl (by omega) (by omega) (by omega) (by omega) (by omega) (by omega))
  
def o_Ne_traceFaces_at_Nq_16 : or_T := (55, 32, [(0, (2, 0, 0, [294])), (1, (2, 0, 0, [294])), (2, (0, 0, 143, [])), (3, (0, 0, 143, [])), (4, (0, 0, 143, [])), (5, (0, 0, 143, [])), (6, (0, 2, 2, [])), (7, (0, 0, 72, [])), (8, (0, 1, 144, [])), (9, (2, 0, 0, [293])), (10, (0, -1, -1, [])), (11, (0, -1, -1, [])), (12, (0, 0, 143, [])), (13, (2, 0, 0, [292])), (14, (0, 1, 1, [])), (15, (0, 1, 1, [])), (18, (0, 0, 71, [])), (20, (0, 1, 144, [])), (21, (0, 1, 1, [])), (22, (0, 0, 0, [])), (24, (0, 0, 71, [])), (27, (0, 1, 1, [])), (28, (0, 0, 143, [])), (30, (0, 0, 142, [])), (31, (0, 1, 144, []))], [(9, [13, 1], [15]), (9, [12, 1], [13]), (9, [9, 1], [16]), (9, [7, 1], [6]), (6, [31, 5], [1]), (16, [28, 4, 27], [2]), (11, [24, 4], [2]), (8, [22], [0]), (12, [22, 4], [2]), (16, [22, 4, 21], [0]), (6, [20, 2], [1]), (24, [0, 1], []), (100, [13, 2, 19], []), (11, [18, 4], [2]), (8, [15], [1]), (12, [15, 4], [2]), (16, [15, 4, 14], [0]), (100, [9, 4, 12], []), (7, [10, 11], [0]), (10, [10, 9, 4], []), (7, [5, 8], [2]), (3, [8, 6, 7], []), (20, [1, 3, 2, 4, 5], [60, 2, 1, 552, 6, 13, 16])], [], [], [(20, [1, 3, 20, 30, 31], [60, 2, 1, 552, 6, 13, 16])], [], [(31, 5, 1, 1), (31, 8, -4294967296, 0), (31, 2, -4294967296, 1), (20, 2, 1, 1), (5, 8, -4294967296, -1), (5, 2, -4294967296, 0)])
theorem oo_Ne_traceFaces_at_Nq_16 {kA : Nat → ClassId} : or_ok PRD kA GG o_Ne_traceFaces_at_Nq_16 := by
  refine or_mk fun A ta ws vs hD hth hl => ?_
  intro t0 r0 t1 r1 t2 k2 t3 k3 t4 k4 t5 k5 t6 k6 t7 k7 t8 k8 t9 r9 t10 k10 t11 k11 t12 k12 t13 r13 t14 k14 t15 k15 t18 k18 t20 k20 t21 k21 t22 k22 t24 k24 t27 k27 t28 k28 t30 k30 t31 k31 d0 d1 d2 d3 d4 d5 f0 f1 f2 f3 f4 f5 f6 f7 f8 f9 f10 f11 ta1 w1 le1 s1 f13 f14 f15 f16 ta2 w2 le2 s2 f18 f19 f20 f21 f22
  replace f1 := shm_379 f1
  replace f2 := shm_188 f2
  replace f4 := shm_4 f4
  replace f8 := shm_382 f8
  replace f10 := shm_4 f10
  replace f11 := shm_5 f11
  have s1 : (∀ b j, w_el ws b j = if b = v_ad (n_v vs 13) ∧ j = (v_iv (n_v vs 2)).toNat then v_iv (n_v vs 19) else w_el w1 b j) ∧ ∀ b k, w_fd ws b k = w_fd w1 b k := s1.2
  replace f15 := shm_382 f15
  have s2 : (∀ b j, w_el w1 b j = if b = v_ad (n_v vs 9) ∧ j = (v_iv (n_v vs 4)).toNat then v_iv (n_v vs 12) else w_el w2 b j) ∧ ∀ b k, w_fd w1 b k = w_fd w2 b k := s2.2
  replace f19 := shm_106 f19
  replace f22 := shm_1072 f22
  have q1 : n_v vs 1 = n_v vs 0 := f11.symm
  simp only [q1] at f1 f2 f22
  have cr_0_15 := fdq_255 hD hth r0
  have ar_0_16_1 : w_ar w1 (n_v vs 0) 16 = w_ar ws (n_v vs 0) 16 := congrArg v_ad (s1.2 _ _).symm
  have ar_0_16_2 : w_ar w2 (n_v vs 0) 16 = w_ar ws (n_v vs 0) 16 := by rw [← ar_0_16_1]; show v_ad (w_fd w2 _ _) = v_ad (w_fd w1 _ _); rw [s2.2]
  have cr_0_16 := fdq_252 hD hth r0
  have ad_9 : v_ad (n_v vs 9) = w_ar ws (n_v vs 0) 16 := congrArg v_ad f2
  have g1 : v_iv (n_v vs 12) = w_fi ws (n_v vs 0) 13 := congrArg v_iv f1
  simp only [ad_9] at f19
  have h19 : v_iv (n_v vs 10) = w_ei w2 (w_ar ws (n_v vs 0) 16) (v_iv (n_v vs 4)) := f19
  simp only [ar_0_16_2] at f22
  have fe_0_6_1 : w_fi ws (n_v vs 0) 6 = w_fi w1 (n_v vs 0) 6 := congrArg v_iv (s1.2 _ _)
  have fe_0_13_1 : w_fi ws (n_v vs 0) 13 = w_fi w1 (n_v vs 0) 13 := congrArg v_iv (s1.2 _ _)
  have fe_0_6_2 : w_fi w1 (n_v vs 0) 6 = w_fi w2 (n_v vs 0) 6 := congrArg v_iv (s2.2 _ _)
  have fe_0_13_2 : w_fi w1 (n_v vs 0) 13 = w_fi w2 (n_v vs 0) 13 := congrArg v_iv (s2.2 _ _)
  have hE_0_15_2 : ∀ j : Int, w_ei w1 (w_ar ws (n_v vs 0) 15) j = w_ei w2 (w_ar ws (n_v vs 0) 15) j := el_kp s2.1 r9 cr_0_15 (by decide)
  have hE_0_16_1 : ∀ j : Int, w_ei ws (w_ar ws (n_v vs 0) 16) j = w_ei w1 (w_ar ws (n_v vs 0) 16) j := el_kp s1.1 r13 cr_0_16 (by decide)
  have hE_0_16_2 : ∀ j : Int, 0 ≤ j → (j = v_iv (n_v vs 4) → w_ei w1 (w_ar ws (n_v vs 0) 16) j = v_iv (n_v vs 12)) ∧ (j ≠ v_iv (n_v vs 4) → w_ei w1 (w_ar ws (n_v vs 0) 16) j = w_ei w2 (w_ar ws (n_v vs 0) 16) j) := fun j hj => ⟨fun h => by unfold w_ei; rw [s2.1, if_pos ⟨ad_9.symm, by rw [h]⟩], fun h => by unfold w_ei; rw [s2.1, if_neg (fun e => h (by have := e.2; omega))]⟩
  have kz_0_6 := fdq_220 hD hth r0
  have kz_0_13 := fdq_253 hD hth r0
  have nf0 : fc_1 PRD (20, [1, 3, 20, 30, 31], [60, 2, 1, 552, 6, 13, 16]) ws (vs) := by
    refine ⟨nf_in hl rfl, sgq_1072 ?_⟩
    · show TFI (w_fi ws (n_v vs 1) 6) (w_fi ws (n_v vs 1) 13) (w_ei ws (w_ar ws (n_v vs 1) 16)) (v_iv (n_v vs 3)) (v_iv (n_v vs 20)) (v_iv (n_v vs 30)) (v_iv (n_v vs 31))
      rw [q1]
      exact vc_Ne_traceFaces_at_Nq_16_0 (v_iv (n_v vs 2)) (v_iv (n_v vs 3)) (v_iv (n_v vs 4)) (v_iv (n_v vs 5)) (v_iv (n_v vs 10)) (v_iv (n_v vs 12)) (v_iv (n_v vs 15)) (v_iv (n_v vs 20)) (v_iv (n_v vs 22)) (v_iv (n_v vs 30)) (v_iv (n_v vs 31)) (w_fi ws (n_v vs 0) 13) (w_fi ws (n_v vs 0) 6) (w_ei w2 (w_ar ws (n_v vs 0) 16)) (w_fi w2 (n_v vs 0) 6) (w_fi w2 (n_v vs 0) 13) (w_fi w1 (n_v vs 0) 6) (w_fi w1 (n_v vs 0) 13) (w_ei w1 (w_ar ws (n_v vs 0) 15)) (w_ei w2 (w_ar ws (n_v vs 0) 15)) (w_ei ws (w_ar ws (n_v vs 0) 16)) (w_ei w1 (w_ar ws (n_v vs 0) 16)) k2 k3 k4 k5 k10 k12 k15 k20 k22 k30 k31 g1 f4 f8 f10 f15 h19 f22 fe_0_6_1 fe_0_13_1 fe_0_6_2 fe_0_13_2 hE_0_15_2 hE_0_16_1 hE_0_16_2 kz_0_6 kz_0_13
  refine ⟨(fun _ h => (by cases h)), [], trivial, ?_, (fun _ h => (by cases h))⟩
  rw [List.append_nil]
  exact List.forall_mem_cons.mpr ⟨⟨show (20 : Nat) < 100 from by decide, nf0⟩, (fun _ h => (by cases h))⟩
set_option maxHeartbeats 4000000 in
theorem vc_Ne_traceFaces_at_Nq_17_r0 (x2 : Int) (x3 : Int) (x4 : Int) (x5 : Int) (x10 : Int) (x15 : Int) (x18 : Int) (faces_0 : Int) (edges_0 : Int) (faceOf_1 : Int → Int) (edges_1 : Int) (faces_1 : Int) (k2 : 0 ≤ x2 ∧ x2 ≤ 144) (k3 : 0 ≤ x3 ∧ x3 ≤ 143) (k4 : 0 ≤ x4 ∧ x4 ≤ 143) (k5 : 0 ≤ x5 ∧ x5 ≤ 143) (k10 : (-1) ≤ x10 ∧ x10 ≤ (-1)) (k15 : 0 ≤ x15 ∧ x15 ≤ 0) (k18 : 0 ≤ x18 ∧ x18 ≤ 71) (f3 : x18 = x4 / 2) (f5 : x15 = x4 % 2) (h10 : x10 = faceOf_1 (x4)) (f13 : TFI (edges_1) (faces_1) (faceOf_1) (x3) (x2) (x4) (x5)) (fe_0_6_1 : edges_0 = edges_1) (fe_0_13_1 : faces_0 = faces_1) (kz_0_6 : 0 ≤ edges_0 ∧ edges_0 ≤ 72) (kz_0_13 : 0 ≤ faces_0 ∧ faces_0 ≤ 144) : 0 ≤ x2 ∧ x2 ≤ 143 := by
  subst fe_0_6_1
  subst fe_0_13_1
  first
    | omega
    | (have q := tfo_low ‹TFO _ _ _ _ _›; omega)
    | (skip; (first | subst h10 | skip); have q := tfc_lt (‹TFO _ _ _ _ _›).2.2.2.1 (e := x3) (by omega) (by omega) (by omega); have q2 := tfo_low ‹TFO _ _ _ _ _›; omega)
    | (skip; (first | subst h10 | skip); have q := (tfo_next (faces_zq := faces_0 + 1) (st_zq := x3 + 1) ‹TFI _ _ _ _ _ _ _› (by first | (left; omega) | (right; omega)) rfl rfl).2; have q2 := (‹TFI _ _ _ _ _ _ _›).2.2.1; omega)
    | (skip; (first | subst h10 | skip); have q := tfi_low ‹TFI _ _ _ _ _ _ _› (by omega) (by omega) (by omega); omega)
    | (have q := xor_one (x := x29) (a := x4) (b := x28) (by assumption) (by omega) (by omega) (by omega) (by omega) (by omega); split at q <;> omega)
  
def o_Ne_traceFaces_at_Nq_17 : or_T := (116, 20, [(0, (2, 0, 0, [294])), (1, (2, 0, 0, [294])), (2, (0, 0, 144, [])), (3, (0, 0, 143, [])), (4, (0, 0, 143, [])), (5, (0, 0, 143, [])), (6, (0, 2, 2, [])), (7, (0, 0, 72, [])), (8, (0, 1, 144, [])), (9, (2, 0, 0, [293])), (10, (0, -1, -1, [])), (11, (0, -1, -1, [])), (12, (0, 0, 143, [])), (14, (0, 1, 1, [])), (15, (0, 0, 0, [])), (18, (0, 0, 71, []))], [(9, [12, 1], [13]), (9, [9, 1], [16]), (9, [7, 1], [6]), (11, [18, 4], [2]), (8, [15], [0]), (12, [15, 4], [2]), (16, [15, 4, 14], [0]), (24, [0, 1], []), (100, [9, 4, 12], []), (7, [10, 11], [0]), (10, [10, 9, 4], []), (7, [5, 8], [2]), (3, [8, 6, 7], []), (20, [1, 3, 2, 4, 5], [60, 2, 1, 552, 6, 13, 16])], [(2, (0, 0, 143, []))], [], [], [], [(5, 8, -4294967296, -1), (5, 2, -4294967296, 0)])
theorem oo_Ne_traceFaces_at_Nq_17 {kA : Nat → ClassId} : or_ok PRD kA GG o_Ne_traceFaces_at_Nq_17 := by
  refine or_mk fun A ta ws vs hD hth hl => ?_
  intro t0 r0 t1 r1 t2 k2 t3 k3 t4 k4 t5 k5 t6 k6 t7 k7 t8 k8 t9 r9 t10 k10 t11 k11 t12 k12 t14 k14 t15 k15 t18 k18 d0 d1 f0 f1 f2 f3 f4 f5 f6 f7 ta1 w1 le1 s1 f9 f10 f11 f12 f13
  replace f1 := shm_188 f1
  replace f7 := shm_5 f7
  have s1 : (∀ b j, w_el ws b j = if b = v_ad (n_v vs 9) ∧ j = (v_iv (n_v vs 4)).toNat then v_iv (n_v vs 12) else w_el w1 b j) ∧ ∀ b k, w_fd ws b k = w_fd w1 b k := s1.2
  replace f10 := shm_106 f10
  replace f13 := shm_1072 f13
  have q1 : n_v vs 1 = n_v vs 0 := f7.symm
  simp only [q1] at f1 f13
  have ar_0_16_1 : w_ar w1 (n_v vs 0) 16 = w_ar ws (n_v vs 0) 16 := congrArg v_ad (s1.2 _ _).symm
  have ad_9 : v_ad (n_v vs 9) = w_ar ws (n_v vs 0) 16 := congrArg v_ad f1
  simp only [ad_9] at f10
  have h10 : v_iv (n_v vs 10) = w_ei w1 (w_ar ws (n_v vs 0) 16) (v_iv (n_v vs 4)) := f10
  simp only [ar_0_16_1] at f13
  have fe_0_6_1 : w_fi ws (n_v vs 0) 6 = w_fi w1 (n_v vs 0) 6 := congrArg v_iv (s1.2 _ _)
  have fe_0_13_1 : w_fi ws (n_v vs 0) 13 = w_fi w1 (n_v vs 0) 13 := congrArg v_iv (s1.2 _ _)
  have kz_0_6 := fdq_220 hD hth r0
  have kz_0_13 := fdq_253 hD hth r0
  have hrf0 : 0 ≤ v_iv (n_v vs 2) ∧ v_iv (n_v vs 2) ≤ 143 := vc_Ne_traceFaces_at_Nq_17_r0 (v_iv (n_v vs 2)) (v_iv (n_v vs 3)) (v_iv (n_v vs 4)) (v_iv (n_v vs 5)) (v_iv (n_v vs 10)) (v_iv (n_v vs 15)) (v_iv (n_v vs 18)) (w_fi ws (n_v vs 0) 13) (w_fi ws (n_v vs 0) 6) (w_ei w1 (w_ar ws (n_v vs 0) 16)) (w_fi w1 (n_v vs 0) 6) (w_fi w1 (n_v vs 0) 13) k2 k3 k4 k5 k10 k15 k18 (shm_573 f3) (shm_382 f5) h10 f13 fe_0_6_1 fe_0_13_1 kz_0_6 kz_0_13
  have rf2 : tv_ok ta (0, 0, 143, []) (n_v vs 2) := tv_in t2 (by first | omega | grind) (by first | omega | grind)
  refine ⟨List.forall_mem_cons.mpr ⟨rf2, (fun _ h => (by cases h))⟩, [], trivial, ?_, (fun _ h => (by cases h))⟩
  rw [List.append_nil]
  exact (fun _ h => (by cases h))
set_option maxHeartbeats 4000000 in
theorem vc_Ne_traceFaces_at_Nq_18_r0 (x3 : Int) (x4 : Int) (x10 : Int) (x15 : Int) (x22 : Int) (x28 : Int) (faces_0 : Int) (edges_0 : Int) (faceOf_2 : Int → Int) (edges_2 : Int) (faces_2 : Int) (edges_1 : Int) (faces_1 : Int) (rowNode_1 : Int → Int) (rowNode_2 : Int → Int) (faceOf_0 : Int → Int) (faceOf_1 : Int → Int) (k4 : 0 ≤ x4 ∧ x4 ≤ 143) (k10 : (-1) ≤ x10 ∧ x10 ≤ (-1)) (k15 : 0 ≤ x15 ∧ x15 ≤ 0) (k22 : 1 ≤ x22 ∧ x22 ≤ 1) (k28 : 0 ≤ x28 ∧ x28 ≤ 255) (f7 : x22 = x4 % 2) (f14 : x15 = x4 % 2) (h18 : x10 = faceOf_2 (x4)) (fe_0_6_1 : edges_0 = edges_1) (fe_0_13_1 : faces_0 = faces_1) (fe_0_6_2 : edges_1 = edges_2) (fe_0_13_2 : faces_1 = faces_2) (hE_0_15_2 : ∀ j : Int, rowNode_1 j = rowNode_2 j) (hE_0_16_1 : ∀ j : Int, faceOf_0 j = faceOf_1 j) (kz_0_6 : 0 ≤ edges_0 ∧ edges_0 ≤ 72) (kz_0_13 : 0 ≤ faces_0 ∧ faces_0 ≤ 144) : 0 ≤ x28 ∧ x28 ≤ 143 := by
  subst fe_0_6_1
  subst fe_0_13_1
  subst fe_0_6_2
  subst fe_0_13_2
  have e_hE_0_15_2 := funext hE_0_15_2; subst e_hE_0_15_2
  have e_hE_0_16_1 := funext hE_0_16_1; subst e_hE_0_16_1
  first
    | omega
    | (have q := tfo_low ‹TFO _ _ _ _ _›; omega)
    | (skip; (first | subst h18 | skip); have q := tfc_lt (‹TFO _ _ _ _ _›).2.2.2.1 (e := x3) (by omega) (by omega) (by omega); have q2 := tfo_low ‹TFO _ _ _ _ _›; omega)
    | (skip; (first | subst h18 | skip); have q := (tfo_next (faces_zq := faces_0 + 1) (st_zq := x3 + 1) ‹TFI _ _ _ _ _ _ _› (by first | (left; omega) | (right; omega)) rfl rfl).2; have q2 := (‹TFI _ _ _ _ _ _ _›).2.2.1; omega)
    | (skip; (first | subst h18 | skip); have q := tfi_low ‹TFI _ _ _ _ _ _ _› (by omega) (by omega) (by omega); omega)
    | (have q := xor_one (x := x29) (a := x4) (b := x28) (by assumption) (by omega) (by omega) (by omega) (by omega) (by omega); split at q <;> omega)
  
def o_Ne_traceFaces_at_Nq_18 : or_T := (155, 29, [(0, (2, 0, 0, [294])), (1, (2, 0, 0, [294])), (2, (0, 0, 143, [])), (3, (0, 0, 143, [])), (4, (0, 0, 143, [])), (5, (0, 0, 143, [])), (6, (0, 2, 2, [])), (7, (0, 0, 72, [])), (8, (0, 1, 144, [])), (9, (2, 0, 0, [293])), (10, (0, -1, -1, [])), (11, (0, -1, -1, [])), (12, (0, 0, 143, [])), (13, (2, 0, 0, [292])), (14, (0, 1, 1, [])), (15, (0, 0, 0, [])), (18, (0, 0, 71, [])), (20, (0, 1, 144, [])), (21, (0, 1, 1, [])), (22, (0, 1, 1, [])), (24, (0, 0, 71, [])), (27, (0, 1, 1, [])), (28, (0, 0, 255, []))], [(9, [13, 1], [15]), (9, [12, 1], [13]), (9, [9, 1], [16]), (9, [7, 1], [6]), (16, [28, 4, 27], [2]), (11, [24, 4], [2]), (8, [22], [1]), (12, [22, 4], [2]), (16, [22, 4, 21], [0]), (6, [20, 2], [1]), (24, [0, 1], []), (100, [13, 2, 19], []), (11, [18, 4], [2]), (8, [15], [0]), (12, [15, 4], [2]), (16, [15, 4, 14], [0]), (100, [9, 4, 12], []), (7, [10, 11], [0]), (10, [10, 9, 4], []), (7, [5, 8], [2]), (3, [8, 6, 7], []), (20, [1, 3, 2, 4, 5], [60, 2, 1, 552, 6, 13, 16])], [(28, (0, 0, 143, []))], [], [], [], [(20, 2, 1, 1), (5, 8, -4294967296, -1), (5, 2, -4294967296, 0)])
theorem oo_Ne_traceFaces_at_Nq_18 {kA : Nat → ClassId} : or_ok PRD kA GG o_Ne_traceFaces_at_Nq_18 := by
  refine or_mk fun A ta ws vs hD hth hl => ?_
  intro t0 r0 t1 r1 t2 k2 t3 k3 t4 k4 t5 k5 t6 k6 t7 k7 t8 k8 t9 r9 t10 k10 t11 k11 t12 k12 t13 r13 t14 k14 t15 k15 t18 k18 t20 k20 t21 k21 t22 k22 t24 k24 t27 k27 t28 k28 d0 d1 d2 f0 f1 f2 f3 f4 f5 f6 f7 f8 f9 f10 ta1 w1 le1 s1 f12 f13 f14 f15 ta2 w2 le2 s2 f17 f18 f19 f20 f21
  replace f2 := shm_188 f2
  replace f10 := shm_5 f10
  have s1 : (∀ b j, w_el ws b j = if b = v_ad (n_v vs 13) ∧ j = (v_iv (n_v vs 2)).toNat then v_iv (n_v vs 19) else w_el w1 b j) ∧ ∀ b k, w_fd ws b k = w_fd w1 b k := s1.2
  have s2 : (∀ b j, w_el w1 b j = if b = v_ad (n_v vs 9) ∧ j = (v_iv (n_v vs 4)).toNat then v_iv (n_v vs 12) else w_el w2 b j) ∧ ∀ b k, w_fd w1 b k = w_fd w2 b k := s2.2
  replace f18 := shm_106 f18
  have q1 : n_v vs 1 = n_v vs 0 := f10.symm
  simp only [q1] at f2
  have cr_0_15 := fdq_255 hD hth r0
  have cr_0_16 := fdq_252 hD hth r0
  have ad_9 : v_ad (n_v vs 9) = w_ar ws (n_v vs 0) 16 := congrArg v_ad f2
  simp only [ad_9] at f18
  have h18 : v_iv (n_v vs 10) = w_ei w2 (w_ar ws (n_v vs 0) 16) (v_iv (n_v vs 4)) := f18
  have fe_0_6_1 : w_fi ws (n_v vs 0) 6 = w_fi w1 (n_v vs 0) 6 := congrArg v_iv (s1.2 _ _)
  have fe_0_13_1 : w_fi ws (n_v vs 0) 13 = w_fi w1 (n_v vs 0) 13 := congrArg v_iv (s1.2 _ _)
  have fe_0_6_2 : w_fi w1 (n_v vs 0) 6 = w_fi w2 (n_v vs 0) 6 := congrArg v_iv (s2.2 _ _)
  have fe_0_13_2 : w_fi w1 (n_v vs 0) 13 = w_fi w2 (n_v vs 0) 13 := congrArg v_iv (s2.2 _ _)
  have hE_0_15_2 : ∀ j : Int, w_ei w1 (w_ar ws (n_v vs 0) 15) j = w_ei w2 (w_ar ws (n_v vs 0) 15) j := el_kp s2.1 r9 cr_0_15 (by decide)
  have hE_0_16_1 : ∀ j : Int, w_ei ws (w_ar ws (n_v vs 0) 16) j = w_ei w1 (w_ar ws (n_v vs 0) 16) j := el_kp s1.1 r13 cr_0_16 (by decide)
  have kz_0_6 := fdq_220 hD hth r0
  have kz_0_13 := fdq_253 hD hth r0
  have hrf0 : 0 ≤ v_iv (n_v vs 28) ∧ v_iv (n_v vs 28) ≤ 143 := vc_Ne_traceFaces_at_Nq_18_r0 (v_iv (n_v vs 3)) (v_iv (n_v vs 4)) (v_iv (n_v vs 10)) (v_iv (n_v vs 15)) (v_iv (n_v vs 22)) (v_iv (n_v vs 28)) (w_fi ws (n_v vs 0) 13) (w_fi ws (n_v vs 0) 6) (w_ei w2 (w_ar ws (n_v vs 0) 16)) (w_fi w2 (n_v vs 0) 6) (w_fi w2 (n_v vs 0) 13) (w_fi w1 (n_v vs 0) 6) (w_fi w1 (n_v vs 0) 13) (w_ei w1 (w_ar ws (n_v vs 0) 15)) (w_ei w2 (w_ar ws (n_v vs 0) 15)) (w_ei ws (w_ar ws (n_v vs 0) 16)) (w_ei w1 (w_ar ws (n_v vs 0) 16)) k4 k10 k15 k22 k28 (shm_382 f7) (shm_382 f14) h18 fe_0_6_1 fe_0_13_1 fe_0_6_2 fe_0_13_2 hE_0_15_2 hE_0_16_1 kz_0_6 kz_0_13
  have rf28 : tv_ok ta (0, 0, 143, []) (n_v vs 28) := tv_in t28 (by first | omega | grind) (by first | omega | grind)
  refine ⟨List.forall_mem_cons.mpr ⟨rf28, (fun _ h => (by cases h))⟩, [], trivial, ?_, (fun _ h => (by cases h))⟩
  rw [List.append_nil]
  exact (fun _ h => (by cases h))
set_option maxHeartbeats 4000000 in
theorem vc_Ne_traceFaces_at_Nq_19_0 (x2 : Int) (x3 : Int) (x4 : Int) (x5 : Int) (x10 : Int) (x12 : Int) (x15 : Int) (x20 : Int) (x22 : Int) (x30 : Int) (x31 : Int) (faces_0 : Int) (edges_0 : Int) (faceOf_2 : Int → Int) (edges_2 : Int) (faces_2 : Int) (edges_1 : Int) (faces_1 : Int) (rowNode_1 : Int → Int) (rowNode_2 : Int → Int) (faceOf_0 : Int → Int) (faceOf_1 : Int → Int) (k2 : 0 ≤ x2 ∧ x2 ≤ 143) (k3 : 0 ≤ x3 ∧ x3 ≤ 143) (k4 : 0 ≤ x4 ∧ x4 ≤ 143) (k5 : 0 ≤ x5 ∧ x5 ≤ 143) (k10 : (-1) ≤ x10 ∧ x10 ≤ (-1)) (k12 : 0 ≤ x12 ∧ x12 ≤ 143) (k15 : 0 ≤ x15 ∧ x15 ≤ 0) (k20 : 1 ≤ x20 ∧ x20 ≤ 144) (k22 : 1 ≤ x22 ∧ x22 ≤ 1) (k30 : 1 ≤ x30 ∧ x30 ≤ 143) (k31 : 1 ≤ x31 ∧ x31 ≤ 144) (g1 : x12 = faces_0) (f4 : x31 = x5 + 1) (f8 : x22 = x4 % 2) (f10 : x20 = x2 + 1) (f15 : x15 = x4 % 2) (h19 : x10 = faceOf_2 (x4)) (f22 : TFI (edges_2) (faces_2) (faceOf_2) (x3) (x2) (x4) (x5)) (fe_0_6_1 : edges_0 = edges_1) (fe_0_13_1 : faces_0 = faces_1) (fe_0_6_2 : edges_1 = edges_2) (fe_0_13_2 : faces_1 = faces_2) (hE_0_15_2 : ∀ j : Int, rowNode_1 j = rowNode_2 j) (hE_0_16_1 : ∀ j : Int, faceOf_0 j = faceOf_1 j) (hE_0_16_2 : ∀ j : Int, 0 ≤ j → (j = x4 → faceOf_1 j = x12) ∧ (j ≠ x4 → faceOf_1 j = faceOf_2 j)) (kz_0_6 : 0 ≤ edges_0 ∧ edges_0 ≤ 72) (kz_0_13 : 0 ≤ faces_0 ∧ faces_0 ≤ 144) : TFI (edges_0) (faces_0) (faceOf_0) (x3) (x20) (x30) (x31) := by
  subst fe_0_6_1
  subst fe_0_13_1
  subst fe_0_6_2
  subst fe_0_13_2
  have e_hE_0_15_2 := funext hE_0_15_2; subst e_hE_0_15_2
  have e_hE_0_16_1 := funext hE_0_16_1; subst e_hE_0_16_1
  first
    | (skip; (first | subst h19 | skip); exact tfi_start ‹TFO _ _ _ _ _› (by omega) (by omega) (by omega) (by omega))
    | (skip; (first | subst h19 | skip); exact tfi_step ‹TFI _ _ _ _ _ _ _› (by assumption) rfl (by omega) (by omega) (by omega) (by omega) (by omega) (by omega))
  
def o_Ne_traceFaces_at_Nq_19 : or_T := (55, 32, [(0, (2, 0, 0, [294])), (1, (2, 0, 0, [294])), (2, (0, 0, 143, [])), (3, (0, 0, 143, [])), (4, (0, 0, 143, [])), (5, (0, 0, 143, [])), (6, (0, 2, 2, [])), (7, (0, 0, 72, [])), (8, (0, 1, 144, [])), (9, (2, 0, 0, [293])), (10, (0, -1, -1, [])), (11, (0, -1, -1, [])), (12, (0, 0, 143, [])), (13, (2, 0, 0, [292])), (14, (0, 1, 1, [])), (15, (0, 0, 0, [])), (18, (0, 0, 71, [])), (20, (0, 1, 144, [])), (21, (0, 1, 1, [])), (22, (0, 1, 1, [])), (24, (0, 0, 71, [])), (27, (0, 1, 1, [])), (28, (0, 0, 143, [])), (30, (0, 1, 143, [])), (31, (0, 1, 144, []))], [(9, [13, 1], [15]), (9, [12, 1], [13]), (9, [9, 1], [16]), (9, [7, 1], [6]), (6, [31, 5], [1]), (16, [28, 4, 27], [2]), (11, [24, 4], [2]), (8, [22], [1]), (12, [22, 4], [2]), (16, [22, 4, 21], [0]), (6, [20, 2], [1]), (24, [0, 1], []), (100, [13, 2, 19], []), (11, [18, 4], [2]), (8, [15], [0]), (12, [15, 4], [2]), (16, [15, 4, 14], [0]), (100, [9, 4, 12], []), (7, [10, 11], [0]), (10, [10, 9, 4], []), (7, [5, 8], [2]), (3, [8, 6, 7], []), (20, [1, 3, 2, 4, 5], [60, 2, 1, 552, 6, 13, 16])], [], [], [(20, [1, 3, 20, 30, 31], [60, 2, 1, 552, 6, 13, 16])], [], [(31, 5, 1, 1), (31, 8, -4294967296, 0), (31, 2, -4294967296, 1), (20, 2, 1, 1), (5, 8, -4294967296, -1), (5, 2, -4294967296, 0)])
theorem oo_Ne_traceFaces_at_Nq_19 {kA : Nat → ClassId} : or_ok PRD kA GG o_Ne_traceFaces_at_Nq_19 := by
  refine or_mk fun A ta ws vs hD hth hl => ?_
  intro t0 r0 t1 r1 t2 k2 t3 k3 t4 k4 t5 k5 t6 k6 t7 k7 t8 k8 t9 r9 t10 k10 t11 k11 t12 k12 t13 r13 t14 k14 t15 k15 t18 k18 t20 k20 t21 k21 t22 k22 t24 k24 t27 k27 t28 k28 t30 k30 t31 k31 d0 d1 d2 d3 d4 d5 f0 f1 f2 f3 f4 f5 f6 f7 f8 f9 f10 f11 ta1 w1 le1 s1 f13 f14 f15 f16 ta2 w2 le2 s2 f18 f19 f20 f21 f22
  replace f1 := shm_379 f1
  replace f2 := shm_188 f2
  replace f4 := shm_4 f4
  replace f8 := shm_382 f8
  replace f10 := shm_4 f10
  replace f11 := shm_5 f11
  have s1 : (∀ b j, w_el ws b j = if b = v_ad (n_v vs 13) ∧ j = (v_iv (n_v vs 2)).toNat then v_iv (n_v vs 19) else w_el w1 b j) ∧ ∀ b k, w_fd ws b k = w_fd w1 b k := s1.2
  replace f15 := shm_382 f15
  have s2 : (∀ b j, w_el w1 b j = if b = v_ad (n_v vs 9) ∧ j = (v_iv (n_v vs 4)).toNat then v_iv (n_v vs 12) else w_el w2 b j) ∧ ∀ b k, w_fd w1 b k = w_fd w2 b k := s2.2
  replace f19 := shm_106 f19
  replace f22 := shm_1072 f22
  have q1 : n_v vs 1 = n_v vs 0 := f11.symm
  simp only [q1] at f1 f2 f22
  have cr_0_15 := fdq_255 hD hth r0
  have ar_0_16_1 : w_ar w1 (n_v vs 0) 16 = w_ar ws (n_v vs 0) 16 := congrArg v_ad (s1.2 _ _).symm
  have ar_0_16_2 : w_ar w2 (n_v vs 0) 16 = w_ar ws (n_v vs 0) 16 := by rw [← ar_0_16_1]; show v_ad (w_fd w2 _ _) = v_ad (w_fd w1 _ _); rw [s2.2]
  have cr_0_16 := fdq_252 hD hth r0
  have ad_9 : v_ad (n_v vs 9) = w_ar ws (n_v vs 0) 16 := congrArg v_ad f2
  have g1 : v_iv (n_v vs 12) = w_fi ws (n_v vs 0) 13 := congrArg v_iv f1
  simp only [ad_9] at f19
  have h19 : v_iv (n_v vs 10) = w_ei w2 (w_ar ws (n_v vs 0) 16) (v_iv (n_v vs 4)) := f19
  simp only [ar_0_16_2] at f22
  have fe_0_6_1 : w_fi ws (n_v vs 0) 6 = w_fi w1 (n_v vs 0) 6 := congrArg v_iv (s1.2 _ _)
  have fe_0_13_1 : w_fi ws (n_v vs 0) 13 = w_fi w1 (n_v vs 0) 13 := congrArg v_iv (s1.2 _ _)
  have fe_0_6_2 : w_fi w1 (n_v vs 0) 6 = w_fi w2 (n_v vs 0) 6 := congrArg v_iv (s2.2 _ _)
  have fe_0_13_2 : w_fi w1 (n_v vs 0) 13 = w_fi w2 (n_v vs 0) 13 := congrArg v_iv (s2.2 _ _)
  have hE_0_15_2 : ∀ j : Int, w_ei w1 (w_ar ws (n_v vs 0) 15) j = w_ei w2 (w_ar ws (n_v vs 0) 15) j := el_kp s2.1 r9 cr_0_15 (by decide)
  have hE_0_16_1 : ∀ j : Int, w_ei ws (w_ar ws (n_v vs 0) 16) j = w_ei w1 (w_ar ws (n_v vs 0) 16) j := el_kp s1.1 r13 cr_0_16 (by decide)
  have hE_0_16_2 : ∀ j : Int, 0 ≤ j → (j = v_iv (n_v vs 4) → w_ei w1 (w_ar ws (n_v vs 0) 16) j = v_iv (n_v vs 12)) ∧ (j ≠ v_iv (n_v vs 4) → w_ei w1 (w_ar ws (n_v vs 0) 16) j = w_ei w2 (w_ar ws (n_v vs 0) 16) j) := fun j hj => ⟨fun h => by unfold w_ei; rw [s2.1, if_pos ⟨ad_9.symm, by rw [h]⟩], fun h => by unfold w_ei; rw [s2.1, if_neg (fun e => h (by have := e.2; omega))]⟩
  have kz_0_6 := fdq_220 hD hth r0
  have kz_0_13 := fdq_253 hD hth r0
  have nf0 : fc_1 PRD (20, [1, 3, 20, 30, 31], [60, 2, 1, 552, 6, 13, 16]) ws (vs) := by
    refine ⟨nf_in hl rfl, sgq_1072 ?_⟩
    · show TFI (w_fi ws (n_v vs 1) 6) (w_fi ws (n_v vs 1) 13) (w_ei ws (w_ar ws (n_v vs 1) 16)) (v_iv (n_v vs 3)) (v_iv (n_v vs 20)) (v_iv (n_v vs 30)) (v_iv (n_v vs 31))
      rw [q1]
      exact vc_Ne_traceFaces_at_Nq_19_0 (v_iv (n_v vs 2)) (v_iv (n_v vs 3)) (v_iv (n_v vs 4)) (v_iv (n_v vs 5)) (v_iv (n_v vs 10)) (v_iv (n_v vs 12)) (v_iv (n_v vs 15)) (v_iv (n_v vs 20)) (v_iv (n_v vs 22)) (v_iv (n_v vs 30)) (v_iv (n_v vs 31)) (w_fi ws (n_v vs 0) 13) (w_fi ws (n_v vs 0) 6) (w_ei w2 (w_ar ws (n_v vs 0) 16)) (w_fi w2 (n_v vs 0) 6) (w_fi w2 (n_v vs 0) 13) (w_fi w1 (n_v vs 0) 6) (w_fi w1 (n_v vs 0) 13) (w_ei w1 (w_ar ws (n_v vs 0) 15)) (w_ei w2 (w_ar ws (n_v vs 0) 15)) (w_ei ws (w_ar ws (n_v vs 0) 16)) (w_ei w1 (w_ar ws (n_v vs 0) 16)) k2 k3 k4 k5 k10 k12 k15 k20 k22 k30 k31 g1 f4 f8 f10 f15 h19 f22 fe_0_6_1 fe_0_13_1 fe_0_6_2 fe_0_13_2 hE_0_15_2 hE_0_16_1 hE_0_16_2 kz_0_6 kz_0_13
  refine ⟨(fun _ h => (by cases h)), [], trivial, ?_, (fun _ h => (by cases h))⟩
  rw [List.append_nil]
  exact List.forall_mem_cons.mpr ⟨⟨show (20 : Nat) < 100 from by decide, nf0⟩, (fun _ h => (by cases h))⟩
set_option maxHeartbeats 4000000 in
theorem vc_Ne_traceFaces_at_Nq_20_0 (x2 : Int) (x3 : Int) (x4 : Int) (x5 : Int) (x10 : Int) (x12 : Int) (x15 : Int) (x20 : Int) (x22 : Int) (x30 : Int) (x31 : Int) (faces_0 : Int) (edges_0 : Int) (faceOf_2 : Int → Int) (edges_2 : Int) (faces_2 : Int) (edges_1 : Int) (faces_1 : Int) (rowNode_1 : Int → Int) (rowNode_2 : Int → Int) (faceOf_0 : Int → Int) (faceOf_1 : Int → Int) (k2 : 0 ≤ x2 ∧ x2 ≤ 143) (k3 : 0 ≤ x3 ∧ x3 ≤ 143) (k4 : 0 ≤ x4 ∧ x4 ≤ 143) (k5 : 0 ≤ x5 ∧ x5 ≤ 143) (k10 : (-1) ≤ x10 ∧ x10 ≤ (-1)) (k12 : 0 ≤ x12 ∧ x12 ≤ 143) (k15 : 0 ≤ x15 ∧ x15 ≤ 0) (k20 : 1 ≤ x20 ∧ x20 ≤ 144) (k22 : 1 ≤ x22 ∧ x22 ≤ 1) (k30 : 0 ≤ x30 ∧ x30 ≤ 142) (k31 : 1 ≤ x31 ∧ x31 ≤ 144) (g1 : x12 = faces_0) (f4 : x31 = x5 + 1) (f8 : x22 = x4 % 2) (f10 : x20 = x2 + 1) (f15 : x15 = x4 % 2) (h19 : x10 = faceOf_2 (x4)) (f22 : TFI (edges_2) (faces_2) (faceOf_2) (x3) (x2) (x4) (x5)) (fe_0_6_1 : edges_0 = edges_1) (fe_0_13_1 : faces_0 = faces_1) (fe_0_6_2 : edges_1 = edges_2) (fe_0_13_2 : faces_1 = faces_2) (hE_0_15_2 : ∀ j : Int, rowNode_1 j = rowNode_2 j) (hE_0_16_1 : ∀ j : Int, faceOf_0 j = faceOf_1 j) (hE_0_16_2 : ∀ j : Int, 0 ≤ j → (j = x4 → faceOf_1 j = x12) ∧ (j ≠ x4 → faceOf_1 j = faceOf_2 j)) (kz_0_6 : 0 ≤ edges_0 ∧ edges_0 ≤ 72) (kz_0_13 : 0 ≤ faces_0 ∧ faces_0 ≤ 144) : TFI (edges_0) (faces_0) (faceOf_0) (x3) (x20) (x30) (x31) := by
  subst fe_0_6_1
  subst fe_0_13_1
  subst fe_0_6_2
  subst fe_0_13_2
  have e_hE_0_15_2 := funext hE_0_15_2; subst e_hE_0_15_2
  have e_hE_0_16_1 := funext hE_0_16_1; subst e_hE_0_16_1
  first
    | (skip; (first | subst h19 | skip); exact tfi_start ‹TFO _ _ _ _ _› (by omega) (by omega) (by omega) (by omega))
    | (skip; (first | subst h19 | skip); exact tfi_step ‹TFI _ _ _ _ _ _ _› (by assumption) rfl (by omega) (by omega) (by omega) (by omega) (by omega) (by omega))
  
def o_Ne_traceFaces_at_Nq_20 : or_T := (55, 32, [(0, (2, 0, 0, [294])), (1, (2, 0, 0, [294])), (2, (0, 0, 143, [])), (3, (0, 0, 143, [])), (4, (0, 0, 143, [])), (5, (0, 0, 143, [])), (6, (0, 2, 2, [])), (7, (0, 0, 72, [])), (8, (0, 1, 144, [])), (9, (2, 0, 0, [293])), (10, (0, -1, -1, [])), (11, (0, -1, -1, [])), (12, (0, 0, 143, [])), (13, (2, 0, 0, [292])), (14, (0, 1, 1, [])), (15, (0, 0, 0, [])), (18, (0, 0, 71, [])), (20, (0, 1, 144, [])), (21, (0, 1, 1, [])), (22, (0, 1, 1, [])), (24, (0, 0, 71, [])), (27, (0, 1, 1, [])), (28, (0, 0, 143, [])), (30, (0, 0, 142, [])), (31, (0, 1, 144, []))], [(9, [13, 1], [15]), (9, [12, 1], [13]), (9, [9, 1], [16]), (9, [7, 1], [6]), (6, [31, 5], [1]), (16, [28, 4, 27], [2]), (11, [24, 4], [2]), (8, [22], [1]), (12, [22, 4], [2]), (16, [22, 4, 21], [0]), (6, [20, 2], [1]), (24, [0, 1], []), (100, [13, 2, 19], []), (11, [18, 4], [2]), (8, [15], [0]), (12, [15, 4], [2]), (16, [15, 4, 14], [0]), (100, [9, 4, 12], []), (7, [10, 11], [0]), (10, [10, 9, 4], []), (7, [5, 8], [2]), (3, [8, 6, 7], []), (20, [1, 3, 2, 4, 5], [60, 2, 1, 552, 6, 13, 16])], [], [], [(20, [1, 3, 20, 30, 31], [60, 2, 1, 552, 6, 13, 16])], [], [(31, 5, 1, 1), (31, 8, -4294967296, 0), (31, 2, -4294967296, 1), (20, 2, 1, 1), (5, 8, -4294967296, -1), (5, 2, -4294967296, 0)])
theorem oo_Ne_traceFaces_at_Nq_20 {kA : Nat → ClassId} : or_ok PRD kA GG o_Ne_traceFaces_at_Nq_20 := by
  refine or_mk fun A ta ws vs hD hth hl => ?_
  intro t0 r0 t1 r1 t2 k2 t3 k3 t4 k4 t5 k5 t6 k6 t7 k7 t8 k8 t9 r9 t10 k10 t11 k11 t12 k12 t13 r13 t14 k14 t15 k15 t18 k18 t20 k20 t21 k21 t22 k22 t24 k24 t27 k27 t28 k28 t30 k30 t31 k31 d0 d1 d2 d3 d4 d5 f0 f1 f2 f3 f4 f5 f6 f7 f8 f9 f10 f11 ta1 w1 le1 s1 f13 f14 f15 f16 ta2 w2 le2 s2 f18 f19 f20 f21 f22
  replace f1 := shm_379 f1
  replace f2 := shm_188 f2
  replace f4 := shm_4 f4
  replace f8 := shm_382 f8
  replace f10 := shm_4 f10
  replace f11 := shm_5 f11
  have s1 : (∀ b j, w_el ws b j = if b = v_ad (n_v vs 13) ∧ j = (v_iv (n_v vs 2)).toNat then v_iv (n_v vs 19) else w_el w1 b j) ∧ ∀ b k, w_fd ws b k = w_fd w1 b k := s1.2
  replace f15 := shm_382 f15
  have s2 : (∀ b j, w_el w1 b j = if b = v_ad (n_v vs 9) ∧ j = (v_iv (n_v vs 4)).toNat then v_iv (n_v vs 12) else w_el w2 b j) ∧ ∀ b k, w_fd w1 b k = w_fd w2 b k := s2.2
  replace f19 := shm_106 f19
  replace f22 := shm_1072 f22
  have q1 : n_v vs 1 = n_v vs 0 := f11.symm
  simp only [q1] at f1 f2 f22
  have cr_0_15 := fdq_255 hD hth r0
  have ar_0_16_1 : w_ar w1 (n_v vs 0) 16 = w_ar ws (n_v vs 0) 16 := congrArg v_ad (s1.2 _ _).symm
  have ar_0_16_2 : w_ar w2 (n_v vs 0) 16 = w_ar ws (n_v vs 0) 16 := by rw [← ar_0_16_1]; show v_ad (w_fd w2 _ _) = v_ad (w_fd w1 _ _); rw [s2.2]
  have cr_0_16 := fdq_252 hD hth r0
  have ad_9 : v_ad (n_v vs 9) = w_ar ws (n_v vs 0) 16 := congrArg v_ad f2
  have g1 : v_iv (n_v vs 12) = w_fi ws (n_v vs 0) 13 := congrArg v_iv f1
  simp only [ad_9] at f19
  have h19 : v_iv (n_v vs 10) = w_ei w2 (w_ar ws (n_v vs 0) 16) (v_iv (n_v vs 4)) := f19
  simp only [ar_0_16_2] at f22
  have fe_0_6_1 : w_fi ws (n_v vs 0) 6 = w_fi w1 (n_v vs 0) 6 := congrArg v_iv (s1.2 _ _)
  have fe_0_13_1 : w_fi ws (n_v vs 0) 13 = w_fi w1 (n_v vs 0) 13 := congrArg v_iv (s1.2 _ _)
  have fe_0_6_2 : w_fi w1 (n_v vs 0) 6 = w_fi w2 (n_v vs 0) 6 := congrArg v_iv (s2.2 _ _)
  have fe_0_13_2 : w_fi w1 (n_v vs 0) 13 = w_fi w2 (n_v vs 0) 13 := congrArg v_iv (s2.2 _ _)
  have hE_0_15_2 : ∀ j : Int, w_ei w1 (w_ar ws (n_v vs 0) 15) j = w_ei w2 (w_ar ws (n_v vs 0) 15) j := el_kp s2.1 r9 cr_0_15 (by decide)
  have hE_0_16_1 : ∀ j : Int, w_ei ws (w_ar ws (n_v vs 0) 16) j = w_ei w1 (w_ar ws (n_v vs 0) 16) j := el_kp s1.1 r13 cr_0_16 (by decide)
  have hE_0_16_2 : ∀ j : Int, 0 ≤ j → (j = v_iv (n_v vs 4) → w_ei w1 (w_ar ws (n_v vs 0) 16) j = v_iv (n_v vs 12)) ∧ (j ≠ v_iv (n_v vs 4) → w_ei w1 (w_ar ws (n_v vs 0) 16) j = w_ei w2 (w_ar ws (n_v vs 0) 16) j) := fun j hj => ⟨fun h => by unfold w_ei; rw [s2.1, if_pos ⟨ad_9.symm, by rw [h]⟩], fun h => by unfold w_ei; rw [s2.1, if_neg (fun e => h (by have := e.2; omega))]⟩
  have kz_0_6 := fdq_220 hD hth r0
  have kz_0_13 := fdq_253 hD hth r0
  have nf0 : fc_1 PRD (20, [1, 3, 20, 30, 31], [60, 2, 1, 552, 6, 13, 16]) ws (vs) := by
    refine ⟨nf_in hl rfl, sgq_1072 ?_⟩
    · show TFI (w_fi ws (n_v vs 1) 6) (w_fi ws (n_v vs 1) 13) (w_ei ws (w_ar ws (n_v vs 1) 16)) (v_iv (n_v vs 3)) (v_iv (n_v vs 20)) (v_iv (n_v vs 30)) (v_iv (n_v vs 31))
      rw [q1]
      exact vc_Ne_traceFaces_at_Nq_20_0 (v_iv (n_v vs 2)) (v_iv (n_v vs 3)) (v_iv (n_v vs 4)) (v_iv (n_v vs 5)) (v_iv (n_v vs 10)) (v_iv (n_v vs 12)) (v_iv (n_v vs 15)) (v_iv (n_v vs 20)) (v_iv (n_v vs 22)) (v_iv (n_v vs 30)) (v_iv (n_v vs 31)) (w_fi ws (n_v vs 0) 13) (w_fi ws (n_v vs 0) 6) (w_ei w2 (w_ar ws (n_v vs 0) 16)) (w_fi w2 (n_v vs 0) 6) (w_fi w2 (n_v vs 0) 13) (w_fi w1 (n_v vs 0) 6) (w_fi w1 (n_v vs 0) 13) (w_ei w1 (w_ar ws (n_v vs 0) 15)) (w_ei w2 (w_ar ws (n_v vs 0) 15)) (w_ei ws (w_ar ws (n_v vs 0) 16)) (w_ei w1 (w_ar ws (n_v vs 0) 16)) k2 k3 k4 k5 k10 k12 k15 k20 k22 k30 k31 g1 f4 f8 f10 f15 h19 f22 fe_0_6_1 fe_0_13_1 fe_0_6_2 fe_0_13_2 hE_0_15_2 hE_0_16_1 hE_0_16_2 kz_0_6 kz_0_13
  refine ⟨(fun _ h => (by cases h)), [], trivial, ?_, (fun _ h => (by cases h))⟩
  rw [List.append_nil]
  exact List.forall_mem_cons.mpr ⟨⟨show (20 : Nat) < 100 from by decide, nf0⟩, (fun _ h => (by cases h))⟩
set_option maxHeartbeats 4000000 in
theorem vc_Ne_traceFaces_at_Nq_21_r0 (x3 : Int) (x4 : Int) (x10 : Int) (x22 : Int) (x25 : Int) (x28 : Int) (x29 : Int) (faces_0 : Int) (edges_0 : Int) (faceOf_2 : Int → Int) (edges_2 : Int) (faces_2 : Int) (edges_1 : Int) (faces_1 : Int) (rowNode_1 : Int → Int) (rowNode_2 : Int → Int) (faceOf_0 : Int → Int) (faceOf_1 : Int → Int) (k4 : 0 ≤ x4 ∧ x4 ≤ 143) (k10 : (-1) ≤ x10 ∧ x10 ≤ (-1)) (k22 : 0 ≤ x22 ∧ x22 ≤ 0) (k25 : 0 ≤ x25 ∧ x25 ≤ 71) (k28 : 1 ≤ x28 ∧ x28 ≤ 1) (k29 : 0 ≤ x29 ∧ x29 ≤ 255) (f4 : bvp (x29) = bvp (x4) ^^^ bvp (x28)) (f5 : x25 = x4 / 2) (f7 : x22 = x4 % 2) (h18 : x10 = faceOf_2 (x4)) (fe_0_6_1 : edges_0 = edges_1) (fe_0_13_1 : faces_0 = faces_1) (fe_0_6_2 : edges_1 = edges_2) (fe_0_13_2 : faces_1 = faces_2) (hE_0_15_2 : ∀ j : Int, rowNode_1 j = rowNode_2 j) (hE_0_16_1 : ∀ j : Int, faceOf_0 j = faceOf_1 j) (kz_0_6 : 0 ≤ edges_0 ∧ edges_0 ≤ 72) (kz_0_13 : 0 ≤ faces_0 ∧ faces_0 ≤ 144) : 0 ≤ x29 ∧ x29 ≤ 143 := by
  subst fe_0_6_1
  subst fe_0_13_1
  subst fe_0_6_2
  subst fe_0_13_2
  have e_hE_0_15_2 := funext hE_0_15_2; subst e_hE_0_15_2
  have e_hE_0_16_1 := funext hE_0_16_1; subst e_hE_0_16_1
  first
    | omega
    | (have q := tfo_low ‹TFO _ _ _ _ _›; omega)
    | (skip; (first | subst h18 | skip); have q := tfc_lt (‹TFO _ _ _ _ _›).2.2.2.1 (e := x3) (by omega) (by omega) (by omega); have q2 := tfo_low ‹TFO _ _ _ _ _›; omega)
    | (skip; (first | subst h18 | skip); have q := (tfo_next (faces_zq := faces_0 + 1) (st_zq := x3 + 1) ‹TFI _ _ _ _ _ _ _› (by first | (left; omega) | (right; omega)) rfl rfl).2; have q2 := (‹TFI _ _ _ _ _ _ _›).2.2.1; omega)
    | (skip; (first | subst h18 | skip); have q := tfi_low ‹TFI _ _ _ _ _ _ _› (by omega) (by omega) (by omega); omega)
    | (have q := xor_one (x := x29) (a := x4) (b := x28) (by assumption) (by omega) (by omega) (by omega) (by omega) (by omega); split at q <;> omega)
  
def o_Ne_traceFaces_at_Nq_21 : or_T := (155, 30, [(0, (2, 0, 0, [294])), (1, (2, 0, 0, [294])), (2, (0, 0, 143, [])), (3, (0, 0, 143, [])), (4, (0, 0, 143, [])), (5, (0, 0, 143, [])), (6, (0, 2, 2, [])), (7, (0, 0, 72, [])), (8, (0, 1, 144, [])), (9, (2, 0, 0, [293])), (10, (0, -1, -1, [])), (11, (0, -1, -1, [])), (12, (0, 0, 143, [])), (13, (2, 0, 0, [292])), (14, (0, 1, 1, [])), (15, (0, 0, 0, [])), (18, (0, 0, 71, [])), (20, (0, 1, 144, [])), (21, (0, 1, 1, [])), (22, (0, 0, 0, [])), (25, (0, 0, 71, [])), (28, (0, 1, 1, [])), (29, (0, 0, 255, []))], [(9, [13, 1], [15]), (9, [12, 1], [13]), (9, [9, 1], [16]), (9, [7, 1], [6]), (16, [29, 4, 28], [2]), (11, [25, 4], [2]), (8, [22], [0]), (12, [22, 4], [2]), (16, [22, 4, 21], [0]), (6, [20, 2], [1]), (24, [0, 1], []), (100, [13, 2, 19], []), (11, [18, 4], [2]), (8, [15], [0]), (12, [15, 4], [2]), (16, [15, 4, 14], [0]), (100, [9, 4, 12], []), (7, [10, 11], [0]), (10, [10, 9, 4], []), (7, [5, 8], [2]), (3, [8, 6, 7], []), (20, [1, 3, 2, 4, 5], [60, 2, 1, 552, 6, 13, 16])], [(29, (0, 0, 143, []))], [], [], [], [(20, 2, 1, 1), (5, 8, -4294967296, -1), (5, 2, -4294967296, 0)])
theorem oo_Ne_traceFaces_at_Nq_21 {kA : Nat → ClassId} : or_ok PRD kA GG o_Ne_traceFaces_at_Nq_21 := by
  refine or_mk fun A ta ws vs hD hth hl => ?_
  intro t0 r0 t1 r1 t2 k2 t3 k3 t4 k4 t5 k5 t6 k6 t7 k7 t8 k8 t9 r9 t10 k10 t11 k11 t12 k12 t13 r13 t14 k14 t15 k15 t18 k18 t20 k20 t21 k21 t22 k22 t25 k25 t28 k28 t29 k29 d0 d1 d2 f0 f1 f2 f3 f4 f5 f6 f7 f8 f9 f10 ta1 w1 le1 s1 f12 f13 f14 f15 ta2 w2 le2 s2 f17 f18 f19 f20 f21
  replace f2 := shm_188 f2
  replace f10 := shm_5 f10
  have s1 : (∀ b j, w_el ws b j = if b = v_ad (n_v vs 13) ∧ j = (v_iv (n_v vs 2)).toNat then v_iv (n_v vs 19) else w_el w1 b j) ∧ ∀ b k, w_fd ws b k = w_fd w1 b k := s1.2
  have s2 : (∀ b j, w_el w1 b j = if b = v_ad (n_v vs 9) ∧ j = (v_iv (n_v vs 4)).toNat then v_iv (n_v vs 12) else w_el w2 b j) ∧ ∀ b k, w_fd w1 b k = w_fd w2 b k := s2.2
  replace f18 := shm_106 f18
  have q1 : n_v vs 1 = n_v vs 0 := f10.symm
  simp only [q1] at f2
  have cr_0_15 := fdq_255 hD hth r0
  have cr_0_16 := fdq_252 hD hth r0
  have ad_9 : v_ad (n_v vs 9) = w_ar ws (n_v vs 0) 16 := congrArg v_ad f2
  simp only [ad_9] at f18
  have h18 : v_iv (n_v vs 10) = w_ei w2 (w_ar ws (n_v vs 0) 16) (v_iv (n_v vs 4)) := f18
  have fe_0_6_1 : w_fi ws (n_v vs 0) 6 = w_fi w1 (n_v vs 0) 6 := congrArg v_iv (s1.2 _ _)
  have fe_0_13_1 : w_fi ws (n_v vs 0) 13 = w_fi w1 (n_v vs 0) 13 := congrArg v_iv (s1.2 _ _)
  have fe_0_6_2 : w_fi w1 (n_v vs 0) 6 = w_fi w2 (n_v vs 0) 6 := congrArg v_iv (s2.2 _ _)
  have fe_0_13_2 : w_fi w1 (n_v vs 0) 13 = w_fi w2 (n_v vs 0) 13 := congrArg v_iv (s2.2 _ _)
  have hE_0_15_2 : ∀ j : Int, w_ei w1 (w_ar ws (n_v vs 0) 15) j = w_ei w2 (w_ar ws (n_v vs 0) 15) j := el_kp s2.1 r9 cr_0_15 (by decide)
  have hE_0_16_1 : ∀ j : Int, w_ei ws (w_ar ws (n_v vs 0) 16) j = w_ei w1 (w_ar ws (n_v vs 0) 16) j := el_kp s1.1 r13 cr_0_16 (by decide)
  have kz_0_6 := fdq_220 hD hth r0
  have kz_0_13 := fdq_253 hD hth r0
  have hrf0 : 0 ≤ v_iv (n_v vs 29) ∧ v_iv (n_v vs 29) ≤ 143 := vc_Ne_traceFaces_at_Nq_21_r0 (v_iv (n_v vs 3)) (v_iv (n_v vs 4)) (v_iv (n_v vs 10)) (v_iv (n_v vs 22)) (v_iv (n_v vs 25)) (v_iv (n_v vs 28)) (v_iv (n_v vs 29)) (w_fi ws (n_v vs 0) 13) (w_fi ws (n_v vs 0) 6) (w_ei w2 (w_ar ws (n_v vs 0) 16)) (w_fi w2 (n_v vs 0) 6) (w_fi w2 (n_v vs 0) 13) (w_fi w1 (n_v vs 0) 6) (w_fi w1 (n_v vs 0) 13) (w_ei w1 (w_ar ws (n_v vs 0) 15)) (w_ei w2 (w_ar ws (n_v vs 0) 15)) (w_ei ws (w_ar ws (n_v vs 0) 16)) (w_ei w1 (w_ar ws (n_v vs 0) 16)) k4 k10 k22 k25 k28 k29 (shm_33 f4) (shm_573 f5) (shm_382 f7) h18 fe_0_6_1 fe_0_13_1 fe_0_6_2 fe_0_13_2 hE_0_15_2 hE_0_16_1 kz_0_6 kz_0_13
  have rf29 : tv_ok ta (0, 0, 143, []) (n_v vs 29) := tv_in t29 (by first | omega | grind) (by first | omega | grind)
  refine ⟨List.forall_mem_cons.mpr ⟨rf29, (fun _ h => (by cases h))⟩, [], trivial, ?_, (fun _ h => (by cases h))⟩
  rw [List.append_nil]
  exact (fun _ h => (by cases h))
set_option maxHeartbeats 4000000 in
theorem vc_Ne_traceFaces_at_Nq_22_0 (x2 : Int) (x3 : Int) (x4 : Int) (x5 : Int) (x10 : Int) (x12 : Int) (x18 : Int) (x20 : Int) (x22 : Int) (x31 : Int) (x32 : Int) (faces_0 : Int) (edges_0 : Int) (faceOf_2 : Int → Int) (edges_2 : Int) (faces_2 : Int) (edges_1 : Int) (faces_1 : Int) (rowNode_1 : Int → Int) (rowNode_2 : Int → Int) (faceOf_0 : Int → Int) (faceOf_1 : Int → Int) (k2 : 0 ≤ x2 ∧ x2 ≤ 143) (k3 : 0 ≤ x3 ∧ x3 ≤ 143) (k4 : 0 ≤ x4 ∧ x4 ≤ 143) (k5 : 0 ≤ x5 ∧ x5 ≤ 143) (k10 : (-1) ≤ x10 ∧ x10 ≤ (-1)) (k12 : 0 ≤ x12 ∧ x12 ≤ 143) (k18 : 0 ≤ x18 ∧ x18 ≤ 71) (k20 : 1 ≤ x20 ∧ x20 ≤ 144) (k22 : 0 ≤ x22 ∧ x22 ≤ 0) (k31 : 1 ≤ x31 ∧ x31 ≤ 143) (k32 : 1 ≤ x32 ∧ x32 ≤ 144) (g1 : x12 = faces_0) (f4 : x32 = x5 + 1) (f8 : x22 = x4 % 2) (f10 : x20 = x2 + 1) (f13 : x18 = x4 / 2) (h19 : x10 = faceOf_2 (x4)) (f22 : TFI (edges_2) (faces_2) (faceOf_2) (x3) (x2) (x4) (x5)) (fe_0_6_1 : edges_0 = edges_1) (fe_0_13_1 : faces_0 = faces_1) (fe_0_6_2 : edges_1 = edges_2) (fe_0_13_2 : faces_1 = faces_2) (hE_0_15_2 : ∀ j : Int, rowNode_1 j = rowNode_2 j) (hE_0_16_1 : ∀ j : Int, faceOf_0 j = faceOf_1 j) (hE_0_16_2 : ∀ j : Int, 0 ≤ j → (j = x4 → faceOf_1 j = x12) ∧ (j ≠ x4 → faceOf_1 j = faceOf_2 j)) (kz_0_6 : 0 ≤ edges_0 ∧ edges_0 ≤ 72) (kz_0_13 : 0 ≤ faces_0 ∧ faces_0 ≤ 144) : TFI (edges_0) (faces_0) (faceOf_0) (x3) (x20) (x31) (x32) := by
  subst fe_0_6_1
  subst fe_0_13_1
  subst fe_0_6_2
  subst fe_0_13_2
  have e_hE_0_15_2 := funext hE_0_15_2; subst e_hE_0_15_2
  have e_hE_0_16_1 := funext hE_0_16_1; subst e_hE_0_16_1
  first
    | (skip; (first | subst h19 | skip); exact tfi_start ‹TFO _ _ _ _ _› (by omega) (by omega) (by omega) (by omega))
    | (skip; (first | subst h19 | skip); exact tfi_step ‹TFI _ _ _ _ _ _ _› (by assumption) rfl (by omega) (by omega) (by omega) (by omega) (by omega) (by omega))
  
def o_Ne_traceFaces_at_Nq_22 : or_T := (55, 33, [(0, (2, 0, 0, [294])), (1, (2, 0, 0, [294])), (2, (0, 0, 143, [])), (3, (0, 0, 143, [])), (4, (0, 0, 143, [])), (5, (0, 0, 143, [])), (6, (0, 2, 2, [])), (7, (0, 0, 72, [])), (8, (0, 1, 144, [])), (9, (2, 0, 0, [293])), (10, (0, -1, -1, [])), (11, (0, -1, -1, [])), (12, (0, 0, 143, [])), (13, (2, 0, 0, [292])), (14, (0, 1, 1, [])), (15, (0, 0, 0, [])), (18, (0, 0, 71, [])), (20, (0, 1, 144, [])), (21, (0, 1, 1, [])), (22, (0, 0, 0, [])), (25, (0, 0, 71, [])), (28, (0, 1, 1, [])), (29, (0, 0, 143, [])), (31, (0, 1, 143, [])), (32, (0, 1, 144, []))], [(9, [13, 1], [15]), (9, [12, 1], [13]), (9, [9, 1], [16]), (9, [7, 1], [6]), (6, [32, 5], [1]), (16, [29, 4, 28], [2]), (11, [25, 4], [2]), (8, [22], [0]), (12, [22, 4], [2]), (16, [22, 4, 21], [0]), (6, [20, 2], [1]), (24, [0, 1], []), (100, [13, 2, 19], []), (11, [18, 4], [2]), (8, [15], [0]), (12, [15, 4], [2]), (16, [15, 4, 14], [0]), (100, [9, 4, 12], []), (7, [10, 11], [0]), (10, [10, 9, 4], []), (7, [5, 8], [2]), (3, [8, 6, 7], []), (20, [1, 3, 2, 4, 5], [60, 2, 1, 552, 6, 13, 16])], [], [], [(20, [1, 3, 20, 31, 32], [60, 2, 1, 552, 6, 13, 16])], [], [(32, 5, 1, 1), (32, 8, -4294967296, 0), (32, 2, -4294967296, 1), (20, 2, 1, 1), (5, 8, -4294967296, -1), (5, 2, -4294967296, 0)])
theorem oo_Ne_traceFaces_at_Nq_22 {kA : Nat → ClassId} : or_ok PRD kA GG o_Ne_traceFaces_at_Nq_22 := by
  refine or_mk fun A ta ws vs hD hth hl => ?_
  intro t0 r0 t1 r1 t2 k2 t3 k3 t4 k4 t5 k5 t6 k6 t7 k7 t8 k8 t9 r9 t10 k10 t11 k11 t12 k12 t13 r13 t14 k14 t15 k15 t18 k18 t20 k20 t21 k21 t22 k22 t25 k25 t28 k28 t29 k29 t31 k31 t32 k32 d0 d1 d2 d3 d4 d5 f0 f1 f2 f3 f4 f5 f6 f7 f8 f9 f10 f11 ta1 w1 le1 s1 f13 f14 f15 f16 ta2 w2 le2 s2 f18 f19 f20 f21 f22
  replace f1 := shm_379 f1
  replace f2 := shm_188 f2
  replace f4 := shm_4 f4
  replace f8 := shm_382 f8
  replace f10 := shm_4 f10
  replace f11 := shm_5 f11
  have s1 : (∀ b j, w_el ws b j = if b = v_ad (n_v vs 13) ∧ j = (v_iv (n_v vs 2)).toNat then v_iv (n_v vs 19) else w_el w1 b j) ∧ ∀ b k, w_fd ws b k = w_fd w1 b k := s1.2
  replace f13 := shm_573 f13
  have s2 : (∀ b j, w_el w1 b j = if b = v_ad (n_v vs 9) ∧ j = (v_iv (n_v vs 4)).toNat then v_iv (n_v vs 12) else w_el w2 b j) ∧ ∀ b k, w_fd w1 b k = w_fd w2 b k := s2.2
  replace f19 := shm_106 f19
  replace f22 := shm_1072 f22
  have q1 : n_v vs 1 = n_v vs 0 := f11.symm
  simp only [q1] at f1 f2 f22
  have cr_0_15 := fdq_255 hD hth r0
  have ar_0_16_1 : w_ar w1 (n_v vs 0) 16 = w_ar ws (n_v vs 0) 16 := congrArg v_ad (s1.2 _ _).symm
  have ar_0_16_2 : w_ar w2 (n_v vs 0) 16 = w_ar ws (n_v vs 0) 16 := by rw [← ar_0_16_1]; show v_ad (w_fd w2 _ _) = v_ad (w_fd w1 _ _); rw [s2.2]
  have cr_0_16 := fdq_252 hD hth r0
  have ad_9 : v_ad (n_v vs 9) = w_ar ws (n_v vs 0) 16 := congrArg v_ad f2
  have g1 : v_iv (n_v vs 12) = w_fi ws (n_v vs 0) 13 := congrArg v_iv f1
  simp only [ad_9] at f19
  have h19 : v_iv (n_v vs 10) = w_ei w2 (w_ar ws (n_v vs 0) 16) (v_iv (n_v vs 4)) := f19
  simp only [ar_0_16_2] at f22
  have fe_0_6_1 : w_fi ws (n_v vs 0) 6 = w_fi w1 (n_v vs 0) 6 := congrArg v_iv (s1.2 _ _)
  have fe_0_13_1 : w_fi ws (n_v vs 0) 13 = w_fi w1 (n_v vs 0) 13 := congrArg v_iv (s1.2 _ _)
  have fe_0_6_2 : w_fi w1 (n_v vs 0) 6 = w_fi w2 (n_v vs 0) 6 := congrArg v_iv (s2.2 _ _)
  have fe_0_13_2 : w_fi w1 (n_v vs 0) 13 = w_fi w2 (n_v vs 0) 13 := congrArg v_iv (s2.2 _ _)
  have hE_0_15_2 : ∀ j : Int, w_ei w1 (w_ar ws (n_v vs 0) 15) j = w_ei w2 (w_ar ws (n_v vs 0) 15) j := el_kp s2.1 r9 cr_0_15 (by decide)
  have hE_0_16_1 : ∀ j : Int, w_ei ws (w_ar ws (n_v vs 0) 16) j = w_ei w1 (w_ar ws (n_v vs 0) 16) j := el_kp s1.1 r13 cr_0_16 (by decide)
  have hE_0_16_2 : ∀ j : Int, 0 ≤ j → (j = v_iv (n_v vs 4) → w_ei w1 (w_ar ws (n_v vs 0) 16) j = v_iv (n_v vs 12)) ∧ (j ≠ v_iv (n_v vs 4) → w_ei w1 (w_ar ws (n_v vs 0) 16) j = w_ei w2 (w_ar ws (n_v vs 0) 16) j) := fun j hj => ⟨fun h => by unfold w_ei; rw [s2.1, if_pos ⟨ad_9.symm, by rw [h]⟩], fun h => by unfold w_ei; rw [s2.1, if_neg (fun e => h (by have := e.2; omega))]⟩
  have kz_0_6 := fdq_220 hD hth r0
  have kz_0_13 := fdq_253 hD hth r0
  have nf0 : fc_1 PRD (20, [1, 3, 20, 31, 32], [60, 2, 1, 552, 6, 13, 16]) ws (vs) := by
    refine ⟨nf_in hl rfl, sgq_1072 ?_⟩
    · show TFI (w_fi ws (n_v vs 1) 6) (w_fi ws (n_v vs 1) 13) (w_ei ws (w_ar ws (n_v vs 1) 16)) (v_iv (n_v vs 3)) (v_iv (n_v vs 20)) (v_iv (n_v vs 31)) (v_iv (n_v vs 32))
      rw [q1]
      exact vc_Ne_traceFaces_at_Nq_22_0 (v_iv (n_v vs 2)) (v_iv (n_v vs 3)) (v_iv (n_v vs 4)) (v_iv (n_v vs 5)) (v_iv (n_v vs 10)) (v_iv (n_v vs 12)) (v_iv (n_v vs 18)) (v_iv (n_v vs 20)) (v_iv (n_v vs 22)) (v_iv (n_v vs 31)) (v_iv (n_v vs 32)) (w_fi ws (n_v vs 0) 13) (w_fi ws (n_v vs 0) 6) (w_ei w2 (w_ar ws (n_v vs 0) 16)) (w_fi w2 (n_v vs 0) 6) (w_fi w2 (n_v vs 0) 13) (w_fi w1 (n_v vs 0) 6) (w_fi w1 (n_v vs 0) 13) (w_ei w1 (w_ar ws (n_v vs 0) 15)) (w_ei w2 (w_ar ws (n_v vs 0) 15)) (w_ei ws (w_ar ws (n_v vs 0) 16)) (w_ei w1 (w_ar ws (n_v vs 0) 16)) k2 k3 k4 k5 k10 k12 k18 k20 k22 k31 k32 g1 f4 f8 f10 f13 h19 f22 fe_0_6_1 fe_0_13_1 fe_0_6_2 fe_0_13_2 hE_0_15_2 hE_0_16_1 hE_0_16_2 kz_0_6 kz_0_13
  refine ⟨(fun _ h => (by cases h)), [], trivial, ?_, (fun _ h => (by cases h))⟩
  rw [List.append_nil]
  exact List.forall_mem_cons.mpr ⟨⟨show (20 : Nat) < 100 from by decide, nf0⟩, (fun _ h => (by cases h))⟩
set_option maxHeartbeats 4000000 in
theorem vc_Ne_traceFaces_at_Nq_23_0 (x2 : Int) (x3 : Int) (x4 : Int) (x5 : Int) (x10 : Int) (x12 : Int) (x18 : Int) (x20 : Int) (x22 : Int) (x31 : Int) (x32 : Int) (faces_0 : Int) (edges_0 : Int) (faceOf_2 : Int → Int) (edges_2 : Int) (faces_2 : Int) (edges_1 : Int) (faces_1 : Int) (rowNode_1 : Int → Int) (rowNode_2 : Int → Int) (faceOf_0 : Int → Int) (faceOf_1 : Int → Int) (k2 : 0 ≤ x2 ∧ x2 ≤ 143) (k3 : 0 ≤ x3 ∧ x3 ≤ 143) (k4 : 0 ≤ x4 ∧ x4 ≤ 143) (k5 : 0 ≤ x5 ∧ x5 ≤ 143) (k10 : (-1) ≤ x10 ∧ x10 ≤ (-1)) (k12 : 0 ≤ x12 ∧ x12 ≤ 143) (k18 : 0 ≤ x18 ∧ x18 ≤ 71) (k20 : 1 ≤ x20 ∧ x20 ≤ 144) (k22 : 0 ≤ x22 ∧ x22 ≤ 0) (k31 : 0 ≤ x31 ∧ x31 ≤ 142) (k32 : 1 ≤ x32 ∧ x32 ≤ 144) (g1 : x12 = faces_0) (f4 : x32 = x5 + 1) (f8 : x22 = x4 % 2) (f10 : x20 = x2 + 1) (f13 : x18 = x4 / 2) (h19 : x10 = faceOf_2 (x4)) (f22 : TFI (edges_2) (faces_2) (faceOf_2) (x3) (x2) (x4) (x5)) (fe_0_6_1 : edges_0 = edges_1) (fe_0_13_1 : faces_0 = faces_1) (fe_0_6_2 : edges_1 = edges_2) (fe_0_13_2 : faces_1 = faces_2) (hE_0_15_2 : ∀ j : Int, rowNode_1 j = rowNode_2 j) (hE_0_16_1 : ∀ j : Int, faceOf_0 j = faceOf_1 j) (hE_0_16_2 : ∀ j : Int, 0 ≤ j → (j = x4 → faceOf_1 j = x12) ∧ (j ≠ x4 → faceOf_1 j = faceOf_2 j)) (kz_0_6 : 0 ≤ edges_0 ∧ edges_0 ≤ 72) (kz_0_13 : 0 ≤ faces_0 ∧ faces_0 ≤ 144) : TFI (edges_0) (faces_0) (faceOf_0) (x3) (x20) (x31) (x32) := by
  subst fe_0_6_1
  subst fe_0_13_1
  subst fe_0_6_2
  subst fe_0_13_2
  have e_hE_0_15_2 := funext hE_0_15_2; subst e_hE_0_15_2
  have e_hE_0_16_1 := funext hE_0_16_1; subst e_hE_0_16_1
  first
    | (skip; (first | subst h19 | skip); exact tfi_start ‹TFO _ _ _ _ _› (by omega) (by omega) (by omega) (by omega))
    | (skip; (first | subst h19 | skip); exact tfi_step ‹TFI _ _ _ _ _ _ _› (by assumption) rfl (by omega) (by omega) (by omega) (by omega) (by omega) (by omega))
  
def o_Ne_traceFaces_at_Nq_23 : or_T := (55, 33, [(0, (2, 0, 0, [294])), (1, (2, 0, 0, [294])), (2, (0, 0, 143, [])), (3, (0, 0, 143, [])), (4, (0, 0, 143, [])), (5, (0, 0, 143, [])), (6, (0, 2, 2, [])), (7, (0, 0, 72, [])), (8, (0, 1, 144, [])), (9, (2, 0, 0, [293])), (10, (0, -1, -1, [])), (11, (0, -1, -1, [])), (12, (0, 0, 143, [])), (13, (2, 0, 0, [292])), (14, (0, 1, 1, [])), (15, (0, 0, 0, [])), (18, (0, 0, 71, [])), (20, (0, 1, 144, [])), (21, (0, 1, 1, [])), (22, (0, 0, 0, [])), (25, (0, 0, 71, [])), (28, (0, 1, 1, [])), (29, (0, 0, 143, [])), (31, (0, 0, 142, [])), (32, (0, 1, 144, []))], [(9, [13, 1], [15]), (9, [12, 1], [13]), (9, [9, 1], [16]), (9, [7, 1], [6]), (6, [32, 5], [1]), (16, [29, 4, 28], [2]), (11, [25, 4], [2]), (8, [22], [0]), (12, [22, 4], [2]), (16, [22, 4, 21], [0]), (6, [20, 2], [1]), (24, [0, 1], []), (100, [13, 2, 19], []), (11, [18, 4], [2]), (8, [15], [0]), (12, [15, 4], [2]), (16, [15, 4, 14], [0]), (100, [9, 4, 12], []), (7, [10, 11], [0]), (10, [10, 9, 4], []), (7, [5, 8], [2]), (3, [8, 6, 7], []), (20, [1, 3, 2, 4, 5], [60, 2, 1, 552, 6, 13, 16])], [], [], [(20, [1, 3, 20, 31, 32], [60, 2, 1, 552, 6, 13, 16])], [], [(32, 5, 1, 1), (32, 8, -4294967296, 0), (32, 2, -4294967296, 1), (20, 2, 1, 1), (5, 8, -4294967296, -1), (5, 2, -4294967296, 0)])
theorem oo_Ne_traceFaces_at_Nq_23 {kA : Nat → ClassId} : or_ok PRD kA GG o_Ne_traceFaces_at_Nq_23 := by
  refine or_mk fun A ta ws vs hD hth hl => ?_
  intro t0 r0 t1 r1 t2 k2 t3 k3 t4 k4 t5 k5 t6 k6 t7 k7 t8 k8 t9 r9 t10 k10 t11 k11 t12 k12 t13 r13 t14 k14 t15 k15 t18 k18 t20 k20 t21 k21 t22 k22 t25 k25 t28 k28 t29 k29 t31 k31 t32 k32 d0 d1 d2 d3 d4 d5 f0 f1 f2 f3 f4 f5 f6 f7 f8 f9 f10 f11 ta1 w1 le1 s1 f13 f14 f15 f16 ta2 w2 le2 s2 f18 f19 f20 f21 f22
  replace f1 := shm_379 f1
  replace f2 := shm_188 f2
  replace f4 := shm_4 f4
  replace f8 := shm_382 f8
  replace f10 := shm_4 f10
  replace f11 := shm_5 f11
  have s1 : (∀ b j, w_el ws b j = if b = v_ad (n_v vs 13) ∧ j = (v_iv (n_v vs 2)).toNat then v_iv (n_v vs 19) else w_el w1 b j) ∧ ∀ b k, w_fd ws b k = w_fd w1 b k := s1.2
  replace f13 := shm_573 f13
  have s2 : (∀ b j, w_el w1 b j = if b = v_ad (n_v vs 9) ∧ j = (v_iv (n_v vs 4)).toNat then v_iv (n_v vs 12) else w_el w2 b j) ∧ ∀ b k, w_fd w1 b k = w_fd w2 b k := s2.2
  replace f19 := shm_106 f19
  replace f22 := shm_1072 f22
  have q1 : n_v vs 1 = n_v vs 0 := f11.symm
  simp only [q1] at f1 f2 f22
  have cr_0_15 := fdq_255 hD hth r0
  have ar_0_16_1 : w_ar w1 (n_v vs 0) 16 = w_ar ws (n_v vs 0) 16 := congrArg v_ad (s1.2 _ _).symm
  have ar_0_16_2 : w_ar w2 (n_v vs 0) 16 = w_ar ws (n_v vs 0) 16 := by rw [← ar_0_16_1]; show v_ad (w_fd w2 _ _) = v_ad (w_fd w1 _ _); rw [s2.2]
  have cr_0_16 := fdq_252 hD hth r0
  have ad_9 : v_ad (n_v vs 9) = w_ar ws (n_v vs 0) 16 := congrArg v_ad f2
  have g1 : v_iv (n_v vs 12) = w_fi ws (n_v vs 0) 13 := congrArg v_iv f1
  simp only [ad_9] at f19
  have h19 : v_iv (n_v vs 10) = w_ei w2 (w_ar ws (n_v vs 0) 16) (v_iv (n_v vs 4)) := f19
  simp only [ar_0_16_2] at f22
  have fe_0_6_1 : w_fi ws (n_v vs 0) 6 = w_fi w1 (n_v vs 0) 6 := congrArg v_iv (s1.2 _ _)
  have fe_0_13_1 : w_fi ws (n_v vs 0) 13 = w_fi w1 (n_v vs 0) 13 := congrArg v_iv (s1.2 _ _)
  have fe_0_6_2 : w_fi w1 (n_v vs 0) 6 = w_fi w2 (n_v vs 0) 6 := congrArg v_iv (s2.2 _ _)
  have fe_0_13_2 : w_fi w1 (n_v vs 0) 13 = w_fi w2 (n_v vs 0) 13 := congrArg v_iv (s2.2 _ _)
  have hE_0_15_2 : ∀ j : Int, w_ei w1 (w_ar ws (n_v vs 0) 15) j = w_ei w2 (w_ar ws (n_v vs 0) 15) j := el_kp s2.1 r9 cr_0_15 (by decide)
  have hE_0_16_1 : ∀ j : Int, w_ei ws (w_ar ws (n_v vs 0) 16) j = w_ei w1 (w_ar ws (n_v vs 0) 16) j := el_kp s1.1 r13 cr_0_16 (by decide)
  have hE_0_16_2 : ∀ j : Int, 0 ≤ j → (j = v_iv (n_v vs 4) → w_ei w1 (w_ar ws (n_v vs 0) 16) j = v_iv (n_v vs 12)) ∧ (j ≠ v_iv (n_v vs 4) → w_ei w1 (w_ar ws (n_v vs 0) 16) j = w_ei w2 (w_ar ws (n_v vs 0) 16) j) := fun j hj => ⟨fun h => by unfold w_ei; rw [s2.1, if_pos ⟨ad_9.symm, by rw [h]⟩], fun h => by unfold w_ei; rw [s2.1, if_neg (fun e => h (by have := e.2; omega))]⟩
  have kz_0_6 := fdq_220 hD hth r0
  have kz_0_13 := fdq_253 hD hth r0
  have nf0 : fc_1 PRD (20, [1, 3, 20, 31, 32], [60, 2, 1, 552, 6, 13, 16]) ws (vs) := by
    refine ⟨nf_in hl rfl, sgq_1072 ?_⟩
    · show TFI (w_fi ws (n_v vs 1) 6) (w_fi ws (n_v vs 1) 13) (w_ei ws (w_ar ws (n_v vs 1) 16)) (v_iv (n_v vs 3)) (v_iv (n_v vs 20)) (v_iv (n_v vs 31)) (v_iv (n_v vs 32))
      rw [q1]
      exact vc_Ne_traceFaces_at_Nq_23_0 (v_iv (n_v vs 2)) (v_iv (n_v vs 3)) (v_iv (n_v vs 4)) (v_iv (n_v vs 5)) (v_iv (n_v vs 10)) (v_iv (n_v vs 12)) (v_iv (n_v vs 18)) (v_iv (n_v vs 20)) (v_iv (n_v vs 22)) (v_iv (n_v vs 31)) (v_iv (n_v vs 32)) (w_fi ws (n_v vs 0) 13) (w_fi ws (n_v vs 0) 6) (w_ei w2 (w_ar ws (n_v vs 0) 16)) (w_fi w2 (n_v vs 0) 6) (w_fi w2 (n_v vs 0) 13) (w_fi w1 (n_v vs 0) 6) (w_fi w1 (n_v vs 0) 13) (w_ei w1 (w_ar ws (n_v vs 0) 15)) (w_ei w2 (w_ar ws (n_v vs 0) 15)) (w_ei ws (w_ar ws (n_v vs 0) 16)) (w_ei w1 (w_ar ws (n_v vs 0) 16)) k2 k3 k4 k5 k10 k12 k18 k20 k22 k31 k32 g1 f4 f8 f10 f13 h19 f22 fe_0_6_1 fe_0_13_1 fe_0_6_2 fe_0_13_2 hE_0_15_2 hE_0_16_1 hE_0_16_2 kz_0_6 kz_0_13
  refine ⟨(fun _ h => (by cases h)), [], trivial, ?_, (fun _ h => (by cases h))⟩
  rw [List.append_nil]
  exact List.forall_mem_cons.mpr ⟨⟨show (20 : Nat) < 100 from by decide, nf0⟩, (fun _ h => (by cases h))⟩
def n_Ne_traceFaces_at_Nq_an : List an_T := [(17, [(0, (2, 0, 0, [294])), (1, (0, 0, 144, [])), (2, (0, 0, 144, []))], [], (0, 0), [(0, 0, 99983), (1, 3, 144), (0, 0, 100000), (0, 0, 0), (0, 0, 0)], [(4, 3, (Int.negSucc 999999999999), 143)], [((0, 13), (0, 0, 144, []))], [(2, 0, 0, [294])], 0, [], [(20, [1, 3, 2], [60, 2, 1, 551, 6, 13, 16]), (24, [0, 1], [])]), (55, [(0, (2, 0, 0, [294])), (1, (0, 0, 144, [])), (2, (0, 0, 143, [])), (3, (0, 0, 143, [])), (4, (0, 0, 144, []))], [], (0, 0), [(0, 0, 99983), (1, 3, 144), (0, 0, 99945), (1, 2, 144), (0, 0, 100000)], [(5, 2, (Int.negSucc 999999999999), 0)], [], [(2, 0, 0, [294])], 0, [], [(20, [1, 3, 2, 4, 5], [60, 2, 1, 552, 6, 13, 16]), (24, [0, 1], [])])]
def t_Ne_traceFaces_at_Nq_ct : ct_L := [(1, 84, e_Ne_endAt), (39, 64, e_jArr_fill1_v66)]
set_option maxRecDepth 100000 in
theorem c_Ne_traceFaces_at_Nq {l : Launch} {D : va_G} {kA : Nat → ClassId} (h_Ne_endAt : ct_ok PRD l D kA GG y_Ne_endAt z_Ne_endAt e_Ne_endAt) : ct_ok PRD l D kA GG y_Ne_traceFaces_at_Nq z_Ne_traceFaces_at_Nq e_Ne_traceFaces_at_Nq := chk_all_ok (FT := [(31, 5, 6), (34, 5, 7), (37, 5, 8), (46, 5, 11), (52, 5, 13), (55, 5, 14), (58, 5, 15), (61, 5, 16)]) (PT := [(52, 5, 13, .int)]) (CT := t_Ne_traceFaces_at_Nq_ct) (KT := []) (NT := []) (AN := n_Ne_traceFaces_at_Nq_an) (OT := [o_Ne_traceFaces_at_Nq_0, o_Ne_traceFaces_at_Nq_1, o_Ne_traceFaces_at_Nq_2, o_Ne_traceFaces_at_Nq_3, o_Ne_traceFaces_at_Nq_4, o_Ne_traceFaces_at_Nq_5, o_Ne_traceFaces_at_Nq_6, o_Ne_traceFaces_at_Nq_7, o_Ne_traceFaces_at_Nq_8, o_Ne_traceFaces_at_Nq_9, o_Ne_traceFaces_at_Nq_10, o_Ne_traceFaces_at_Nq_11, o_Ne_traceFaces_at_Nq_12, o_Ne_traceFaces_at_Nq_13, o_Ne_traceFaces_at_Nq_14, o_Ne_traceFaces_at_Nq_15, o_Ne_traceFaces_at_Nq_16, o_Ne_traceFaces_at_Nq_17, o_Ne_traceFaces_at_Nq_18, o_Ne_traceFaces_at_Nq_19, o_Ne_traceFaces_at_Nq_20, o_Ne_traceFaces_at_Nq_21, o_Ne_traceFaces_at_Nq_22, o_Ne_traceFaces_at_Nq_23]) 5 796 (List.forall_mem_cons.mpr ⟨oo_Ne_traceFaces_at_Nq_0, List.forall_mem_cons.mpr ⟨oo_Ne_traceFaces_at_Nq_1, List.forall_mem_cons.mpr ⟨oo_Ne_traceFaces_at_Nq_2, List.forall_mem_cons.mpr ⟨oo_Ne_traceFaces_at_Nq_3, List.forall_mem_cons.mpr ⟨oo_Ne_traceFaces_at_Nq_4, List.forall_mem_cons.mpr ⟨oo_Ne_traceFaces_at_Nq_5, List.forall_mem_cons.mpr ⟨oo_Ne_traceFaces_at_Nq_6, List.forall_mem_cons.mpr ⟨oo_Ne_traceFaces_at_Nq_7, List.forall_mem_cons.mpr ⟨oo_Ne_traceFaces_at_Nq_8, List.forall_mem_cons.mpr ⟨oo_Ne_traceFaces_at_Nq_9, List.forall_mem_cons.mpr ⟨oo_Ne_traceFaces_at_Nq_10, List.forall_mem_cons.mpr ⟨oo_Ne_traceFaces_at_Nq_11, List.forall_mem_cons.mpr ⟨oo_Ne_traceFaces_at_Nq_12, List.forall_mem_cons.mpr ⟨oo_Ne_traceFaces_at_Nq_13, List.forall_mem_cons.mpr ⟨oo_Ne_traceFaces_at_Nq_14, List.forall_mem_cons.mpr ⟨oo_Ne_traceFaces_at_Nq_15, List.forall_mem_cons.mpr ⟨oo_Ne_traceFaces_at_Nq_16, List.forall_mem_cons.mpr ⟨oo_Ne_traceFaces_at_Nq_17, List.forall_mem_cons.mpr ⟨oo_Ne_traceFaces_at_Nq_18, List.forall_mem_cons.mpr ⟨oo_Ne_traceFaces_at_Nq_19, List.forall_mem_cons.mpr ⟨oo_Ne_traceFaces_at_Nq_20, List.forall_mem_cons.mpr ⟨oo_Ne_traceFaces_at_Nq_21, List.forall_mem_cons.mpr ⟨oo_Ne_traceFaces_at_Nq_22, List.forall_mem_cons.mpr ⟨oo_Ne_traceFaces_at_Nq_23, List.forall_mem_nil _⟩⟩⟩⟩⟩⟩⟩⟩⟩⟩⟩⟩⟩⟩⟩⟩⟩⟩⟩⟩⟩⟩⟩⟩) (by decide +kernel) ⟨List.forall_mem_cons.mpr ⟨gf_Ne_31, List.forall_mem_cons.mpr ⟨gf_Ne_34, List.forall_mem_cons.mpr ⟨gf_Ne_37, List.forall_mem_cons.mpr ⟨gf_Ne_46, List.forall_mem_cons.mpr ⟨gf_Ne_52, List.forall_mem_cons.mpr ⟨gf_Ne_55, List.forall_mem_cons.mpr ⟨gf_Ne_58, List.forall_mem_cons.mpr ⟨gf_Ne_61, List.forall_mem_nil _⟩⟩⟩⟩⟩⟩⟩⟩, List.forall_mem_cons.mpr ⟨pf_Ne_52, List.forall_mem_nil _⟩, List.forall_mem_cons.mpr ⟨cl_virtual (y := y_Ne_endAt) (ci := 5) rfl rfl ⟨_, _, rfl⟩ (by decide +kernel) h_Ne_endAt wm_1138 wm_6 wm_1151 wm_1136 wm_1137 ⟨by decide, by decide, by decide +kernel⟩ (by decide), List.forall_mem_cons.mpr ⟨cl_static (y := y_jArr_fill1) c_jArr_fill1_v66 wm_55 wm_4 wm_1061 wm_54 ⟨by decide, by decide, by decide +kernel⟩ (by decide), List.forall_mem_nil _⟩⟩, List.forall_mem_nil _, List.forall_mem_nil _, GG_pl⟩ (by decide +kernel)

set_option maxHeartbeats 4000000 in
theorem vc_Pl_placeSideBySide_0_3 (x1 : Int) (x4 : Int) (x5 : Int) (x8 : Int) (x9 : Int) (x10 : Int) (under_0 : Int → Int) (kids_0 : Int → Int) (order_0 : Int → Int) (nodes_0o2 : Int) (level_0 : Int → Int) (k1 : 1 ≤ x1 ∧ x1 ≤ 24) (k4 : 0 ≤ x4 ∧ x4 ≤ 24) (k5 : 0 ≤ x5 ∧ x5 ≤ 24) (k8 : 0 ≤ x8 ∧ x8 ≤ 0) (k9 : 0 ≤ x9 ∧ x9 ≤ 23) (k10 : 0 ≤ x10 ∧ x10 ≤ 16777215) (h0 : x10 = under_0 (x9)) (h1 : x9 = kids_0 (x8)) (f6 : TQU (nodes_0o2) (order_0) (under_0) (x4) (x5)) (f7 : TQK (order_0) (level_0) (kids_0) (x1) (x4) (x5)) (kz_2_0 : 0 ≤ nodes_0o2 ∧ nodes_0o2 ≤ 24) : TQP (nodes_0o2) (order_0) (kids_0) (x10) (x1) (x4) (x5) := by
  first
    | assumption
    | exact tqp_0 (by omega) (by omega)
    | exact tqp_start ‹TQU _ _ _ _ _› ‹TQK _ _ _ _ _ _› (by omega) (by rw [show (0 : Int) = x8 by omega, ← ‹x9 = kids_0 x8›]; assumption)
    | exact tqp_step (j := x9) (tr := x10) ‹TQP _ _ _ _ _ _ _› ‹TQU _ _ _ _ _› ‹TQK _ _ _ _ _ _› (by omega) (by omega) ‹TQT _ _ _ _› (by assumption)
  
set_option maxHeartbeats 4000000 in
theorem vc_Pl_placeSideBySide_0_4 (x4 : Int) (x5 : Int) (x11 : Int) (order_0 : Int → Int) (parent_0 : Int → Int) (x_0o3 : Int → Int) (nodes_0o2 : Int) (k4 : 0 ≤ x4 ∧ x4 ≤ 24) (k5 : 0 ≤ x5 ∧ x5 ≤ 24) (k11 : 1 ≤ x11 ∧ x11 ≤ 1) (f5 : TQ0 (nodes_0o2) (order_0) (parent_0) (x_0o3) (x4) (x5)) (kz_2_0 : 0 ≤ nodes_0o2 ∧ nodes_0o2 ≤ 24) : TQ1 (nodes_0o2) (order_0) (parent_0) (x_0o3) (x4) (x5) (x11) := by
  first
    | assumption
    | exact tq1_start ‹TQ0 _ _ _ _ _ _› (by omega)
    | exact tqv_end ‹TQV _ _ _ _ _ _ _ _ _ _› (tqd_lo ‹TQD _ _ _ _ _› (by omega)) (by omega)
  
set_option maxHeartbeats 4000000 in
theorem vc_Pl_placeSideBySide_0_5 (x1 : Int) (x8 : Int) (x9 : Int) (x10 : Int) (x11 : Int) (k1 : 1 ≤ x1 ∧ x1 ≤ 24) (k11 : 1 ≤ x11 ∧ x11 ≤ 1) : (x11 ≤ x1) ∨ (x11 ≤ 1) := by
  first
    | omega
    | (have h := tqe_val (j := x9) (l := x12) (r := x17) (pl := x8) ‹TQ1 _ _ _ _ _ _ _› ‹TQC _ _ _ _ _ _› ‹TQP _ _ _ _ _ _ _› (by omega) (by assumption) (by omega); omega)
    | (have h := tqe_val2 (j := x9) (l := x12) (r := x19) (tr := x10) ‹TQ1 _ _ _ _ _ _ _› ‹TQC _ _ _ _ _ _› ‹TQU _ _ _ _ _› ‹TQK _ _ _ _ _ _› (by omega) (by omega) ‹TQT _ _ _ _› (by assumption) (by omega); omega)
    | (have q := bit_one (s := x10) (t := x16) (c := x18) (v := x12) (one := x17) (by assumption) (by assumption) (by omega) (by omega) (by omega) (by omega)
       have h := tqv_val (v := x12) (a := x20) (y := x21) ‹TQV _ _ _ _ _ _ _ _ _ _› ‹TQC _ _ _ _ _ _› ‹TQU _ _ _ _ _› ‹TQK _ _ _ _ _ _› (by omega) ‹TQT _ _ _ _› (by omega) (by omega) (q.mpr (by omega)) (by assumption) (by omega)
       omega)
  
def o_Pl_placeSideBySide_0 : or_T := (22, 12, [(1, (0, 1, 24, [])), (2, (2, 0, 0, [3])), (4, (0, 0, 24, [])), (5, (0, 0, 24, [])), (8, (0, 0, 0, [])), (9, (0, 0, 23, [])), (10, (0, 0, 16777215, [])), (11, (0, 1, 1, []))], [(10, [10, 6, 9], []), (10, [9, 7, 8], []), (9, [7, 0], [7]), (9, [6, 0], [6]), (20, [0, 2, 3, 4, 5], [60, 1, 3, 865, 1000, 2, 5, 2002]), (20, [0, 2, 4, 5], [60, 1, 2, 860, 1000, 2, 6]), (20, [0, 1, 4, 5], [60, 0, 3, 861, 2, 4, 7])], [], [], [(24, [2, 2], []), (24, [3, 3], []), (24, [1, 1], []), (20, [0, 2, 10, 1, 4, 5], [60, 1, 2, 863, 1000, 2, 7]), (20, [0, 2, 3, 4, 5, 11], [60, 1, 3, 864, 1000, 2, 5, 2002]), (20, [11, 1], [50, 0, 0, 3, 6, 0, 2, 1, 0, 1, 1, 0, 2, 1, 0, 0, 1]), (24, [0, 0], []), (24, [1, 1], [])], [], [])
theorem oo_Pl_placeSideBySide_0 {kA : Nat → ClassId} : or_ok PRD kA GG o_Pl_placeSideBySide_0 := by
  refine or_mk fun A ta ws vs hD hth hl => ?_
  intro t1 k1 t2 r2 t4 k4 t5 k5 t8 k8 t9 k9 t10 k10 t11 k11 f0 f1 f2 f3 f5 f6 f7
  replace f0 := shm_106 f0
  replace f1 := shm_106 f1
  replace f2 := shm_216 f2
  replace f3 := shm_110 f3
  have ad_7 : v_ad (n_v vs 7) = w_ar ws (n_v vs 0) 7 := congrArg v_ad f2
  have ad_6 : v_ad (n_v vs 6) = w_ar ws (n_v vs 0) 6 := congrArg v_ad f3
  simp only [ad_6] at f0
  have h0 : v_iv (n_v vs 10) = w_ei ws (w_ar ws (n_v vs 0) 6) (v_iv (n_v vs 9)) := f0
  simp only [ad_7] at f1
  have h1 : v_iv (n_v vs 9) = w_ei ws (w_ar ws (n_v vs 0) 7) (v_iv (n_v vs 8)) := f1
  have kz_2_0 := fdq_23 hD hth r2
  have nf0 : fc_1 PRD (24, [2, 2], []) ws (vs) := by
    refine ⟨nf_in hl rfl, sgq_1 ?_⟩
    · show n_v vs 2 = n_v vs 2
      first | rfl | simp only [true_and]
  have nf1 : fc_1 PRD (24, [3, 3], []) ws (vs) := by
    refine ⟨nf_in hl rfl, sgq_1 ?_⟩
    · show n_v vs 3 = n_v vs 3
      first | rfl | simp only [true_and]
  have nf2 : fc_1 PRD (24, [1, 1], []) ws (vs) := by
    refine ⟨nf_in hl rfl, sgq_1 ?_⟩
    · show n_v vs 1 = n_v vs 1
      first | rfl | simp only [true_and]
  have nf3 : fc_1 PRD (20, [0, 2, 10, 1, 4, 5], [60, 1, 2, 863, 1000, 2, 7]) ws (vs) := ⟨nf_in hl rfl, sgq_1078 (vc_Pl_placeSideBySide_0_3 (v_iv (n_v vs 1)) (v_iv (n_v vs 4)) (v_iv (n_v vs 5)) (v_iv (n_v vs 8)) (v_iv (n_v vs 9)) (v_iv (n_v vs 10)) (w_ei ws (w_ar ws (n_v vs 0) 6)) (w_ei ws (w_ar ws (n_v vs 0) 7)) (w_ei ws (w_ar ws (n_v vs 0) 2)) (w_fi ws (n_v vs 2) 0) (w_ei ws (w_ar ws (n_v vs 0) 4)) k1 k4 k5 k8 k9 k10 h0 h1 (shm_1074 f6) (shm_1075 f7) kz_2_0)⟩
  have nf4 : fc_1 PRD (20, [0, 2, 3, 4, 5, 11], [60, 1, 3, 864, 1000, 2, 5, 2002]) ws (vs) := ⟨nf_in hl rfl, sgq_1079 (vc_Pl_placeSideBySide_0_4 (v_iv (n_v vs 4)) (v_iv (n_v vs 5)) (v_iv (n_v vs 11)) (w_ei ws (w_ar ws (n_v vs 0) 2)) (w_ei ws (w_ar ws (n_v vs 0) 5)) (w_ei ws (w_ar ws (n_v vs 3) 2)) (w_fi ws (n_v vs 2) 0) k4 k5 k11 (shm_1073 f5) kz_2_0)⟩
  have nf5 : fc_1 PRD (20, [11, 1], [50, 0, 0, 3, 6, 0, 2, 1, 0, 1, 1, 0, 2, 1, 0, 0, 1]) ws (vs) := ⟨nf_in hl rfl, sgq_1080 (vc_Pl_placeSideBySide_0_5 (v_iv (n_v vs 1)) (v_iv (n_v vs 8)) (v_iv (n_v vs 9)) (v_iv (n_v vs 10)) (v_iv (n_v vs 11)) k1 k11)⟩
  have nf6 : fc_1 PRD (24, [0, 0], []) ws (vs) := by
    refine ⟨nf_in hl rfl, sgq_1 ?_⟩
    · show n_v vs 0 = n_v vs 0
      first | rfl | simp only [true_and]
  have nf7 : fc_1 PRD (24, [1, 1], []) ws (vs) := by
    refine ⟨nf_in hl rfl, sgq_1 ?_⟩
    · show n_v vs 1 = n_v vs 1
      first | rfl | simp only [true_and]
  refine ⟨(fun _ h => (by cases h)), [], trivial, ?_, (fun _ h => (by cases h))⟩
  rw [List.append_nil]
  exact List.forall_mem_cons.mpr ⟨⟨show (24 : Nat) < 100 from by decide, nf0⟩, List.forall_mem_cons.mpr ⟨⟨show (24 : Nat) < 100 from by decide, nf1⟩, List.forall_mem_cons.mpr ⟨⟨show (24 : Nat) < 100 from by decide, nf2⟩, List.forall_mem_cons.mpr ⟨⟨show (20 : Nat) < 100 from by decide, nf3⟩, List.forall_mem_cons.mpr ⟨⟨show (20 : Nat) < 100 from by decide, nf4⟩, List.forall_mem_cons.mpr ⟨⟨show (20 : Nat) < 100 from by decide, nf5⟩, List.forall_mem_cons.mpr ⟨⟨show (24 : Nat) < 100 from by decide, nf6⟩, List.forall_mem_cons.mpr ⟨⟨show (24 : Nat) < 100 from by decide, nf7⟩, (fun _ h => (by cases h))⟩⟩⟩⟩⟩⟩⟩⟩
set_option maxHeartbeats 4000000 in
theorem vc_Pl_placeSideBySide_1_3 (x1 : Int) (x4 : Int) (x5 : Int) (x6 : Int) (order_0 : Int → Int) (nodes_0o2 : Int) (kids_0 : Int → Int) (k1 : 0 ≤ x1 ∧ x1 ≤ 0) (k4 : 0 ≤ x4 ∧ x4 ≤ 24) (k5 : 0 ≤ x5 ∧ x5 ≤ 24) (k6 : 0 ≤ x6 ∧ x6 ≤ 0) (f0 : x1 = 0) (kz_2_0 : 0 ≤ nodes_0o2 ∧ nodes_0o2 ≤ 24) : TQP (nodes_0o2) (order_0) (kids_0) (x6) (x1) (x4) (x5) := by
  first
    | assumption
    | exact tqp_0 (by omega) (by omega)
    | exact tqp_start ‹TQU _ _ _ _ _› ‹TQK _ _ _ _ _ _› (by omega) (by rw [show (0 : Int) = x8 by omega, ← ‹x9 = kids_0 x8›]; assumption)
    | exact tqp_step (j := x9) (tr := x10) ‹TQP _ _ _ _ _ _ _› ‹TQU _ _ _ _ _› ‹TQK _ _ _ _ _ _› (by omega) (by omega) ‹TQT _ _ _ _› (by assumption)
  
set_option maxHeartbeats 4000000 in
theorem vc_Pl_placeSideBySide_1_4 (x4 : Int) (x5 : Int) (x7 : Int) (order_0 : Int → Int) (parent_0 : Int → Int) (x_0o3 : Int → Int) (nodes_0o2 : Int) (k4 : 0 ≤ x4 ∧ x4 ≤ 24) (k5 : 0 ≤ x5 ∧ x5 ≤ 24) (k7 : 1 ≤ x7 ∧ x7 ≤ 1) (f1 : TQ0 (nodes_0o2) (order_0) (parent_0) (x_0o3) (x4) (x5)) (kz_2_0 : 0 ≤ nodes_0o2 ∧ nodes_0o2 ≤ 24) : TQ1 (nodes_0o2) (order_0) (parent_0) (x_0o3) (x4) (x5) (x7) := by
  first
    | assumption
    | exact tq1_start ‹TQ0 _ _ _ _ _ _› (by omega)
    | exact tqv_end ‹TQV _ _ _ _ _ _ _ _ _ _› (tqd_lo ‹TQD _ _ _ _ _› (by omega)) (by omega)
  
set_option maxHeartbeats 4000000 in
theorem vc_Pl_placeSideBySide_1_5 (x1 : Int) (x7 : Int) (k1 : 0 ≤ x1 ∧ x1 ≤ 0) (k7 : 1 ≤ x7 ∧ x7 ≤ 1) : (x7 ≤ x1) ∨ (x7 ≤ 1) := by
  first
    | omega
    | (have h := tqe_val (j := x9) (l := x12) (r := x17) (pl := x8) ‹TQ1 _ _ _ _ _ _ _› ‹TQC _ _ _ _ _ _› ‹TQP _ _ _ _ _ _ _› (by omega) (by assumption) (by omega); omega)
    | (have h := tqe_val2 (j := x9) (l := x12) (r := x19) (tr := x10) ‹TQ1 _ _ _ _ _ _ _› ‹TQC _ _ _ _ _ _› ‹TQU _ _ _ _ _› ‹TQK _ _ _ _ _ _› (by omega) (by omega) ‹TQT _ _ _ _› (by assumption) (by omega); omega)
    | (have q := bit_one (s := x10) (t := x16) (c := x18) (v := x12) (one := x17) (by assumption) (by assumption) (by omega) (by omega) (by omega) (by omega)
       have h := tqv_val (v := x12) (a := x20) (y := x21) ‹TQV _ _ _ _ _ _ _ _ _ _› ‹TQC _ _ _ _ _ _› ‹TQU _ _ _ _ _› ‹TQK _ _ _ _ _ _› (by omega) ‹TQT _ _ _ _› (by omega) (by omega) (q.mpr (by omega)) (by assumption) (by omega)
       omega)
  
def o_Pl_placeSideBySide_1 : or_T := (22, 8, [(1, (0, 0, 0, [])), (2, (2, 0, 0, [3])), (4, (0, 0, 24, [])), (5, (0, 0, 24, [])), (6, (0, 0, 0, [])), (7, (0, 1, 1, []))], [(8, [1], [0]), (20, [0, 2, 3, 4, 5], [60, 1, 3, 865, 1000, 2, 5, 2002])], [], [], [(24, [2, 2], []), (24, [3, 3], []), (24, [1, 1], []), (20, [0, 2, 6, 1, 4, 5], [60, 1, 2, 863, 1000, 2, 7]), (20, [0, 2, 3, 4, 5, 7], [60, 1, 3, 864, 1000, 2, 5, 2002]), (20, [7, 1], [50, 0, 0, 3, 6, 0, 2, 1, 0, 1, 1, 0, 2, 1, 0, 0, 1]), (24, [0, 0], []), (24, [1, 1], [])], [], [])
theorem oo_Pl_placeSideBySide_1 {kA : Nat → ClassId} : or_ok PRD kA GG o_Pl_placeSideBySide_1 := by
  refine or_mk fun A ta ws vs hD hth hl => ?_
  intro t1 k1 t2 r2 t4 k4 t5 k5 t6 k6 t7 k7 f0 f1
  have kz_2_0 := fdq_23 hD hth r2
  have nf0 : fc_1 PRD (24, [2, 2], []) ws (vs) := by
    refine ⟨nf_in hl rfl, sgq_1 ?_⟩
    · show n_v vs 2 = n_v vs 2
      first | rfl | simp only [true_and]
  have nf1 : fc_1 PRD (24, [3, 3], []) ws (vs) := by
    refine ⟨nf_in hl rfl, sgq_1 ?_⟩
    · show n_v vs 3 = n_v vs 3
      first | rfl | simp only [true_and]
  have nf2 : fc_1 PRD (24, [1, 1], []) ws (vs) := by
    refine ⟨nf_in hl rfl, sgq_1 ?_⟩
    · show n_v vs 1 = n_v vs 1
      first | rfl | simp only [true_and]
  have nf3 : fc_1 PRD (20, [0, 2, 6, 1, 4, 5], [60, 1, 2, 863, 1000, 2, 7]) ws (vs) := ⟨nf_in hl rfl, sgq_1078 (vc_Pl_placeSideBySide_1_3 (v_iv (n_v vs 1)) (v_iv (n_v vs 4)) (v_iv (n_v vs 5)) (v_iv (n_v vs 6)) (w_ei ws (w_ar ws (n_v vs 0) 2)) (w_fi ws (n_v vs 2) 0) (w_ei ws (w_ar ws (n_v vs 0) 7)) k1 k4 k5 k6 (shm_210 f0) kz_2_0)⟩
  have nf4 : fc_1 PRD (20, [0, 2, 3, 4, 5, 7], [60, 1, 3, 864, 1000, 2, 5, 2002]) ws (vs) := ⟨nf_in hl rfl, sgq_1079 (vc_Pl_placeSideBySide_1_4 (v_iv (n_v vs 4)) (v_iv (n_v vs 5)) (v_iv (n_v vs 7)) (w_ei ws (w_ar ws (n_v vs 0) 2)) (w_ei ws (w_ar ws (n_v vs 0) 5)) (w_ei ws (w_ar ws (n_v vs 3) 2)) (w_fi ws (n_v vs 2) 0) k4 k5 k7 (shm_1073 f1) kz_2_0)⟩
  have nf5 : fc_1 PRD (20, [7, 1], [50, 0, 0, 3, 6, 0, 2, 1, 0, 1, 1, 0, 2, 1, 0, 0, 1]) ws (vs) := ⟨nf_in hl rfl, sgq_1080 (vc_Pl_placeSideBySide_1_5 (v_iv (n_v vs 1)) (v_iv (n_v vs 7)) k1 k7)⟩
  have nf6 : fc_1 PRD (24, [0, 0], []) ws (vs) := by
    refine ⟨nf_in hl rfl, sgq_1 ?_⟩
    · show n_v vs 0 = n_v vs 0
      first | rfl | simp only [true_and]
  have nf7 : fc_1 PRD (24, [1, 1], []) ws (vs) := by
    refine ⟨nf_in hl rfl, sgq_1 ?_⟩
    · show n_v vs 1 = n_v vs 1
      first | rfl | simp only [true_and]
  refine ⟨(fun _ h => (by cases h)), [], trivial, ?_, (fun _ h => (by cases h))⟩
  rw [List.append_nil]
  exact List.forall_mem_cons.mpr ⟨⟨show (24 : Nat) < 100 from by decide, nf0⟩, List.forall_mem_cons.mpr ⟨⟨show (24 : Nat) < 100 from by decide, nf1⟩, List.forall_mem_cons.mpr ⟨⟨show (24 : Nat) < 100 from by decide, nf2⟩, List.forall_mem_cons.mpr ⟨⟨show (20 : Nat) < 100 from by decide, nf3⟩, List.forall_mem_cons.mpr ⟨⟨show (20 : Nat) < 100 from by decide, nf4⟩, List.forall_mem_cons.mpr ⟨⟨show (20 : Nat) < 100 from by decide, nf5⟩, List.forall_mem_cons.mpr ⟨⟨show (24 : Nat) < 100 from by decide, nf6⟩, List.forall_mem_cons.mpr ⟨⟨show (24 : Nat) < 100 from by decide, nf7⟩, (fun _ h => (by cases h))⟩⟩⟩⟩⟩⟩⟩⟩
set_option maxHeartbeats 4000000 in
theorem vc_Pl_placeSideBySide_2_0 (x1 : Int) (x4 : Int) (x5 : Int) (x9 : Int) (order_0 : Int → Int) (nodes_0o2 : Int) (parent_0 : Int → Int) (x_0o3 : Int → Int) (k1 : 0 ≤ x1 ∧ x1 ≤ 24) (k4 : 0 ≤ x4 ∧ x4 ≤ 24) (k5 : 0 ≤ x5 ∧ x5 ≤ 24) (k9 : 1 ≤ x9 ∧ x9 ≤ 24) (f9 : TQ1 (nodes_0o2) (order_0) (parent_0) (x_0o3) (x4) (x5) (x9)) (f10 : (x9 ≤ x1) ∨ (x9 ≤ 1)) (kz_2_0 : 0 ≤ nodes_0o2 ∧ nodes_0o2 ≤ 24) : TQ2 (nodes_0o2) (order_0) (parent_0) (x_0o3) (x1) (x4) (x5) := by
  first
    | exact tq2_of ‹TQ1 _ _ _ _ _ _ _› (by omega)
  
set_option maxHeartbeats 4000000 in
theorem vc_Pl_placeSideBySide_2_1 (x1 : Int) (x4 : Int) (x5 : Int) (x8 : Int) (x9 : Int) (order_0 : Int → Int) (nodes_0o2 : Int) (kids_0 : Int → Int) (k1 : 0 ≤ x1 ∧ x1 ≤ 24) (k4 : 0 ≤ x4 ∧ x4 ≤ 24) (k5 : 0 ≤ x5 ∧ x5 ≤ 24) (k8 : 0 ≤ x8 ∧ x8 ≤ 16777215) (f8 : TQP (nodes_0o2) (order_0) (kids_0) (x8) (x1) (x4) (x5)) (kz_2_0 : 0 ≤ nodes_0o2 ∧ nodes_0o2 ≤ 24) : TQP (nodes_0o2) (order_0) (kids_0) (x8) (x1) (x4) (x5) := by
  first
    | assumption
    | exact tqp_0 (by omega) (by omega)
    | exact tqp_start ‹TQU _ _ _ _ _› ‹TQK _ _ _ _ _ _› (by omega) (by rw [show (0 : Int) = x8 by omega, ← ‹x9 = kids_0 x8›]; assumption)
    | exact tqp_step (j := x9) (tr := x10) ‹TQP _ _ _ _ _ _ _› ‹TQU _ _ _ _ _› ‹TQK _ _ _ _ _ _› (by omega) (by omega) ‹TQT _ _ _ _› (by assumption)
  
def o_Pl_placeSideBySide_2 : or_T := (167, 12, [(1, (0, 0, 24, [])), (2, (2, 0, 0, [3])), (4, (0, 0, 24, [])), (5, (0, 0, 24, [])), (8, (0, 0, 16777215, [])), (9, (0, 1, 24, []))], [(24, [2, 10], []), (24, [3, 11], []), (24, [1, 7], []), (20, [6, 10, 8, 7, 4, 5], [60, 1, 2, 863, 1000, 2, 7]), (20, [6, 10, 11, 4, 5, 9], [60, 1, 3, 864, 1000, 2, 5, 2002]), (20, [9, 7], [50, 0, 0, 3, 6, 0, 2, 1, 0, 1, 1, 0, 2, 1, 0, 0, 1]), (24, [0, 6], [])], [], [], [(20, [0, 2, 3, 1, 4, 5], [60, 1, 3, 866, 1000, 2, 5, 2002]), (20, [0, 2, 8, 1, 4, 5], [60, 1, 2, 863, 1000, 2, 7])], [], [])
theorem oo_Pl_placeSideBySide_2 {kA : Nat → ClassId} : or_ok PRD kA GG o_Pl_placeSideBySide_2 := by
  refine or_mk fun A ta ws vs hD hth hl => ?_
  intro t1 k1 t2 r2 t4 k4 t5 k5 t8 k8 t9 k9 f5 f6 f7 f8 f9 f10 f11
  replace f5 := shm_5 f5
  replace f6 := shm_5 f6
  replace f7 := shm_5 f7
  replace f8 := shm_1078 f8
  replace f9 := shm_1079 f9
  replace f10 := shm_1080 f10
  replace f11 := shm_5 f11
  have q10 : n_v vs 10 = n_v vs 2 := f5.symm
  have q11 : n_v vs 11 = n_v vs 3 := f6.symm
  have q7 : n_v vs 7 = n_v vs 1 := f7.symm
  have q6 : n_v vs 6 = n_v vs 0 := f11.symm
  simp only [q7, q10, q6, q11] at f8 f9 f10
  have kz_2_0 := fdq_23 hD hth r2
  have nf0 : fc_1 PRD (20, [0, 2, 3, 1, 4, 5], [60, 1, 3, 866, 1000, 2, 5, 2002]) ws (vs) := ⟨nf_in hl rfl, sgq_1081 (vc_Pl_placeSideBySide_2_0 (v_iv (n_v vs 1)) (v_iv (n_v vs 4)) (v_iv (n_v vs 5)) (v_iv (n_v vs 9)) (w_ei ws (w_ar ws (n_v vs 0) 2)) (w_fi ws (n_v vs 2) 0) (w_ei ws (w_ar ws (n_v vs 0) 5)) (w_ei ws (w_ar ws (n_v vs 3) 2)) k1 k4 k5 k9 f9 f10 kz_2_0)⟩
  have nf1 : fc_1 PRD (20, [0, 2, 8, 1, 4, 5], [60, 1, 2, 863, 1000, 2, 7]) ws (vs) := ⟨nf_in hl rfl, sgq_1078 (vc_Pl_placeSideBySide_2_1 (v_iv (n_v vs 1)) (v_iv (n_v vs 4)) (v_iv (n_v vs 5)) (v_iv (n_v vs 8)) (v_iv (n_v vs 9)) (w_ei ws (w_ar ws (n_v vs 0) 2)) (w_fi ws (n_v vs 2) 0) (w_ei ws (w_ar ws (n_v vs 0) 7)) k1 k4 k5 k8 f8 kz_2_0)⟩
  refine ⟨(fun _ h => (by cases h)), [], trivial, ?_, (fun _ h => (by cases h))⟩
  rw [List.append_nil]
  exact List.forall_mem_cons.mpr ⟨⟨show (20 : Nat) < 100 from by decide, nf0⟩, List.forall_mem_cons.mpr ⟨⟨show (20 : Nat) < 100 from by decide, nf1⟩, (fun _ h => (by cases h))⟩⟩
set_option maxHeartbeats 4000000 in
theorem vc_Pl_placeSideBySide_3_0 (x9 : Int) (x14 : Int) (x15 : Int) (under_0 : Int → Int) (kids_0 : Int → Int) (k9 : 1 ≤ x9 ∧ x9 ≤ 23) (k14 : 0 ≤ x14 ∧ x14 ≤ 23) (k15 : 0 ≤ x15 ∧ x15 ≤ 16777215) (h0 : x15 = under_0 (x14)) (h1 : x14 = kids_0 (x9)) : TQT (under_0) (kids_0) (x15) (x9) := by
  first
    | assumption
    | (show x15 = under_0 (kids_0 x9); rw [← ‹x14 = kids_0 x9›]; assumption)
  
set_option maxHeartbeats 4000000 in
theorem vc_Pl_placeSideBySide_3_1 (x1 : Int) (x7 : Int) (x8 : Int) (x9 : Int) (x16 : Int) (x17 : Int) (k1 : 2 ≤ x1 ∧ x1 ≤ 24) (k7 : 2 ≤ x7 ∧ x7 ≤ 24) (k9 : 1 ≤ x9 ∧ x9 ≤ 23) (d0 : x7 + (-4294967296) ≤ x9 ∧ x9 ≤ x7 + (-1)) (d1 : x7 + (-4294967296) ≤ x1 ∧ x1 ≤ x7 + 0) (d2 : x1 + (-4294967296) ≤ x7 ∧ x7 ≤ x1 + 0) : (1 ≤ x9) ∧ ((x9 + 1) ≤ x1) := by
  first
    | omega
    | (have h := tqe_val (j := x9) (l := x12) (r := x17) (pl := x8) ‹TQ1 _ _ _ _ _ _ _› ‹TQC _ _ _ _ _ _› ‹TQP _ _ _ _ _ _ _› (by omega) (by assumption) (by omega); omega)
    | (have h := tqe_val2 (j := x9) (l := x12) (r := x19) (tr := x10) ‹TQ1 _ _ _ _ _ _ _› ‹TQC _ _ _ _ _ _› ‹TQU _ _ _ _ _› ‹TQK _ _ _ _ _ _› (by omega) (by omega) ‹TQT _ _ _ _› (by assumption) (by omega); omega)
    | (have q := bit_one (s := x10) (t := x16) (c := x18) (v := x12) (one := x17) (by assumption) (by assumption) (by omega) (by omega) (by omega) (by omega)
       have h := tqv_val (v := x12) (a := x20) (y := x21) ‹TQV _ _ _ _ _ _ _ _ _ _› ‹TQC _ _ _ _ _ _› ‹TQU _ _ _ _ _› ‹TQK _ _ _ _ _ _› (by omega) ‹TQT _ _ _ _› (by omega) (by omega) (q.mpr (by omega)) (by assumption) (by omega)
       omega)
  
set_option maxHeartbeats 4000000 in
theorem vc_Pl_placeSideBySide_3_2 (x1 : Int) (x4 : Int) (x5 : Int) (x7 : Int) (x8 : Int) (x9 : Int) (x16 : Int) (x17 : Int) (kids_0 : Int → Int) (order_0 : Int → Int) (level_0 : Int → Int) (x_0o3 : Int → Int) (k1 : 2 ≤ x1 ∧ x1 ≤ 24) (k4 : 0 ≤ x4 ∧ x4 ≤ 24) (k5 : 0 ≤ x5 ∧ x5 ≤ 24) (k7 : 2 ≤ x7 ∧ x7 ≤ 24) (k16 : (-1000000) ≤ x16 ∧ x16 ≤ (-1000000)) (k17 : 0 ≤ x17 ∧ x17 ≤ 0) (d1 : x7 + (-4294967296) ≤ x1 ∧ x1 ≤ x7 + 0) (d2 : x1 + (-4294967296) ≤ x7 ∧ x7 ≤ x1 + 0) (f6 : TQK (order_0) (level_0) (kids_0) (x1) (x4) (x5)) : TQS (order_0) (level_0) (kids_0) (x_0o3) (x16) (x17) (x4) (x5) := by
  first
    | exact tqs_start (by omega) (by omega) ‹TQK _ _ _ _ _ _› (by omega)
    | exact tqs_skip (j := x9) (r := x17) (e := x19) (pl := x8) (tr := x10) ‹TQS _ _ _ _ _ _ _ _› ‹TQ1 _ _ _ _ _ _ _› ‹TQC _ _ _ _ _ _› ‹TQP _ _ _ _ _ _ _› ‹TQU _ _ _ _ _› ‹TQK _ _ _ _ _ _› ‹TQD _ _ _ _ _› (by omega) (by omega) (by omega) ‹TQT _ _ _ _› (by assumption) (by assumption) (by omega) (by omega)
    | exact tqs_step (pr := fun z => z) (j := x9) (r := x17) (e := x19) (f := x24) (pl := x8) (tr := x10) ‹TQS _ _ _ _ _ _ _ _› ‹TQP _ _ _ _ _ _ _› ‹TQU _ _ _ _ _› ‹TQK _ _ _ _ _ _› (by omega) (by omega) ‹TQT _ _ _ _› (by assumption) (by assumption) (by omega) (by omega) (by omega) (by omega) (by omega) rfl
  
def o_Pl_placeSideBySide_3 : or_T := (47, 18, [(1, (0, 2, 24, [])), (4, (0, 0, 24, [])), (5, (0, 0, 24, [])), (7, (0, 2, 24, [])), (9, (0, 1, 23, [])), (14, (0, 0, 23, [])), (15, (0, 0, 16777215, [])), (16, (0, -1000000, -1000000, [])), (17, (0, 0, 0, []))], [(10, [15, 12, 14], []), (10, [14, 13, 9], []), (9, [13, 6], [7]), (9, [12, 6], [6]), (20, [6, 7, 4, 5], [60, 0, 3, 861, 2, 4, 7]), (24, [3, 11], []), (24, [1, 7], []), (24, [0, 6], [])], [], [], [(20, [6, 15, 9], [60, 0, 2, 875, 6, 7]), (20, [9, 7], [50, 0, 0, 2, 6, 0, 2, 0, 1, 1, 0, 0, 6, 4, 2, 1, 0, 0, 1, 1, 1]), (20, [6, 11, 16, 17, 4, 5], [60, 0, 4, 869, 2, 4, 7, 1002])], [], [(9, 7, -4294967296, -1), (1, 7, -4294967296, 0), (7, 1, -4294967296, 0)])
theorem oo_Pl_placeSideBySide_3 {kA : Nat → ClassId} : or_ok PRD kA GG o_Pl_placeSideBySide_3 := by
  refine or_mk fun A ta ws vs hD hth hl => ?_
  intro t1 k1 t4 k4 t5 k5 t7 k7 t9 k9 t14 k14 t15 k15 t16 k16 t17 k17 d0 d1 d2 f0 f1 f2 f3 f6 f10 f11 f15
  replace f0 := shm_106 f0
  replace f1 := shm_106 f1
  replace f2 := shm_216 f2
  replace f3 := shm_110 f3
  replace f6 := shm_1075 f6
  replace f10 := shm_5 f10
  replace f11 := shm_5 f11
  replace f15 := shm_5 f15
  have q11 : n_v vs 11 = n_v vs 3 := f10.symm
  have q7 : n_v vs 7 = n_v vs 1 := f11.symm
  have q6 : n_v vs 6 = n_v vs 0 := f15.symm
  simp only [q6, q7] at f2 f3 f6
  have ad_13 : v_ad (n_v vs 13) = w_ar ws (n_v vs 0) 7 := congrArg v_ad f2
  have ad_12 : v_ad (n_v vs 12) = w_ar ws (n_v vs 0) 6 := congrArg v_ad f3
  simp only [ad_12] at f0
  have h0 : v_iv (n_v vs 15) = w_ei ws (w_ar ws (n_v vs 0) 6) (v_iv (n_v vs 14)) := f0
  simp only [ad_13] at f1
  have h1 : v_iv (n_v vs 14) = w_ei ws (w_ar ws (n_v vs 0) 7) (v_iv (n_v vs 9)) := f1
  have nf0 : fc_1 PRD (20, [6, 15, 9], [60, 0, 2, 875, 6, 7]) ws (vs) := by
    refine ⟨nf_in hl rfl, sgq_1082 ?_⟩
    · show TQT (w_ei ws (w_ar ws (n_v vs 6) 6)) (w_ei ws (w_ar ws (n_v vs 6) 7)) (v_iv (n_v vs 15)) (v_iv (n_v vs 9))
      rw [q6]
      exact vc_Pl_placeSideBySide_3_0 (v_iv (n_v vs 9)) (v_iv (n_v vs 14)) (v_iv (n_v vs 15)) (w_ei ws (w_ar ws (n_v vs 0) 6)) (w_ei ws (w_ar ws (n_v vs 0) 7)) k9 k14 k15 h0 h1
  have nf1 : fc_1 PRD (20, [9, 7], [50, 0, 0, 2, 6, 0, 2, 0, 1, 1, 0, 0, 6, 4, 2, 1, 0, 0, 1, 1, 1]) ws (vs) := by
    refine ⟨nf_in hl rfl, sgq_1083 ?_⟩
    · show (1 ≤ v_iv (n_v vs 9)) ∧ ((v_iv (n_v vs 9) + 1) ≤ v_iv (n_v vs 7))
      rw [q7]
      exact vc_Pl_placeSideBySide_3_1 (v_iv (n_v vs 1)) (v_iv (n_v vs 7)) (v_iv (n_v vs 8)) (v_iv (n_v vs 9)) (v_iv (n_v vs 16)) (v_iv (n_v vs 17)) k1 k7 k9 d0 d1 d2
  have nf2 : fc_1 PRD (20, [6, 11, 16, 17, 4, 5], [60, 0, 4, 869, 2, 4, 7, 1002]) ws (vs) := by
    refine ⟨nf_in hl rfl, sgq_1084 ?_⟩
    · show TQS (w_ei ws (w_ar ws (n_v vs 6) 2)) (w_ei ws (w_ar ws (n_v vs 6) 4)) (w_ei ws (w_ar ws (n_v vs 6) 7)) (w_ei ws (w_ar ws (n_v vs 11) 2)) (v_iv (n_v vs 16)) (v_iv (n_v vs 17)) (v_iv (n_v vs 4)) (v_iv (n_v vs 5))
      simp only [q11, q6]
      exact vc_Pl_placeSideBySide_3_2 (v_iv (n_v vs 1)) (v_iv (n_v vs 4)) (v_iv (n_v vs 5)) (v_iv (n_v vs 7)) (v_iv (n_v vs 8)) (v_iv (n_v vs 9)) (v_iv (n_v vs 16)) (v_iv (n_v vs 17)) (w_ei ws (w_ar ws (n_v vs 0) 7)) (w_ei ws (w_ar ws (n_v vs 0) 2)) (w_ei ws (w_ar ws (n_v vs 0) 4)) (w_ei ws (w_ar ws (n_v vs 3) 2)) k1 k4 k5 k7 k16 k17 d1 d2 f6
  refine ⟨(fun _ h => (by cases h)), [], trivial, ?_, (fun _ h => (by cases h))⟩
  rw [List.append_nil]
  exact List.forall_mem_cons.mpr ⟨⟨show (20 : Nat) < 100 from by decide, nf0⟩, List.forall_mem_cons.mpr ⟨⟨show (20 : Nat) < 100 from by decide, nf1⟩, List.forall_mem_cons.mpr ⟨⟨show (20 : Nat) < 100 from by decide, nf2⟩, (fun _ h => (by cases h))⟩⟩⟩
set_option maxHeartbeats 4000000 in
theorem vc_Pl_placeSideBySide_4_0 (x1 : Int) (x4 : Int) (x5 : Int) (x7 : Int) (x9 : Int) (x10 : Int) (x11 : Int) (x12 : Int) (x16 : Int) (order_0 : Int → Int) (nodes_0o2 : Int) (level_0 : Int → Int) (kids_0 : Int → Int) (parent_0 : Int → Int) (x_0o3 : Int → Int) (k1 : 0 ≤ x1 ∧ x1 ≤ 24) (k4 : 0 ≤ x4 ∧ x4 ≤ 24) (k5 : 0 ≤ x5 ∧ x5 ≤ 24) (k7 : 2 ≤ x7 ∧ x7 ≤ 24) (k9 : 1 ≤ x9 ∧ x9 ≤ 23) (k10 : 0 ≤ x10 ∧ x10 ≤ 16777215) (k11 : (-1000000) ≤ x11 ∧ x11 ≤ 67108868) (k12 : 24 ≤ x12 ∧ x12 ≤ 24) (k16 : 0 ≤ x16 ∧ x16 ≤ 0) (d0 : x7 + (-4294967296) ≤ x1 ∧ x1 ≤ x7 + 0) (d3 : x1 + (-4294967296) ≤ x7 ∧ x7 ≤ x1 + 0) (f2 : TQK (order_0) (level_0) (kids_0) (x1) (x4) (x5)) (f9 : TQ1 (nodes_0o2) (order_0) (parent_0) (x_0o3) (x4) (x5) (x9)) (f12 : TQS (order_0) (level_0) (kids_0) (x_0o3) (x11) (x12) (x4) (x5)) (kz_2_0 : 0 ≤ nodes_0o2 ∧ nodes_0o2 ≤ 24) : TQV (nodes_0o2) (order_0) (parent_0) (x_0o3) (x11) (x10) (x4) (x5) (x9) (x16) := by
  first
    | assumption
    | exact tqv_start ‹TQ1 _ _ _ _ _ _ _› ‹TQS _ _ _ _ _ _ _ _› ‹TQK _ _ _ _ _ _› (by omega) (by omega) (by omega)
    | (have q := bit_one (s := x10) (t := x16) (c := x18) (v := x12) (one := x17) (by assumption) (by assumption) (by omega) (by omega) (by omega) (by omega)
       first
         | exact tqv_skip ‹TQV _ _ _ _ _ _ _ _ _ _› (fun z => by have := q.mp z; omega) (by omega)
         | exact tqv_step (v := x12) (a := x20) ‹TQV _ _ _ _ _ _ _ _ _ _› (by omega) (q.mpr (by omega)) (by assumption) (by omega) (by assumption) rfl (by omega))
  
def o_Pl_placeSideBySide_4 : or_T := (112, 17, [(1, (0, 0, 24, [])), (2, (2, 0, 0, [3])), (4, (0, 0, 24, [])), (5, (0, 0, 24, [])), (7, (0, 2, 24, [])), (9, (0, 1, 23, [])), (10, (0, 0, 16777215, [])), (11, (0, -1000000, 67108868, [])), (12, (0, 24, 24, [])), (16, (0, 0, 0, []))], [(20, [6, 7, 4, 5], [60, 0, 3, 861, 2, 4, 7]), (24, [2, 13], []), (24, [3, 14], []), (24, [1, 7], []), (20, [6, 13, 14, 4, 5, 9], [60, 1, 3, 864, 1000, 2, 5, 2002]), (20, [6, 14, 11, 12, 4, 5], [60, 0, 4, 869, 2, 4, 7, 1002]), (24, [0, 6], [])], [], [], [(20, [6, 13, 14, 11, 10, 4, 5, 9, 16], [60, 1, 3, 870, 1000, 2, 5, 2002])], [], [(1, 7, -4294967296, 0), (7, 1, -4294967296, 0)])
theorem oo_Pl_placeSideBySide_4 {kA : Nat → ClassId} : or_ok PRD kA GG o_Pl_placeSideBySide_4 := by
  refine or_mk fun A ta ws vs hD hth hl => ?_
  intro t1 k1 t2 r2 t4 k4 t5 k5 t7 k7 t9 k9 t10 k10 t11 k11 t12 k12 t16 k16 d0 d3 f2 f5 f6 f7 f9 f12 f13
  replace f2 := shm_1075 f2
  replace f5 := shm_5 f5
  replace f6 := shm_5 f6
  replace f7 := shm_5 f7
  replace f9 := shm_1079 f9
  replace f12 := shm_1084 f12
  replace f13 := shm_5 f13
  have q13 : n_v vs 13 = n_v vs 2 := f5.symm
  have q14 : n_v vs 14 = n_v vs 3 := f6.symm
  have q7 : n_v vs 7 = n_v vs 1 := f7.symm
  have q6 : n_v vs 6 = n_v vs 0 := f13.symm
  simp only [q13, q6, q7, q14] at f2 f9 f12
  have kz_2_0 := fdq_23 hD hth r2
  have nf0 : fc_1 PRD (20, [6, 13, 14, 11, 10, 4, 5, 9, 16], [60, 1, 3, 870, 1000, 2, 5, 2002]) ws (vs) := by
    refine ⟨nf_in hl rfl, sgq_1085 ?_⟩
    · show TQV (w_fi ws (n_v vs 13) 0) (w_ei ws (w_ar ws (n_v vs 6) 2)) (w_ei ws (w_ar ws (n_v vs 6) 5)) (w_ei ws (w_ar ws (n_v vs 14) 2)) (v_iv (n_v vs 11)) (v_iv (n_v vs 10)) (v_iv (n_v vs 4)) (v_iv (n_v vs 5)) (v_iv (n_v vs 9)) (v_iv (n_v vs 16))
      simp only [q13, q14, q6]
      exact vc_Pl_placeSideBySide_4_0 (v_iv (n_v vs 1)) (v_iv (n_v vs 4)) (v_iv (n_v vs 5)) (v_iv (n_v vs 7)) (v_iv (n_v vs 9)) (v_iv (n_v vs 10)) (v_iv (n_v vs 11)) (v_iv (n_v vs 12)) (v_iv (n_v vs 16)) (w_ei ws (w_ar ws (n_v vs 0) 2)) (w_fi ws (n_v vs 2) 0) (w_ei ws (w_ar ws (n_v vs 0) 4)) (w_ei ws (w_ar ws (n_v vs 0) 7)) (w_ei ws (w_ar ws (n_v vs 0) 5)) (w_ei ws (w_ar ws (n_v vs 3) 2)) k1 k4 k5 k7 k9 k10 k11 k12 k16 d0 d3 f2 f9 f12 kz_2_0
  refine ⟨(fun _ h => (by cases h)), [], trivial, ?_, (fun _ h => (by cases h))⟩
  rw [List.append_nil]
  exact List.forall_mem_cons.mpr ⟨⟨show (20 : Nat) < 100 from by decide, nf0⟩, (fun _ h => (by cases h))⟩
set_option maxHeartbeats 4000000 in
theorem vc_Pl_placeSideBySide_5_0 (x1 : Int) (x4 : Int) (x5 : Int) (x7 : Int) (x8 : Int) (x9 : Int) (x10 : Int) (x11 : Int) (x12 : Int) (x17 : Int) (x19 : Int) (x21 : Int) (level_0 : Int → Int) (x_0o3 : Int → Int) (nodes_0o2 : Int) (order_0 : Int → Int) (under_0 : Int → Int) (kids_0 : Int → Int) (parent_0 : Int → Int) (k1 : 0 ≤ x1 ∧ x1 ≤ 24) (k4 : 0 ≤ x4 ∧ x4 ≤ 24) (k5 : 0 ≤ x5 ∧ x5 ≤ 24) (k7 : 2 ≤ x7 ∧ x7 ≤ 24) (k8 : 0 ≤ x8 ∧ x8 ≤ 16777215) (k9 : 1 ≤ x9 ∧ x9 ≤ 23) (k10 : 0 ≤ x10 ∧ x10 ≤ 16777215) (k11 : (-1000000) ≤ x11 ∧ x11 ≤ 67108868) (k12 : 0 ≤ x12 ∧ x12 ≤ 23) (k17 : (-2147483648) ≤ x17 ∧ x17 ≤ (-2147483648)) (k19 : (-2147483648) ≤ x19 ∧ x19 ≤ 690000000) (k21 : 1 ≤ x21 ∧ x21 ≤ 24) (d1 : x7 + (-4294967296) ≤ x1 ∧ x1 ≤ x7 + 0) (d4 : x1 + (-4294967296) ≤ x7 ∧ x7 ≤ x1 + 0) (d5 : x1 + (-4294967296) ≤ x9 ∧ x9 ≤ x1 + (-1)) (f0 : x21 = x12 + 1) (f2 : TQE (nodes_0o2) (level_0) (x_0o3) (x10) (x12) (x19)) (f3 : TQE (nodes_0o2) (level_0) (x_0o3) (x8) (x12) (x17)) (f5 : TQU (nodes_0o2) (order_0) (under_0) (x4) (x5)) (f6 : TQK (order_0) (level_0) (kids_0) (x1) (x4) (x5)) (f7 : TQC (nodes_0o2) (order_0) (parent_0) (x1) (x4) (x5)) (f8 : TQD (nodes_0o2) (order_0) (parent_0) (level_0) (x4)) (f12 : TQP (nodes_0o2) (order_0) (kids_0) (x8) (x1) (x4) (x5)) (f13 : TQ1 (nodes_0o2) (order_0) (parent_0) (x_0o3) (x4) (x5) (x9)) (f14 : TQT (under_0) (kids_0) (x10) (x9)) (f16 : TQS (order_0) (level_0) (kids_0) (x_0o3) (x11) (x12) (x4) (x5)) (kz_2_0 : 0 ≤ nodes_0o2 ∧ nodes_0o2 ≤ 24) : TQS (order_0) (level_0) (kids_0) (x_0o3) (x11) (x21) (x4) (x5) := by
  first
    | exact tqs_start (by omega) (by omega) ‹TQK _ _ _ _ _ _› (by omega)
    | exact tqs_skip (j := x9) (r := x17) (e := x19) (pl := x8) (tr := x10) ‹TQS _ _ _ _ _ _ _ _› ‹TQ1 _ _ _ _ _ _ _› ‹TQC _ _ _ _ _ _› ‹TQP _ _ _ _ _ _ _› ‹TQU _ _ _ _ _› ‹TQK _ _ _ _ _ _› ‹TQD _ _ _ _ _› (by omega) (by omega) (by omega) ‹TQT _ _ _ _› (by assumption) (by assumption) (by omega) (by omega)
    | exact tqs_step (pr := fun z => z) (j := x9) (r := x17) (e := x19) (f := x24) (pl := x8) (tr := x10) ‹TQS _ _ _ _ _ _ _ _› ‹TQP _ _ _ _ _ _ _› ‹TQU _ _ _ _ _› ‹TQK _ _ _ _ _ _› (by omega) (by omega) ‹TQT _ _ _ _› (by assumption) (by assumption) (by omega) (by omega) (by omega) (by omega) (by omega) rfl
  
def o_Pl_placeSideBySide_5 : or_T := (47, 22, [(1, (0, 0, 24, [])), (2, (2, 0, 0, [3])), (4, (0, 0, 24, [])), (5, (0, 0, 24, [])), (7, (0, 2, 24, [])), (8, (0, 0, 16777215, [])), (9, (0, 1, 23, [])), (10, (0, 0, 16777215, [])), (11, (0, -1000000, 67108868, [])), (12, (0, 0, 23, [])), (17, (0, -2147483648, -2147483648, [])), (19, (0, -2147483648, 690000000, [])), (21, (0, 1, 24, []))], [(6, [21, 12], [1]), (20, [6, 13, 14, 10, 12, 19], [60, 1, 2, 868, 1000, 4, 2002]), (20, [6, 13, 14, 8, 12, 17], [60, 1, 2, 868, 1000, 4, 2002]), (20, [6, 13, 4, 5], [60, 1, 2, 860, 1000, 2, 6]), (20, [6, 7, 4, 5], [60, 0, 3, 861, 2, 4, 7]), (20, [6, 13, 7, 4, 5], [60, 1, 2, 862, 1000, 2, 5]), (20, [6, 13, 4], [60, 1, 3, 859, 1000, 2, 5, 4]), (24, [2, 13], []), (24, [3, 14], []), (24, [1, 7], []), (20, [6, 13, 8, 7, 4, 5], [60, 1, 2, 863, 1000, 2, 7]), (20, [6, 13, 14, 4, 5, 9], [60, 1, 3, 864, 1000, 2, 5, 2002]), (20, [6, 10, 9], [60, 0, 2, 875, 6, 7]), (20, [6, 14, 11, 12, 4, 5], [60, 0, 4, 869, 2, 4, 7, 1002]), (24, [0, 6], [])], [], [], [(20, [6, 14, 11, 21, 4, 5], [60, 0, 4, 869, 2, 4, 7, 1002])], [], [(1, 7, -4294967296, 0), (7, 1, -4294967296, 0), (9, 1, -4294967296, -1)])
theorem oo_Pl_placeSideBySide_5 {kA : Nat → ClassId} : or_ok PRD kA GG o_Pl_placeSideBySide_5 := by
  refine or_mk fun A ta ws vs hD hth hl => ?_
  intro t1 k1 t2 r2 t4 k4 t5 k5 t7 k7 t8 k8 t9 k9 t10 k10 t11 k11 t12 k12 t17 k17 t19 k19 t21 k21 d1 d4 d5 f0 f2 f3 f5 f6 f7 f8 f9 f10 f11 f12 f13 f14 f16 f17
  replace f0 := shm_4 f0
  replace f2 := shm_425 f2
  replace f3 := shm_425 f3
  replace f5 := shm_1074 f5
  replace f6 := shm_1075 f6
  replace f7 := shm_1076 f7
  replace f8 := shm_1077 f8
  replace f9 := shm_5 f9
  replace f10 := shm_5 f10
  replace f11 := shm_5 f11
  replace f12 := shm_1078 f12
  replace f13 := shm_1079 f13
  replace f14 := shm_1082 f14
  replace f16 := shm_1084 f16
  replace f17 := shm_5 f17
  have q13 : n_v vs 13 = n_v vs 2 := f9.symm
  have q14 : n_v vs 14 = n_v vs 3 := f10.symm
  have q7 : n_v vs 7 = n_v vs 1 := f11.symm
  have q6 : n_v vs 6 = n_v vs 0 := f17.symm
  simp only [q13, q14, q6, q7] at f2 f3 f5 f6 f7 f8 f12 f13 f14 f16
  have kz_2_0 := fdq_23 hD hth r2
  have nf0 : fc_1 PRD (20, [6, 14, 11, 21, 4, 5], [60, 0, 4, 869, 2, 4, 7, 1002]) ws (vs) := by
    refine ⟨nf_in hl rfl, sgq_1084 ?_⟩
    · show TQS (w_ei ws (w_ar ws (n_v vs 6) 2)) (w_ei ws (w_ar ws (n_v vs 6) 4)) (w_ei ws (w_ar ws (n_v vs 6) 7)) (w_ei ws (w_ar ws (n_v vs 14) 2)) (v_iv (n_v vs 11)) (v_iv (n_v vs 21)) (v_iv (n_v vs 4)) (v_iv (n_v vs 5))
      simp only [q14, q6]
      exact vc_Pl_placeSideBySide_5_0 (v_iv (n_v vs 1)) (v_iv (n_v vs 4)) (v_iv (n_v vs 5)) (v_iv (n_v vs 7)) (v_iv (n_v vs 8)) (v_iv (n_v vs 9)) (v_iv (n_v vs 10)) (v_iv (n_v vs 11)) (v_iv (n_v vs 12)) (v_iv (n_v vs 17)) (v_iv (n_v vs 19)) (v_iv (n_v vs 21)) (w_ei ws (w_ar ws (n_v vs 0) 4)) (w_ei ws (w_ar ws (n_v vs 3) 2)) (w_fi ws (n_v vs 2) 0) (w_ei ws (w_ar ws (n_v vs 0) 2)) (w_ei ws (w_ar ws (n_v vs 0) 6)) (w_ei ws (w_ar ws (n_v vs 0) 7)) (w_ei ws (w_ar ws (n_v vs 0) 5)) k1 k4 k5 k7 k8 k9 k10 k11 k12 k17 k19 k21 d1 d4 d5 f0 f2 f3 f5 f6 f7 f8 f12 f13 f14 f16 kz_2_0
  refine ⟨(fun _ h => (by cases h)), [], trivial, ?_, (fun _ h => (by cases h))⟩
  rw [List.append_nil]
  exact List.forall_mem_cons.mpr ⟨⟨show (20 : Nat) < 100 from by decide, nf0⟩, (fun _ h => (by cases h))⟩
set_option maxHeartbeats 4000000 in
theorem vc_Pl_placeSideBySide_6_0 (x1 : Int) (x4 : Int) (x5 : Int) (x7 : Int) (x8 : Int) (x9 : Int) (x10 : Int) (x11 : Int) (x12 : Int) (x17 : Int) (x19 : Int) (x22 : Int) (level_0 : Int → Int) (x_0o3 : Int → Int) (nodes_0o2 : Int) (order_0 : Int → Int) (under_0 : Int → Int) (kids_0 : Int → Int) (parent_0 : Int → Int) (k1 : 0 ≤ x1 ∧ x1 ≤ 24) (k4 : 0 ≤ x4 ∧ x4 ≤ 24) (k5 : 0 ≤ x5 ∧ x5 ≤ 24) (k7 : 2 ≤ x7 ∧ x7 ≤ 24) (k8 : 0 ≤ x8 ∧ x8 ≤ 16777215) (k9 : 1 ≤ x9 ∧ x9 ≤ 23) (k10 : 0 ≤ x10 ∧ x10 ≤ 16777215) (k11 : (-1000000) ≤ x11 ∧ x11 ≤ 67108868) (k12 : 0 ≤ x12 ∧ x12 ≤ 23) (k17 : (-2147483647) ≤ x17 ∧ x17 ≤ 690000000) (k19 : (-2147483648) ≤ x19 ∧ x19 ≤ (-2147483648)) (k22 : 1 ≤ x22 ∧ x22 ≤ 24) (d1 : x7 + (-4294967296) ≤ x1 ∧ x1 ≤ x7 + 0) (d4 : x1 + (-4294967296) ≤ x7 ∧ x7 ≤ x1 + 0) (d5 : x1 + (-4294967296) ≤ x9 ∧ x9 ≤ x1 + (-1)) (f0 : x22 = x12 + 1) (f3 : TQE (nodes_0o2) (level_0) (x_0o3) (x10) (x12) (x19)) (f4 : TQE (nodes_0o2) (level_0) (x_0o3) (x8) (x12) (x17)) (f6 : TQU (nodes_0o2) (order_0) (under_0) (x4) (x5)) (f7 : TQK (order_0) (level_0) (kids_0) (x1) (x4) (x5)) (f8 : TQC (nodes_0o2) (order_0) (parent_0) (x1) (x4) (x5)) (f9 : TQD (nodes_0o2) (order_0) (parent_0) (level_0) (x4)) (f13 : TQP (nodes_0o2) (order_0) (kids_0) (x8) (x1) (x4) (x5)) (f14 : TQ1 (nodes_0o2) (order_0) (parent_0) (x_0o3) (x4) (x5) (x9)) (f15 : TQT (under_0) (kids_0) (x10) (x9)) (f17 : TQS (order_0) (level_0) (kids_0) (x_0o3) (x11) (x12) (x4) (x5)) (kz_2_0 : 0 ≤ nodes_0o2 ∧ nodes_0o2 ≤ 24) : TQS (order_0) (level_0) (kids_0) (x_0o3) (x11) (x22) (x4) (x5) := by
  first
    | exact tqs_start (by omega) (by omega) ‹TQK _ _ _ _ _ _› (by omega)
    | exact tqs_skip (j := x9) (r := x17) (e := x19) (pl := x8) (tr := x10) ‹TQS _ _ _ _ _ _ _ _› ‹TQ1 _ _ _ _ _ _ _› ‹TQC _ _ _ _ _ _› ‹TQP _ _ _ _ _ _ _› ‹TQU _ _ _ _ _› ‹TQK _ _ _ _ _ _› ‹TQD _ _ _ _ _› (by omega) (by omega) (by omega) ‹TQT _ _ _ _› (by assumption) (by assumption) (by omega) (by omega)
    | exact tqs_step (pr := fun z => z) (j := x9) (r := x17) (e := x19) (f := x24) (pl := x8) (tr := x10) ‹TQS _ _ _ _ _ _ _ _› ‹TQP _ _ _ _ _ _ _› ‹TQU _ _ _ _ _› ‹TQK _ _ _ _ _ _› (by omega) (by omega) ‹TQT _ _ _ _› (by assumption) (by assumption) (by omega) (by omega) (by omega) (by omega) (by omega) rfl
  
def o_Pl_placeSideBySide_6 : or_T := (47, 23, [(1, (0, 0, 24, [])), (2, (2, 0, 0, [3])), (4, (0, 0, 24, [])), (5, (0, 0, 24, [])), (7, (0, 2, 24, [])), (8, (0, 0, 16777215, [])), (9, (0, 1, 23, [])), (10, (0, 0, 16777215, [])), (11, (0, -1000000, 67108868, [])), (12, (0, 0, 23, [])), (17, (0, -2147483647, 690000000, [])), (19, (0, -2147483648, -2147483648, [])), (22, (0, 1, 24, []))], [(6, [22, 12], [1]), (20, [6, 13, 14, 10, 12, 19], [60, 1, 2, 868, 1000, 4, 2002]), (20, [6, 13, 14, 8, 12, 17], [60, 1, 2, 868, 1000, 4, 2002]), (20, [6, 13, 4, 5], [60, 1, 2, 860, 1000, 2, 6]), (20, [6, 7, 4, 5], [60, 0, 3, 861, 2, 4, 7]), (20, [6, 13, 7, 4, 5], [60, 1, 2, 862, 1000, 2, 5]), (20, [6, 13, 4], [60, 1, 3, 859, 1000, 2, 5, 4]), (24, [2, 13], []), (24, [3, 14], []), (24, [1, 7], []), (20, [6, 13, 8, 7, 4, 5], [60, 1, 2, 863, 1000, 2, 7]), (20, [6, 13, 14, 4, 5, 9], [60, 1, 3, 864, 1000, 2, 5, 2002]), (20, [6, 10, 9], [60, 0, 2, 875, 6, 7]), (20, [6, 14, 11, 12, 4, 5], [60, 0, 4, 869, 2, 4, 7, 1002]), (24, [0, 6], [])], [], [], [(20, [6, 14, 11, 22, 4, 5], [60, 0, 4, 869, 2, 4, 7, 1002])], [], [(1, 7, -4294967296, 0), (7, 1, -4294967296, 0), (9, 1, -4294967296, -1)])
theorem oo_Pl_placeSideBySide_6 {kA : Nat → ClassId} : or_ok PRD kA GG o_Pl_placeSideBySide_6 := by
  refine or_mk fun A ta ws vs hD hth hl => ?_
  intro t1 k1 t2 r2 t4 k4 t5 k5 t7 k7 t8 k8 t9 k9 t10 k10 t11 k11 t12 k12 t17 k17 t19 k19 t22 k22 d1 d4 d5 f0 f3 f4 f6 f7 f8 f9 f10 f11 f12 f13 f14 f15 f17 f18
  replace f0 := shm_4 f0
  replace f3 := shm_425 f3
  replace f4 := shm_425 f4
  replace f6 := shm_1074 f6
  replace f7 := shm_1075 f7
  replace f8 := shm_1076 f8
  replace f9 := shm_1077 f9
  replace f10 := shm_5 f10
  replace f11 := shm_5 f11
  replace f12 := shm_5 f12
  replace f13 := shm_1078 f13
  replace f14 := shm_1079 f14
  replace f15 := shm_1082 f15
  replace f17 := shm_1084 f17
  replace f18 := shm_5 f18
  have q13 : n_v vs 13 = n_v vs 2 := f10.symm
  have q14 : n_v vs 14 = n_v vs 3 := f11.symm
  have q7 : n_v vs 7 = n_v vs 1 := f12.symm
  have q6 : n_v vs 6 = n_v vs 0 := f18.symm
  simp only [q13, q14, q6, q7] at f3 f4 f6 f7 f8 f9 f13 f14 f15 f17
  have kz_2_0 := fdq_23 hD hth r2
  have nf0 : fc_1 PRD (20, [6, 14, 11, 22, 4, 5], [60, 0, 4, 869, 2, 4, 7, 1002]) ws (vs) := by
    refine ⟨nf_in hl rfl, sgq_1084 ?_⟩
    · show TQS (w_ei ws (w_ar ws (n_v vs 6) 2)) (w_ei ws (w_ar ws (n_v vs 6) 4)) (w_ei ws (w_ar ws (n_v vs 6) 7)) (w_ei ws (w_ar ws (n_v vs 14) 2)) (v_iv (n_v vs 11)) (v_iv (n_v vs 22)) (v_iv (n_v vs 4)) (v_iv (n_v vs 5))
      simp only [q14, q6]
      exact vc_Pl_placeSideBySide_6_0 (v_iv (n_v vs 1)) (v_iv (n_v vs 4)) (v_iv (n_v vs 5)) (v_iv (n_v vs 7)) (v_iv (n_v vs 8)) (v_iv (n_v vs 9)) (v_iv (n_v vs 10)) (v_iv (n_v vs 11)) (v_iv (n_v vs 12)) (v_iv (n_v vs 17)) (v_iv (n_v vs 19)) (v_iv (n_v vs 22)) (w_ei ws (w_ar ws (n_v vs 0) 4)) (w_ei ws (w_ar ws (n_v vs 3) 2)) (w_fi ws (n_v vs 2) 0) (w_ei ws (w_ar ws (n_v vs 0) 2)) (w_ei ws (w_ar ws (n_v vs 0) 6)) (w_ei ws (w_ar ws (n_v vs 0) 7)) (w_ei ws (w_ar ws (n_v vs 0) 5)) k1 k4 k5 k7 k8 k9 k10 k11 k12 k17 k19 k22 d1 d4 d5 f0 f3 f4 f6 f7 f8 f9 f13 f14 f15 f17 kz_2_0
  refine ⟨(fun _ h => (by cases h)), [], trivial, ?_, (fun _ h => (by cases h))⟩
  rw [List.append_nil]
  exact List.forall_mem_cons.mpr ⟨⟨show (20 : Nat) < 100 from by decide, nf0⟩, (fun _ h => (by cases h))⟩
set_option maxHeartbeats 4000000 in
theorem vc_Pl_placeSideBySide_7_r0 (x1 : Int) (x4 : Int) (x5 : Int) (x7 : Int) (x8 : Int) (x9 : Int) (x10 : Int) (x12 : Int) (x17 : Int) (x19 : Int) (x20 : Int) (x21 : Int) (level_0 : Int → Int) (x_0o3 : Int → Int) (nodes_0o2 : Int) (order_0 : Int → Int) (kids_0 : Int → Int) (parent_0 : Int → Int) (k1 : 0 ≤ x1 ∧ x1 ≤ 24) (k4 : 0 ≤ x4 ∧ x4 ≤ 24) (k5 : 0 ≤ x5 ∧ x5 ≤ 24) (k7 : 2 ≤ x7 ∧ x7 ≤ 24) (k8 : 0 ≤ x8 ∧ x8 ≤ 16777215) (k9 : 1 ≤ x9 ∧ x9 ≤ 23) (k12 : 0 ≤ x12 ∧ x12 ≤ 23) (k17 : (-2147483647) ≤ x17 ∧ x17 ≤ 690000000) (d0 : x7 + (-4294967296) ≤ x1 ∧ x1 ≤ x7 + 0) (d3 : x1 + (-4294967296) ≤ x7 ∧ x7 ≤ x1 + 0) (d4 : x1 + (-4294967296) ≤ x9 ∧ x9 ≤ x1 + (-1)) (f3 : TQE (nodes_0o2) (level_0) (x_0o3) (x8) (x12) (x17)) (f7 : TQC (nodes_0o2) (order_0) (parent_0) (x1) (x4) (x5)) (f12 : TQP (nodes_0o2) (order_0) (kids_0) (x8) (x1) (x4) (x5)) (f13 : TQ1 (nodes_0o2) (order_0) (parent_0) (x_0o3) (x4) (x5) (x9)) (kz_2_0 : 0 ≤ nodes_0o2 ∧ nodes_0o2 ≤ 24) : (-33554432) ≤ x17 ∧ x17 ≤ 33554432 := by
  first
    | omega
    | (have h := tqe_val (j := x9) (l := x12) (r := x17) (pl := x8) ‹TQ1 _ _ _ _ _ _ _› ‹TQC _ _ _ _ _ _› ‹TQP _ _ _ _ _ _ _› (by omega) (by assumption) (by omega); omega)
    | (have h := tqe_val2 (j := x9) (l := x12) (r := x19) (tr := x10) ‹TQ1 _ _ _ _ _ _ _› ‹TQC _ _ _ _ _ _› ‹TQU _ _ _ _ _› ‹TQK _ _ _ _ _ _› (by omega) (by omega) ‹TQT _ _ _ _› (by assumption) (by omega); omega)
    | (have q := bit_one (s := x10) (t := x16) (c := x18) (v := x12) (one := x17) (by assumption) (by assumption) (by omega) (by omega) (by omega) (by omega)
       have h := tqv_val (v := x12) (a := x20) (y := x21) ‹TQV _ _ _ _ _ _ _ _ _ _› ‹TQC _ _ _ _ _ _› ‹TQU _ _ _ _ _› ‹TQK _ _ _ _ _ _› (by omega) ‹TQT _ _ _ _› (by omega) (by omega) (q.mpr (by omega)) (by assumption) (by omega)
       omega)
  
def o_Pl_placeSideBySide_7 : or_T := (94, 23, [(0, (2, 0, 0, [6])), (1, (0, 0, 24, [])), (2, (2, 0, 0, [3])), (3, (2, 0, 0, [0])), (4, (0, 0, 24, [])), (5, (0, 0, 24, [])), (6, (2, 0, 0, [6])), (7, (0, 2, 24, [])), (8, (0, 0, 16777215, [])), (9, (0, 1, 23, [])), (10, (0, 0, 16777215, [])), (11, (0, -1000000, 67108868, [])), (12, (0, 0, 23, [])), (13, (2, 0, 0, [3])), (14, (2, 0, 0, [0])), (15, (0, 24, 24, [])), (17, (0, -2147483647, 690000000, [])), (19, (0, -2147483647, 690000000, [])), (20, (0, -2147483648, -2147483648, [])), (21, (0, -2147483648, -2147483648, []))], [(7, [19, 21], [1]), (7, [17, 20], [1]), (20, [6, 13, 14, 10, 12, 19], [60, 1, 2, 868, 1000, 4, 2002]), (20, [6, 13, 14, 8, 12, 17], [60, 1, 2, 868, 1000, 4, 2002]), (7, [12, 15], [2]), (20, [6, 13, 4, 5], [60, 1, 2, 860, 1000, 2, 6]), (20, [6, 7, 4, 5], [60, 0, 3, 861, 2, 4, 7]), (20, [6, 13, 7, 4, 5], [60, 1, 2, 862, 1000, 2, 5]), (20, [6, 13, 4], [60, 1, 3, 859, 1000, 2, 5, 4]), (24, [2, 13], []), (24, [3, 14], []), (24, [1, 7], []), (20, [6, 13, 8, 7, 4, 5], [60, 1, 2, 863, 1000, 2, 7]), (20, [6, 13, 14, 4, 5, 9], [60, 1, 3, 864, 1000, 2, 5, 2002]), (20, [6, 10, 9], [60, 0, 2, 875, 6, 7]), (20, [9, 7], [50, 0, 0, 2, 6, 0, 2, 0, 1, 1, 0, 0, 6, 4, 2, 1, 0, 0, 1, 1, 1]), (20, [6, 14, 11, 12, 4, 5], [60, 0, 4, 869, 2, 4, 7, 1002]), (24, [0, 6], [])], [(17, (0, -33554432, 33554432, []))], [], [], [], [(1, 7, -4294967296, 0), (4, 1, -4294967296, 22), (5, 1, -4294967296, 22), (7, 1, -4294967296, 0), (9, 1, -4294967296, -1), (9, 7, -4294967296, -1), (11, 12, -4294967296, 67108867)])
theorem oo_Pl_placeSideBySide_7 {kA : Nat → ClassId} : or_ok PRD kA GG o_Pl_placeSideBySide_7 := by
  refine or_mk fun A ta ws vs hD hth hl => ?_
  intro t0 r0 t1 k1 t2 r2 t3 r3 t4 k4 t5 k5 t6 r6 t7 k7 t8 k8 t9 k9 t10 k10 t11 k11 t12 k12 t13 r13 t14 r14 t15 k15 t17 k17 t19 k19 t20 k20 t21 k21 d0 d1 d2 d3 d4 d5 d6 f0 f1 f2 f3 f4 f5 f6 f7 f8 f9 f10 f11 f12 f13 f14 f15 f16 f17
  replace f3 := shm_425 f3
  replace f7 := shm_1076 f7
  replace f9 := shm_5 f9
  replace f10 := shm_5 f10
  replace f11 := shm_5 f11
  replace f12 := shm_1078 f12
  replace f13 := shm_1079 f13
  replace f17 := shm_5 f17
  have q13 : n_v vs 13 = n_v vs 2 := f9.symm
  have q14 : n_v vs 14 = n_v vs 3 := f10.symm
  have q7 : n_v vs 7 = n_v vs 1 := f11.symm
  have q6 : n_v vs 6 = n_v vs 0 := f17.symm
  simp only [q13, q14, q6, q7] at f3 f7 f12 f13
  have kz_2_0 := fdq_23 hD hth r2
  have hrf0 : (-33554432) ≤ v_iv (n_v vs 17) ∧ v_iv (n_v vs 17) ≤ 33554432 := vc_Pl_placeSideBySide_7_r0 (v_iv (n_v vs 1)) (v_iv (n_v vs 4)) (v_iv (n_v vs 5)) (v_iv (n_v vs 7)) (v_iv (n_v vs 8)) (v_iv (n_v vs 9)) (v_iv (n_v vs 10)) (v_iv (n_v vs 12)) (v_iv (n_v vs 17)) (v_iv (n_v vs 19)) (v_iv (n_v vs 20)) (v_iv (n_v vs 21)) (w_ei ws (w_ar ws (n_v vs 0) 4)) (w_ei ws (w_ar ws (n_v vs 3) 2)) (w_fi ws (n_v vs 2) 0) (w_ei ws (w_ar ws (n_v vs 0) 2)) (w_ei ws (w_ar ws (n_v vs 0) 7)) (w_ei ws (w_ar ws (n_v vs 0) 5)) k1 k4 k5 k7 k8 k9 k12 k17 d0 d3 d4 f3 f7 f12 f13 kz_2_0
  have rf17 : tv_ok ta (0, -33554432, 33554432, []) (n_v vs 17) := tv_in t17 (by first | omega | grind) (by first | omega | grind)
  refine ⟨List.forall_mem_cons.mpr ⟨rf17, (fun _ h => (by cases h))⟩, [], trivial, ?_, (fun _ h => (by cases h))⟩
  rw [List.append_nil]
  exact (fun _ h => (by cases h))
set_option maxHeartbeats 4000000 in
theorem vc_Pl_placeSideBySide_8_r0 (x1 : Int) (x4 : Int) (x5 : Int) (x7 : Int) (x8 : Int) (x9 : Int) (x10 : Int) (x12 : Int) (x17 : Int) (x19 : Int) (x20 : Int) (x21 : Int) (level_0 : Int → Int) (x_0o3 : Int → Int) (nodes_0o2 : Int) (order_0 : Int → Int) (under_0 : Int → Int) (kids_0 : Int → Int) (parent_0 : Int → Int) (k1 : 0 ≤ x1 ∧ x1 ≤ 24) (k4 : 0 ≤ x4 ∧ x4 ≤ 24) (k5 : 0 ≤ x5 ∧ x5 ≤ 24) (k7 : 2 ≤ x7 ∧ x7 ≤ 24) (k9 : 1 ≤ x9 ∧ x9 ≤ 23) (k10 : 0 ≤ x10 ∧ x10 ≤ 16777215) (k12 : 0 ≤ x12 ∧ x12 ≤ 23) (k19 : (-2147483647) ≤ x19 ∧ x19 ≤ 690000000) (d1 : x7 + (-4294967296) ≤ x1 ∧ x1 ≤ x7 + 0) (d4 : x1 + (-4294967296) ≤ x7 ∧ x7 ≤ x1 + 0) (d5 : x1 + (-4294967296) ≤ x9 ∧ x9 ≤ x1 + (-1)) (f3 : TQE (nodes_0o2) (level_0) (x_0o3) (x10) (x12) (x19)) (f6 : TQU (nodes_0o2) (order_0) (under_0) (x4) (x5)) (f7 : TQK (order_0) (level_0) (kids_0) (x1) (x4) (x5)) (f8 : TQC (nodes_0o2) (order_0) (parent_0) (x1) (x4) (x5)) (f14 : TQ1 (nodes_0o2) (order_0) (parent_0) (x_0o3) (x4) (x5) (x9)) (f15 : TQT (under_0) (kids_0) (x10) (x9)) (kz_2_0 : 0 ≤ nodes_0o2 ∧ nodes_0o2 ≤ 24) : (-33554432) ≤ x19 ∧ x19 ≤ 33554432 := by
  first
    | omega
    | (have h := tqe_val (j := x9) (l := x12) (r := x17) (pl := x8) ‹TQ1 _ _ _ _ _ _ _› ‹TQC _ _ _ _ _ _› ‹TQP _ _ _ _ _ _ _› (by omega) (by assumption) (by omega); omega)
    | (have h := tqe_val2 (j := x9) (l := x12) (r := x19) (tr := x10) ‹TQ1 _ _ _ _ _ _ _› ‹TQC _ _ _ _ _ _› ‹TQU _ _ _ _ _› ‹TQK _ _ _ _ _ _› (by omega) (by omega) ‹TQT _ _ _ _› (by assumption) (by omega); omega)
    | (have q := bit_one (s := x10) (t := x16) (c := x18) (v := x12) (one := x17) (by assumption) (by assumption) (by omega) (by omega) (by omega) (by omega)
       have h := tqv_val (v := x12) (a := x20) (y := x21) ‹TQV _ _ _ _ _ _ _ _ _ _› ‹TQC _ _ _ _ _ _› ‹TQU _ _ _ _ _› ‹TQK _ _ _ _ _ _› (by omega) ‹TQT _ _ _ _› (by omega) (by omega) (q.mpr (by omega)) (by assumption) (by omega)
       omega)
  
def o_Pl_placeSideBySide_8 : or_T := (97, 24, [(0, (2, 0, 0, [6])), (1, (0, 0, 24, [])), (2, (2, 0, 0, [3])), (3, (2, 0, 0, [0])), (4, (0, 0, 24, [])), (5, (0, 0, 24, [])), (6, (2, 0, 0, [6])), (7, (0, 2, 24, [])), (8, (0, 0, 16777215, [])), (9, (0, 1, 23, [])), (10, (0, 0, 16777215, [])), (11, (0, -1000000, 67108868, [])), (12, (0, 0, 23, [])), (13, (2, 0, 0, [3])), (14, (2, 0, 0, [0])), (15, (0, 24, 24, [])), (17, (0, -33554432, 33554432, [])), (19, (0, -2147483647, 690000000, [])), (20, (0, -2147483648, -2147483648, [])), (21, (0, -2147483648, -2147483648, [])), (22, (0, 4, 4, [])), (23, (0, -33554428, 33554436, []))], [(1, [23, 17, 22], []), (7, [19, 21], [1]), (7, [17, 20], [1]), (20, [6, 13, 14, 10, 12, 19], [60, 1, 2, 868, 1000, 4, 2002]), (20, [6, 13, 14, 8, 12, 17], [60, 1, 2, 868, 1000, 4, 2002]), (7, [12, 15], [2]), (20, [6, 13, 4, 5], [60, 1, 2, 860, 1000, 2, 6]), (20, [6, 7, 4, 5], [60, 0, 3, 861, 2, 4, 7]), (20, [6, 13, 7, 4, 5], [60, 1, 2, 862, 1000, 2, 5]), (20, [6, 13, 4], [60, 1, 3, 859, 1000, 2, 5, 4]), (24, [2, 13], []), (24, [3, 14], []), (24, [1, 7], []), (20, [6, 13, 8, 7, 4, 5], [60, 1, 2, 863, 1000, 2, 7]), (20, [6, 13, 14, 4, 5, 9], [60, 1, 3, 864, 1000, 2, 5, 2002]), (20, [6, 10, 9], [60, 0, 2, 875, 6, 7]), (20, [9, 7], [50, 0, 0, 2, 6, 0, 2, 0, 1, 1, 0, 0, 6, 4, 2, 1, 0, 0, 1, 1, 1]), (20, [6, 14, 11, 12, 4, 5], [60, 0, 4, 869, 2, 4, 7, 1002]), (24, [0, 6], [])], [(19, (0, -33554432, 33554432, []))], [], [], [], [(23, 17, 4, 4), (1, 7, -4294967296, 0), (4, 1, -4294967296, 22), (5, 1, -4294967296, 22), (7, 1, -4294967296, 0), (9, 1, -4294967296, -1), (9, 7, -4294967296, -1), (11, 12, -4294967296, 67108867)])
theorem oo_Pl_placeSideBySide_8 {kA : Nat → ClassId} : or_ok PRD kA GG o_Pl_placeSideBySide_8 := by
  refine or_mk fun A ta ws vs hD hth hl => ?_
  intro t0 r0 t1 k1 t2 r2 t3 r3 t4 k4 t5 k5 t6 r6 t7 k7 t8 k8 t9 k9 t10 k10 t11 k11 t12 k12 t13 r13 t14 r14 t15 k15 t17 k17 t19 k19 t20 k20 t21 k21 t22 k22 t23 k23 d0 d1 d2 d3 d4 d5 d6 d7 f0 f1 f2 f3 f4 f5 f6 f7 f8 f9 f10 f11 f12 f13 f14 f15 f16 f17 f18
  replace f3 := shm_425 f3
  replace f6 := shm_1074 f6
  replace f7 := shm_1075 f7
  replace f8 := shm_1076 f8
  replace f10 := shm_5 f10
  replace f11 := shm_5 f11
  replace f12 := shm_5 f12
  replace f14 := shm_1079 f14
  replace f15 := shm_1082 f15
  replace f18 := shm_5 f18
  have q13 : n_v vs 13 = n_v vs 2 := f10.symm
  have q14 : n_v vs 14 = n_v vs 3 := f11.symm
  have q7 : n_v vs 7 = n_v vs 1 := f12.symm
  have q6 : n_v vs 6 = n_v vs 0 := f18.symm
  simp only [q13, q14, q6, q7] at f3 f6 f7 f8 f14 f15
  have kz_2_0 := fdq_23 hD hth r2
  have hrf0 : (-33554432) ≤ v_iv (n_v vs 19) ∧ v_iv (n_v vs 19) ≤ 33554432 := vc_Pl_placeSideBySide_8_r0 (v_iv (n_v vs 1)) (v_iv (n_v vs 4)) (v_iv (n_v vs 5)) (v_iv (n_v vs 7)) (v_iv (n_v vs 8)) (v_iv (n_v vs 9)) (v_iv (n_v vs 10)) (v_iv (n_v vs 12)) (v_iv (n_v vs 17)) (v_iv (n_v vs 19)) (v_iv (n_v vs 20)) (v_iv (n_v vs 21)) (w_ei ws (w_ar ws (n_v vs 0) 4)) (w_ei ws (w_ar ws (n_v vs 3) 2)) (w_fi ws (n_v vs 2) 0) (w_ei ws (w_ar ws (n_v vs 0) 2)) (w_ei ws (w_ar ws (n_v vs 0) 6)) (w_ei ws (w_ar ws (n_v vs 0) 7)) (w_ei ws (w_ar ws (n_v vs 0) 5)) k1 k4 k5 k7 k9 k10 k12 k19 d1 d4 d5 f3 f6 f7 f8 f14 f15 kz_2_0
  have rf19 : tv_ok ta (0, -33554432, 33554432, []) (n_v vs 19) := tv_in t19 (by first | omega | grind) (by first | omega | grind)
  refine ⟨List.forall_mem_cons.mpr ⟨rf19, (fun _ h => (by cases h))⟩, [], trivial, ?_, (fun _ h => (by cases h))⟩
  rw [List.append_nil]
  exact (fun _ h => (by cases h))
set_option maxHeartbeats 4000000 in
theorem vc_Pl_placeSideBySide_9_0 (x1 : Int) (x4 : Int) (x5 : Int) (x7 : Int) (x8 : Int) (x9 : Int) (x10 : Int) (x11 : Int) (x12 : Int) (x17 : Int) (x19 : Int) (x20 : Int) (x21 : Int) (x23 : Int) (x24 : Int) (x25 : Int) (x26 : Int) (level_0 : Int → Int) (x_0o3 : Int → Int) (nodes_0o2 : Int) (order_0 : Int → Int) (under_0 : Int → Int) (kids_0 : Int → Int) (k1 : 0 ≤ x1 ∧ x1 ≤ 24) (k4 : 0 ≤ x4 ∧ x4 ≤ 24) (k5 : 0 ≤ x5 ∧ x5 ≤ 24) (k7 : 2 ≤ x7 ∧ x7 ≤ 24) (k8 : 0 ≤ x8 ∧ x8 ≤ 16777215) (k9 : 1 ≤ x9 ∧ x9 ≤ 23) (k10 : 0 ≤ x10 ∧ x10 ≤ 16777215) (k11 : (-1000000) ≤ x11 ∧ x11 ≤ 67108868) (k12 : 0 ≤ x12 ∧ x12 ≤ 23) (k17 : (-33554432) ≤ x17 ∧ x17 ≤ 33554432) (k19 : (-33554432) ≤ x19 ∧ x19 ≤ 33554432) (k20 : (-2147483648) ≤ x20 ∧ x20 ≤ (-2147483648)) (k21 : (-2147483648) ≤ x21 ∧ x21 ≤ (-2147483648)) (k23 : (-33554428) ≤ x23 ∧ x23 ≤ 33554436) (k24 : (-67108860) ≤ x24 ∧ x24 ≤ 67108868) (k25 : (-1000000) ≤ x25 ∧ x25 ≤ 67108868) (k26 : 1 ≤ x26 ∧ x26 ≤ 24) (d3 : x17 + 4 ≤ x23 ∧ x23 ≤ x17 + 4) (d4 : x7 + (-4294967296) ≤ x1 ∧ x1 ≤ x7 + 0) (d7 : x1 + (-4294967296) ≤ x7 ∧ x7 ≤ x1 + 0) (d8 : x1 + (-4294967296) ≤ x9 ∧ x9 ≤ x1 + (-1)) (f0 : x26 = x12 + 1) (f1 : 1 * x11 + ((-1) * x25 + 0) ≤ 0) (f2 : 1 * x24 + ((-1) * x25 + 0) ≤ 0) (f3 : (x25 = x11) ∨ (x25 = x24)) (f4 : x24 = x23 - x19) (f6 : x19 ≠ x21) (f7 : x17 ≠ x20) (f8 : TQE (nodes_0o2) (level_0) (x_0o3) (x10) (x12) (x19)) (f9 : TQE (nodes_0o2) (level_0) (x_0o3) (x8) (x12) (x17)) (f11 : TQU (nodes_0o2) (order_0) (under_0) (x4) (x5)) (f12 : TQK (order_0) (level_0) (kids_0) (x1) (x4) (x5)) (f18 : TQP (nodes_0o2) (order_0) (kids_0) (x8) (x1) (x4) (x5)) (f20 : TQT (under_0) (kids_0) (x10) (x9)) (f22 : TQS (order_0) (level_0) (kids_0) (x_0o3) (x11) (x12) (x4) (x5)) (kz_2_0 : 0 ≤ nodes_0o2 ∧ nodes_0o2 ≤ 24) : TQS (order_0) (level_0) (kids_0) (x_0o3) (x25) (x26) (x4) (x5) := by
  first
    | exact tqs_start (by omega) (by omega) ‹TQK _ _ _ _ _ _› (by omega)
    | exact tqs_skip (j := x9) (r := x17) (e := x19) (pl := x8) (tr := x10) ‹TQS _ _ _ _ _ _ _ _› ‹TQ1 _ _ _ _ _ _ _› ‹TQC _ _ _ _ _ _› ‹TQP _ _ _ _ _ _ _› ‹TQU _ _ _ _ _› ‹TQK _ _ _ _ _ _› ‹TQD _ _ _ _ _› (by omega) (by omega) (by omega) ‹TQT _ _ _ _› (by assumption) (by assumption) (by omega) (by omega)
    | exact tqs_step (pr := fun z => z) (j := x9) (r := x17) (e := x19) (f := x24) (pl := x8) (tr := x10) ‹TQS _ _ _ _ _ _ _ _› ‹TQP _ _ _ _ _ _ _› ‹TQU _ _ _ _ _› ‹TQK _ _ _ _ _ _› (by omega) (by omega) ‹TQT _ _ _ _› (by assumption) (by assumption) (by omega) (by omega) (by omega) (by omega) (by omega) rfl
  
def o_Pl_placeSideBySide_9 : or_T := (47, 27, [(1, (0, 0, 24, [])), (2, (2, 0, 0, [3])), (4, (0, 0, 24, [])), (5, (0, 0, 24, [])), (7, (0, 2, 24, [])), (8, (0, 0, 16777215, [])), (9, (0, 1, 23, [])), (10, (0, 0, 16777215, [])), (11, (0, -1000000, 67108868, [])), (12, (0, 0, 23, [])), (17, (0, -33554432, 33554432, [])), (19, (0, -33554432, 33554432, [])), (20, (0, -2147483648, -2147483648, [])), (21, (0, -2147483648, -2147483648, [])), (23, (0, -33554428, 33554436, [])), (24, (0, -67108860, 67108868, [])), (25, (0, -1000000, 67108868, [])), (26, (0, 1, 24, []))], [(6, [26, 12], [1]), (23, [11, 25], [0, 1, -1]), (23, [24, 25], [0, 1, -1]), (20, [25, 11, 24], [50, 0, 0, 3, 6, 1, 2, 1, 0, 1, 1, 1, 2, 1, 0, 1, 2]), (2, [24, 23, 19], []), (7, [19, 21], [1]), (7, [17, 20], [1]), (20, [6, 13, 14, 10, 12, 19], [60, 1, 2, 868, 1000, 4, 2002]), (20, [6, 13, 14, 8, 12, 17], [60, 1, 2, 868, 1000, 4, 2002]), (20, [6, 13, 4, 5], [60, 1, 2, 860, 1000, 2, 6]), (20, [6, 7, 4, 5], [60, 0, 3, 861, 2, 4, 7]), (24, [2, 13], []), (24, [3, 14], []), (24, [1, 7], []), (20, [6, 13, 8, 7, 4, 5], [60, 1, 2, 863, 1000, 2, 7]), (20, [6, 10, 9], [60, 0, 2, 875, 6, 7]), (20, [6, 14, 11, 12, 4, 5], [60, 0, 4, 869, 2, 4, 7, 1002]), (24, [0, 6], [])], [], [], [(20, [6, 14, 25, 26, 4, 5], [60, 0, 4, 869, 2, 4, 7, 1002])], [], [(23, 17, 4, 4), (1, 7, -4294967296, 0), (7, 1, -4294967296, 0), (9, 1, -4294967296, -1)])
theorem oo_Pl_placeSideBySide_9 {kA : Nat → ClassId} : or_ok PRD kA GG o_Pl_placeSideBySide_9 := by
  refine or_mk fun A ta ws vs hD hth hl => ?_
  intro t1 k1 t2 r2 t4 k4 t5 k5 t7 k7 t8 k8 t9 k9 t10 k10 t11 k11 t12 k12 t17 k17 t19 k19 t20 k20 t21 k21 t23 k23 t24 k24 t25 k25 t26 k26 d3 d4 d7 d8 f0 f1 f2 f3 f4 f6 f7 f8 f9 f11 f12 f15 f16 f17 f18 f20 f22 f23
  replace f0 := shm_4 f0
  replace f1 := shm_7 f1
  replace f2 := shm_7 f2
  replace f3 := shm_870 f3
  replace f4 := shm_14 f4
  replace f6 := shm_40 f6
  replace f7 := shm_40 f7
  replace f8 := shm_425 f8
  replace f9 := shm_425 f9
  replace f11 := shm_1074 f11
  replace f12 := shm_1075 f12
  replace f15 := shm_5 f15
  replace f16 := shm_5 f16
  replace f17 := shm_5 f17
  replace f18 := shm_1078 f18
  replace f20 := shm_1082 f20
  replace f22 := shm_1084 f22
  replace f23 := shm_5 f23
  have q13 : n_v vs 13 = n_v vs 2 := f15.symm
  have q14 : n_v vs 14 = n_v vs 3 := f16.symm
  have q7 : n_v vs 7 = n_v vs 1 := f17.symm
  have q6 : n_v vs 6 = n_v vs 0 := f23.symm
  simp only [q13, q14, q6, q7] at f8 f9 f11 f12 f18 f20 f22
  have kz_2_0 := fdq_23 hD hth r2
  have nf0 : fc_1 PRD (20, [6, 14, 25, 26, 4, 5], [60, 0, 4, 869, 2, 4, 7, 1002]) ws (vs) := by
    refine ⟨nf_in hl rfl, sgq_1084 ?_⟩
    · show TQS (w_ei ws (w_ar ws (n_v vs 6) 2)) (w_ei ws (w_ar ws (n_v vs 6) 4)) (w_ei ws (w_ar ws (n_v vs 6) 7)) (w_ei ws (w_ar ws (n_v vs 14) 2)) (v_iv (n_v vs 25)) (v_iv (n_v vs 26)) (v_iv (n_v vs 4)) (v_iv (n_v vs 5))
      simp only [q14, q6]
      exact vc_Pl_placeSideBySide_9_0 (v_iv (n_v vs 1)) (v_iv (n_v vs 4)) (v_iv (n_v vs 5)) (v_iv (n_v vs 7)) (v_iv (n_v vs 8)) (v_iv (n_v vs 9)) (v_iv (n_v vs 10)) (v_iv (n_v vs 11)) (v_iv (n_v vs 12)) (v_iv (n_v vs 17)) (v_iv (n_v vs 19)) (v_iv (n_v vs 20)) (v_iv (n_v vs 21)) (v_iv (n_v vs 23)) (v_iv (n_v vs 24)) (v_iv (n_v vs 25)) (v_iv (n_v vs 26)) (w_ei ws (w_ar ws (n_v vs 0) 4)) (w_ei ws (w_ar ws (n_v vs 3) 2)) (w_fi ws (n_v vs 2) 0) (w_ei ws (w_ar ws (n_v vs 0) 2)) (w_ei ws (w_ar ws (n_v vs 0) 6)) (w_ei ws (w_ar ws (n_v vs 0) 7)) k1 k4 k5 k7 k8 k9 k10 k11 k12 k17 k19 k20 k21 k23 k24 k25 k26 d3 d4 d7 d8 f0 f1 f2 f3 f4 f6 f7 f8 f9 f11 f12 f18 f20 f22 kz_2_0
  refine ⟨(fun _ h => (by cases h)), [], trivial, ?_, (fun _ h => (by cases h))⟩
  rw [List.append_nil]
  exact List.forall_mem_cons.mpr ⟨⟨show (20 : Nat) < 100 from by decide, nf0⟩, (fun _ h => (by cases h))⟩
set_option maxHeartbeats 4000000 in
theorem vc_Pl_placeSideBySide_10_0 (x1 : Int) (x4 : Int) (x5 : Int) (x7 : Int) (x8 : Int) (x9 : Int) (x10 : Int) (x16 : Int) (x17 : Int) (nodes_0o2 : Int) (order_0 : Int → Int) (under_0 : Int → Int) (level_0 : Int → Int) (kids_0 : Int → Int) (k1 : 0 ≤ x1 ∧ x1 ≤ 24) (k4 : 0 ≤ x4 ∧ x4 ≤ 24) (k5 : 0 ≤ x5 ∧ x5 ≤ 24) (k7 : 2 ≤ x7 ∧ x7 ≤ 24) (k8 : 0 ≤ x8 ∧ x8 ≤ 16777215) (k9 : 1 ≤ x9 ∧ x9 ≤ 23) (k10 : 0 ≤ x10 ∧ x10 ≤ 16777215) (k16 : 0 ≤ x16 ∧ x16 ≤ 16777215) (k17 : 2 ≤ x17 ∧ x17 ≤ 24) (d0 : x9 + 1 ≤ x17 ∧ x17 ≤ x9 + 1) (d1 : x1 + (-4294967296) ≤ x17 ∧ x17 ≤ x1 + 0) (d4 : x7 + (-4294967296) ≤ x1 ∧ x1 ≤ x7 + 0) (d7 : x1 + (-4294967296) ≤ x7 ∧ x7 ≤ x1 + 0) (d8 : x1 + (-4294967296) ≤ x9 ∧ x9 ≤ x1 + (-1)) (f2 : bvp (x16) = bvp (x8) ||| bvp (x10)) (f5 : TQU (nodes_0o2) (order_0) (under_0) (x4) (x5)) (f6 : TQK (order_0) (level_0) (kids_0) (x1) (x4) (x5)) (f12 : TQP (nodes_0o2) (order_0) (kids_0) (x8) (x1) (x4) (x5)) (f13 : TQT (under_0) (kids_0) (x10) (x9)) (kz_2_0 : 0 ≤ nodes_0o2 ∧ nodes_0o2 ≤ 24) : TQP (nodes_0o2) (order_0) (kids_0) (x16) (x1) (x4) (x5) := by
  first
    | assumption
    | exact tqp_0 (by omega) (by omega)
    | exact tqp_start ‹TQU _ _ _ _ _› ‹TQK _ _ _ _ _ _› (by omega) (by rw [show (0 : Int) = x8 by omega, ← ‹x9 = kids_0 x8›]; assumption)
    | exact tqp_step (j := x9) (tr := x10) ‹TQP _ _ _ _ _ _ _› ‹TQU _ _ _ _ _› ‹TQK _ _ _ _ _ _› (by omega) (by omega) ‹TQT _ _ _ _› (by assumption)
  
set_option maxHeartbeats 4000000 in
theorem vc_Pl_placeSideBySide_10_1 (x4 : Int) (x5 : Int) (x9 : Int) (x10 : Int) (x11 : Int) (x12 : Int) (x17 : Int) (nodes_0o2 : Int) (order_0 : Int → Int) (level_0 : Int → Int) (parent_0 : Int → Int) (x_0o3 : Int → Int) (k4 : 0 ≤ x4 ∧ x4 ≤ 24) (k5 : 0 ≤ x5 ∧ x5 ≤ 24) (k9 : 1 ≤ x9 ∧ x9 ≤ 23) (k10 : 0 ≤ x10 ∧ x10 ≤ 16777215) (k11 : (-1000000) ≤ x11 ∧ x11 ≤ 67108868) (k12 : 0 ≤ x12 ∧ x12 ≤ 24) (k17 : 2 ≤ x17 ∧ x17 ≤ 24) (f0 : x17 = x9 + 1) (f8 : TQD (nodes_0o2) (order_0) (parent_0) (level_0) (x4)) (f15 : TQV (nodes_0o2) (order_0) (parent_0) (x_0o3) (x11) (x10) (x4) (x5) (x9) (x12)) (kz_2_0 : 0 ≤ nodes_0o2 ∧ nodes_0o2 ≤ 24) : TQ1 (nodes_0o2) (order_0) (parent_0) (x_0o3) (x4) (x5) (x17) := by
  first
    | assumption
    | exact tq1_start ‹TQ0 _ _ _ _ _ _› (by omega)
    | exact tqv_end ‹TQV _ _ _ _ _ _ _ _ _ _› (tqd_lo ‹TQD _ _ _ _ _› (by omega)) (by omega)
  
set_option maxHeartbeats 4000000 in
theorem vc_Pl_placeSideBySide_10_2 (x1 : Int) (x7 : Int) (x8 : Int) (x9 : Int) (x10 : Int) (x12 : Int) (x16 : Int) (x17 : Int) (k1 : 0 ≤ x1 ∧ x1 ≤ 24) (k7 : 2 ≤ x7 ∧ x7 ≤ 24) (k9 : 1 ≤ x9 ∧ x9 ≤ 23) (k17 : 2 ≤ x17 ∧ x17 ≤ 24) (d0 : x9 + 1 ≤ x17 ∧ x17 ≤ x9 + 1) (d1 : x1 + (-4294967296) ≤ x17 ∧ x17 ≤ x1 + 0) (d4 : x7 + (-4294967296) ≤ x1 ∧ x1 ≤ x7 + 0) (d7 : x1 + (-4294967296) ≤ x7 ∧ x7 ≤ x1 + 0) (d8 : x1 + (-4294967296) ≤ x9 ∧ x9 ≤ x1 + (-1)) : (x17 ≤ x1) ∨ (x17 ≤ 1) := by
  first
    | omega
    | (have h := tqe_val (j := x9) (l := x12) (r := x17) (pl := x8) ‹TQ1 _ _ _ _ _ _ _› ‹TQC _ _ _ _ _ _› ‹TQP _ _ _ _ _ _ _› (by omega) (by assumption) (by omega); omega)
    | (have h := tqe_val2 (j := x9) (l := x12) (r := x19) (tr := x10) ‹TQ1 _ _ _ _ _ _ _› ‹TQC _ _ _ _ _ _› ‹TQU _ _ _ _ _› ‹TQK _ _ _ _ _ _› (by omega) (by omega) ‹TQT _ _ _ _› (by assumption) (by omega); omega)
    | (have q := bit_one (s := x10) (t := x16) (c := x18) (v := x12) (one := x17) (by assumption) (by assumption) (by omega) (by omega) (by omega) (by omega)
       have h := tqv_val (v := x12) (a := x20) (y := x21) ‹TQV _ _ _ _ _ _ _ _ _ _› ‹TQC _ _ _ _ _ _› ‹TQU _ _ _ _ _› ‹TQK _ _ _ _ _ _› (by omega) ‹TQT _ _ _ _› (by omega) (by omega) (q.mpr (by omega)) (by assumption) (by omega)
       omega)
  
def o_Pl_placeSideBySide_10 : or_T := (22, 18, [(1, (0, 0, 24, [])), (2, (2, 0, 0, [3])), (4, (0, 0, 24, [])), (5, (0, 0, 24, [])), (7, (0, 2, 24, [])), (8, (0, 0, 16777215, [])), (9, (0, 1, 23, [])), (10, (0, 0, 16777215, [])), (11, (0, -1000000, 67108868, [])), (12, (0, 0, 24, [])), (16, (0, 0, 16777215, [])), (17, (0, 2, 24, []))], [(6, [17, 9], [1]), (16, [16, 8, 10], [1]), (20, [6, 13, 4, 5], [60, 1, 2, 860, 1000, 2, 6]), (20, [6, 7, 4, 5], [60, 0, 3, 861, 2, 4, 7]), (20, [6, 13, 4], [60, 1, 3, 859, 1000, 2, 5, 4]), (24, [2, 13], []), (24, [3, 14], []), (24, [1, 7], []), (20, [6, 13, 8, 7, 4, 5], [60, 1, 2, 863, 1000, 2, 7]), (20, [6, 10, 9], [60, 0, 2, 875, 6, 7]), (20, [6, 13, 14, 11, 10, 4, 5, 9, 12], [60, 1, 3, 870, 1000, 2, 5, 2002]), (24, [0, 6], [])], [], [], [(20, [6, 13, 16, 7, 4, 5], [60, 1, 2, 863, 1000, 2, 7]), (20, [6, 13, 14, 4, 5, 17], [60, 1, 3, 864, 1000, 2, 5, 2002]), (20, [17, 7], [50, 0, 0, 3, 6, 0, 2, 1, 0, 1, 1, 0, 2, 1, 0, 0, 1])], [], [(17, 9, 1, 1), (17, 1, -4294967296, 0), (1, 7, -4294967296, 0), (7, 1, -4294967296, 0), (9, 1, -4294967296, -1)])
theorem oo_Pl_placeSideBySide_10 {kA : Nat → ClassId} : or_ok PRD kA GG o_Pl_placeSideBySide_10 := by
  refine or_mk fun A ta ws vs hD hth hl => ?_
  intro t1 k1 t2 r2 t4 k4 t5 k5 t7 k7 t8 k8 t9 k9 t10 k10 t11 k11 t12 k12 t16 k16 t17 k17 d0 d1 d4 d7 d8 f0 f2 f5 f6 f8 f9 f10 f11 f12 f13 f15 f16
  replace f0 := shm_4 f0
  replace f2 := shm_372 f2
  replace f5 := shm_1074 f5
  replace f6 := shm_1075 f6
  replace f8 := shm_1077 f8
  replace f9 := shm_5 f9
  replace f10 := shm_5 f10
  replace f11 := shm_5 f11
  replace f12 := shm_1078 f12
  replace f13 := shm_1082 f13
  replace f15 := shm_1085 f15
  replace f16 := shm_5 f16
  have q13 : n_v vs 13 = n_v vs 2 := f9.symm
  have q14 : n_v vs 14 = n_v vs 3 := f10.symm
  have q7 : n_v vs 7 = n_v vs 1 := f11.symm
  have q6 : n_v vs 6 = n_v vs 0 := f16.symm
  simp only [q13, q6, q7, q14] at f5 f6 f8 f12 f13 f15
  have kz_2_0 := fdq_23 hD hth r2
  have nf0 : fc_1 PRD (20, [6, 13, 16, 7, 4, 5], [60, 1, 2, 863, 1000, 2, 7]) ws (vs) := by
    refine ⟨nf_in hl rfl, sgq_1078 ?_⟩
    · show TQP (w_fi ws (n_v vs 13) 0) (w_ei ws (w_ar ws (n_v vs 6) 2)) (w_ei ws (w_ar ws (n_v vs 6) 7)) (v_iv (n_v vs 16)) (v_iv (n_v vs 7)) (v_iv (n_v vs 4)) (v_iv (n_v vs 5))
      simp only [q13, q7, q6]
      exact vc_Pl_placeSideBySide_10_0 (v_iv (n_v vs 1)) (v_iv (n_v vs 4)) (v_iv (n_v vs 5)) (v_iv (n_v vs 7)) (v_iv (n_v vs 8)) (v_iv (n_v vs 9)) (v_iv (n_v vs 10)) (v_iv (n_v vs 16)) (v_iv (n_v vs 17)) (w_fi ws (n_v vs 2) 0) (w_ei ws (w_ar ws (n_v vs 0) 2)) (w_ei ws (w_ar ws (n_v vs 0) 6)) (w_ei ws (w_ar ws (n_v vs 0) 4)) (w_ei ws (w_ar ws (n_v vs 0) 7)) k1 k4 k5 k7 k8 k9 k10 k16 k17 d0 d1 d4 d7 d8 f2 f5 f6 f12 f13 kz_2_0
  have nf1 : fc_1 PRD (20, [6, 13, 14, 4, 5, 17], [60, 1, 3, 864, 1000, 2, 5, 2002]) ws (vs) := by
    refine ⟨nf_in hl rfl, sgq_1079 ?_⟩
    · show TQ1 (w_fi ws (n_v vs 13) 0) (w_ei ws (w_ar ws (n_v vs 6) 2)) (w_ei ws (w_ar ws (n_v vs 6) 5)) (w_ei ws (w_ar ws (n_v vs 14) 2)) (v_iv (n_v vs 4)) (v_iv (n_v vs 5)) (v_iv (n_v vs 17))
      simp only [q13, q14, q6]
      exact vc_Pl_placeSideBySide_10_1 (v_iv (n_v vs 4)) (v_iv (n_v vs 5)) (v_iv (n_v vs 9)) (v_iv (n_v vs 10)) (v_iv (n_v vs 11)) (v_iv (n_v vs 12)) (v_iv (n_v vs 17)) (w_fi ws (n_v vs 2) 0) (w_ei ws (w_ar ws (n_v vs 0) 2)) (w_ei ws (w_ar ws (n_v vs 0) 4)) (w_ei ws (w_ar ws (n_v vs 0) 5)) (w_ei ws (w_ar ws (n_v vs 3) 2)) k4 k5 k9 k10 k11 k12 k17 f0 f8 f15 kz_2_0
  have nf2 : fc_1 PRD (20, [17, 7], [50, 0, 0, 3, 6, 0, 2, 1, 0, 1, 1, 0, 2, 1, 0, 0, 1]) ws (vs) := by
    refine ⟨nf_in hl rfl, sgq_1080 ?_⟩
    · show (v_iv (n_v vs 17) ≤ v_iv (n_v vs 7)) ∨ (v_iv (n_v vs 17) ≤ 1)
      rw [q7]
      exact vc_Pl_placeSideBySide_10_2 (v_iv (n_v vs 1)) (v_iv (n_v vs 7)) (v_iv (n_v vs 8)) (v_iv (n_v vs 9)) (v_iv (n_v vs 10)) (v_iv (n_v vs 12)) (v_iv (n_v vs 16)) (v_iv (n_v vs 17)) k1 k7 k9 k17 d0 d1 d4 d7 d8
  refine ⟨(fun _ h => (by cases h)), [], trivial, ?_, (fun _ h => (by cases h))⟩
  rw [List.append_nil]
  exact List.forall_mem_cons.mpr ⟨⟨show (20 : Nat) < 100 from by decide, nf0⟩, List.forall_mem_cons.mpr ⟨⟨show (20 : Nat) < 100 from by decide, nf1⟩, List.forall_mem_cons.mpr ⟨⟨show (20 : Nat) < 100 from by decide, nf2⟩, (fun _ h => (by cases h))⟩⟩⟩
set_option maxHeartbeats 4000000 in
theorem vc_Pl_placeSideBySide_11_0 (x4 : Int) (x5 : Int) (x9 : Int) (x10 : Int) (x11 : Int) (x12 : Int) (x16 : Int) (x17 : Int) (x18 : Int) (x19 : Int) (nodes_0o2 : Int) (order_0 : Int → Int) (parent_0 : Int → Int) (x_0o3 : Int → Int) (k4 : 0 ≤ x4 ∧ x4 ≤ 24) (k5 : 0 ≤ x5 ∧ x5 ≤ 24) (k9 : 1 ≤ x9 ∧ x9 ≤ 23) (k10 : 0 ≤ x10 ∧ x10 ≤ 16777215) (k11 : (-1000000) ≤ x11 ∧ x11 ≤ 67108868) (k12 : 0 ≤ x12 ∧ x12 ≤ 23) (k16 : 0 ≤ x16 ∧ x16 ≤ 16777215) (k17 : 1 ≤ x17 ∧ x17 ≤ 1) (k18 : 0 ≤ x18 ∧ x18 ≤ 0) (k19 : 1 ≤ x19 ∧ x19 ≤ 24) (d0 : x12 + 1 ≤ x19 ∧ x19 ≤ x12 + 1) (f0 : x19 = x12 + 1) (f3 : bvp (x18) = bvp (x16) &&& bvp (x17)) (f4 : bvp (x16) = bvp (x10) >>> (x12).toNat) (f17 : TQV (nodes_0o2) (order_0) (parent_0) (x_0o3) (x11) (x10) (x4) (x5) (x9) (x12)) (kz_2_0 : 0 ≤ nodes_0o2 ∧ nodes_0o2 ≤ 24) : TQV (nodes_0o2) (order_0) (parent_0) (x_0o3) (x11) (x10) (x4) (x5) (x9) (x19) := by
  first
    | assumption
    | exact tqv_start ‹TQ1 _ _ _ _ _ _ _› ‹TQS _ _ _ _ _ _ _ _› ‹TQK _ _ _ _ _ _› (by omega) (by omega) (by omega)
    | (have q := bit_one (s := x10) (t := x16) (c := x18) (v := x12) (one := x17) (by assumption) (by assumption) (by omega) (by omega) (by omega) (by omega)
       first
         | exact tqv_skip ‹TQV _ _ _ _ _ _ _ _ _ _› (fun z => by have := q.mp z; omega) (by omega)
         | exact tqv_step (v := x12) (a := x20) ‹TQV _ _ _ _ _ _ _ _ _ _› (by omega) (q.mpr (by omega)) (by assumption) (by omega) (by assumption) rfl (by omega))
  
def o_Pl_placeSideBySide_11 : or_T := (112, 20, [(2, (2, 0, 0, [3])), (4, (0, 0, 24, [])), (5, (0, 0, 24, [])), (9, (0, 1, 23, [])), (10, (0, 0, 16777215, [])), (11, (0, -1000000, 67108868, [])), (12, (0, 0, 23, [])), (16, (0, 0, 16777215, [])), (17, (0, 1, 1, [])), (18, (0, 0, 0, [])), (19, (0, 1, 24, []))], [(6, [19, 12], [1]), (16, [18, 16, 17], [0]), (16, [16, 10, 12], [4]), (24, [2, 13], []), (24, [3, 14], []), (20, [6, 13, 14, 11, 10, 4, 5, 9, 12], [60, 1, 3, 870, 1000, 2, 5, 2002]), (24, [0, 6], [])], [], [], [(20, [6, 13, 14, 11, 10, 4, 5, 9, 19], [60, 1, 3, 870, 1000, 2, 5, 2002])], [], [(19, 12, 1, 1)])
theorem oo_Pl_placeSideBySide_11 {kA : Nat → ClassId} : or_ok PRD kA GG o_Pl_placeSideBySide_11 := by
  refine or_mk fun A ta ws vs hD hth hl => ?_
  intro t2 r2 t4 k4 t5 k5 t9 k9 t10 k10 t11 k11 t12 k12 t16 k16 t17 k17 t18 k18 t19 k19 d0 f0 f3 f4 f11 f12 f17 f18
  replace f0 := shm_4 f0
  replace f3 := shm_11 f3
  replace f4 := shm_13 f4
  replace f11 := shm_5 f11
  replace f12 := shm_5 f12
  replace f17 := shm_1085 f17
  replace f18 := shm_5 f18
  have q13 : n_v vs 13 = n_v vs 2 := f11.symm
  have q14 : n_v vs 14 = n_v vs 3 := f12.symm
  have q6 : n_v vs 6 = n_v vs 0 := f18.symm
  simp only [q13, q6, q14] at f17
  have kz_2_0 := fdq_23 hD hth r2
  have nf0 : fc_1 PRD (20, [6, 13, 14, 11, 10, 4, 5, 9, 19], [60, 1, 3, 870, 1000, 2, 5, 2002]) ws (vs) := by
    refine ⟨nf_in hl rfl, sgq_1085 ?_⟩
    · show TQV (w_fi ws (n_v vs 13) 0) (w_ei ws (w_ar ws (n_v vs 6) 2)) (w_ei ws (w_ar ws (n_v vs 6) 5)) (w_ei ws (w_ar ws (n_v vs 14) 2)) (v_iv (n_v vs 11)) (v_iv (n_v vs 10)) (v_iv (n_v vs 4)) (v_iv (n_v vs 5)) (v_iv (n_v vs 9)) (v_iv (n_v vs 19))
      simp only [q13, q14, q6]
      exact vc_Pl_placeSideBySide_11_0 (v_iv (n_v vs 4)) (v_iv (n_v vs 5)) (v_iv (n_v vs 9)) (v_iv (n_v vs 10)) (v_iv (n_v vs 11)) (v_iv (n_v vs 12)) (v_iv (n_v vs 16)) (v_iv (n_v vs 17)) (v_iv (n_v vs 18)) (v_iv (n_v vs 19)) (w_fi ws (n_v vs 2) 0) (w_ei ws (w_ar ws (n_v vs 0) 2)) (w_ei ws (w_ar ws (n_v vs 0) 5)) (w_ei ws (w_ar ws (n_v vs 3) 2)) k4 k5 k9 k10 k11 k12 k16 k17 k18 k19 d0 f0 f3 f4 f17 kz_2_0
  refine ⟨(fun _ h => (by cases h)), [], trivial, ?_, (fun _ h => (by cases h))⟩
  rw [List.append_nil]
  exact List.forall_mem_cons.mpr ⟨⟨show (20 : Nat) < 100 from by decide, nf0⟩, (fun _ h => (by cases h))⟩
set_option maxHeartbeats 4000000 in
theorem vc_Pl_placeSideBySide_12_r0 (x1 : Int) (x4 : Int) (x5 : Int) (x7 : Int) (x8 : Int) (x9 : Int) (x10 : Int) (x11 : Int) (x12 : Int) (x15 : Int) (x16 : Int) (x17 : Int) (x18 : Int) (x20 : Int) (x21 : Int) (x_0o3 : Int → Int) (nodes_0o2 : Int) (order_0 : Int → Int) (under_0 : Int → Int) (level_0 : Int → Int) (kids_0 : Int → Int) (parent_0 : Int → Int) (k1 : 0 ≤ x1 ∧ x1 ≤ 24) (k4 : 0 ≤ x4 ∧ x4 ≤ 24) (k5 : 0 ≤ x5 ∧ x5 ≤ 24) (k7 : 2 ≤ x7 ∧ x7 ≤ 24) (k9 : 1 ≤ x9 ∧ x9 ≤ 23) (k10 : 0 ≤ x10 ∧ x10 ≤ 16777215) (k11 : (-1000000) ≤ x11 ∧ x11 ≤ 67108868) (k12 : 0 ≤ x12 ∧ x12 ≤ 23) (k15 : 1 ≤ x15 ∧ x15 ≤ 24) (k16 : 0 ≤ x16 ∧ x16 ≤ 16777215) (k17 : 1 ≤ x17 ∧ x17 ≤ 1) (k18 : 1 ≤ x18 ∧ x18 ≤ 1) (k20 : (-40000000) ≤ x20 ∧ x20 ≤ 690000000) (k21 : (-41000000) ≤ x21 ∧ x21 ≤ 757108868) (d2 : x15 + (-4294967296) ≤ x12 ∧ x12 ≤ x15 + (-1)) (d3 : x7 + (-4294967296) ≤ x1 ∧ x1 ≤ x7 + 0) (d6 : x1 + (-4294967296) ≤ x7 ∧ x7 ≤ x1 + 0) (d7 : x1 + (-4294967296) ≤ x9 ∧ x9 ≤ x1 + (-1)) (f0 : x21 = x20 + x11) (h1 : x20 = x_0o3 (x12)) (f5 : bvp (x18) = bvp (x16) &&& bvp (x17)) (f6 : bvp (x16) = bvp (x10) >>> (x12).toNat) (g8 : x15 = nodes_0o2) (f9 : TQU (nodes_0o2) (order_0) (under_0) (x4) (x5)) (f10 : TQK (order_0) (level_0) (kids_0) (x1) (x4) (x5)) (f11 : TQC (nodes_0o2) (order_0) (parent_0) (x1) (x4) (x5)) (f17 : TQT (under_0) (kids_0) (x10) (x9)) (f19 : TQV (nodes_0o2) (order_0) (parent_0) (x_0o3) (x11) (x10) (x4) (x5) (x9) (x12)) (kz_2_0 : 0 ≤ nodes_0o2 ∧ nodes_0o2 ≤ 24) : (-33554432) ≤ x21 ∧ x21 ≤ 33554432 := by
  first
    | omega
    | (have h := tqe_val (j := x9) (l := x12) (r := x17) (pl := x8) ‹TQ1 _ _ _ _ _ _ _› ‹TQC _ _ _ _ _ _› ‹TQP _ _ _ _ _ _ _› (by omega) (by assumption) (by omega); omega)
    | (have h := tqe_val2 (j := x9) (l := x12) (r := x19) (tr := x10) ‹TQ1 _ _ _ _ _ _ _› ‹TQC _ _ _ _ _ _› ‹TQU _ _ _ _ _› ‹TQK _ _ _ _ _ _› (by omega) (by omega) ‹TQT _ _ _ _› (by assumption) (by omega); omega)
    | (have q := bit_one (s := x10) (t := x16) (c := x18) (v := x12) (one := x17) (by assumption) (by assumption) (by omega) (by omega) (by omega) (by omega)
       have h := tqv_val (v := x12) (a := x20) (y := x21) ‹TQV _ _ _ _ _ _ _ _ _ _› ‹TQC _ _ _ _ _ _› ‹TQU _ _ _ _ _› ‹TQK _ _ _ _ _ _› (by omega) ‹TQT _ _ _ _› (by omega) (by omega) (q.mpr (by omega)) (by assumption) (by omega)
       omega)
  
def o_Pl_placeSideBySide_12 : or_T := (148, 22, [(0, (2, 0, 0, [6])), (1, (0, 0, 24, [])), (2, (2, 0, 0, [3])), (3, (2, 0, 0, [0])), (4, (0, 0, 24, [])), (5, (0, 0, 24, [])), (6, (2, 0, 0, [6])), (7, (0, 2, 24, [])), (8, (0, 0, 16777215, [])), (9, (0, 1, 23, [])), (10, (0, 0, 16777215, [])), (11, (0, -1000000, 67108868, [])), (12, (0, 0, 23, [])), (13, (2, 0, 0, [3])), (14, (2, 0, 0, [0])), (15, (0, 1, 24, [])), (16, (0, 0, 16777215, [])), (17, (0, 1, 1, [])), (18, (0, 1, 1, [])), (19, (2, 0, 0, [14])), (20, (0, -40000000, 690000000, [])), (21, (0, -41000000, 757108868, []))], [(1, [21, 20, 11], []), (10, [20, 19, 12], []), (9, [19, 14], [2]), (8, [18], [1]), (12, [18, 16], [2]), (16, [18, 16, 17], [0]), (16, [16, 10, 12], [4]), (7, [12, 15], [2]), (9, [15, 13], [0]), (20, [6, 13, 4, 5], [60, 1, 2, 860, 1000, 2, 6]), (20, [6, 7, 4, 5], [60, 0, 3, 861, 2, 4, 7]), (20, [6, 13, 7, 4, 5], [60, 1, 2, 862, 1000, 2, 5]), (20, [6, 13, 4], [60, 1, 3, 859, 1000, 2, 5, 4]), (24, [2, 13], []), (24, [3, 14], []), (24, [1, 7], []), (20, [6, 13, 8, 7, 4, 5], [60, 1, 2, 863, 1000, 2, 7]), (20, [6, 10, 9], [60, 0, 2, 875, 6, 7]), (20, [9, 7], [50, 0, 0, 2, 6, 0, 2, 0, 1, 1, 0, 0, 6, 4, 2, 1, 0, 0, 1, 1, 1]), (20, [6, 13, 14, 11, 10, 4, 5, 9, 12], [60, 1, 3, 870, 1000, 2, 5, 2002]), (24, [0, 6], [])], [(21, (0, -33554432, 33554432, []))], [], [], [], [(21, 11, -40000000, 690000000), (21, 20, -1000000, 67108868), (12, 15, -4294967296, -1), (1, 7, -4294967296, 0), (4, 1, -4294967296, 22), (5, 1, -4294967296, 22), (7, 1, -4294967296, 0), (9, 1, -4294967296, -1), (9, 7, -4294967296, -1)])
theorem oo_Pl_placeSideBySide_12 {kA : Nat → ClassId} : or_ok PRD kA GG o_Pl_placeSideBySide_12 := by
  refine or_mk fun A ta ws vs hD hth hl => ?_
  intro t0 r0 t1 k1 t2 r2 t3 r3 t4 k4 t5 k5 t6 r6 t7 k7 t8 k8 t9 k9 t10 k10 t11 k11 t12 k12 t13 r13 t14 r14 t15 k15 t16 k16 t17 k17 t18 k18 t19 r19 t20 k20 t21 k21 d0 d1 d2 d3 d4 d5 d6 d7 d8 f0 f1 f2 f3 f4 f5 f6 f7 f8 f9 f10 f11 f12 f13 f14 f15 f16 f17 f18 f19 f20
  replace f1 := shm_106 f1
  replace f2 := shm_129 f2
  replace f8 := shm_175 f8
  replace f9 := shm_1074 f9
  replace f10 := shm_1075 f10
  replace f11 := shm_1076 f11
  replace f13 := shm_5 f13
  replace f14 := shm_5 f14
  replace f15 := shm_5 f15
  replace f17 := shm_1082 f17
  replace f19 := shm_1085 f19
  replace f20 := shm_5 f20
  have q13 : n_v vs 13 = n_v vs 2 := f13.symm
  have q14 : n_v vs 14 = n_v vs 3 := f14.symm
  have q7 : n_v vs 7 = n_v vs 1 := f15.symm
  have q6 : n_v vs 6 = n_v vs 0 := f20.symm
  simp only [q14, q13, q6, q7] at f2 f8 f9 f10 f11 f17 f19
  have ad_19 : v_ad (n_v vs 19) = w_ar ws (n_v vs 3) 2 := congrArg v_ad f2
  simp only [ad_19] at f1
  have h1 : v_iv (n_v vs 20) = w_ei ws (w_ar ws (n_v vs 3) 2) (v_iv (n_v vs 12)) := f1
  have g8 : v_iv (n_v vs 15) = w_fi ws (n_v vs 2) 0 := congrArg v_iv f8
  have kz_2_0 := fdq_23 hD hth r2
  have hrf0 : (-33554432) ≤ v_iv (n_v vs 21) ∧ v_iv (n_v vs 21) ≤ 33554432 := vc_Pl_placeSideBySide_12_r0 (v_iv (n_v vs 1)) (v_iv (n_v vs 4)) (v_iv (n_v vs 5)) (v_iv (n_v vs 7)) (v_iv (n_v vs 8)) (v_iv (n_v vs 9)) (v_iv (n_v vs 10)) (v_iv (n_v vs 11)) (v_iv (n_v vs 12)) (v_iv (n_v vs 15)) (v_iv (n_v vs 16)) (v_iv (n_v vs 17)) (v_iv (n_v vs 18)) (v_iv (n_v vs 20)) (v_iv (n_v vs 21)) (w_ei ws (w_ar ws (n_v vs 3) 2)) (w_fi ws (n_v vs 2) 0) (w_ei ws (w_ar ws (n_v vs 0) 2)) (w_ei ws (w_ar ws (n_v vs 0) 6)) (w_ei ws (w_ar ws (n_v vs 0) 4)) (w_ei ws (w_ar ws (n_v vs 0) 7)) (w_ei ws (w_ar ws (n_v vs 0) 5)) k1 k4 k5 k7 k9 k10 k11 k12 k15 k16 k17 k18 k20 k21 d2 d3 d6 d7 (shm_12 f0) h1 (shm_11 f5) (shm_13 f6) g8 f9 f10 f11 f17 f19 kz_2_0
  have rf21 : tv_ok ta (0, -33554432, 33554432, []) (n_v vs 21) := tv_in t21 (by first | omega | grind) (by first | omega | grind)
  refine ⟨List.forall_mem_cons.mpr ⟨rf21, (fun _ h => (by cases h))⟩, [], trivial, ?_, (fun _ h => (by cases h))⟩
  rw [List.append_nil]
  exact (fun _ h => (by cases h))
set_option maxHeartbeats 4000000 in
theorem vc_Pl_placeSideBySide_13_0 (x4 : Int) (x5 : Int) (x9 : Int) (x10 : Int) (x11 : Int) (x12 : Int) (x16 : Int) (x17 : Int) (x18 : Int) (x20 : Int) (x21 : Int) (x22 : Int) (nodes_0o2 : Int) (order_0 : Int → Int) (under_0 : Int → Int) (level_0 : Int → Int) (kids_0 : Int → Int) (parent_0 : Int → Int) (x_1o3 : Int → Int) (order_1 : Int → Int) (under_1 : Int → Int) (nodes_1o2 : Int) (level_1 : Int → Int) (kids_1 : Int → Int) (parent_1 : Int → Int) (x_0o3 : Int → Int) (k4 : 0 ≤ x4 ∧ x4 ≤ 24) (k5 : 0 ≤ x5 ∧ x5 ≤ 24) (k9 : 1 ≤ x9 ∧ x9 ≤ 23) (k10 : 0 ≤ x10 ∧ x10 ≤ 16777215) (k11 : (-1000000) ≤ x11 ∧ x11 ≤ 67108868) (k12 : 0 ≤ x12 ∧ x12 ≤ 23) (k16 : 0 ≤ x16 ∧ x16 ≤ 16777215) (k17 : 1 ≤ x17 ∧ x17 ≤ 1) (k18 : 1 ≤ x18 ∧ x18 ≤ 1) (k20 : (-40000000) ≤ x20 ∧ x20 ≤ 690000000) (k21 : (-33554432) ≤ x21 ∧ x21 ≤ 33554432) (k22 : 1 ≤ x22 ∧ x22 ≤ 24) (d0 : x12 + 1 ≤ x22 ∧ x22 ≤ x12 + 1) (f2 : x22 = x12 + 1) (f15 : x21 = x20 + x11) (h16 : x20 = x_1o3 (x12)) (f19 : bvp (x18) = bvp (x16) &&& bvp (x17)) (f20 : bvp (x16) = bvp (x10) >>> (x12).toNat) (f29 : TQV (nodes_1o2) (order_1) (parent_1) (x_1o3) (x11) (x10) (x4) (x5) (x9) (x12)) (fe_2_0_1 : nodes_0o2 = nodes_1o2) (hE_0_2_1 : ∀ j : Int, order_0 j = order_1 j) (hE_0_4_1 : ∀ j : Int, level_0 j = level_1 j) (hE_0_5_1 : ∀ j : Int, parent_0 j = parent_1 j) (hE_0_6_1 : ∀ j : Int, under_0 j = under_1 j) (hE_0_7_1 : ∀ j : Int, kids_0 j = kids_1 j) (hE_3_2_1 : ∀ j : Int, 0 ≤ j → (j = x12 → x_0o3 j = x21) ∧ (j ≠ x12 → x_0o3 j = x_1o3 j)) (kz_2_0 : 0 ≤ nodes_0o2 ∧ nodes_0o2 ≤ 24) : TQV (nodes_0o2) (order_0) (parent_0) (x_0o3) (x11) (x10) (x4) (x5) (x9) (x22) := by
  subst fe_2_0_1
  have e_hE_0_2_1 := funext hE_0_2_1; subst e_hE_0_2_1
  have e_hE_0_4_1 := funext hE_0_4_1; subst e_hE_0_4_1
  have e_hE_0_5_1 := funext hE_0_5_1; subst e_hE_0_5_1
  have e_hE_0_6_1 := funext hE_0_6_1; subst e_hE_0_6_1
  have e_hE_0_7_1 := funext hE_0_7_1; subst e_hE_0_7_1
  first
    | assumption
    | exact tqv_start ‹TQ1 _ _ _ _ _ _ _› ‹TQS _ _ _ _ _ _ _ _› ‹TQK _ _ _ _ _ _› (by omega) (by omega) (by omega)
    | (have q := bit_one (s := x10) (t := x16) (c := x18) (v := x12) (one := x17) (by assumption) (by assumption) (by omega) (by omega) (by omega) (by omega)
       first
         | exact tqv_skip ‹TQV _ _ _ _ _ _ _ _ _ _› (fun z => by have := q.mp z; omega) (by omega)
         | exact tqv_step (v := x12) (a := x20) ‹TQV _ _ _ _ _ _ _ _ _ _› (by omega) (q.mpr (by omega)) (by assumption) (by omega) (by assumption) rfl (by omega))
  
def o_Pl_placeSideBySide_13 : or_T := (112, 23, [(0, (2, 0, 0, [6])), (2, (2, 0, 0, [3])), (3, (2, 0, 0, [0])), (4, (0, 0, 24, [])), (5, (0, 0, 24, [])), (9, (0, 1, 23, [])), (10, (0, 0, 16777215, [])), (11, (0, -1000000, 67108868, [])), (12, (0, 0, 23, [])), (16, (0, 0, 16777215, [])), (17, (0, 1, 1, [])), (18, (0, 1, 1, [])), (19, (2, 0, 0, [14])), (20, (0, -40000000, 690000000, [])), (21, (0, -33554432, 33554432, [])), (22, (0, 1, 24, []))], [(9, [19, 14], [2]), (6, [22, 12], [1]), (24, [2, 13], []), (24, [3, 14], []), (24, [0, 6], []), (100, [19, 12, 21], []), (1, [21, 20, 11], []), (10, [20, 19, 12], []), (16, [18, 16, 17], [0]), (16, [16, 10, 12], [4]), (20, [6, 13, 14, 11, 10, 4, 5, 9, 12], [60, 1, 3, 870, 1000, 2, 5, 2002])], [], [], [(20, [6, 13, 14, 11, 10, 4, 5, 9, 22], [60, 1, 3, 870, 1000, 2, 5, 2002])], [], [(22, 12, 1, 1), (21, 11, -40000000, 690000000), (21, 20, -1000000, 67108868), (12, 15, -4294967296, -1)])
theorem oo_Pl_placeSideBySide_13 {kA : Nat → ClassId} : or_ok PRD kA GG o_Pl_placeSideBySide_13 := by
  refine or_mk fun A ta ws vs hD hth hl => ?_
  intro t0 r0 t2 r2 t3 r3 t4 k4 t5 k5 t9 k9 t10 k10 t11 k11 t12 k12 t16 k16 t17 k17 t18 k18 t19 r19 t20 k20 t21 k21 t22 k22 d0 d2 d3 d4 f0 f2 f7 f8 f13 ta1 w1 le1 s1 f15 f16 f19 f20 f29
  replace f0 := shm_129 f0
  replace f2 := shm_4 f2
  replace f7 := shm_5 f7
  replace f8 := shm_5 f8
  replace f13 := shm_5 f13
  have s1 : (∀ b j, w_el ws b j = if b = v_ad (n_v vs 19) ∧ j = (v_iv (n_v vs 12)).toNat then v_iv (n_v vs 21) else w_el w1 b j) ∧ ∀ b k, w_fd ws b k = w_fd w1 b k := s1.2
  replace f15 := shm_12 f15
  replace f16 := shm_106 f16
  replace f19 := shm_11 f19
  replace f20 := shm_13 f20
  replace f29 := shm_1085 f29
  have q13 : n_v vs 13 = n_v vs 2 := f7.symm
  have q14 : n_v vs 14 = n_v vs 3 := f8.symm
  have q6 : n_v vs 6 = n_v vs 0 := f13.symm
  simp only [q14, q13, q6] at f0 f29
  have ar_0_2_1 : w_ar w1 (n_v vs 0) 2 = w_ar ws (n_v vs 0) 2 := congrArg v_ad (s1.2 _ _).symm
  have cr_0_2 := fdq_93 hD hth r0
  have ar_0_4_1 : w_ar w1 (n_v vs 0) 4 = w_ar ws (n_v vs 0) 4 := congrArg v_ad (s1.2 _ _).symm
  have cr_0_4 := fdq_90 hD hth r0
  have ar_0_5_1 : w_ar w1 (n_v vs 0) 5 = w_ar ws (n_v vs 0) 5 := congrArg v_ad (s1.2 _ _).symm
  have cr_0_5 := fdq_94 hD hth r0
  have ar_0_6_1 : w_ar w1 (n_v vs 0) 6 = w_ar ws (n_v vs 0) 6 := congrArg v_ad (s1.2 _ _).symm
  have cr_0_6 := fdq_256 hD hth r0
  have ar_0_7_1 : w_ar w1 (n_v vs 0) 7 = w_ar ws (n_v vs 0) 7 := congrArg v_ad (s1.2 _ _).symm
  have cr_0_7 := fdq_257 hD hth r0
  have ar_3_2_1 : w_ar w1 (n_v vs 3) 2 = w_ar ws (n_v vs 3) 2 := congrArg v_ad (s1.2 _ _).symm
  have ad_19 : v_ad (n_v vs 19) = w_ar ws (n_v vs 3) 2 := congrArg v_ad f0
  simp only [ad_19] at f16
  have h16 : v_iv (n_v vs 20) = w_ei w1 (w_ar ws (n_v vs 3) 2) (v_iv (n_v vs 12)) := f16
  simp only [ar_0_2_1, ar_0_6_1, ar_0_4_1, ar_0_7_1, ar_0_5_1, ar_3_2_1] at f29
  have fe_2_0_1 : w_fi ws (n_v vs 2) 0 = w_fi w1 (n_v vs 2) 0 := congrArg v_iv (s1.2 _ _)
  have hE_0_2_1 : ∀ j : Int, w_ei ws (w_ar ws (n_v vs 0) 2) j = w_ei w1 (w_ar ws (n_v vs 0) 2) j := el_kp s1.1 r19 cr_0_2 (by decide)
  have hE_0_4_1 : ∀ j : Int, w_ei ws (w_ar ws (n_v vs 0) 4) j = w_ei w1 (w_ar ws (n_v vs 0) 4) j := el_kp s1.1 r19 cr_0_4 (by decide)
  have hE_0_5_1 : ∀ j : Int, w_ei ws (w_ar ws (n_v vs 0) 5) j = w_ei w1 (w_ar ws (n_v vs 0) 5) j := el_kp s1.1 r19 cr_0_5 (by decide)
  have hE_0_6_1 : ∀ j : Int, w_ei ws (w_ar ws (n_v vs 0) 6) j = w_ei w1 (w_ar ws (n_v vs 0) 6) j := el_kp s1.1 r19 cr_0_6 (by decide)
  have hE_0_7_1 : ∀ j : Int, w_ei ws (w_ar ws (n_v vs 0) 7) j = w_ei w1 (w_ar ws (n_v vs 0) 7) j := el_kp s1.1 r19 cr_0_7 (by decide)
  have hE_3_2_1 : ∀ j : Int, 0 ≤ j → (j = v_iv (n_v vs 12) → w_ei ws (w_ar ws (n_v vs 3) 2) j = v_iv (n_v vs 21)) ∧ (j ≠ v_iv (n_v vs 12) → w_ei ws (w_ar ws (n_v vs 3) 2) j = w_ei w1 (w_ar ws (n_v vs 3) 2) j) := fun j hj => ⟨fun h => by unfold w_ei; rw [s1.1, if_pos ⟨ad_19.symm, by rw [h]⟩], fun h => by unfold w_ei; rw [s1.1, if_neg (fun e => h (by have := e.2; omega))]⟩
  have kz_2_0 := fdq_23 hD hth r2
  have nf0 : fc_1 PRD (20, [6, 13, 14, 11, 10, 4, 5, 9, 22], [60, 1, 3, 870, 1000, 2, 5, 2002]) ws (vs) := by
    refine ⟨nf_in hl rfl, sgq_1085 ?_⟩
    · show TQV (w_fi ws (n_v vs 13) 0) (w_ei ws (w_ar ws (n_v vs 6) 2)) (w_ei ws (w_ar ws (n_v vs 6) 5)) (w_ei ws (w_ar ws (n_v vs 14) 2)) (v_iv (n_v vs 11)) (v_iv (n_v vs 10)) (v_iv (n_v vs 4)) (v_iv (n_v vs 5)) (v_iv (n_v vs 9)) (v_iv (n_v vs 22))
      simp only [q13, q14, q6]
      exact vc_Pl_placeSideBySide_13_0 (v_iv (n_v vs 4)) (v_iv (n_v vs 5)) (v_iv (n_v vs 9)) (v_iv (n_v vs 10)) (v_iv (n_v vs 11)) (v_iv (n_v vs 12)) (v_iv (n_v vs 16)) (v_iv (n_v vs 17)) (v_iv (n_v vs 18)) (v_iv (n_v vs 20)) (v_iv (n_v vs 21)) (v_iv (n_v vs 22)) (w_fi ws (n_v vs 2) 0) (w_ei ws (w_ar ws (n_v vs 0) 2)) (w_ei ws (w_ar ws (n_v vs 0) 6)) (w_ei ws (w_ar ws (n_v vs 0) 4)) (w_ei ws (w_ar ws (n_v vs 0) 7)) (w_ei ws (w_ar ws (n_v vs 0) 5)) (w_ei w1 (w_ar ws (n_v vs 3) 2)) (w_ei w1 (w_ar ws (n_v vs 0) 2)) (w_ei w1 (w_ar ws (n_v vs 0) 6)) (w_fi w1 (n_v vs 2) 0) (w_ei w1 (w_ar ws (n_v vs 0) 4)) (w_ei w1 (w_ar ws (n_v vs 0) 7)) (w_ei w1 (w_ar ws (n_v vs 0) 5)) (w_ei ws (w_ar ws (n_v vs 3) 2)) k4 k5 k9 k10 k11 k12 k16 k17 k18 k20 k21 k22 d0 f2 f15 h16 f19 f20 f29 fe_2_0_1 hE_0_2_1 hE_0_4_1 hE_0_5_1 hE_0_6_1 hE_0_7_1 hE_3_2_1 kz_2_0
  refine ⟨(fun _ h => (by cases h)), [], trivial, ?_, (fun _ h => (by cases h))⟩
  rw [List.append_nil]
  exact List.forall_mem_cons.mpr ⟨⟨show (20 : Nat) < 100 from by decide, nf0⟩, (fun _ h => (by cases h))⟩
def n_Pl_placeSideBySide_an : List an_T := [(22, [(0, (2, 0, 0, [6])), (1, (0, 0, 24, [])), (2, (0, 0, 16777215, [])), (3, (0, 1, 24, []))], [], (0, 0), [(0, 0, 99978), (1, 9, 24), (0, 0, 100000), (0, 0, 0), (0, 0, 0)], [(1, 7, (Int.negSucc 999999999999), 0), (7, 1, (Int.negSucc 999999999999), 0), (9, 1, (Int.negSucc 999999999999), 1), (9, 7, (Int.negSucc 999999999999), 1)], [((0, 0), (2, 0, 0, [3])), ((0, 1), (2, 0, 0, [0]))], [(2, 0, 0, [6]), (0, 0, 24, []), (2, 0, 0, [3]), (2, 0, 0, [0]), (0, 0, 24, []), (0, 0, 24, [])], 0, [], [(20, [6, 10, 4, 5], [60, 1, 2, 860, 1000, 2, 6]), (20, [6, 7, 4, 5], [60, 0, 3, 861, 2, 4, 7]), (20, [6, 10, 7, 4, 5], [60, 1, 2, 862, 1000, 2, 5]), (20, [6, 10, 4], [60, 1, 3, 859, 1000, 2, 5, 4]), (24, [2, 10], []), (24, [3, 11], []), (24, [1, 7], []), (20, [6, 10, 8, 7, 4, 5], [60, 1, 2, 863, 1000, 2, 7]), (20, [6, 10, 11, 4, 5, 9], [60, 1, 3, 864, 1000, 2, 5, 2002]), (20, [9, 7], [50, 0, 0, 3, 6, 0, 2, 1, 0, 1, 1, 0, 2, 1, 0, 0, 1]), (24, [0, 6], []), (24, [1, 7], [])]), (47, [(0, (2, 0, 0, [6])), (1, (0, 2, 24, [])), (2, (0, 0, 16777215, [])), (3, (0, 1, 23, [])), (4, (0, 0, 16777215, [])), (5, (0, (Int.negSucc 999999), 67108868, [])), (6, (0, 0, 24, []))], [], (0, 0), [(0, 0, 99978), (1, 9, 24), (0, 0, 99953), (1, 12, 24), (0, 0, 100000)], [(1, 7, (Int.negSucc 999999999999), 0), (4, 1, (Int.negSucc 999999999999), 22), (5, 1, (Int.negSucc 999999999999), 22), (7, 1, (Int.negSucc 999999999999), 0), (9, 1, (Int.negSucc 999999999999), (Int.negSucc 0)), (9, 7, (Int.negSucc 999999999999), (Int.negSucc 0)), (11, 12, (Int.negSucc 999999999999), 67108867)], [((0, 0), (2, 0, 0, [3])), ((0, 1), (2, 0, 0, [0]))], [(2, 0, 0, [6]), (0, 0, 24, []), (2, 0, 0, [3]), (2, 0, 0, [0]), (0, 0, 24, []), (0, 0, 24, [])], 0, [], [(20, [6, 13, 4, 5], [60, 1, 2, 860, 1000, 2, 6]), (20, [6, 7, 4, 5], [60, 0, 3, 861, 2, 4, 7]), (20, [6, 13, 7, 4, 5], [60, 1, 2, 862, 1000, 2, 5]), (20, [6, 13, 4], [60, 1, 3, 859, 1000, 2, 5, 4]), (24, [2, 13], []), (24, [3, 14], []), (24, [1, 7], []), (20, [6, 13, 8, 7, 4, 5], [60, 1, 2, 863, 1000, 2, 7]), (20, [6, 13, 14, 4, 5, 9], [60, 1, 3, 864, 1000, 2, 5, 2002]), (20, [6, 10, 9], [60, 0, 2, 875, 6, 7]), (20, [9, 7], [50, 0, 0, 2, 6, 0, 2, 0, 1, 1, 0, 0, 6, 4, 2, 1, 0, 0, 1, 1, 1]), (20, [6, 14, 11, 12, 4, 5], [60, 0, 4, 869, 2, 4, 7, 1002]), (24, [0, 6], []), (24, [1, 7], [])]), (112, [(0, (2, 0, 0, [6])), (1, (0, 2, 24, [])), (2, (0, 0, 16777215, [])), (3, (0, 1, 23, [])), (4, (0, 0, 16777215, [])), (5, (0, (Int.negSucc 999999), 67108868, [])), (6, (0, 0, 24, []))], [], (0, 0), [(0, 0, 99978), (1, 9, 24), (0, 0, 99888), (1, 12, 24), (0, 0, 100000)], [(1, 7, (Int.negSucc 999999999999), 0), (4, 1, (Int.negSucc 999999999999), 22), (5, 1, (Int.negSucc 999999999999), 22), (7, 1, (Int.negSucc 999999999999), 0), (9, 1, (Int.negSucc 999999999999), (Int.negSucc 0)), (9, 7, (Int.negSucc 999999999999), (Int.negSucc 0))], [((0, 0), (2, 0, 0, [3])), ((0, 1), (2, 0, 0, [0]))], [(2, 0, 0, [6]), (0, 0, 24, []), (2, 0, 0, [3]), (2, 0, 0, [0]), (0, 0, 24, []), (0, 0, 24, [])], 0, [], [(20, [6, 13, 4, 5], [60, 1, 2, 860, 1000, 2, 6]), (20, [6, 7, 4, 5], [60, 0, 3, 861, 2, 4, 7]), (20, [6, 13, 7, 4, 5], [60, 1, 2, 862, 1000, 2, 5]), (20, [6, 13, 4], [60, 1, 3, 859, 1000, 2, 5, 4]), (24, [2, 13], []), (24, [3, 14], []), (24, [1, 7], []), (20, [6, 13, 8, 7, 4, 5], [60, 1, 2, 863, 1000, 2, 7]), (20, [6, 10, 9], [60, 0, 2, 875, 6, 7]), (20, [9, 7], [50, 0, 0, 2, 6, 0, 2, 0, 1, 1, 0, 0, 6, 4, 2, 1, 0, 0, 1, 1, 1]), (20, [6, 13, 14, 11, 10, 4, 5, 9, 12], [60, 1, 3, 870, 1000, 2, 5, 2002]), (24, [0, 6], []), (24, [1, 7], [])])]
def t_Pl_placeSideBySide_ct : ct_L := [(1, 145, e_Pl_edgeOfLevel), (297, 150, e_jMath_max1_v67), (297, 150, e_jMath_max1_v68)]
set_option maxRecDepth 100000 in
theorem c_Pl_placeSideBySide {l : Launch} {D : va_G} {kA : Nat → ClassId} (h_Pl_edgeOfLevel : ct_ok PRD l D kA GG y_Pl_edgeOfLevel z_Pl_edgeOfLevel e_Pl_edgeOfLevel) : ct_ok PRD l D kA GG y_Pl_placeSideBySide z_Pl_placeSideBySide e_Pl_placeSideBySide := chk_all_ok (FT := [(9, 6, 0), (15, 6, 1), (32, 6, 6), (35, 6, 7), (74, 3, 0), (127, 0, 2)]) (PT := []) (CT := t_Pl_placeSideBySide_ct) (KT := [(0, 144, .int (Int32.ofInt (-1000000)), (0, -1000000, -1000000, [])), (0, 149, .int (Int32.ofInt (-2147483648)), (0, -2147483648, -2147483648, []))]) (NT := []) (AN := n_Pl_placeSideBySide_an) (OT := [o_Pl_placeSideBySide_0, o_Pl_placeSideBySide_1, o_Pl_placeSideBySide_2, o_Pl_placeSideBySide_3, o_Pl_placeSideBySide_4, o_Pl_placeSideBySide_5, o_Pl_placeSideBySide_6, o_Pl_placeSideBySide_7, o_Pl_placeSideBySide_8, o_Pl_placeSideBySide_9, o_Pl_placeSideBySide_10, o_Pl_placeSideBySide_11, o_Pl_placeSideBySide_12, o_Pl_placeSideBySide_13]) 5 404 (List.forall_mem_cons.mpr ⟨oo_Pl_placeSideBySide_0, List.forall_mem_cons.mpr ⟨oo_Pl_placeSideBySide_1, List.forall_mem_cons.mpr ⟨oo_Pl_placeSideBySide_2, List.forall_mem_cons.mpr ⟨oo_Pl_placeSideBySide_3, List.forall_mem_cons.mpr ⟨oo_Pl_placeSideBySide_4, List.forall_mem_cons.mpr ⟨oo_Pl_placeSideBySide_5, List.forall_mem_cons.mpr ⟨oo_Pl_placeSideBySide_6, List.forall_mem_cons.mpr ⟨oo_Pl_placeSideBySide_7, List.forall_mem_cons.mpr ⟨oo_Pl_placeSideBySide_8, List.forall_mem_cons.mpr ⟨oo_Pl_placeSideBySide_9, List.forall_mem_cons.mpr ⟨oo_Pl_placeSideBySide_10, List.forall_mem_cons.mpr ⟨oo_Pl_placeSideBySide_11, List.forall_mem_cons.mpr ⟨oo_Pl_placeSideBySide_12, List.forall_mem_cons.mpr ⟨oo_Pl_placeSideBySide_13, List.forall_mem_nil _⟩⟩⟩⟩⟩⟩⟩⟩⟩⟩⟩⟩⟩⟩) (by decide +kernel) ⟨List.forall_mem_cons.mpr ⟨gf_Pl_9, List.forall_mem_cons.mpr ⟨gf_Pl_15, List.forall_mem_cons.mpr ⟨gf_Pl_32, List.forall_mem_cons.mpr ⟨gf_Pl_35, List.forall_mem_cons.mpr ⟨gf_Pl_74, List.forall_mem_cons.mpr ⟨gf_Pl_127, List.forall_mem_nil _⟩⟩⟩⟩⟩⟩, List.forall_mem_nil _, List.forall_mem_cons.mpr ⟨cl_virtual (y := y_Pl_edgeOfLevel) (ci := 6) rfl rfl ⟨_, _, rfl⟩ (by decide +kernel) h_Pl_edgeOfLevel wm_1712 wm_21 wm_1709 wm_1711 wv_7_11 ⟨by decide, by decide, by decide +kernel⟩ (by decide), List.forall_mem_cons.mpr ⟨cl_static (y := y_jMath_max1) c_jMath_max1_v67 wm_836 wm_10 wm_1714 wm_835 ⟨by decide, by decide, by decide +kernel⟩ (by decide), List.forall_mem_cons.mpr ⟨cl_static (y := y_jMath_max1) c_jMath_max1_v68 wm_836 wm_10 wm_1714 wm_835 ⟨by decide, by decide, by decide +kernel⟩ (by decide), List.forall_mem_nil _⟩⟩⟩, List.forall_mem_cons.mpr ⟨kx_Pl_0_144, List.forall_mem_cons.mpr ⟨kx_Pl_0_149, List.forall_mem_nil _⟩⟩, List.forall_mem_nil _, GG_pl⟩ (by decide +kernel)
set_option maxHeartbeats 4000000 in
theorem vc_Ro_bar_0_0 (x3 : Int) (x6 : Int) (nodes_0o4 : Int) (k3 : 0 ≤ x3 ∧ x3 ≤ 23) (k6 : 1 ≤ x6 ∧ x6 ≤ 24) (d0 : x6 + (-4294967296) ≤ x3 ∧ x3 ≤ x6 + (-1)) (g4 : x6 = nodes_0o4) (kz_4_0 : 0 ≤ nodes_0o4 ∧ nodes_0o4 ≤ 24) : (0 ≤ x3) ∧ ((x3 + 1) ≤ nodes_0o4) := by
  first
    | omega
  
def o_Ro_bar_0 : or_T := (61, 9, [(3, (0, 0, 23, [])), (4, (2, 0, 0, [3])), (6, (0, 1, 24, []))], [(9, [6, 4], [0])], [], [], [(20, [3, 4], [50, 1, 0, 1000, 2, 6, 0, 2, 0, 0, 1, 0, 0, 6, 4, 2, 1, 0, 0, 1, 2, 1, 0])], [], [(3, 6, -4294967296, -1)])
theorem oo_Ro_bar_0 {kA : Nat → ClassId} : or_ok PRD kA GG o_Ro_bar_0 := by
  refine or_mk fun A ta ws vs hD hth hl => ?_
  intro t3 k3 t4 r4 t6 k6 d0 f4
  replace f4 := shm_175 f4
  have g4 : v_iv (n_v vs 6) = w_fi ws (n_v vs 4) 0 := congrArg v_iv f4
  have kz_4_0 := fdq_23 hD hth r4
  have nf0 : fc_1 PRD (20, [3, 4], [50, 1, 0, 1000, 2, 6, 0, 2, 0, 0, 1, 0, 0, 6, 4, 2, 1, 0, 0, 1, 2, 1, 0]) ws (vs) := ⟨nf_in hl rfl, sgq_429 (vc_Ro_bar_0_0 (v_iv (n_v vs 3)) (v_iv (n_v vs 6)) (w_fi ws (n_v vs 4) 0) k3 k6 d0 g4 kz_4_0)⟩
  refine ⟨(fun _ h => (by cases h)), [], trivial, ?_, (fun _ h => (by cases h))⟩
  rw [List.append_nil]
  exact List.forall_mem_cons.mpr ⟨⟨show (20 : Nat) < 100 from by decide, nf0⟩, (fun _ h => (by cases h))⟩
set_option maxHeartbeats 4000000 in
theorem vc_Ro_bar_1_r0 (x10 : Int) (width_0 : Int) (x_0o7 : Int → Int) (y_0o7 : Int → Int) (left_0 : Int) (top_0 : Int) (height_0 : Int) (nameLength_0o6 : Int → Int) (nodes_0o6 : Int) (k10 : (-2147483648) ≤ x10 ∧ x10 ≤ 2147483647) (g0 : x10 = width_0) (f3 : FRM (left_0) (top_0) (width_0) (height_0) (nodes_0o6) (nameLength_0o6) (x_0o7) (y_0o7)) (kz_0_2 : (-40000011) ≤ left_0 ∧ left_0 ≤ 1000000000) (kz_0_3 : (-40000003) ≤ top_0 ∧ top_0 ≤ 1000000000) (kz_0_4 : (-2147483648) ≤ width_0 ∧ width_0 ≤ 2147483647) (kz_0_5 : (-2147483648) ≤ height_0 ∧ height_0 ≤ 2147483647) (kz_6_0 : 0 ≤ nodes_0o6 ∧ nodes_0o6 ≤ 24) : 1 ≤ x10 ∧ x10 ≤ 6000 := by
  have h := frm_wh ‹FRM _ _ _ _ _ _ _ _›
  omega
def o_Ro_bar_1 : or_T := (78, 11, [(0, (2, 0, 0, [9])), (3, (0, 0, 23, [])), (4, (0, 1, 9, [])), (6, (2, 0, 0, [3])), (7, (2, 0, 0, [0])), (9, (0, 0, 5999, [])), (10, (0, -2147483648, 2147483647, []))], [(9, [10, 0], [4]), (20, [0, 7, 3, 9], [60, 3, 2, 842, 2, 3, 4, 1002, 1003]), (20, [9, 0], [50, 2, 0, 1004, 1005, 2, 6, 0, 2, 0, 0, 1, 0, 0, 6, 4, 2, 1, 0, 0, 1, 6, 3, 2, 1, 4, 2, 1, 5]), (20, [0, 6, 7], [60, 5, 3, 839, 2, 3, 4, 5, 1000, 1004, 2002, 2003]), (20, [4, 6, 3], [50, 0, 1, 1004, 1, 2, 1, 0, 4, 5, 3, 1, 4, 1, 2, 0, 1]), (20, [3, 6], [50, 1, 0, 1000, 2, 6, 0, 2, 0, 0, 1, 0, 0, 6, 4, 2, 1, 0, 0, 1, 2, 1, 0])], [(10, (0, 1, 6000, []))], [], [], [], [])
theorem oo_Ro_bar_1 {kA : Nat → ClassId} : or_ok PRD kA GG o_Ro_bar_1 := by
  refine or_mk fun A ta ws vs hD hth hl => ?_
  intro t0 r0 t3 k3 t4 k4 t6 r6 t7 r7 t9 k9 t10 k10 f0 f1 f2 f3 f4 f5
  replace f0 := shm_107 f0
  have g0 : v_iv (n_v vs 10) = w_fi ws (n_v vs 0) 4 := congrArg v_iv f0
  have kz_0_2 := fdq_105 hD hth r0
  have kz_0_3 := fdq_106 hD hth r0
  have kz_0_4 := fdq_102 hD hth r0
  have kz_0_5 := fdq_103 hD hth r0
  have kz_6_0 := fdq_23 hD hth r6
  have hrf0 : 1 ≤ v_iv (n_v vs 10) ∧ v_iv (n_v vs 10) ≤ 6000 := vc_Ro_bar_1_r0 (v_iv (n_v vs 10)) (w_fi ws (n_v vs 0) 4) (w_ei ws (w_ar ws (n_v vs 7) 2)) (w_ei ws (w_ar ws (n_v vs 7) 3)) (w_fi ws (n_v vs 0) 2) (w_fi ws (n_v vs 0) 3) (w_fi ws (n_v vs 0) 5) (w_ei ws (w_ar ws (n_v vs 6) 4)) (w_fi ws (n_v vs 6) 0) k10 g0 (shm_465 f3) kz_0_2 kz_0_3 kz_0_4 kz_0_5 kz_6_0
  have rf10 : tv_ok ta (0, 1, 6000, []) (n_v vs 10) := tv_in t10 (by first | omega | grind) (by first | omega | grind)
  refine ⟨List.forall_mem_cons.mpr ⟨rf10, (fun _ h => (by cases h))⟩, [], trivial, ?_, (fun _ h => (by cases h))⟩
  rw [List.append_nil]
  exact (fun _ h => (by cases h))
set_option maxHeartbeats 4000000 in
theorem vc_Ro_bar_2_0 (x3 : Int) (x4 : Int) (x5 : Int) (x9 : Int) (x10 : Int) (x11 : Int) (x12 : Int) (width_0 : Int) (x_0o7 : Int → Int) (y_0o7 : Int → Int) (left_0 : Int) (top_0 : Int) (height_0 : Int) (nameLength_0o6 : Int → Int) (nodes_0o6 : Int) (k3 : 0 ≤ x3 ∧ x3 ≤ 23) (k4 : 1 ≤ x4 ∧ x4 ≤ 9) (k5 : (-1) ≤ x5 ∧ x5 ≤ 1) (k9 : 0 ≤ x9 ∧ x9 ≤ 5999) (k10 : 1 ≤ x10 ∧ x10 ≤ 6000) (k11 : (-6000) ≤ x11 ∧ x11 ≤ 6000) (k12 : (-6000) ≤ x12 ∧ x12 ≤ 11999) (f0 : x12 = x9 + x11) (f1 : x11 = x5 * x10) (g2 : x10 = width_0) (f3 : PTO (left_0) (top_0) (width_0) (x_0o7) (y_0o7) (x3) (x9)) (f6 : FRM (left_0) (top_0) (width_0) (height_0) (nodes_0o6) (nameLength_0o6) (x_0o7) (y_0o7)) (f7 : x4 = (nameLength_0o6 (x3) + 1)) (f8 : (0 ≤ x3) ∧ ((x3 + 1) ≤ nodes_0o6)) (hK_6_4 : ∀ j : Int, 0 ≤ j → j < 24 → 0 ≤ nameLength_0o6 j ∧ nameLength_0o6 j ≤ 8) (kz_0_2 : (-40000011) ≤ left_0 ∧ left_0 ≤ 1000000000) (kz_0_3 : (-40000003) ≤ top_0 ∧ top_0 ≤ 1000000000) (kz_0_4 : (-2147483648) ≤ width_0 ∧ width_0 ≤ 2147483647) (kz_0_5 : (-2147483648) ≤ height_0 ∧ height_0 ≤ 2147483647) (kz_6_0 : 0 ≤ nodes_0o6 ∧ nodes_0o6 ≤ 24) : BRK (x12) (x4) := by
  first
    | assumption
    | exact frm_bar (i := x3) (z := x9) (d := x5) (e := x10) (p := x11) ‹FRM _ _ _ _ _ _ _ _› (by omega) (by omega) (‹∀ j : Int, 0 ≤ j → j < 24 → 0 ≤ nameLength_0o6 j ∧ nameLength_0o6 j ≤ 8› x3 (by omega) (by omega)).1 ‹PTO _ _ _ _ _ _ _› (by omega) (by omega) (by omega) (by assumption) (by omega) (by omega)
  
def o_Ro_bar_2 : or_T := (82, 13, [(0, (2, 0, 0, [9])), (3, (0, 0, 23, [])), (4, (0, 1, 9, [])), (5, (0, -1, 1, [])), (6, (2, 0, 0, [3])), (9, (0, 0, 5999, [])), (10, (0, 1, 6000, [])), (11, (0, -6000, 6000, [])), (12, (0, -6000, 11999, []))], [(1, [12, 9, 11], []), (3, [11, 5, 10], []), (9, [10, 0], [4]), (20, [0, 7, 3, 9], [60, 3, 2, 842, 2, 3, 4, 1002, 1003]), (20, [0, 6, 7], [60, 5, 3, 839, 2, 3, 4, 5, 1000, 1004, 2002, 2003]), (20, [4, 6, 3], [50, 0, 1, 1004, 1, 2, 1, 0, 4, 5, 3, 1, 4, 1, 2, 0, 1]), (20, [3, 6], [50, 1, 0, 1000, 2, 6, 0, 2, 0, 0, 1, 0, 0, 6, 4, 2, 1, 0, 0, 1, 2, 1, 0])], [], [], [(20, [12, 4], [61, 0, 843])], [], [])
theorem oo_Ro_bar_2 {kA : Nat → ClassId} : or_ok PRD kA GG o_Ro_bar_2 := by
  refine or_mk fun A ta ws vs hD hth hl => ?_
  intro t0 r0 t3 k3 t4 k4 t5 k5 t6 r6 t9 k9 t10 k10 t11 k11 t12 k12 f0 f1 f2 f3 f6 f7 f8
  replace f2 := shm_107 f2
  have cr_6_4 := fdq_5 hD hth r6
  have g2 : v_iv (n_v vs 10) = w_fi ws (n_v vs 0) 4 := congrArg v_iv f2
  have hK_6_4 := elq_31 hD hth cr_6_4
  have kz_0_2 := fdq_105 hD hth r0
  have kz_0_3 := fdq_106 hD hth r0
  have kz_0_4 := fdq_102 hD hth r0
  have kz_0_5 := fdq_103 hD hth r0
  have kz_6_0 := fdq_23 hD hth r6
  have nf0 : fc_1 PRD (20, [12, 4], [61, 0, 843]) ws (vs) := ⟨nf_in hl rfl, sgq_1086 (vc_Ro_bar_2_0 (v_iv (n_v vs 3)) (v_iv (n_v vs 4)) (v_iv (n_v vs 5)) (v_iv (n_v vs 9)) (v_iv (n_v vs 10)) (v_iv (n_v vs 11)) (v_iv (n_v vs 12)) (w_fi ws (n_v vs 0) 4) (w_ei ws (w_ar ws (n_v vs 7) 2)) (w_ei ws (w_ar ws (n_v vs 7) 3)) (w_fi ws (n_v vs 0) 2) (w_fi ws (n_v vs 0) 3) (w_fi ws (n_v vs 0) 5) (w_ei ws (w_ar ws (n_v vs 6) 4)) (w_fi ws (n_v vs 6) 0) k3 k4 k5 k9 k10 k11 k12 (shm_12 f0) (shm_38 f1) g2 (shm_466 f3) (shm_465 f6) (shm_395 f7) (shm_429 f8) hK_6_4 kz_0_2 kz_0_3 kz_0_4 kz_0_5 kz_6_0)⟩
  refine ⟨(fun _ h => (by cases h)), [], trivial, ?_, (fun _ h => (by cases h))⟩
  rw [List.append_nil]
  exact List.forall_mem_cons.mpr ⟨⟨show (20 : Nat) < 100 from by decide, nf0⟩, (fun _ h => (by cases h))⟩
set_option maxHeartbeats 4000000 in
theorem vc_Ro_bar_3_0 (x4 : Int) (x12 : Int) (x13 : Int) (k4 : 1 ≤ x4 ∧ x4 ≤ 9) (k12 : (-6000) ≤ x12 ∧ x12 ≤ 11999) (k13 : (-6009) ≤ x13 ∧ x13 ≤ 11998) (f0 : x13 = x12 - x4) : x12 ≤ (x13 + x4) := by
  first
    | omega
  
def o_Ro_bar_3 : or_T := (89, 14, [(0, (2, 0, 0, [9])), (3, (0, 0, 23, [])), (4, (0, 1, 9, [])), (5, (0, -1, 1, [])), (6, (2, 0, 0, [3])), (7, (2, 0, 0, [0])), (8, (0, 1, 1, [])), (9, (0, 0, 5999, [])), (10, (0, 1, 6000, [])), (11, (0, -6000, 6000, [])), (12, (0, -6000, 11999, [])), (13, (0, -6009, 11998, []))], [(2, [13, 12, 4], []), (20, [12, 4], [61, 0, 843]), (1, [12, 9, 11], []), (3, [11, 5, 10], []), (9, [10, 0], [4]), (20, [0, 7, 3, 9], [60, 3, 2, 842, 2, 3, 4, 1002, 1003]), (20, [9, 0], [50, 2, 0, 1004, 1005, 2, 6, 0, 2, 0, 0, 1, 0, 0, 6, 4, 2, 1, 0, 0, 1, 6, 3, 2, 1, 4, 2, 1, 5]), (7, [5, 8], [5]), (20, [0, 6, 7], [60, 5, 3, 839, 2, 3, 4, 5, 1000, 1004, 2002, 2003]), (20, [4, 6, 3], [50, 0, 1, 1004, 1, 2, 1, 0, 4, 5, 3, 1, 4, 1, 2, 0, 1]), (20, [3, 6], [50, 1, 0, 1000, 2, 6, 0, 2, 0, 0, 1, 0, 0, 6, 4, 2, 1, 0, 0, 1, 2, 1, 0])], [], [], [(20, [12, 13, 4], [50, 0, 0, 0, 2, 1, 0, 4, 2, 1, 1, 1, 2])], [], [(13, 12, -9, -1), (13, 11, -9, 5998), (13, 9, -6009, 5999), (12, 11, 0, 5999), (12, 9, -6000, 6000)])
theorem oo_Ro_bar_3 {kA : Nat → ClassId} : or_ok PRD kA GG o_Ro_bar_3 := by
  refine or_mk fun A ta ws vs hD hth hl => ?_
  intro t0 r0 t3 k3 t4 k4 t5 k5 t6 r6 t7 r7 t8 k8 t9 k9 t10 k10 t11 k11 t12 k12 t13 k13 d0 d1 d2 d3 d4 f0 f1 f2 f3 f4 f5 f6 f7 f8 f9 f10
  have nf0 : fc_1 PRD (20, [12, 13, 4], [50, 0, 0, 0, 2, 1, 0, 4, 2, 1, 1, 1, 2]) ws (vs) := ⟨nf_in hl rfl, sgq_1087 (vc_Ro_bar_3_0 (v_iv (n_v vs 4)) (v_iv (n_v vs 12)) (v_iv (n_v vs 13)) k4 k12 k13 (shm_14 f0))⟩
  refine ⟨(fun _ h => (by cases h)), [], trivial, ?_, (fun _ h => (by cases h))⟩
  rw [List.append_nil]
  exact List.forall_mem_cons.mpr ⟨⟨show (20 : Nat) < 100 from by decide, nf0⟩, (fun _ h => (by cases h))⟩
set_option maxHeartbeats 4000000 in
theorem vc_Ro_bar_4_r0 (x3 : Int) (x4 : Int) (x6 : Int) (x7 : Int) (x10 : Int) (nameLength_0o8 : Int → Int) (k3 : 0 ≤ x3 ∧ x3 ≤ 23) (k4 : 1 ≤ x4 ∧ x4 ≤ 9) (k6 : (-6000) ≤ x6 ∧ x6 ≤ 11999) (k7 : (-6009) ≤ x7 ∧ x7 ≤ 11998) (k10 : (-5999) ≤ x10 ∧ x10 ≤ 12008) (d0 : x10 + (-4294967296) ≤ x7 ∧ x7 ≤ x10 + 0) (d3 : x7 + (-4294967296) ≤ x10 ∧ x10 ≤ x7 + 18) (f1 : x10 = x6 + x4) (f3 : x4 = (nameLength_0o8 (x3) + 1)) (f5 : BRK (x6) (x4)) (f6 : x6 ≤ (x7 + x4)) : 0 ≤ x7 ∧ x7 ≤ 5999 := by
  have b := ‹BRK _ _›
  have b1 := b.1
  have b2 := b.2
  omega
def o_Ro_bar_4 : or_T := (103, 12, [(0, (2, 0, 0, [9])), (3, (0, 0, 23, [])), (4, (0, 1, 9, [])), (6, (0, -6000, 11999, [])), (7, (0, -6009, 11998, [])), (8, (2, 0, 0, [3])), (9, (2, 0, 0, [0])), (10, (0, -5999, 12008, []))], [(7, [7, 10], [5]), (1, [10, 6, 4], []), (20, [0, 8, 9], [60, 5, 3, 839, 2, 3, 4, 5, 1000, 1004, 2002, 2003]), (20, [4, 8, 3], [50, 0, 1, 1004, 1, 2, 1, 0, 4, 5, 3, 1, 4, 1, 2, 0, 1]), (20, [3, 8], [50, 1, 0, 1000, 2, 6, 0, 2, 0, 0, 1, 0, 0, 6, 4, 2, 1, 0, 0, 1, 2, 1, 0]), (20, [6, 4], [61, 0, 843]), (20, [6, 7, 4], [50, 0, 0, 0, 2, 1, 0, 4, 2, 1, 1, 1, 2])], [(7, (0, 0, 5999, []))], [], [], [], [(7, 10, -4294967296, 0), (10, 4, -6000, 11999), (10, 6, 1, 9), (10, 7, -4294967296, 18), (6, 7, -4294967296, 9)])
theorem oo_Ro_bar_4 {kA : Nat → ClassId} : or_ok PRD kA GG o_Ro_bar_4 := by
  refine or_mk fun A ta ws vs hD hth hl => ?_
  intro t0 r0 t3 k3 t4 k4 t6 k6 t7 k7 t8 r8 t9 r9 t10 k10 d0 d1 d2 d3 d4 f0 f1 f2 f3 f4 f5 f6
  have hrf0 : 0 ≤ v_iv (n_v vs 7) ∧ v_iv (n_v vs 7) ≤ 5999 := vc_Ro_bar_4_r0 (v_iv (n_v vs 3)) (v_iv (n_v vs 4)) (v_iv (n_v vs 6)) (v_iv (n_v vs 7)) (v_iv (n_v vs 10)) (w_ei ws (w_ar ws (n_v vs 8) 4)) k3 k4 k6 k7 k10 d0 d3 (shm_12 f1) (shm_395 f3) (shm_1086 f5) (shm_1087 f6)
  have rf7 : tv_ok ta (0, 0, 5999, []) (n_v vs 7) := tv_in t7 (by first | omega | grind) (by first | omega | grind)
  refine ⟨List.forall_mem_cons.mpr ⟨rf7, (fun _ h => (by cases h))⟩, [], trivial, ?_, (fun _ h => (by cases h))⟩
  rw [List.append_nil]
  exact (fun _ h => (by cases h))
set_option maxHeartbeats 4000000 in
theorem vc_Ro_bar_5_0 (x3 : Int) (x4 : Int) (x6 : Int) (x7 : Int) (x10 : Int) (x13 : Int) (nameLength_0o8 : Int → Int) (x_0o9 : Int → Int) (y_0o9 : Int → Int) (left_0 : Int) (top_0 : Int) (width_0 : Int) (height_0 : Int) (nodes_0o8 : Int) (nameLength_1o8 : Int → Int) (x_1o9 : Int → Int) (y_1o9 : Int → Int) (left_1 : Int) (top_1 : Int) (width_1 : Int) (height_1 : Int) (nodes_1o8 : Int) (k3 : 0 ≤ x3 ∧ x3 ≤ 23) (k4 : 1 ≤ x4 ∧ x4 ≤ 9) (k6 : (-6000) ≤ x6 ∧ x6 ≤ 11999) (k7 : 0 ≤ x7 ∧ x7 ≤ 5999) (k10 : (-5999) ≤ x10 ∧ x10 ≤ 12008) (k13 : 1 ≤ x13 ∧ x13 ≤ 6000) (d0 : x7 + 1 ≤ x13 ∧ x13 ≤ x7 + 1) (f3 : x4 = (nameLength_0o8 (x3) + 1)) (f6 : x6 ≤ (x7 + x4)) (f9 : x10 = x6 + x4) (fe_0_2_1 : left_0 = left_1) (fe_0_3_1 : top_0 = top_1) (fe_0_4_1 : width_0 = width_1) (fe_0_5_1 : height_0 = height_1) (fe_8_0_1 : nodes_0o8 = nodes_1o8) (hE_8_4_1 : ∀ j : Int, nameLength_0o8 j = nameLength_1o8 j) (hE_9_2_1 : ∀ j : Int, x_0o9 j = x_1o9 j) (hE_9_3_1 : ∀ j : Int, y_0o9 j = y_1o9 j) (kz_0_2 : (-40000011) ≤ left_0 ∧ left_0 ≤ 1000000000) (kz_0_3 : (-40000003) ≤ top_0 ∧ top_0 ≤ 1000000000) (kz_0_4 : (-2147483648) ≤ width_0 ∧ width_0 ≤ 2147483647) (kz_0_5 : (-2147483648) ≤ height_0 ∧ height_0 ≤ 2147483647) (kz_8_0 : 0 ≤ nodes_0o8 ∧ nodes_0o8 ≤ 24) : x6 ≤ (x13 + x4) := by
  subst fe_0_2_1
  subst fe_0_3_1
  subst fe_0_4_1
  subst fe_0_5_1
  subst fe_8_0_1
  have e_hE_8_4_1 := funext hE_8_4_1; subst e_hE_8_4_1
  have e_hE_9_2_1 := funext hE_9_2_1; subst e_hE_9_2_1
  have e_hE_9_3_1 := funext hE_9_3_1; subst e_hE_9_3_1
  first
    | omega
  
def o_Ro_bar_5 : or_T := (89, 14, [(0, (2, 0, 0, [9])), (3, (0, 0, 23, [])), (4, (0, 1, 9, [])), (6, (0, -6000, 11999, [])), (7, (0, 0, 5999, [])), (8, (2, 0, 0, [3])), (9, (2, 0, 0, [0])), (10, (0, -5999, 12008, [])), (11, (2, 0, 0, [111])), (13, (0, 1, 6000, []))], [(9, [11, 0], [9]), (6, [13, 7], [1]), (20, [0, 8, 9], [60, 5, 3, 839, 2, 3, 4, 5, 1000, 1004, 2002, 2003]), (20, [4, 8, 3], [50, 0, 1, 1004, 1, 2, 1, 0, 4, 5, 3, 1, 4, 1, 2, 0, 1]), (20, [3, 8], [50, 1, 0, 1000, 2, 6, 0, 2, 0, 0, 1, 0, 0, 6, 4, 2, 1, 0, 0, 1, 2, 1, 0]), (20, [6, 4], [61, 0, 843]), (20, [6, 7, 4], [50, 0, 0, 0, 2, 1, 0, 4, 2, 1, 1, 1, 2]), (100, [11, 7, 12], []), (7, [7, 10], [5]), (1, [10, 6, 4], []), (20, [0, 8, 9], [60, 5, 3, 839, 2, 3, 4, 5, 1000, 1004, 2002, 2003]), (20, [4, 8, 3], [50, 0, 1, 1004, 1, 2, 1, 0, 4, 5, 3, 1, 4, 1, 2, 0, 1]), (20, [3, 8], [50, 1, 0, 1000, 2, 6, 0, 2, 0, 0, 1, 0, 0, 6, 4, 2, 1, 0, 0, 1, 2, 1, 0]), (20, [6, 4], [61, 0, 843]), (20, [6, 7, 4], [50, 0, 0, 0, 2, 1, 0, 4, 2, 1, 1, 1, 2])], [], [], [(20, [6, 13, 4], [50, 0, 0, 0, 2, 1, 0, 4, 2, 1, 1, 1, 2])], [], [(13, 7, 1, 1), (13, 10, -4294967296, 1), (7, 10, -4294967296, 0), (10, 4, -6000, 11999), (10, 6, 1, 9), (10, 7, -4294967296, 18), (6, 7, -4294967296, 9)])
theorem oo_Ro_bar_5 {kA : Nat → ClassId} : or_ok PRD kA GG o_Ro_bar_5 := by
  refine or_mk fun A ta ws vs hD hth hl => ?_
  intro t0 r0 t3 k3 t4 k4 t6 k6 t7 k7 t8 r8 t9 r9 t10 k10 t11 r11 t13 k13 d0 d1 d2 d3 d4 d5 d6 f0 f1 f2 f3 f4 f5 f6 ta1 w1 le1 s1 f8 f9 f10 f11 f12 f13 f14
  have s1 : (∀ b j, w_el ws b j = if b = v_ad (n_v vs 11) ∧ j = (v_iv (n_v vs 7)).toNat then v_iv (n_v vs 12) else w_el w1 b j) ∧ ∀ b k, w_fd ws b k = w_fd w1 b k := s1.2
  have cr_8_4 := fdq_5 hD hth r8
  have cr_9_2 := fdq_51 hD hth r9
  have cr_9_3 := fdq_54 hD hth r9
  have fe_0_2_1 : w_fi ws (n_v vs 0) 2 = w_fi w1 (n_v vs 0) 2 := congrArg v_iv (s1.2 _ _)
  have fe_0_3_1 : w_fi ws (n_v vs 0) 3 = w_fi w1 (n_v vs 0) 3 := congrArg v_iv (s1.2 _ _)
  have fe_0_4_1 : w_fi ws (n_v vs 0) 4 = w_fi w1 (n_v vs 0) 4 := congrArg v_iv (s1.2 _ _)
  have fe_0_5_1 : w_fi ws (n_v vs 0) 5 = w_fi w1 (n_v vs 0) 5 := congrArg v_iv (s1.2 _ _)
  have fe_8_0_1 : w_fi ws (n_v vs 8) 0 = w_fi w1 (n_v vs 8) 0 := congrArg v_iv (s1.2 _ _)
  have hE_8_4_1 : ∀ j : Int, w_ei ws (w_ar ws (n_v vs 8) 4) j = w_ei w1 (w_ar ws (n_v vs 8) 4) j := el_kp s1.1 r11 cr_8_4 (by decide)
  have hE_9_2_1 : ∀ j : Int, w_ei ws (w_ar ws (n_v vs 9) 2) j = w_ei w1 (w_ar ws (n_v vs 9) 2) j := el_kp s1.1 r11 cr_9_2 (by decide)
  have hE_9_3_1 : ∀ j : Int, w_ei ws (w_ar ws (n_v vs 9) 3) j = w_ei w1 (w_ar ws (n_v vs 9) 3) j := el_kp s1.1 r11 cr_9_3 (by decide)
  have kz_0_2 := fdq_105 hD hth r0
  have kz_0_3 := fdq_106 hD hth r0
  have kz_0_4 := fdq_102 hD hth r0
  have kz_0_5 := fdq_103 hD hth r0
  have kz_8_0 := fdq_23 hD hth r8
  have nf0 : fc_1 PRD (20, [6, 13, 4], [50, 0, 0, 0, 2, 1, 0, 4, 2, 1, 1, 1, 2]) ws (vs) := ⟨nf_in hl rfl, sgq_1087 (vc_Ro_bar_5_0 (v_iv (n_v vs 3)) (v_iv (n_v vs 4)) (v_iv (n_v vs 6)) (v_iv (n_v vs 7)) (v_iv (n_v vs 10)) (v_iv (n_v vs 13)) (w_ei ws (w_ar ws (n_v vs 8) 4)) (w_ei ws (w_ar ws (n_v vs 9) 2)) (w_ei ws (w_ar ws (n_v vs 9) 3)) (w_fi ws (n_v vs 0) 2) (w_fi ws (n_v vs 0) 3) (w_fi ws (n_v vs 0) 4) (w_fi ws (n_v vs 0) 5) (w_fi ws (n_v vs 8) 0) (w_ei w1 (w_ar ws (n_v vs 8) 4)) (w_ei w1 (w_ar ws (n_v vs 9) 2)) (w_ei w1 (w_ar ws (n_v vs 9) 3)) (w_fi w1 (n_v vs 0) 2) (w_fi w1 (n_v vs 0) 3) (w_fi w1 (n_v vs 0) 4) (w_fi w1 (n_v vs 0) 5) (w_fi w1 (n_v vs 8) 0) k3 k4 k6 k7 k10 k13 d0 (shm_395 f3) (shm_1087 f6) (shm_12 f9) fe_0_2_1 fe_0_3_1 fe_0_4_1 fe_0_5_1 fe_8_0_1 hE_8_4_1 hE_9_2_1 hE_9_3_1 kz_0_2 kz_0_3 kz_0_4 kz_0_5 kz_8_0)⟩
  refine ⟨(fun _ h => (by cases h)), [], trivial, ?_, (fun _ h => (by cases h))⟩
  rw [List.append_nil]
  exact List.forall_mem_cons.mpr ⟨⟨show (20 : Nat) < 100 from by decide, nf0⟩, (fun _ h => (by cases h))⟩
def n_Ro_bar_an : List an_T := [(2, [(0, (2, 0, 0, [9])), (1, (0, 0, 23, [])), (2, (0, 0, 23, [])), (3, (0, 0, 6000, []))], [], (0, 0), [(0, 0, 99998), (1, 3, 6000), (0, 0, 100000), (0, 0, 0), (0, 0, 0), (0, 0, 0), (0, 0, 0)], [], [((0, 0), (2, 0, 0, [3])), ((0, 1), (2, 0, 0, [0]))], [], 0, [], [(20, [0, 4, 5], [60, 5, 3, 839, 2, 3, 4, 5, 1000, 1004, 2002, 2003])]), (24, [(0, (2, 0, 0, [9])), (1, (0, 0, 23, [])), (2, (0, 0, 23, [])), (3, (0, 0, 24, []))], [], (0, 0), [(0, 0, 99976), (1, 3, 24), (0, 0, 100000), (0, 0, 0), (0, 0, 0), (0, 0, 0), (0, 0, 0)], [], [((0, 0), (2, 0, 0, [3])), ((0, 1), (2, 0, 0, [0]))], [], 0, [], [(20, [0, 4, 5], [60, 5, 3, 839, 2, 3, 4, 5, 1000, 1004, 2002, 2003])]), (61, [(0, (2, 0, 0, [9])), (1, (0, 0, 23, [])), (2, (0, 0, 23, [])), (3, (0, 0, 23, [])), (4, (0, 1, 9, [])), (5, (0, (Int.negSucc 0), 2, []))], [], (0, 0), [(0, 0, 99976), (1, 3, 24), (0, 0, 99939), (1, 5, 2), (0, 0, 100000), (0, 0, 0), (0, 0, 0)], [], [((0, 0), (2, 0, 0, [3])), ((0, 1), (2, 0, 0, [0]))], [], 0, [], [(20, [0, 6, 7], [60, 5, 3, 839, 2, 3, 4, 5, 1000, 1004, 2002, 2003]), (20, [4, 6, 3], [50, 0, 1, 1004, 1, 2, 1, 0, 4, 5, 3, 1, 4, 1, 2, 0, 1]), (20, [3, 6], [50, 1, 0, 1000, 2, 6, 0, 2, 0, 0, 1, 0, 0, 6, 4, 2, 1, 0, 0, 1, 2, 1, 0])]), (89, [(0, (2, 0, 0, [9])), (1, (0, 0, 23, [])), (2, (0, 0, 23, [])), (3, (0, 0, 23, [])), (4, (0, 1, 9, [])), (5, (0, (Int.negSucc 0), 1, [])), (6, (0, (Int.negSucc 5999), 11999, [])), (7, (0, (Int.negSucc 6008), 11998, []))], [], (0, 0), [(0, 0, 99976), (1, 3, 24), (0, 0, 99939), (1, 5, 2), (0, 0, 99911), (1, 7, 11998), (0, 0, 100000)], [(6, 7, (Int.negSucc 999999999999), 9)], [((0, 0), (2, 0, 0, [3])), ((0, 1), (2, 0, 0, [0]))], [], 0, [], [(20, [0, 8, 9], [60, 5, 3, 839, 2, 3, 4, 5, 1000, 1004, 2002, 2003]), (20, [4, 8, 3], [50, 0, 1, 1004, 1, 2, 1, 0, 4, 5, 3, 1, 4, 1, 2, 0, 1]), (20, [3, 8], [50, 1, 0, 1000, 2, 6, 0, 2, 0, 0, 1, 0, 0, 6, 4, 2, 1, 0, 0, 1, 2, 1, 0]), (20, [6, 4], [61, 0, 843]), (20, [6, 7, 4], [50, 0, 0, 0, 2, 1, 0, 4, 2, 1, 1, 1, 2])])]
def t_Ro_bar_ct : ct_L := [(1, 87, e_Ro_pointOf), (1, 114, e_Gr_half)]
set_option maxRecDepth 100000 in
theorem c_Ro_bar {l : Launch} {D : va_G} {kA : Nat → ClassId} (h_Gr_half : ct_ok PRD l D kA GG y_Gr_half z_Gr_half e_Gr_half) (h_Ro_pointOf : ct_ok PRD l D kA GG y_Ro_pointOf z_Ro_pointOf e_Ro_pointOf) : ct_ok PRD l D kA GG y_Ro_bar z_Ro_bar e_Ro_bar := chk_all_ok (FT := [(9, 9, 0), (26, 9, 4), (41, 9, 9), (108, 3, 0)]) (PT := []) (CT := t_Ro_bar_ct) (KT := []) (NT := []) (AN := n_Ro_bar_an) (OT := [o_Ro_bar_0, o_Ro_bar_1, o_Ro_bar_2, o_Ro_bar_3, o_Ro_bar_4, o_Ro_bar_5]) 7 280 (List.forall_mem_cons.mpr ⟨oo_Ro_bar_0, List.forall_mem_cons.mpr ⟨oo_Ro_bar_1, List.forall_mem_cons.mpr ⟨oo_Ro_bar_2, List.forall_mem_cons.mpr ⟨oo_Ro_bar_3, List.forall_mem_cons.mpr ⟨oo_Ro_bar_4, List.forall_mem_cons.mpr ⟨oo_Ro_bar_5, List.forall_mem_nil _⟩⟩⟩⟩⟩⟩) (by decide +kernel) ⟨List.forall_mem_cons.mpr ⟨gf_Ro_9, List.forall_mem_cons.mpr ⟨gf_Ro_26, List.forall_mem_cons.mpr ⟨gf_Ro_41, List.forall_mem_cons.mpr ⟨gf_Ro_108, List.forall_mem_nil _⟩⟩⟩⟩, List.forall_mem_nil _, List.forall_mem_cons.mpr ⟨cl_virtual (y := y_Ro_pointOf) (ci := 9) rfl rfl ⟨_, _, rfl⟩ (by decide +kernel) h_Ro_pointOf wm_1943 wm_22 wm_1940 wm_1942 wv_9_2 ⟨by decide, by decide, by decide +kernel⟩ (by decide), List.forall_mem_cons.mpr ⟨cl_virtual (y := y_Gr_half) (ci := 3) rfl rfl ⟨_, _, rfl⟩ (by decide +kernel) h_Gr_half wm_1452 wm_3 wm_1932 wm_1450 wm_1451 ⟨by decide, by decide, by decide +kernel⟩ (by decide), List.forall_mem_nil _⟩⟩, List.forall_mem_nil _, List.forall_mem_nil _, GG_pl⟩ (by decide +kernel)
set_option maxHeartbeats 4000000 in
theorem vc_Ro_readWay_0_0 (x1 : Int) (x4 : Int) (start_0 : Int) (width_0 : Int) (height_0 : Int) (turns_0 : Int) (k1 : 0 ≤ x1 ∧ x1 ≤ 5999) (k4 : 0 ≤ x4 ∧ x4 ≤ 0) (g0 : x1 = start_0) (f1 : (1 ≤ width_0) ∧ ((1 ≤ height_0) ∧ ((width_0 * height_0) ≤ 6000))) (f2 : (start_0 + 1) ≤ (width_0 * height_0)) (f3 : 1 * turns_0 + 0 ≤ 0) (kz_0_4 : (-2147483648) ≤ width_0 ∧ width_0 ≤ 2147483647) (kz_0_5 : (-2147483648) ≤ height_0 ∧ height_0 ≤ 2147483647) (kz_0_6 : 0 ≤ start_0 ∧ start_0 ≤ 5999) (kz_0_17 : 0 ≤ turns_0 ∧ turns_0 ≤ 6000) : (x1 + 1) ≤ (width_0 * height_0) := by
  first | assumption | omega | grind
set_option maxHeartbeats 4000000 in
theorem vc_Ro_readWay_0_1 (x1 : Int) (x4 : Int) (start_0 : Int) (width_0 : Int) (height_0 : Int) (turns_0 : Int) (k1 : 0 ≤ x1 ∧ x1 ≤ 5999) (k4 : 0 ≤ x4 ∧ x4 ≤ 0) (g0 : x1 = start_0) (f1 : (1 ≤ width_0) ∧ ((1 ≤ height_0) ∧ ((width_0 * height_0) ≤ 6000))) (f2 : (start_0 + 1) ≤ (width_0 * height_0)) (f3 : 1 * turns_0 + 0 ≤ 0) (kz_0_4 : (-2147483648) ≤ width_0 ∧ width_0 ≤ 2147483647) (kz_0_5 : (-2147483648) ≤ height_0 ∧ height_0 ≤ 2147483647) (kz_0_6 : 0 ≤ start_0 ∧ start_0 ≤ 5999) (kz_0_17 : 0 ≤ turns_0 ∧ turns_0 ≤ 6000) : 1 * turns_0 + ((-1) * x4 + 0) ≤ 0 := by
  first | assumption | omega | grind
def o_Ro_readWay_0 : or_T := (15, 5, [(0, (2, 0, 0, [9])), (1, (0, 0, 5999, [])), (4, (0, 0, 0, []))], [(9, [1, 0], [6]), (20, [0], [50, 2, 0, 4, 5, 2, 7, 0, 2, 0, 1, 2, 0, 4, 2, 7, 0, 2, 0, 1, 2, 0, 5, 0, 8, 6, 3, 2, 0, 4, 2, 0, 5, 0, 6000]), (20, [0], [50, 3, 0, 6, 4, 5, 0, 7, 4, 3, 2, 0, 6, 0, 1, 6, 3, 2, 0, 4, 2, 0, 5]), (20, [0], [30, 0, 1, 1, 17])], [], [], [(20, [1, 0], [50, 2, 0, 1004, 1005, 0, 6, 4, 2, 1, 0, 0, 1, 6, 3, 2, 1, 4, 2, 1, 5]), (20, [0, 4], [30, 0, 1, 1, 17, -1, 0, 0])], [], [])
theorem oo_Ro_readWay_0 {kA : Nat → ClassId} : or_ok PRD kA GG o_Ro_readWay_0 := by
  refine or_mk fun A ta ws vs hD hth hl => ?_
  intro t0 r0 t1 k1 t4 k4 f0 f1 f2 f3
  replace f0 := shm_110 f0
  have g0 : v_iv (n_v vs 1) = w_fi ws (n_v vs 0) 6 := congrArg v_iv f0
  have kz_0_4 := fdq_102 hD hth r0
  have kz_0_5 := fdq_103 hD hth r0
  have kz_0_6 := fdq_259 hD hth r0
  have kz_0_17 := fdq_260 hD hth r0
  have nf0 : fc_1 PRD (20, [1, 0], [50, 2, 0, 1004, 1005, 0, 6, 4, 2, 1, 0, 0, 1, 6, 3, 2, 1, 4, 2, 1, 5]) ws (vs) := ⟨nf_in hl rfl, sgq_461 (vc_Ro_readWay_0_0 (v_iv (n_v vs 1)) (v_iv (n_v vs 4)) (w_fi ws (n_v vs 0) 6) (w_fi ws (n_v vs 0) 4) (w_fi ws (n_v vs 0) 5) (w_fi ws (n_v vs 0) 17) k1 k4 g0 (shm_460 f1) (shm_1088 f2) (shm_1089 f3) kz_0_4 kz_0_5 kz_0_6 kz_0_17)⟩
  have nf1 : fc_1 PRD (20, [0, 4], [30, 0, 1, 1, 17, -1, 0, 0]) ws (vs) := ⟨nf_in hl rfl, sgq_1090 (vc_Ro_readWay_0_1 (v_iv (n_v vs 1)) (v_iv (n_v vs 4)) (w_fi ws (n_v vs 0) 6) (w_fi ws (n_v vs 0) 4) (w_fi ws (n_v vs 0) 5) (w_fi ws (n_v vs 0) 17) k1 k4 g0 (shm_460 f1) (shm_1088 f2) (shm_1089 f3) kz_0_4 kz_0_5 kz_0_6 kz_0_17)⟩
  refine ⟨(fun _ h => (by cases h)), [], trivial, ?_, (fun _ h => (by cases h))⟩
  rw [List.append_nil]
  exact List.forall_mem_cons.mpr ⟨⟨show (20 : Nat) < 100 from by decide, nf0⟩, List.forall_mem_cons.mpr ⟨⟨show (20 : Nat) < 100 from by decide, nf1⟩, (fun _ h => (by cases h))⟩⟩
set_option maxHeartbeats 4000000 in
theorem vc_Ro_readWay_1_0 (x1 : Int) (x4 : Int) (x6 : Int) (x7 : Int) (x10 : Int) (x11 : Int) (x17 : Int) (width_0 : Int) (height_0 : Int) (goal_0 : Int) (turns_0 : Int) (k1 : 0 ≤ x1 ∧ x1 ≤ 5999) (k4 : 0 ≤ x4 ∧ x4 ≤ 5999) (k6 : 6000 ≤ x6 ∧ x6 ≤ 6000) (k7 : 0 ≤ x7 ∧ x7 ≤ 5999) (k10 : 0 ≤ x10 ∧ x10 ≤ 5999) (k11 : (-1) ≤ x11 ∧ x11 ≤ (-1)) (k17 : 1 ≤ x17 ∧ x17 ≤ 6000) (d0 : x4 + 1 ≤ x17 ∧ x17 ≤ x4 + 1) (f0 : x17 = x4 + 1) (f1 : x10 ≠ x11) (f2 : (x10 = (-1)) ∨ ((0 ≤ x10) ∧ ((x10 + 1) ≤ (width_0 * height_0)))) (f3 : x1 ≠ x7) (g4 : x7 = goal_0) (f5 : x4 < x6) (f6 : (1 ≤ width_0) ∧ ((1 ≤ height_0) ∧ ((width_0 * height_0) ≤ 6000))) (f7 : (x1 + 1) ≤ (width_0 * height_0)) (f8 : 1 * turns_0 + ((-1) * x4 + 0) ≤ 0) (kz_0_4 : (-2147483648) ≤ width_0 ∧ width_0 ≤ 2147483647) (kz_0_5 : (-2147483648) ≤ height_0 ∧ height_0 ≤ 2147483647) (kz_0_7 : 0 ≤ goal_0 ∧ goal_0 ≤ 5999) (kz_0_17 : 0 ≤ turns_0 ∧ turns_0 ≤ 6000) : (x10 + 1) ≤ (width_0 * height_0) := by
  first | assumption | (clear f2; omega) | omega | grind
set_option maxHeartbeats 4000000 in
theorem vc_Ro_readWay_1_1 (x1 : Int) (x4 : Int) (x6 : Int) (x7 : Int) (x10 : Int) (x11 : Int) (x17 : Int) (width_0 : Int) (height_0 : Int) (goal_0 : Int) (turns_0 : Int) (k1 : 0 ≤ x1 ∧ x1 ≤ 5999) (k4 : 0 ≤ x4 ∧ x4 ≤ 5999) (k6 : 6000 ≤ x6 ∧ x6 ≤ 6000) (k7 : 0 ≤ x7 ∧ x7 ≤ 5999) (k10 : 0 ≤ x10 ∧ x10 ≤ 5999) (k11 : (-1) ≤ x11 ∧ x11 ≤ (-1)) (k17 : 1 ≤ x17 ∧ x17 ≤ 6000) (d0 : x4 + 1 ≤ x17 ∧ x17 ≤ x4 + 1) (f0 : x17 = x4 + 1) (f1 : x10 ≠ x11) (f2 : (x10 = (-1)) ∨ ((0 ≤ x10) ∧ ((x10 + 1) ≤ (width_0 * height_0)))) (f3 : x1 ≠ x7) (g4 : x7 = goal_0) (f5 : x4 < x6) (f6 : (1 ≤ width_0) ∧ ((1 ≤ height_0) ∧ ((width_0 * height_0) ≤ 6000))) (f7 : (x1 + 1) ≤ (width_0 * height_0)) (f8 : 1 * turns_0 + ((-1) * x4 + 0) ≤ 0) (kz_0_4 : (-2147483648) ≤ width_0 ∧ width_0 ≤ 2147483647) (kz_0_5 : (-2147483648) ≤ height_0 ∧ height_0 ≤ 2147483647) (kz_0_7 : 0 ≤ goal_0 ∧ goal_0 ≤ 5999) (kz_0_17 : 0 ≤ turns_0 ∧ turns_0 ≤ 6000) : 1 * turns_0 + ((-1) * x17 + 0) ≤ 0 := by
  first | assumption | (clear f2; omega) | omega | grind
def o_Ro_readWay_1 : or_T := (15, 18, [(0, (2, 0, 0, [9])), (1, (0, 0, 5999, [])), (4, (0, 0, 5999, [])), (6, (0, 6000, 6000, [])), (7, (0, 0, 5999, [])), (10, (0, 0, 5999, [])), (11, (0, -1, -1, [])), (17, (0, 1, 6000, []))], [(6, [17, 4], [1]), (7, [10, 11], [1]), (20, [10, 0], [50, 2, 0, 1004, 1005, 3, 6, 1, 2, 1, 0, 0, -1, 2, 6, 0, 2, 0, 0, 1, 0, 0, 6, 4, 2, 1, 0, 0, 1, 6, 3, 2, 1, 4, 2, 1, 5]), (7, [1, 7], [1]), (9, [7, 0], [7]), (7, [4, 6], [2]), (20, [0], [50, 2, 0, 4, 5, 2, 7, 0, 2, 0, 1, 2, 0, 4, 2, 7, 0, 2, 0, 1, 2, 0, 5, 0, 8, 6, 3, 2, 0, 4, 2, 0, 5, 0, 6000]), (20, [1, 0], [50, 2, 0, 1004, 1005, 0, 6, 4, 2, 1, 0, 0, 1, 6, 3, 2, 1, 4, 2, 1, 5]), (20, [0, 4], [30, 0, 1, 1, 17, -1, 0, 0])], [], [], [(20, [10, 0], [50, 2, 0, 1004, 1005, 0, 6, 4, 2, 1, 0, 0, 1, 6, 3, 2, 1, 4, 2, 1, 5]), (20, [0, 17], [30, 0, 1, 1, 17, -1, 0, 0])], [], [(17, 4, 1, 1)])
theorem oo_Ro_readWay_1 {kA : Nat → ClassId} : or_ok PRD kA GG o_Ro_readWay_1 := by
  refine or_mk fun A ta ws vs hD hth hl => ?_
  intro t0 r0 t1 k1 t4 k4 t6 k6 t7 k7 t10 k10 t11 k11 t17 k17 d0 f0 f1 f2 f3 f4 f5 f6 f7 f8
  replace f4 := shm_216 f4
  have g4 : v_iv (n_v vs 7) = w_fi ws (n_v vs 0) 7 := congrArg v_iv f4
  have kz_0_4 := fdq_102 hD hth r0
  have kz_0_5 := fdq_103 hD hth r0
  have kz_0_7 := fdq_261 hD hth r0
  have kz_0_17 := fdq_260 hD hth r0
  have nf0 : fc_1 PRD (20, [10, 0], [50, 2, 0, 1004, 1005, 0, 6, 4, 2, 1, 0, 0, 1, 6, 3, 2, 1, 4, 2, 1, 5]) ws (vs) := ⟨nf_in hl rfl, sgq_461 (vc_Ro_readWay_1_0 (v_iv (n_v vs 1)) (v_iv (n_v vs 4)) (v_iv (n_v vs 6)) (v_iv (n_v vs 7)) (v_iv (n_v vs 10)) (v_iv (n_v vs 11)) (v_iv (n_v vs 17)) (w_fi ws (n_v vs 0) 4) (w_fi ws (n_v vs 0) 5) (w_fi ws (n_v vs 0) 7) (w_fi ws (n_v vs 0) 17) k1 k4 k6 k7 k10 k11 k17 d0 (shm_4 f0) (shm_40 f1) (shm_463 f2) (shm_40 f3) g4 (shm_6 f5) (shm_460 f6) (shm_461 f7) (shm_1090 f8) kz_0_4 kz_0_5 kz_0_7 kz_0_17)⟩
  have nf1 : fc_1 PRD (20, [0, 17], [30, 0, 1, 1, 17, -1, 0, 0]) ws (vs) := ⟨nf_in hl rfl, sgq_1090 (vc_Ro_readWay_1_1 (v_iv (n_v vs 1)) (v_iv (n_v vs 4)) (v_iv (n_v vs 6)) (v_iv (n_v vs 7)) (v_iv (n_v vs 10)) (v_iv (n_v vs 11)) (v_iv (n_v vs 17)) (w_fi ws (n_v vs 0) 4) (w_fi ws (n_v vs 0) 5) (w_fi ws (n_v vs 0) 7) (w_fi ws (n_v vs 0) 17) k1 k4 k6 k7 k10 k11 k17 d0 (shm_4 f0) (shm_40 f1) (shm_463 f2) (shm_40 f3) g4 (shm_6 f5) (shm_460 f6) (shm_461 f7) (shm_1090 f8) kz_0_4 kz_0_5 kz_0_7 kz_0_17)⟩
  refine ⟨(fun _ h => (by cases h)), [], trivial, ?_, (fun _ h => (by cases h))⟩
  rw [List.append_nil]
  exact List.forall_mem_cons.mpr ⟨⟨show (20 : Nat) < 100 from by decide, nf0⟩, List.forall_mem_cons.mpr ⟨⟨show (20 : Nat) < 100 from by decide, nf1⟩, (fun _ h => (by cases h))⟩⟩
set_option maxHeartbeats 4000000 in
theorem vc_Ro_readWay_2_r0 (x1 : Int) (x4 : Int) (x5 : Int) (x6 : Int) (x7 : Int) (x10 : Int) (x11 : Int) (x12 : Int) (turns_0 : Int) (goal_0 : Int) (width_0 : Int) (height_0 : Int) (k1 : 0 ≤ x1 ∧ x1 ≤ 5999) (k4 : 0 ≤ x4 ∧ x4 ≤ 5999) (k5 : 24 ≤ x5 ∧ x5 ≤ 6000) (k6 : 6000 ≤ x6 ∧ x6 ≤ 6000) (k7 : 0 ≤ x7 ∧ x7 ≤ 5999) (k10 : 24 ≤ x10 ∧ x10 ≤ 24) (k11 : 1 ≤ x11 ∧ x11 ≤ 1) (k12 : 25 ≤ x12 ∧ x12 ≤ 6001) (d0 : x5 + 1 ≤ x12 ∧ x12 ≤ x5 + 1) (f0 : x12 = x5 + x11) (g1 : x5 = turns_0) (f2 : x10 ≤ x5) (f3 : x1 ≠ x7) (g4 : x7 = goal_0) (f5 : x4 < x6) (f6 : (1 ≤ width_0) ∧ ((1 ≤ height_0) ∧ ((width_0 * height_0) ≤ 6000))) (f7 : (x1 + 1) ≤ (width_0 * height_0)) (f8 : 1 * turns_0 + ((-1) * x4 + 0) ≤ 0) (kz_0_4 : (-2147483648) ≤ width_0 ∧ width_0 ≤ 2147483647) (kz_0_5 : (-2147483648) ≤ height_0 ∧ height_0 ≤ 2147483647) (kz_0_7 : 0 ≤ goal_0 ∧ goal_0 ≤ 5999) (kz_0_17 : 0 ≤ turns_0 ∧ turns_0 ≤ 6000) : 25 ≤ x12 ∧ x12 ≤ 6000 := by
  first | assumption | omega | grind
def o_Ro_readWay_2 : or_T := (107, 13, [(0, (2, 0, 0, [9])), (1, (0, 0, 5999, [])), (4, (0, 0, 5999, [])), (5, (0, 24, 6000, [])), (6, (0, 6000, 6000, [])), (7, (0, 0, 5999, [])), (10, (0, 24, 24, [])), (11, (0, 1, 1, [])), (12, (0, 25, 6001, []))], [(1, [12, 5, 11], []), (9, [5, 0], [17]), (7, [5, 10], [3]), (7, [1, 7], [1]), (9, [7, 0], [7]), (7, [4, 6], [2]), (20, [0], [50, 2, 0, 4, 5, 2, 7, 0, 2, 0, 1, 2, 0, 4, 2, 7, 0, 2, 0, 1, 2, 0, 5, 0, 8, 6, 3, 2, 0, 4, 2, 0, 5, 0, 6000]), (20, [1, 0], [50, 2, 0, 1004, 1005, 0, 6, 4, 2, 1, 0, 0, 1, 6, 3, 2, 1, 4, 2, 1, 5]), (20, [0, 4], [30, 0, 1, 1, 17, -1, 0, 0])], [(12, (0, 25, 6000, []))], [], [], [], [(12, 5, 1, 1)])
theorem oo_Ro_readWay_2 {kA : Nat → ClassId} : or_ok PRD kA GG o_Ro_readWay_2 := by
  refine or_mk fun A ta ws vs hD hth hl => ?_
  intro t0 r0 t1 k1 t4 k4 t5 k5 t6 k6 t7 k7 t10 k10 t11 k11 t12 k12 d0 f0 f1 f2 f3 f4 f5 f6 f7 f8
  replace f1 := shm_781 f1
  replace f4 := shm_216 f4
  have g1 : v_iv (n_v vs 5) = w_fi ws (n_v vs 0) 17 := congrArg v_iv f1
  have g4 : v_iv (n_v vs 7) = w_fi ws (n_v vs 0) 7 := congrArg v_iv f4
  have kz_0_4 := fdq_102 hD hth r0
  have kz_0_5 := fdq_103 hD hth r0
  have kz_0_7 := fdq_261 hD hth r0
  have kz_0_17 := fdq_260 hD hth r0
  have hrf0 : 25 ≤ v_iv (n_v vs 12) ∧ v_iv (n_v vs 12) ≤ 6000 := vc_Ro_readWay_2_r0 (v_iv (n_v vs 1)) (v_iv (n_v vs 4)) (v_iv (n_v vs 5)) (v_iv (n_v vs 6)) (v_iv (n_v vs 7)) (v_iv (n_v vs 10)) (v_iv (n_v vs 11)) (v_iv (n_v vs 12)) (w_fi ws (n_v vs 0) 17) (w_fi ws (n_v vs 0) 7) (w_fi ws (n_v vs 0) 4) (w_fi ws (n_v vs 0) 5) k1 k4 k5 k6 k7 k10 k11 k12 d0 (shm_12 f0) g1 (shm_2 f2) (shm_40 f3) g4 (shm_6 f5) (shm_460 f6) (shm_461 f7) (shm_1090 f8) kz_0_4 kz_0_5 kz_0_7 kz_0_17
  have rf12 : tv_ok ta (0, 25, 6000, []) (n_v vs 12) := tv_in t12 (by first | omega | grind) (by first | omega | grind)
  refine ⟨List.forall_mem_cons.mpr ⟨rf12, (fun _ h => (by cases h))⟩, [], trivial, ?_, (fun _ h => (by cases h))⟩
  rw [List.append_nil]
  exact (fun _ h => (by cases h))
def o_Ro_readWay_3 : or_T := (15, 21, [(0, (2, 0, 0, [9])), (1, (0, 0, 5999, [])), (4, (0, 0, 5999, [])), (5, (0, 24, 6000, [])), (6, (0, 6000, 6000, [])), (7, (0, 0, 5999, [])), (10, (0, 24, 24, [])), (11, (0, 1, 1, [])), (12, (0, 25, 6000, [])), (13, (0, 0, 5999, [])), (14, (0, -1, -1, [])), (20, (0, 1, 6000, []))], [(6, [20, 4], [1]), (7, [13, 14], [1]), (20, [13, 0], [50, 2, 0, 1004, 1005, 3, 6, 1, 2, 1, 0, 0, -1, 2, 6, 0, 2, 0, 0, 1, 0, 0, 6, 4, 2, 1, 0, 0, 1, 6, 3, 2, 1, 4, 2, 1, 5]), (20, [0], [50, 2, 0, 4, 5, 2, 7, 0, 2, 0, 1, 2, 0, 4, 2, 7, 0, 2, 0, 1, 2, 0, 5, 0, 8, 6, 3, 2, 0, 4, 2, 0, 5, 0, 6000]), (20, [1, 0], [50, 2, 0, 1004, 1005, 0, 6, 4, 2, 1, 0, 0, 1, 6, 3, 2, 1, 4, 2, 1, 5]), (101, [0, 12], [17]), (1, [12, 5, 11], []), (9, [5, 0], [17]), (7, [5, 10], [3]), (7, [1, 7], [1]), (9, [7, 0], [7]), (7, [4, 6], [2]), (20, [0], [50, 2, 0, 4, 5, 2, 7, 0, 2, 0, 1, 2, 0, 4, 2, 7, 0, 2, 0, 1, 2, 0, 5, 0, 8, 6, 3, 2, 0, 4, 2, 0, 5, 0, 6000]), (20, [1, 0], [50, 2, 0, 1004, 1005, 0, 6, 4, 2, 1, 0, 0, 1, 6, 3, 2, 1, 4, 2, 1, 5]), (20, [0, 4], [30, 0, 1, 1, 17, -1, 0, 0])], [], [], [(20, [13, 0], [50, 2, 0, 1004, 1005, 0, 6, 4, 2, 1, 0, 0, 1, 6, 3, 2, 1, 4, 2, 1, 5]), (20, [0, 20], [30, 0, 1, 1, 17, -1, 0, 0])], [], [(20, 4, 1, 1), (12, 5, 1, 1)])
theorem oo_Ro_readWay_3 {kA : Nat → ClassId} : or_ok PRD kA GG o_Ro_readWay_3 := by
  refine or_mk fun A ta ws vs hD hth hl => ?_
  intro t0 r0 t1 k1 t4 k4 t5 k5 t6 k6 t7 k7 t10 k10 t11 k11 t12 k12 t13 k13 t14 k14 t20 k20 d0 d1 f0 f1 f2 f3 f4 ta1 w1 le1 s1 f6 f7 f8 f9 f10 f11 f12 f13 f14
  replace f0 := shm_4 f0
  replace f1 := shm_40 f1
  replace f2 := shm_463 f2
  replace f3 := shm_460 f3
  replace f4 := shm_461 f4
  have s1 : (∀ b j, w_el ws b j = w_el w1 b j) ∧ ∀ b j, w_fd ws b j = if b = v_ad (n_v vs 0) ∧ j = 17 then n_v vs 12 else w_fd w1 b j := s1.2
  replace f6 := shm_12 f6
  replace f7 := shm_781 f7
  replace f8 := shm_2 f8
  replace f9 := shm_40 f9
  replace f10 := shm_216 f10
  replace f11 := shm_6 f11
  replace f12 := shm_460 f12
  replace f13 := shm_461 f13
  replace f14 := shm_1090 f14
  have g7 : v_iv (n_v vs 5) = w_fi w1 (n_v vs 0) 17 := congrArg v_iv f7
  have g10 : v_iv (n_v vs 7) = w_fi w1 (n_v vs 0) 7 := congrArg v_iv f10
  have fe_0_4_1 : w_fi ws (n_v vs 0) 4 = w_fi w1 (n_v vs 0) 4 := by show v_iv (w_fd _ _ _) = v_iv (w_fd _ _ _); rw [s1.2, if_neg (fun e => absurd e.2 (by decide))]
  have fe_0_5_1 : w_fi ws (n_v vs 0) 5 = w_fi w1 (n_v vs 0) 5 := by show v_iv (w_fd _ _ _) = v_iv (w_fd _ _ _); rw [s1.2, if_neg (fun e => absurd e.2 (by decide))]
  have fe_0_7_1 : w_fi ws (n_v vs 0) 7 = w_fi w1 (n_v vs 0) 7 := by show v_iv (w_fd _ _ _) = v_iv (w_fd _ _ _); rw [s1.2, if_neg (fun e => absurd e.2 (by decide))]
  have fe_0_17_1 : w_fi ws (n_v vs 0) 17 = v_iv (n_v vs 12) := by show v_iv (w_fd _ _ _) = _; rw [s1.2, if_pos ⟨rfl, rfl⟩]
  have pe_0_4_5_1 : w_fi ws (n_v vs 0) 4 * w_fi ws (n_v vs 0) 5 = w_fi w1 (n_v vs 0) 4 * w_fi w1 (n_v vs 0) 5 := by rw [fe_0_4_1, fe_0_5_1]
  have kz_0_4 := fdq_102 hD hth r0
  have kz_0_5 := fdq_103 hD hth r0
  have kz_0_7 := fdq_261 hD hth r0
  have kz_0_17 := fdq_260 hD hth r0
  have nf0 : fc_1 PRD (20, [13, 0], [50, 2, 0, 1004, 1005, 0, 6, 4, 2, 1, 0, 0, 1, 6, 3, 2, 1, 4, 2, 1, 5]) ws (vs) := by
    refine ⟨nf_in hl rfl, sgq_461 ?_⟩
    · show (v_iv (n_v vs 13) + 1) ≤ (w_fi ws (n_v vs 0) 4 * w_fi ws (n_v vs 0) 5)
      first | omega | grind
  have nf1 : fc_1 PRD (20, [0, 20], [30, 0, 1, 1, 17, -1, 0, 0]) ws (vs) := by
    refine ⟨nf_in hl rfl, sgq_1090 ?_⟩
    · show 1 * w_fi ws (n_v vs 0) 17 + ((-1) * v_iv (n_v vs 20) + 0) ≤ 0
      omega
  refine ⟨(fun _ h => (by cases h)), [], trivial, ?_, (fun _ h => (by cases h))⟩
  rw [List.append_nil]
  exact List.forall_mem_cons.mpr ⟨⟨show (20 : Nat) < 100 from by decide, nf0⟩, List.forall_mem_cons.mpr ⟨⟨show (20 : Nat) < 100 from by decide, nf1⟩, (fun _ h => (by cases h))⟩⟩
def o_Ro_readWay_4 : or_T := (77, 14, [(0, (2, 0, 0, [9])), (1, (0, 0, 5999, [])), (4, (0, 0, 5999, [])), (5, (0, 0, 23, [])), (6, (0, 6000, 6000, [])), (7, (0, 0, 5999, [])), (10, (0, 24, 24, [])), (13, (0, -2147483648, 2147483647, []))], [(9, [13, 0], [4]), (9, [5, 0], [17]), (7, [5, 10], [2]), (7, [1, 7], [1]), (9, [7, 0], [7]), (7, [4, 6], [2]), (20, [0], [50, 2, 0, 4, 5, 2, 7, 0, 2, 0, 1, 2, 0, 4, 2, 7, 0, 2, 0, 1, 2, 0, 5, 0, 8, 6, 3, 2, 0, 4, 2, 0, 5, 0, 6000]), (20, [1, 0], [50, 2, 0, 1004, 1005, 0, 6, 4, 2, 1, 0, 0, 1, 6, 3, 2, 1, 4, 2, 1, 5]), (20, [0, 4], [30, 0, 1, 1, 17, -1, 0, 0])], [(13, (0, 1, 6000, []))], [], [], [], [])
theorem oo_Ro_readWay_4 {kA : Nat → ClassId} : or_ok PRD kA GG o_Ro_readWay_4 := by
  refine or_mk fun A ta ws vs hD hth hl => ?_
  intro t0 r0 t1 k1 t4 k4 t5 k5 t6 k6 t7 k7 t10 k10 t13 k13 f0 f1 f2 f3 f4 f5 f6 f7 f8
  replace f0 := shm_107 f0
  replace f1 := shm_781 f1
  replace f2 := shm_6 f2
  replace f3 := shm_40 f3
  replace f4 := shm_216 f4
  replace f5 := shm_6 f5
  replace f6 := shm_460 f6
  replace f7 := shm_461 f7
  replace f8 := shm_1090 f8
  have g0 : v_iv (n_v vs 13) = w_fi ws (n_v vs 0) 4 := congrArg v_iv f0
  have g1 : v_iv (n_v vs 5) = w_fi ws (n_v vs 0) 17 := congrArg v_iv f1
  have g4 : v_iv (n_v vs 7) = w_fi ws (n_v vs 0) 7 := congrArg v_iv f4
  have kz_0_4 := fdq_102 hD hth r0
  have kz_0_5 := fdq_103 hD hth r0
  have kz_0_7 := fdq_261 hD hth r0
  have kz_0_17 := fdq_260 hD hth r0
  have g1 := grid_bd (w := w_fi ws (n_v vs 0) 4) (h := w_fi ws (n_v vs 0) 5) (by omega) (by omega) (by omega)
  have rf13 : tv_ok ta (0, 1, 6000, []) (n_v vs 13) := tv_in t13 (by first | omega | grind) (by first | omega | grind)
  refine ⟨List.forall_mem_cons.mpr ⟨rf13, (fun _ h => (by cases h))⟩, [], trivial, ?_, (fun _ h => (by cases h))⟩
  rw [List.append_nil]
  exact (fun _ h => (by cases h))
def o_Ro_readWay_5 : or_T := (15, 30, [(0, (2, 0, 0, [9])), (1, (0, 0, 5999, [])), (4, (0, 0, 5999, [])), (5, (0, 0, 23, [])), (6, (0, 6000, 6000, [])), (7, (0, 0, 5999, [])), (10, (0, 24, 24, [])), (11, (2, 0, 0, [116])), (13, (0, 1, 6000, [])), (16, (2, 0, 0, [117])), (20, (0, 1, 1, [])), (21, (0, 1, 24, [])), (22, (0, 0, 5999, [])), (23, (0, -1, -1, [])), (29, (0, 1, 6000, []))], [(6, [29, 4], [1]), (7, [22, 23], [1]), (20, [22, 0], [50, 2, 0, 1004, 1005, 3, 6, 1, 2, 1, 0, 0, -1, 2, 6, 0, 2, 0, 0, 1, 0, 0, 6, 4, 2, 1, 0, 0, 1, 6, 3, 2, 1, 4, 2, 1, 5]), (20, [0], [50, 2, 0, 4, 5, 2, 7, 0, 2, 0, 1, 2, 0, 4, 2, 7, 0, 2, 0, 1, 2, 0, 5, 0, 8, 6, 3, 2, 0, 4, 2, 0, 5, 0, 6000]), (20, [1, 0], [50, 2, 0, 1004, 1005, 0, 6, 4, 2, 1, 0, 0, 1, 6, 3, 2, 1, 4, 2, 1, 5]), (101, [0, 21], [17]), (1, [21, 5, 20], []), (9, [5, 0], [17]), (20, [0], [50, 2, 0, 4, 5, 2, 7, 0, 2, 0, 1, 2, 0, 4, 2, 7, 0, 2, 0, 1, 2, 0, 5, 0, 8, 6, 3, 2, 0, 4, 2, 0, 5, 0, 6000]), (20, [1, 0], [50, 2, 0, 1004, 1005, 0, 6, 4, 2, 1, 0, 0, 1, 6, 3, 2, 1, 4, 2, 1, 5]), (20, [0, 4], [30, 0, 1, 1, 17, -1, 0, 0]), (100, [16, 5, 19], []), (9, [13, 0], [4]), (9, [16, 0], [16]), (20, [0], [50, 2, 0, 4, 5, 2, 7, 0, 2, 0, 1, 2, 0, 4, 2, 7, 0, 2, 0, 1, 2, 0, 5, 0, 8, 6, 3, 2, 0, 4, 2, 0, 5, 0, 6000]), (20, [1, 0], [50, 2, 0, 1004, 1005, 0, 6, 4, 2, 1, 0, 0, 1, 6, 3, 2, 1, 4, 2, 1, 5]), (20, [0, 4], [30, 0, 1, 1, 17, -1, 0, 0]), (100, [11, 5, 15], []), (9, [11, 0], [15]), (7, [5, 10], [2]), (7, [1, 7], [1]), (9, [7, 0], [7]), (7, [4, 6], [2]), (20, [0], [50, 2, 0, 4, 5, 2, 7, 0, 2, 0, 1, 2, 0, 4, 2, 7, 0, 2, 0, 1, 2, 0, 5, 0, 8, 6, 3, 2, 0, 4, 2, 0, 5, 0, 6000]), (20, [1, 0], [50, 2, 0, 1004, 1005, 0, 6, 4, 2, 1, 0, 0, 1, 6, 3, 2, 1, 4, 2, 1, 5]), (20, [0, 4], [30, 0, 1, 1, 17, -1, 0, 0])], [], [], [(20, [22, 0], [50, 2, 0, 1004, 1005, 0, 6, 4, 2, 1, 0, 0, 1, 6, 3, 2, 1, 4, 2, 1, 5]), (20, [0, 29], [30, 0, 1, 1, 17, -1, 0, 0])], [], [(29, 4, 1, 1), (21, 5, 1, 1)])
theorem oo_Ro_readWay_5 {kA : Nat → ClassId} : or_ok PRD kA GG o_Ro_readWay_5 := by
  refine or_mk fun A ta ws vs hD hth hl => ?_
  intro t0 r0 t1 k1 t4 k4 t5 k5 t6 k6 t7 k7 t10 k10 t11 r11 t13 k13 t16 r16 t20 k20 t21 k21 t22 k22 t23 k23 t29 k29 d0 d1 f0 f1 f2 f3 f4 ta1 w1 le1 s1 f6 f7 f8 f9 f10 ta2 w2 le2 s2 f12 f13 f14 f15 f16 ta3 w3 le3 s3 f18 f19 f20 f21 f22 f23 f24 f25
  replace f0 := shm_4 f0
  replace f1 := shm_40 f1
  replace f2 := shm_463 f2
  replace f3 := shm_460 f3
  replace f4 := shm_461 f4
  have s1 : (∀ b j, w_el ws b j = w_el w1 b j) ∧ ∀ b j, w_fd ws b j = if b = v_ad (n_v vs 0) ∧ j = 17 then n_v vs 21 else w_fd w1 b j := s1.2
  replace f6 := shm_12 f6
  replace f7 := shm_781 f7
  replace f8 := shm_460 f8
  replace f9 := shm_461 f9
  replace f10 := shm_1090 f10
  have s2 : (∀ b j, w_el w1 b j = if b = v_ad (n_v vs 16) ∧ j = (v_iv (n_v vs 5)).toNat then v_iv (n_v vs 19) else w_el w2 b j) ∧ ∀ b k, w_fd w1 b k = w_fd w2 b k := s2.2
  replace f12 := shm_107 f12
  replace f13 := shm_188 f13
  replace f14 := shm_460 f14
  replace f15 := shm_461 f15
  replace f16 := shm_1090 f16
  have s3 : (∀ b j, w_el w2 b j = if b = v_ad (n_v vs 11) ∧ j = (v_iv (n_v vs 5)).toNat then v_iv (n_v vs 15) else w_el w3 b j) ∧ ∀ b k, w_fd w2 b k = w_fd w3 b k := s3.2
  replace f18 := shm_189 f18
  replace f19 := shm_6 f19
  replace f20 := shm_40 f20
  replace f21 := shm_216 f21
  replace f22 := shm_6 f22
  replace f23 := shm_460 f23
  replace f24 := shm_461 f24
  replace f25 := shm_1090 f25
  have ar_0_15_1 : w_ar w1 (n_v vs 0) 15 = w_ar ws (n_v vs 0) 15 := by show v_ad (w_fd w1 _ _) = v_ad (w_fd ws _ _); rw [s1.2, if_neg (fun e => absurd e.2 (by decide))]
  have ar_0_15_2 : w_ar w2 (n_v vs 0) 15 = w_ar ws (n_v vs 0) 15 := by rw [← ar_0_15_1]; show v_ad (w_fd w2 _ _) = v_ad (w_fd w1 _ _); rw [s2.2]
  have ar_0_15_3 : w_ar w3 (n_v vs 0) 15 = w_ar ws (n_v vs 0) 15 := by rw [← ar_0_15_2]; show v_ad (w_fd w3 _ _) = v_ad (w_fd w2 _ _); rw [s3.2]
  have cr_0_15 := fdq_262 hD hth r0
  have ar_0_16_1 : w_ar w1 (n_v vs 0) 16 = w_ar ws (n_v vs 0) 16 := by show v_ad (w_fd w1 _ _) = v_ad (w_fd ws _ _); rw [s1.2, if_neg (fun e => absurd e.2 (by decide))]
  have ar_0_16_2 : w_ar w2 (n_v vs 0) 16 = w_ar ws (n_v vs 0) 16 := by rw [← ar_0_16_1]; show v_ad (w_fd w2 _ _) = v_ad (w_fd w1 _ _); rw [s2.2]
  have ar_0_16_3 : w_ar w3 (n_v vs 0) 16 = w_ar ws (n_v vs 0) 16 := by rw [← ar_0_16_2]; show v_ad (w_fd w3 _ _) = v_ad (w_fd w2 _ _); rw [s3.2]
  have cr_0_16 := fdq_263 hD hth r0
  have ad_16 : v_ad (n_v vs 16) = w_ar ws (n_v vs 0) 16 := (congrArg v_ad f13).trans ar_0_16_2
  have ad_11 : v_ad (n_v vs 11) = w_ar ws (n_v vs 0) 15 := (congrArg v_ad f18).trans ar_0_15_3
  have g7 : v_iv (n_v vs 5) = w_fi w1 (n_v vs 0) 17 := congrArg v_iv f7
  have g12 : v_iv (n_v vs 13) = w_fi w2 (n_v vs 0) 4 := congrArg v_iv f12
  have g21 : v_iv (n_v vs 7) = w_fi w3 (n_v vs 0) 7 := congrArg v_iv f21
  have fe_0_4_1 : w_fi ws (n_v vs 0) 4 = w_fi w1 (n_v vs 0) 4 := by show v_iv (w_fd _ _ _) = v_iv (w_fd _ _ _); rw [s1.2, if_neg (fun e => absurd e.2 (by decide))]
  have fe_0_5_1 : w_fi ws (n_v vs 0) 5 = w_fi w1 (n_v vs 0) 5 := by show v_iv (w_fd _ _ _) = v_iv (w_fd _ _ _); rw [s1.2, if_neg (fun e => absurd e.2 (by decide))]
  have fe_0_7_1 : w_fi ws (n_v vs 0) 7 = w_fi w1 (n_v vs 0) 7 := by show v_iv (w_fd _ _ _) = v_iv (w_fd _ _ _); rw [s1.2, if_neg (fun e => absurd e.2 (by decide))]
  have fe_0_17_1 : w_fi ws (n_v vs 0) 17 = v_iv (n_v vs 21) := by show v_iv (w_fd _ _ _) = _; rw [s1.2, if_pos ⟨rfl, rfl⟩]
  have fe_0_4_2 : w_fi w1 (n_v vs 0) 4 = w_fi w2 (n_v vs 0) 4 := congrArg v_iv (s2.2 _ _)
  have fe_0_5_2 : w_fi w1 (n_v vs 0) 5 = w_fi w2 (n_v vs 0) 5 := congrArg v_iv (s2.2 _ _)
  have fe_0_7_2 : w_fi w1 (n_v vs 0) 7 = w_fi w2 (n_v vs 0) 7 := congrArg v_iv (s2.2 _ _)
  have fe_0_17_2 : w_fi w1 (n_v vs 0) 17 = w_fi w2 (n_v vs 0) 17 := congrArg v_iv (s2.2 _ _)
  have fe_0_4_3 : w_fi w2 (n_v vs 0) 4 = w_fi w3 (n_v vs 0) 4 := congrArg v_iv (s3.2 _ _)
  have fe_0_5_3 : w_fi w2 (n_v vs 0) 5 = w_fi w3 (n_v vs 0) 5 := congrArg v_iv (s3.2 _ _)
  have fe_0_7_3 : w_fi w2 (n_v vs 0) 7 = w_fi w3 (n_v vs 0) 7 := congrArg v_iv (s3.2 _ _)
  have fe_0_17_3 : w_fi w2 (n_v vs 0) 17 = w_fi w3 (n_v vs 0) 17 := congrArg v_iv (s3.2 _ _)
  have pe_0_4_5_1 : w_fi ws (n_v vs 0) 4 * w_fi ws (n_v vs 0) 5 = w_fi w1 (n_v vs 0) 4 * w_fi w1 (n_v vs 0) 5 := by rw [fe_0_4_1, fe_0_5_1]
  have pe_0_4_5_2 : w_fi w1 (n_v vs 0) 4 * w_fi w1 (n_v vs 0) 5 = w_fi w2 (n_v vs 0) 4 * w_fi w2 (n_v vs 0) 5 := by rw [fe_0_4_2, fe_0_5_2]
  have pe_0_4_5_3 : w_fi w2 (n_v vs 0) 4 * w_fi w2 (n_v vs 0) 5 = w_fi w3 (n_v vs 0) 4 * w_fi w3 (n_v vs 0) 5 := by rw [fe_0_4_3, fe_0_5_3]
  have kz_0_4 := fdq_102 hD hth r0
  have kz_0_5 := fdq_103 hD hth r0
  have kz_0_7 := fdq_261 hD hth r0
  have kz_0_17 := fdq_260 hD hth r0
  have nf0 : fc_1 PRD (20, [22, 0], [50, 2, 0, 1004, 1005, 0, 6, 4, 2, 1, 0, 0, 1, 6, 3, 2, 1, 4, 2, 1, 5]) ws (vs) := by
    refine ⟨nf_in hl rfl, sgq_461 ?_⟩
    · show (v_iv (n_v vs 22) + 1) ≤ (w_fi ws (n_v vs 0) 4 * w_fi ws (n_v vs 0) 5)
      first | omega | grind
  have nf1 : fc_1 PRD (20, [0, 29], [30, 0, 1, 1, 17, -1, 0, 0]) ws (vs) := by
    refine ⟨nf_in hl rfl, sgq_1090 ?_⟩
    · show 1 * w_fi ws (n_v vs 0) 17 + ((-1) * v_iv (n_v vs 29) + 0) ≤ 0
      omega
  refine ⟨(fun _ h => (by cases h)), [], trivial, ?_, (fun _ h => (by cases h))⟩
  rw [List.append_nil]
  exact List.forall_mem_cons.mpr ⟨⟨show (20 : Nat) < 100 from by decide, nf0⟩, List.forall_mem_cons.mpr ⟨⟨show (20 : Nat) < 100 from by decide, nf1⟩, (fun _ h => (by cases h))⟩⟩
def n_Ro_readWay_an : List an_T := [(15, [(0, (2, 0, 0, [9])), (1, (0, 0, 5999, [])), (2, (0, (Int.negSucc 0), 3, [])), (3, (0, (Int.negSucc 2147483647), 1000000000, [])), (4, (0, 0, 6000, []))], [], (0, 0), [(0, 0, 99985), (1, 4, 6000), (0, 0, 100000)], [(2, 4, (Int.negSucc 999999999999), 2)], [((0, 17), (0, 0, 6000, []))], [], 0, [], [(20, [0], [50, 2, 0, 4, 5, 2, 7, 0, 2, 0, 1, 2, 0, 4, 2, 7, 0, 2, 0, 1, 2, 0, 5, 0, 8, 6, 3, 2, 0, 4, 2, 0, 5, 0, 6000]), (20, [1, 0], [50, 2, 0, 1004, 1005, 0, 6, 4, 2, 1, 0, 0, 1, 6, 3, 2, 1, 4, 2, 1, 5]), (20, [0, 4], [30, 0, 1, 1, 17, (Int.negSucc 0), 0, 0])])]
def t_Ro_readWay_ct : ct_L := [(1, 144, e_Ro_next), (1, 147, e_Ro_nextStep)]
set_option maxRecDepth 100000 in
theorem c_Ro_readWay {l : Launch} {D : va_G} {kA : Nat → ClassId} (h_Ro_next : ct_ok PRD l D kA GG y_Ro_next z_Ro_next e_Ro_next) (h_Ro_nextStep : ct_ok PRD l D kA GG y_Ro_nextStep z_Ro_nextStep e_Ro_nextStep) : ct_ok PRD l D kA GG y_Ro_readWay z_Ro_readWay e_Ro_readWay := chk_all_ok (FT := [(19, 9, 2), (23, 9, 3), (26, 9, 4), (32, 9, 6), (35, 9, 7), (38, 9, 8), (45, 9, 10), (62, 9, 15), (65, 9, 16), (68, 9, 17)]) (PT := [(68, 9, 17, .int)]) (CT := t_Ro_readWay_ct) (KT := []) (NT := []) (AN := n_Ro_readWay_an) (OT := [o_Ro_readWay_0, o_Ro_readWay_1, o_Ro_readWay_2, o_Ro_readWay_3, o_Ro_readWay_4, o_Ro_readWay_5]) 3 636 (List.forall_mem_cons.mpr ⟨oo_Ro_readWay_0, List.forall_mem_cons.mpr ⟨oo_Ro_readWay_1, List.forall_mem_cons.mpr ⟨oo_Ro_readWay_2, List.forall_mem_cons.mpr ⟨oo_Ro_readWay_3, List.forall_mem_cons.mpr ⟨oo_Ro_readWay_4, List.forall_mem_cons.mpr ⟨oo_Ro_readWay_5, List.forall_mem_nil _⟩⟩⟩⟩⟩⟩) (by decide +kernel) ⟨List.forall_mem_cons.mpr ⟨gf_Ro_19, List.forall_mem_cons.mpr ⟨gf_Ro_23, List.forall_mem_cons.mpr ⟨gf_Ro_26, List.forall_mem_cons.mpr ⟨gf_Ro_32, List.forall_mem_cons.mpr ⟨gf_Ro_35, List.forall_mem_cons.mpr ⟨gf_Ro_38, List.forall_mem_cons.mpr ⟨gf_Ro_45, List.forall_mem_cons.mpr ⟨gf_Ro_62, List.forall_mem_cons.mpr ⟨gf_Ro_65, List.forall_mem_cons.mpr ⟨gf_Ro_68, List.forall_mem_nil _⟩⟩⟩⟩⟩⟩⟩⟩⟩⟩, List.forall_mem_cons.mpr ⟨pf_Ro_68, List.forall_mem_nil _⟩, List.forall_mem_cons.mpr ⟨cl_virtual (y := y_Ro_next) (ci := 9) rfl rfl ⟨_, _, rfl⟩ (by decide +kernel) h_Ro_next wm_1961 wm_22 wm_1958 wm_1960 wv_9_6 ⟨by decide, by decide, by decide +kernel⟩ (by decide), List.forall_mem_cons.mpr ⟨cl_virtual (y := y_Ro_nextStep) (ci := 9) rfl rfl ⟨_, _, rfl⟩ (by decide +kernel) h_Ro_nextStep wm_1969 wm_22 wm_1966 wm_1968 wv_9_8 ⟨by decide, by decide, by decide +kernel⟩ (by decide), List.forall_mem_nil _⟩⟩, List.forall_mem_nil _, List.forall_mem_nil _, GG_pl⟩ (by decide +kernel)
set_option maxHeartbeats 4000000 in
theorem vc_Mo_barX_0_r0 (x1 : Int) (x4 : Int) (x5 : Int) (roundOf_0 : Int → Int) (pt_0 : Int → Int) (ph_0 : Int → Int) (alive_0 : Int → Int) (rotMany_0 : Int → Int) (rot_0 : Int → Int) (roundBegin_0 : Int → Int) (roundDart_0 : Int → Int) (pn_0 : Int) (pm_0 : Int) (rounds_0 : Int) (k1 : 1 ≤ x1 ∧ x1 ≤ 79) (k4 : 1 ≤ x4 ∧ x4 ≤ 159) (k5 : (-1) ≤ x5 ∧ x5 ≤ 159) (h0 : x5 = roundOf_0 (x4)) (f1 : 1 * x4 + ((-2) * x1 + 0) ≤ 1) (f2 : (-1) * x4 + (2 * x1 + 0) ≤ 0) (f5 : BRB (pn_0) (pm_0) (rounds_0) (pt_0) (ph_0) (alive_0) (rotMany_0) (rot_0) (roundOf_0) (roundBegin_0) (roundDart_0)) (f6 : 1 * x1 + ((-1) * pm_0 + 0) ≤ (-1)) (kz_0_31 : 0 ≤ pn_0 ∧ pn_0 ≤ 25) (kz_0_32 : 0 ≤ pm_0 ∧ pm_0 ≤ 80) (kz_0_53 : 0 ≤ rounds_0 ∧ rounds_0 ≤ 160) : 0 ≤ x5 ∧ x5 ≤ 99 := by
  have h := brb_R ‹BRB _ _ _ _ _ _ _ _ _ _ _›
  have h2 := brb_ro (d := x4) ‹BRB _ _ _ _ _ _ _ _ _ _ _› (by omega) (by omega)
  omega
def o_Mo_barX_0 : or_T := (22, 6, [(0, (2, 0, 0, [165])), (1, (0, 1, 79, [])), (3, (2, 0, 0, [196])), (4, (0, 1, 159, [])), (5, (0, -1, 159, []))], [(10, [5, 3, 4], []), (23, [4, 1], [1, 1, -2]), (23, [4, 1], [0, -1, 2]), (9, [3, 0], [54]), (8, [1], [1]), (20, [0], [60, 3, 8, 316, 31, 32, 53, 33, 34, 35, 36, 37, 54, 56, 57]), (20, [1, 0], [30, -1, 1, 0, 0, -1, 1, 32])], [(5, (0, 0, 99, []))], [], [], [], [])
theorem oo_Mo_barX_0 {kA : Nat → ClassId} : or_ok PRD kA GG o_Mo_barX_0 := by
  refine or_mk fun A ta ws vs hD hth hl => ?_
  intro t0 r0 t1 k1 t3 r3 t4 k4 t5 k5 f0 f1 f2 f3 f4 f5 f6
  replace f0 := shm_106 f0
  replace f3 := shm_1091 f3
  have ad_3 : v_ad (n_v vs 3) = w_ar ws (n_v vs 0) 54 := congrArg v_ad f3
  simp only [ad_3] at f0
  have h0 : v_iv (n_v vs 5) = w_ei ws (w_ar ws (n_v vs 0) 54) (v_iv (n_v vs 4)) := f0
  have kz_0_31 := fdq_144 hD hth r0
  have kz_0_32 := fdq_139 hD hth r0
  have kz_0_53 := fdq_267 hD hth r0
  have hrf0 : 0 ≤ v_iv (n_v vs 5) ∧ v_iv (n_v vs 5) ≤ 99 := vc_Mo_barX_0_r0 (v_iv (n_v vs 1)) (v_iv (n_v vs 4)) (v_iv (n_v vs 5)) (w_ei ws (w_ar ws (n_v vs 0) 54)) (w_ei ws (w_ar ws (n_v vs 0) 33)) (w_ei ws (w_ar ws (n_v vs 0) 34)) (w_ei ws (w_ar ws (n_v vs 0) 35)) (w_ei ws (w_ar ws (n_v vs 0) 36)) (w_ei ws (w_ar ws (n_v vs 0) 37)) (w_ei ws (w_ar ws (n_v vs 0) 56)) (w_ei ws (w_ar ws (n_v vs 0) 57)) (w_fi ws (n_v vs 0) 31) (w_fi ws (n_v vs 0) 32) (w_fi ws (n_v vs 0) 53) k1 k4 k5 h0 (shm_155 f1) (shm_156 f2) (shm_1092 f5) (shm_947 f6) kz_0_31 kz_0_32 kz_0_53
  have rf5 : tv_ok ta (0, 0, 99, []) (n_v vs 5) := tv_in t5 (by first | omega | grind) (by first | omega | grind)
  refine ⟨List.forall_mem_cons.mpr ⟨rf5, (fun _ h => (by cases h))⟩, [], trivial, ?_, (fun _ h => (by cases h))⟩
  rw [List.append_nil]
  exact (fun _ h => (by cases h))
set_option maxHeartbeats 4000000 in
theorem vc_Mo_barX_1_r0 (x1 : Int) (x4 : Int) (x5 : Int) (roundOf_0 : Int → Int) (pt_0 : Int → Int) (ph_0 : Int → Int) (alive_0 : Int → Int) (rotMany_0 : Int → Int) (rot_0 : Int → Int) (roundBegin_0 : Int → Int) (roundDart_0 : Int → Int) (pn_0 : Int) (pm_0 : Int) (rounds_0 : Int) (k1 : 1 ≤ x1 ∧ x1 ≤ 79) (k4 : 0 ≤ x4 ∧ x4 ≤ 158) (k5 : (-1) ≤ x5 ∧ x5 ≤ 159) (h0 : x5 = roundOf_0 (x4)) (f1 : 1 * x4 + ((-2) * x1 + 0) ≤ 1) (f2 : (-1) * x4 + (2 * x1 + 0) ≤ 0) (f5 : BRB (pn_0) (pm_0) (rounds_0) (pt_0) (ph_0) (alive_0) (rotMany_0) (rot_0) (roundOf_0) (roundBegin_0) (roundDart_0)) (f6 : 1 * x1 + ((-1) * pm_0 + 0) ≤ (-1)) (kz_0_31 : 0 ≤ pn_0 ∧ pn_0 ≤ 25) (kz_0_32 : 0 ≤ pm_0 ∧ pm_0 ≤ 80) (kz_0_53 : 0 ≤ rounds_0 ∧ rounds_0 ≤ 160) : 0 ≤ x5 ∧ x5 ≤ 99 := by
  have h := brb_R ‹BRB _ _ _ _ _ _ _ _ _ _ _›
  have h2 := brb_ro (d := x4) ‹BRB _ _ _ _ _ _ _ _ _ _ _› (by omega) (by omega)
  omega
def o_Mo_barX_1 : or_T := (22, 6, [(0, (2, 0, 0, [165])), (1, (0, 1, 79, [])), (3, (2, 0, 0, [196])), (4, (0, 0, 158, [])), (5, (0, -1, 159, []))], [(10, [5, 3, 4], []), (23, [4, 1], [1, 1, -2]), (23, [4, 1], [0, -1, 2]), (9, [3, 0], [54]), (8, [1], [1]), (20, [0], [60, 3, 8, 316, 31, 32, 53, 33, 34, 35, 36, 37, 54, 56, 57]), (20, [1, 0], [30, -1, 1, 0, 0, -1, 1, 32])], [(5, (0, 0, 99, []))], [], [], [], [])
theorem oo_Mo_barX_1 {kA : Nat → ClassId} : or_ok PRD kA GG o_Mo_barX_1 := by
  refine or_mk fun A ta ws vs hD hth hl => ?_
  intro t0 r0 t1 k1 t3 r3 t4 k4 t5 k5 f0 f1 f2 f3 f4 f5 f6
  replace f0 := shm_106 f0
  replace f3 := shm_1091 f3
  have ad_3 : v_ad (n_v vs 3) = w_ar ws (n_v vs 0) 54 := congrArg v_ad f3
  simp only [ad_3] at f0
  have h0 : v_iv (n_v vs 5) = w_ei ws (w_ar ws (n_v vs 0) 54) (v_iv (n_v vs 4)) := f0
  have kz_0_31 := fdq_144 hD hth r0
  have kz_0_32 := fdq_139 hD hth r0
  have kz_0_53 := fdq_267 hD hth r0
  have hrf0 : 0 ≤ v_iv (n_v vs 5) ∧ v_iv (n_v vs 5) ≤ 99 := vc_Mo_barX_1_r0 (v_iv (n_v vs 1)) (v_iv (n_v vs 4)) (v_iv (n_v vs 5)) (w_ei ws (w_ar ws (n_v vs 0) 54)) (w_ei ws (w_ar ws (n_v vs 0) 33)) (w_ei ws (w_ar ws (n_v vs 0) 34)) (w_ei ws (w_ar ws (n_v vs 0) 35)) (w_ei ws (w_ar ws (n_v vs 0) 36)) (w_ei ws (w_ar ws (n_v vs 0) 37)) (w_ei ws (w_ar ws (n_v vs 0) 56)) (w_ei ws (w_ar ws (n_v vs 0) 57)) (w_fi ws (n_v vs 0) 31) (w_fi ws (n_v vs 0) 32) (w_fi ws (n_v vs 0) 53) k1 k4 k5 h0 (shm_155 f1) (shm_156 f2) (shm_1092 f5) (shm_947 f6) kz_0_31 kz_0_32 kz_0_53
  have rf5 : tv_ok ta (0, 0, 99, []) (n_v vs 5) := tv_in t5 (by first | omega | grind) (by first | omega | grind)
  refine ⟨List.forall_mem_cons.mpr ⟨rf5, (fun _ h => (by cases h))⟩, [], trivial, ?_, (fun _ h => (by cases h))⟩
  rw [List.append_nil]
  exact (fun _ h => (by cases h))
def n_Mo_barX_an : List an_T := []
def t_Mo_barX_ct : ct_L := [(1, 922, e_Mo_dart)]
set_option maxRecDepth 100000 in
theorem c_Mo_barX {l : Launch} {D : va_G} {kA : Nat → ClassId} (h_Mo_dart : ct_ok PRD l D kA GG y_Mo_dart z_Mo_dart e_Mo_dart) : ct_ok PRD l D kA GG y_Mo_barX z_Mo_barX e_Mo_barX := chk_all_ok (FT := [(41, 13, 20), (105, 13, 54)]) (PT := []) (CT := t_Mo_barX_ct) (KT := []) (NT := []) (AN := n_Mo_barX_an) (OT := [o_Mo_barX_0, o_Mo_barX_1]) 0 200 (List.forall_mem_cons.mpr ⟨oo_Mo_barX_0, List.forall_mem_cons.mpr ⟨oo_Mo_barX_1, List.forall_mem_nil _⟩⟩) (by decide +kernel) ⟨List.forall_mem_cons.mpr ⟨gf_Mo_41, List.forall_mem_cons.mpr ⟨gf_Mo_105, List.forall_mem_nil _⟩⟩, List.forall_mem_nil _, List.forall_mem_cons.mpr ⟨cl_virtual (y := y_Mo_dart) (ci := 13) rfl rfl ⟨_, _, rfl⟩ (by decide +kernel) h_Mo_dart wm_3546 wm_9 wm_3543 wm_3545 wv_20_6 ⟨by decide, by decide, by decide +kernel⟩ (by decide), List.forall_mem_nil _⟩, List.forall_mem_nil _, List.forall_mem_nil _, GG_pl⟩ (by decide +kernel)

set_option maxHeartbeats 4000000 in
theorem vc_Mo_dotLine_0_r0 (x1 : Int) (x2 : Int) (x3 : Int) (x4 : Int) (x6 : Int) (x7 : Int) (x8 : Int) (x9 : Int) (k1 : 0 ≤ x1 ∧ x1 ≤ 63) (k2 : 0 ≤ x2 ∧ x2 ≤ 63) (k3 : 0 ≤ x3 ∧ x3 ≤ 63) (k4 : 0 ≤ x4 ∧ x4 ≤ 63) (k6 : (-63) ≤ x6 ∧ x6 ≤ 63) (k7 : (-63) ≤ x7 ∧ x7 ≤ 63) (k8 : (-63) ≤ x8 ∧ x8 ≤ 63) (k9 : (-63) ≤ x9 ∧ x9 ≤ 63) (d0 : x9 + (-4294967296) ≤ x7 ∧ x7 ≤ x9 + 0) (d1 : x9 + (-4294967296) ≤ x8 ∧ x8 ≤ x9 + 0) (d2 : x2 + (-63) ≤ x9 ∧ x9 ≤ x2 + 0) (d3 : x4 + (-63) ≤ x8 ∧ x8 ≤ x4 + 0) (d4 : x7 + (-4294967296) ≤ x6 ∧ x6 ≤ x7 + 0) (d5 : x1 + (-63) ≤ x7 ∧ x7 ≤ x1 + 0) (d6 : x3 + (-63) ≤ x6 ∧ x6 ≤ x3 + 0) (f0 : x7 ≤ x9) (f1 : x9 ≤ x9) (f2 : x8 ≤ x9) (f3 : x9 ≤ x9) (f4 : x9 = x2 - x4) (f5 : x8 = x4 - x2) (f6 : x6 ≤ x7) (f7 : x7 ≤ x7) (f8 : x7 = x1 - x3) (f9 : x6 = x3 - x1) : 0 ≤ x9 ∧ x9 ≤ 63 := by
  first | assumption | omega | grind
def o_Mo_dotLine_0 : or_T := (23, 10, [(1, (0, 0, 63, [])), (2, (0, 0, 63, [])), (3, (0, 0, 63, [])), (4, (0, 0, 63, [])), (6, (0, -63, 63, [])), (7, (0, -63, 63, [])), (8, (0, -63, 63, [])), (9, (0, -63, 63, []))], [(7, [7, 9], [5]), (7, [9, 9], [5]), (7, [8, 9], [5]), (7, [9, 9], [5]), (2, [9, 2, 4], []), (2, [8, 4, 2], []), (7, [6, 7], [5]), (7, [7, 7], [5]), (2, [7, 1, 3], []), (2, [6, 3, 1], [])], [(9, (0, 0, 63, []))], [], [], [], [(7, 9, -4294967296, 0), (8, 9, -4294967296, 0), (9, 2, -63, 0), (8, 4, -63, 0), (6, 7, -4294967296, 0), (7, 1, -63, 0), (6, 3, -63, 0)])
theorem oo_Mo_dotLine_0 {kA : Nat → ClassId} : or_ok PRD kA GG o_Mo_dotLine_0 := by
  refine or_mk fun A ta ws vs hD hth hl => ?_
  intro t1 k1 t2 k2 t3 k3 t4 k4 t6 k6 t7 k7 t8 k8 t9 k9 d0 d1 d2 d3 d4 d5 d6 f0 f1 f2 f3 f4 f5 f6 f7 f8 f9
  have hrf0 : 0 ≤ v_iv (n_v vs 9) ∧ v_iv (n_v vs 9) ≤ 63 := vc_Mo_dotLine_0_r0 (v_iv (n_v vs 1)) (v_iv (n_v vs 2)) (v_iv (n_v vs 3)) (v_iv (n_v vs 4)) (v_iv (n_v vs 6)) (v_iv (n_v vs 7)) (v_iv (n_v vs 8)) (v_iv (n_v vs 9)) k1 k2 k3 k4 k6 k7 k8 k9 d0 d1 d2 d3 d4 d5 d6 (shm_24 f0) (shm_134 f1) (shm_24 f2) (shm_134 f3) (shm_14 f4) (shm_14 f5) (shm_24 f6) (shm_134 f7) (shm_14 f8) (shm_14 f9)
  have rf9 : tv_ok ta (0, 0, 63, []) (n_v vs 9) := tv_in t9 (by omega) (by omega)
  refine ⟨List.forall_mem_cons.mpr ⟨rf9, (fun _ h => (by cases h))⟩, [], trivial, ?_, (fun _ h => (by cases h))⟩
  rw [List.append_nil]
  exact (fun _ h => (by cases h))
set_option maxHeartbeats 4000000 in
theorem vc_Mo_dotLine_1_0 (x1 : Int) (x2 : Int) (x3 : Int) (x4 : Int) (x6 : Int) (x7 : Int) (x8 : Int) (x9 : Int) (k1 : 0 ≤ x1 ∧ x1 ≤ 63) (k2 : 0 ≤ x2 ∧ x2 ≤ 63) (k3 : 0 ≤ x3 ∧ x3 ≤ 63) (k4 : 0 ≤ x4 ∧ x4 ≤ 63) (k6 : (-63) ≤ x6 ∧ x6 ≤ 63) (k7 : (-63) ≤ x7 ∧ x7 ≤ 63) (k8 : (-63) ≤ x8 ∧ x8 ≤ 63) (k9 : 0 ≤ x9 ∧ x9 ≤ 63) (d0 : x9 + (-4294967296) ≤ x7 ∧ x7 ≤ x9 + 0) (d1 : x9 + (-4294967296) ≤ x8 ∧ x8 ≤ x9 + 0) (d2 : x2 + (-63) ≤ x9 ∧ x9 ≤ x2 + 0) (d3 : x4 + (-63) ≤ x8 ∧ x8 ≤ x4 + 0) (d4 : x7 + (-4294967296) ≤ x6 ∧ x6 ≤ x7 + 0) (d5 : x1 + (-63) ≤ x7 ∧ x7 ≤ x1 + 0) (d6 : x3 + (-63) ≤ x6 ∧ x6 ≤ x3 + 0) (f0 : x7 ≤ x9) (f1 : x9 ≤ x9) (f2 : x8 ≤ x9) (f3 : x9 ≤ x9) (f4 : x9 = x2 - x4) (f5 : x8 = x4 - x2) (f6 : x6 ≤ x7) (f7 : x7 ≤ x7) (f8 : x7 = x1 - x3) (f9 : x6 = x3 - x1) : 1 * x3 + ((-1) * x1 + ((-1) * x9 + 0)) ≤ 0 := by
  first | assumption | omega | grind
set_option maxHeartbeats 4000000 in
theorem vc_Mo_dotLine_1_1 (x1 : Int) (x2 : Int) (x3 : Int) (x4 : Int) (x6 : Int) (x7 : Int) (x8 : Int) (x9 : Int) (k1 : 0 ≤ x1 ∧ x1 ≤ 63) (k2 : 0 ≤ x2 ∧ x2 ≤ 63) (k3 : 0 ≤ x3 ∧ x3 ≤ 63) (k4 : 0 ≤ x4 ∧ x4 ≤ 63) (k6 : (-63) ≤ x6 ∧ x6 ≤ 63) (k7 : (-63) ≤ x7 ∧ x7 ≤ 63) (k8 : (-63) ≤ x8 ∧ x8 ≤ 63) (k9 : 0 ≤ x9 ∧ x9 ≤ 63) (d0 : x9 + (-4294967296) ≤ x7 ∧ x7 ≤ x9 + 0) (d1 : x9 + (-4294967296) ≤ x8 ∧ x8 ≤ x9 + 0) (d2 : x2 + (-63) ≤ x9 ∧ x9 ≤ x2 + 0) (d3 : x4 + (-63) ≤ x8 ∧ x8 ≤ x4 + 0) (d4 : x7 + (-4294967296) ≤ x6 ∧ x6 ≤ x7 + 0) (d5 : x1 + (-63) ≤ x7 ∧ x7 ≤ x1 + 0) (d6 : x3 + (-63) ≤ x6 ∧ x6 ≤ x3 + 0) (f0 : x7 ≤ x9) (f1 : x9 ≤ x9) (f2 : x8 ≤ x9) (f3 : x9 ≤ x9) (f4 : x9 = x2 - x4) (f5 : x8 = x4 - x2) (f6 : x6 ≤ x7) (f7 : x7 ≤ x7) (f8 : x7 = x1 - x3) (f9 : x6 = x3 - x1) : (-1) * x3 + (1 * x1 + ((-1) * x9 + 0)) ≤ 0 := by
  first | assumption | omega | grind
set_option maxHeartbeats 4000000 in
theorem vc_Mo_dotLine_1_2 (x1 : Int) (x2 : Int) (x3 : Int) (x4 : Int) (x6 : Int) (x7 : Int) (x8 : Int) (x9 : Int) (k1 : 0 ≤ x1 ∧ x1 ≤ 63) (k2 : 0 ≤ x2 ∧ x2 ≤ 63) (k3 : 0 ≤ x3 ∧ x3 ≤ 63) (k4 : 0 ≤ x4 ∧ x4 ≤ 63) (k6 : (-63) ≤ x6 ∧ x6 ≤ 63) (k7 : (-63) ≤ x7 ∧ x7 ≤ 63) (k8 : (-63) ≤ x8 ∧ x8 ≤ 63) (k9 : 0 ≤ x9 ∧ x9 ≤ 63) (d0 : x9 + (-4294967296) ≤ x7 ∧ x7 ≤ x9 + 0) (d1 : x9 + (-4294967296) ≤ x8 ∧ x8 ≤ x9 + 0) (d2 : x2 + (-63) ≤ x9 ∧ x9 ≤ x2 + 0) (d3 : x4 + (-63) ≤ x8 ∧ x8 ≤ x4 + 0) (d4 : x7 + (-4294967296) ≤ x6 ∧ x6 ≤ x7 + 0) (d5 : x1 + (-63) ≤ x7 ∧ x7 ≤ x1 + 0) (d6 : x3 + (-63) ≤ x6 ∧ x6 ≤ x3 + 0) (f0 : x7 ≤ x9) (f1 : x9 ≤ x9) (f2 : x8 ≤ x9) (f3 : x9 ≤ x9) (f4 : x9 = x2 - x4) (f5 : x8 = x4 - x2) (f6 : x6 ≤ x7) (f7 : x7 ≤ x7) (f8 : x7 = x1 - x3) (f9 : x6 = x3 - x1) : 1 * x4 + ((-1) * x2 + ((-1) * x9 + 0)) ≤ 0 := by
  first | assumption | omega | grind
set_option maxHeartbeats 4000000 in
theorem vc_Mo_dotLine_1_3 (x1 : Int) (x2 : Int) (x3 : Int) (x4 : Int) (x6 : Int) (x7 : Int) (x8 : Int) (x9 : Int) (k1 : 0 ≤ x1 ∧ x1 ≤ 63) (k2 : 0 ≤ x2 ∧ x2 ≤ 63) (k3 : 0 ≤ x3 ∧ x3 ≤ 63) (k4 : 0 ≤ x4 ∧ x4 ≤ 63) (k6 : (-63) ≤ x6 ∧ x6 ≤ 63) (k7 : (-63) ≤ x7 ∧ x7 ≤ 63) (k8 : (-63) ≤ x8 ∧ x8 ≤ 63) (k9 : 0 ≤ x9 ∧ x9 ≤ 63) (d0 : x9 + (-4294967296) ≤ x7 ∧ x7 ≤ x9 + 0) (d1 : x9 + (-4294967296) ≤ x8 ∧ x8 ≤ x9 + 0) (d2 : x2 + (-63) ≤ x9 ∧ x9 ≤ x2 + 0) (d3 : x4 + (-63) ≤ x8 ∧ x8 ≤ x4 + 0) (d4 : x7 + (-4294967296) ≤ x6 ∧ x6 ≤ x7 + 0) (d5 : x1 + (-63) ≤ x7 ∧ x7 ≤ x1 + 0) (d6 : x3 + (-63) ≤ x6 ∧ x6 ≤ x3 + 0) (f0 : x7 ≤ x9) (f1 : x9 ≤ x9) (f2 : x8 ≤ x9) (f3 : x9 ≤ x9) (f4 : x9 = x2 - x4) (f5 : x8 = x4 - x2) (f6 : x6 ≤ x7) (f7 : x7 ≤ x7) (f8 : x7 = x1 - x3) (f9 : x6 = x3 - x1) : (-1) * x4 + (1 * x2 + ((-1) * x9 + 0)) ≤ 0 := by
  first | assumption | omega | grind
def o_Mo_dotLine_1 : or_T := (28, 11, [(1, (0, 0, 63, [])), (2, (0, 0, 63, [])), (3, (0, 0, 63, [])), (4, (0, 0, 63, [])), (6, (0, -63, 63, [])), (7, (0, -63, 63, [])), (8, (0, -63, 63, [])), (9, (0, 0, 63, []))], [(7, [7, 9], [5]), (7, [9, 9], [5]), (7, [8, 9], [5]), (7, [9, 9], [5]), (2, [9, 2, 4], []), (2, [8, 4, 2], []), (7, [6, 7], [5]), (7, [7, 7], [5]), (2, [7, 1, 3], []), (2, [6, 3, 1], [])], [], [], [(23, [3, 1, 9], [0, 1, -1, -1]), (23, [3, 1, 9], [0, -1, 1, -1]), (23, [4, 2, 9], [0, 1, -1, -1]), (23, [4, 2, 9], [0, -1, 1, -1])], [], [(7, 9, -4294967296, 0), (8, 9, -4294967296, 0), (9, 2, -63, 0), (8, 4, -63, 0), (6, 7, -4294967296, 0), (7, 1, -63, 0), (6, 3, -63, 0)])
theorem oo_Mo_dotLine_1 {kA : Nat → ClassId} : or_ok PRD kA GG o_Mo_dotLine_1 := by
  refine or_mk fun A ta ws vs hD hth hl => ?_
  intro t1 k1 t2 k2 t3 k3 t4 k4 t6 k6 t7 k7 t8 k8 t9 k9 d0 d1 d2 d3 d4 d5 d6 f0 f1 f2 f3 f4 f5 f6 f7 f8 f9
  have nf0 : fc_1 PRD (23, [3, 1, 9], [0, 1, -1, -1]) ws (vs) := ⟨nf_in hl rfl, sgq_148 (vc_Mo_dotLine_1_0 (v_iv (n_v vs 1)) (v_iv (n_v vs 2)) (v_iv (n_v vs 3)) (v_iv (n_v vs 4)) (v_iv (n_v vs 6)) (v_iv (n_v vs 7)) (v_iv (n_v vs 8)) (v_iv (n_v vs 9)) k1 k2 k3 k4 k6 k7 k8 k9 d0 d1 d2 d3 d4 d5 d6 (shm_24 f0) (shm_134 f1) (shm_24 f2) (shm_134 f3) (shm_14 f4) (shm_14 f5) (shm_24 f6) (shm_134 f7) (shm_14 f8) (shm_14 f9))⟩
  have nf1 : fc_1 PRD (23, [3, 1, 9], [0, -1, 1, -1]) ws (vs) := ⟨nf_in hl rfl, sgq_1093 (vc_Mo_dotLine_1_1 (v_iv (n_v vs 1)) (v_iv (n_v vs 2)) (v_iv (n_v vs 3)) (v_iv (n_v vs 4)) (v_iv (n_v vs 6)) (v_iv (n_v vs 7)) (v_iv (n_v vs 8)) (v_iv (n_v vs 9)) k1 k2 k3 k4 k6 k7 k8 k9 d0 d1 d2 d3 d4 d5 d6 (shm_24 f0) (shm_134 f1) (shm_24 f2) (shm_134 f3) (shm_14 f4) (shm_14 f5) (shm_24 f6) (shm_134 f7) (shm_14 f8) (shm_14 f9))⟩
  have nf2 : fc_1 PRD (23, [4, 2, 9], [0, 1, -1, -1]) ws (vs) := ⟨nf_in hl rfl, sgq_148 (vc_Mo_dotLine_1_2 (v_iv (n_v vs 1)) (v_iv (n_v vs 2)) (v_iv (n_v vs 3)) (v_iv (n_v vs 4)) (v_iv (n_v vs 6)) (v_iv (n_v vs 7)) (v_iv (n_v vs 8)) (v_iv (n_v vs 9)) k1 k2 k3 k4 k6 k7 k8 k9 d0 d1 d2 d3 d4 d5 d6 (shm_24 f0) (shm_134 f1) (shm_24 f2) (shm_134 f3) (shm_14 f4) (shm_14 f5) (shm_24 f6) (shm_134 f7) (shm_14 f8) (shm_14 f9))⟩
  have nf3 : fc_1 PRD (23, [4, 2, 9], [0, -1, 1, -1]) ws (vs) := ⟨nf_in hl rfl, sgq_1093 (vc_Mo_dotLine_1_3 (v_iv (n_v vs 1)) (v_iv (n_v vs 2)) (v_iv (n_v vs 3)) (v_iv (n_v vs 4)) (v_iv (n_v vs 6)) (v_iv (n_v vs 7)) (v_iv (n_v vs 8)) (v_iv (n_v vs 9)) k1 k2 k3 k4 k6 k7 k8 k9 d0 d1 d2 d3 d4 d5 d6 (shm_24 f0) (shm_134 f1) (shm_24 f2) (shm_134 f3) (shm_14 f4) (shm_14 f5) (shm_24 f6) (shm_134 f7) (shm_14 f8) (shm_14 f9))⟩
  refine ⟨(fun _ h => (by cases h)), [], trivial, ?_, (fun _ h => (by cases h))⟩
  rw [List.append_nil]
  exact List.forall_mem_cons.mpr ⟨⟨show (23 : Nat) < 100 from by decide, nf0⟩, List.forall_mem_cons.mpr ⟨⟨show (23 : Nat) < 100 from by decide, nf1⟩, List.forall_mem_cons.mpr ⟨⟨show (23 : Nat) < 100 from by decide, nf2⟩, List.forall_mem_cons.mpr ⟨⟨show (23 : Nat) < 100 from by decide, nf3⟩, (fun _ h => (by cases h))⟩⟩⟩⟩
set_option maxHeartbeats 4000000 in
theorem vc_Mo_dotLine_2_r0 (x1 : Int) (x2 : Int) (x3 : Int) (x4 : Int) (x6 : Int) (x7 : Int) (x8 : Int) (x9 : Int) (k1 : 0 ≤ x1 ∧ x1 ≤ 63) (k2 : 0 ≤ x2 ∧ x2 ≤ 63) (k3 : 0 ≤ x3 ∧ x3 ≤ 63) (k4 : 0 ≤ x4 ∧ x4 ≤ 63) (k6 : (-63) ≤ x6 ∧ x6 ≤ 63) (k7 : (-62) ≤ x7 ∧ x7 ≤ 63) (k8 : (-63) ≤ x8 ∧ x8 ≤ 63) (k9 : (-63) ≤ x9 ∧ x9 ≤ 62) (d0 : x9 + 1 ≤ x7 ∧ x7 ≤ x9 + 4294967296) (d1 : x9 + (-4294967296) ≤ x8 ∧ x8 ≤ x9 + 0) (d2 : x2 + (-63) ≤ x9 ∧ x9 ≤ x2 + 0) (d3 : x4 + (-63) ≤ x8 ∧ x8 ≤ x4 + 0) (d4 : x7 + (-4294967296) ≤ x6 ∧ x6 ≤ x7 + 0) (d5 : x1 + (-63) ≤ x7 ∧ x7 ≤ x1 + 0) (d6 : x3 + (-63) ≤ x6 ∧ x6 ≤ x3 + 0) (f0 : x7 ≤ x7) (f1 : x9 ≤ x7) (f2 : x8 ≤ x9) (f3 : x9 ≤ x9) (f4 : x9 = x2 - x4) (f5 : x8 = x4 - x2) (f6 : x6 ≤ x7) (f7 : x7 ≤ x7) (f8 : x7 = x1 - x3) (f9 : x6 = x3 - x1) : 0 ≤ x7 ∧ x7 ≤ 63 := by
  first | assumption | omega | grind
def o_Mo_dotLine_2 : or_T := (23, 10, [(1, (0, 0, 63, [])), (2, (0, 0, 63, [])), (3, (0, 0, 63, [])), (4, (0, 0, 63, [])), (6, (0, -63, 63, [])), (7, (0, -62, 63, [])), (8, (0, -63, 63, [])), (9, (0, -63, 62, []))], [(7, [7, 7], [5]), (7, [9, 7], [5]), (7, [8, 9], [5]), (7, [9, 9], [5]), (2, [9, 2, 4], []), (2, [8, 4, 2], []), (7, [6, 7], [5]), (7, [7, 7], [5]), (2, [7, 1, 3], []), (2, [6, 3, 1], [])], [(7, (0, 0, 63, []))], [], [], [], [(7, 9, 1, 4294967296), (8, 9, -4294967296, 0), (9, 2, -63, 0), (8, 4, -63, 0), (6, 7, -4294967296, 0), (7, 1, -63, 0), (6, 3, -63, 0)])
theorem oo_Mo_dotLine_2 {kA : Nat → ClassId} : or_ok PRD kA GG o_Mo_dotLine_2 := by
  refine or_mk fun A ta ws vs hD hth hl => ?_
  intro t1 k1 t2 k2 t3 k3 t4 k4 t6 k6 t7 k7 t8 k8 t9 k9 d0 d1 d2 d3 d4 d5 d6 f0 f1 f2 f3 f4 f5 f6 f7 f8 f9
  have hrf0 : 0 ≤ v_iv (n_v vs 7) ∧ v_iv (n_v vs 7) ≤ 63 := vc_Mo_dotLine_2_r0 (v_iv (n_v vs 1)) (v_iv (n_v vs 2)) (v_iv (n_v vs 3)) (v_iv (n_v vs 4)) (v_iv (n_v vs 6)) (v_iv (n_v vs 7)) (v_iv (n_v vs 8)) (v_iv (n_v vs 9)) k1 k2 k3 k4 k6 k7 k8 k9 d0 d1 d2 d3 d4 d5 d6 (shm_134 f0) (shm_24 f1) (shm_24 f2) (shm_134 f3) (shm_14 f4) (shm_14 f5) (shm_24 f6) (shm_134 f7) (shm_14 f8) (shm_14 f9)
  have rf7 : tv_ok ta (0, 0, 63, []) (n_v vs 7) := tv_in t7 (by omega) (by omega)
  refine ⟨List.forall_mem_cons.mpr ⟨rf7, (fun _ h => (by cases h))⟩, [], trivial, ?_, (fun _ h => (by cases h))⟩
  rw [List.append_nil]
  exact (fun _ h => (by cases h))
set_option maxHeartbeats 4000000 in
theorem vc_Mo_dotLine_3_0 (x1 : Int) (x2 : Int) (x3 : Int) (x4 : Int) (x6 : Int) (x7 : Int) (x8 : Int) (x9 : Int) (k1 : 0 ≤ x1 ∧ x1 ≤ 63) (k2 : 0 ≤ x2 ∧ x2 ≤ 63) (k3 : 0 ≤ x3 ∧ x3 ≤ 63) (k4 : 0 ≤ x4 ∧ x4 ≤ 63) (k6 : (-63) ≤ x6 ∧ x6 ≤ 63) (k7 : 0 ≤ x7 ∧ x7 ≤ 63) (k8 : (-63) ≤ x8 ∧ x8 ≤ 63) (k9 : (-63) ≤ x9 ∧ x9 ≤ 62) (d0 : x9 + 1 ≤ x7 ∧ x7 ≤ x9 + 4294967296) (d1 : x9 + (-4294967296) ≤ x8 ∧ x8 ≤ x9 + 0) (d2 : x2 + (-63) ≤ x9 ∧ x9 ≤ x2 + 0) (d3 : x4 + (-63) ≤ x8 ∧ x8 ≤ x4 + 0) (d4 : x7 + (-4294967296) ≤ x6 ∧ x6 ≤ x7 + 0) (d5 : x1 + (-63) ≤ x7 ∧ x7 ≤ x1 + 0) (d6 : x3 + (-63) ≤ x6 ∧ x6 ≤ x3 + 0) (f0 : x7 ≤ x7) (f1 : x9 ≤ x7) (f2 : x8 ≤ x9) (f3 : x9 ≤ x9) (f4 : x9 = x2 - x4) (f5 : x8 = x4 - x2) (f6 : x6 ≤ x7) (f7 : x7 ≤ x7) (f8 : x7 = x1 - x3) (f9 : x6 = x3 - x1) : 1 * x3 + ((-1) * x1 + ((-1) * x7 + 0)) ≤ 0 := by
  first | assumption | omega | grind
set_option maxHeartbeats 4000000 in
theorem vc_Mo_dotLine_3_1 (x1 : Int) (x2 : Int) (x3 : Int) (x4 : Int) (x6 : Int) (x7 : Int) (x8 : Int) (x9 : Int) (k1 : 0 ≤ x1 ∧ x1 ≤ 63) (k2 : 0 ≤ x2 ∧ x2 ≤ 63) (k3 : 0 ≤ x3 ∧ x3 ≤ 63) (k4 : 0 ≤ x4 ∧ x4 ≤ 63) (k6 : (-63) ≤ x6 ∧ x6 ≤ 63) (k7 : 0 ≤ x7 ∧ x7 ≤ 63) (k8 : (-63) ≤ x8 ∧ x8 ≤ 63) (k9 : (-63) ≤ x9 ∧ x9 ≤ 62) (d0 : x9 + 1 ≤ x7 ∧ x7 ≤ x9 + 4294967296) (d1 : x9 + (-4294967296) ≤ x8 ∧ x8 ≤ x9 + 0) (d2 : x2 + (-63) ≤ x9 ∧ x9 ≤ x2 + 0) (d3 : x4 + (-63) ≤ x8 ∧ x8 ≤ x4 + 0) (d4 : x7 + (-4294967296) ≤ x6 ∧ x6 ≤ x7 + 0) (d5 : x1 + (-63) ≤ x7 ∧ x7 ≤ x1 + 0) (d6 : x3 + (-63) ≤ x6 ∧ x6 ≤ x3 + 0) (f0 : x7 ≤ x7) (f1 : x9 ≤ x7) (f2 : x8 ≤ x9) (f3 : x9 ≤ x9) (f4 : x9 = x2 - x4) (f5 : x8 = x4 - x2) (f6 : x6 ≤ x7) (f7 : x7 ≤ x7) (f8 : x7 = x1 - x3) (f9 : x6 = x3 - x1) : (-1) * x3 + (1 * x1 + ((-1) * x7 + 0)) ≤ 0 := by
  first | assumption | omega | grind
set_option maxHeartbeats 4000000 in
theorem vc_Mo_dotLine_3_2 (x1 : Int) (x2 : Int) (x3 : Int) (x4 : Int) (x6 : Int) (x7 : Int) (x8 : Int) (x9 : Int) (k1 : 0 ≤ x1 ∧ x1 ≤ 63) (k2 : 0 ≤ x2 ∧ x2 ≤ 63) (k3 : 0 ≤ x3 ∧ x3 ≤ 63) (k4 : 0 ≤ x4 ∧ x4 ≤ 63) (k6 : (-63) ≤ x6 ∧ x6 ≤ 63) (k7 : 0 ≤ x7 ∧ x7 ≤ 63) (k8 : (-63) ≤ x8 ∧ x8 ≤ 63) (k9 : (-63) ≤ x9 ∧ x9 ≤ 62) (d0 : x9 + 1 ≤ x7 ∧ x7 ≤ x9 + 4294967296) (d1 : x9 + (-4294967296) ≤ x8 ∧ x8 ≤ x9 + 0) (d2 : x2 + (-63) ≤ x9 ∧ x9 ≤ x2 + 0) (d3 : x4 + (-63) ≤ x8 ∧ x8 ≤ x4 + 0) (d4 : x7 + (-4294967296) ≤ x6 ∧ x6 ≤ x7 + 0) (d5 : x1 + (-63) ≤ x7 ∧ x7 ≤ x1 + 0) (d6 : x3 + (-63) ≤ x6 ∧ x6 ≤ x3 + 0) (f0 : x7 ≤ x7) (f1 : x9 ≤ x7) (f2 : x8 ≤ x9) (f3 : x9 ≤ x9) (f4 : x9 = x2 - x4) (f5 : x8 = x4 - x2) (f6 : x6 ≤ x7) (f7 : x7 ≤ x7) (f8 : x7 = x1 - x3) (f9 : x6 = x3 - x1) : 1 * x4 + ((-1) * x2 + ((-1) * x7 + 0)) ≤ 0 := by
  first | assumption | omega | grind
set_option maxHeartbeats 4000000 in
theorem vc_Mo_dotLine_3_3 (x1 : Int) (x2 : Int) (x3 : Int) (x4 : Int) (x6 : Int) (x7 : Int) (x8 : Int) (x9 : Int) (k1 : 0 ≤ x1 ∧ x1 ≤ 63) (k2 : 0 ≤ x2 ∧ x2 ≤ 63) (k3 : 0 ≤ x3 ∧ x3 ≤ 63) (k4 : 0 ≤ x4 ∧ x4 ≤ 63) (k6 : (-63) ≤ x6 ∧ x6 ≤ 63) (k7 : 0 ≤ x7 ∧ x7 ≤ 63) (k8 : (-63) ≤ x8 ∧ x8 ≤ 63) (k9 : (-63) ≤ x9 ∧ x9 ≤ 62) (d0 : x9 + 1 ≤ x7 ∧ x7 ≤ x9 + 4294967296) (d1 : x9 + (-4294967296) ≤ x8 ∧ x8 ≤ x9 + 0) (d2 : x2 + (-63) ≤ x9 ∧ x9 ≤ x2 + 0) (d3 : x4 + (-63) ≤ x8 ∧ x8 ≤ x4 + 0) (d4 : x7 + (-4294967296) ≤ x6 ∧ x6 ≤ x7 + 0) (d5 : x1 + (-63) ≤ x7 ∧ x7 ≤ x1 + 0) (d6 : x3 + (-63) ≤ x6 ∧ x6 ≤ x3 + 0) (f0 : x7 ≤ x7) (f1 : x9 ≤ x7) (f2 : x8 ≤ x9) (f3 : x9 ≤ x9) (f4 : x9 = x2 - x4) (f5 : x8 = x4 - x2) (f6 : x6 ≤ x7) (f7 : x7 ≤ x7) (f8 : x7 = x1 - x3) (f9 : x6 = x3 - x1) : (-1) * x4 + (1 * x2 + ((-1) * x7 + 0)) ≤ 0 := by
  first | assumption | omega | grind
def o_Mo_dotLine_3 : or_T := (28, 11, [(1, (0, 0, 63, [])), (2, (0, 0, 63, [])), (3, (0, 0, 63, [])), (4, (0, 0, 63, [])), (6, (0, -63, 63, [])), (7, (0, 0, 63, [])), (8, (0, -63, 63, [])), (9, (0, -63, 62, []))], [(7, [7, 7], [5]), (7, [9, 7], [5]), (7, [8, 9], [5]), (7, [9, 9], [5]), (2, [9, 2, 4], []), (2, [8, 4, 2], []), (7, [6, 7], [5]), (7, [7, 7], [5]), (2, [7, 1, 3], []), (2, [6, 3, 1], [])], [], [], [(23, [3, 1, 7], [0, 1, -1, -1]), (23, [3, 1, 7], [0, -1, 1, -1]), (23, [4, 2, 7], [0, 1, -1, -1]), (23, [4, 2, 7], [0, -1, 1, -1])], [], [(7, 9, 1, 4294967296), (8, 9, -4294967296, 0), (9, 2, -63, 0), (8, 4, -63, 0), (6, 7, -4294967296, 0), (7, 1, -63, 0), (6, 3, -63, 0)])
theorem oo_Mo_dotLine_3 {kA : Nat → ClassId} : or_ok PRD kA GG o_Mo_dotLine_3 := by
  refine or_mk fun A ta ws vs hD hth hl => ?_
  intro t1 k1 t2 k2 t3 k3 t4 k4 t6 k6 t7 k7 t8 k8 t9 k9 d0 d1 d2 d3 d4 d5 d6 f0 f1 f2 f3 f4 f5 f6 f7 f8 f9
  have nf0 : fc_1 PRD (23, [3, 1, 7], [0, 1, -1, -1]) ws (vs) := ⟨nf_in hl rfl, sgq_148 (vc_Mo_dotLine_3_0 (v_iv (n_v vs 1)) (v_iv (n_v vs 2)) (v_iv (n_v vs 3)) (v_iv (n_v vs 4)) (v_iv (n_v vs 6)) (v_iv (n_v vs 7)) (v_iv (n_v vs 8)) (v_iv (n_v vs 9)) k1 k2 k3 k4 k6 k7 k8 k9 d0 d1 d2 d3 d4 d5 d6 (shm_134 f0) (shm_24 f1) (shm_24 f2) (shm_134 f3) (shm_14 f4) (shm_14 f5) (shm_24 f6) (shm_134 f7) (shm_14 f8) (shm_14 f9))⟩
  have nf1 : fc_1 PRD (23, [3, 1, 7], [0, -1, 1, -1]) ws (vs) := ⟨nf_in hl rfl, sgq_1093 (vc_Mo_dotLine_3_1 (v_iv (n_v vs 1)) (v_iv (n_v vs 2)) (v_iv (n_v vs 3)) (v_iv (n_v vs 4)) (v_iv (n_v vs 6)) (v_iv (n_v vs 7)) (v_iv (n_v vs 8)) (v_iv (n_v vs 9)) k1 k2 k3 k4 k6 k7 k8 k9 d0 d1 d2 d3 d4 d5 d6 (shm_134 f0) (shm_24 f1) (shm_24 f2) (shm_134 f3) (shm_14 f4) (shm_14 f5) (shm_24 f6) (shm_134 f7) (shm_14 f8) (shm_14 f9))⟩
  have nf2 : fc_1 PRD (23, [4, 2, 7], [0, 1, -1, -1]) ws (vs) := ⟨nf_in hl rfl, sgq_148 (vc_Mo_dotLine_3_2 (v_iv (n_v vs 1)) (v_iv (n_v vs 2)) (v_iv (n_v vs 3)) (v_iv (n_v vs 4)) (v_iv (n_v vs 6)) (v_iv (n_v vs 7)) (v_iv (n_v vs 8)) (v_iv (n_v vs 9)) k1 k2 k3 k4 k6 k7 k8 k9 d0 d1 d2 d3 d4 d5 d6 (shm_134 f0) (shm_24 f1) (shm_24 f2) (shm_134 f3) (shm_14 f4) (shm_14 f5) (shm_24 f6) (shm_134 f7) (shm_14 f8) (shm_14 f9))⟩
  have nf3 : fc_1 PRD (23, [4, 2, 7], [0, -1, 1, -1]) ws (vs) := ⟨nf_in hl rfl, sgq_1093 (vc_Mo_dotLine_3_3 (v_iv (n_v vs 1)) (v_iv (n_v vs 2)) (v_iv (n_v vs 3)) (v_iv (n_v vs 4)) (v_iv (n_v vs 6)) (v_iv (n_v vs 7)) (v_iv (n_v vs 8)) (v_iv (n_v vs 9)) k1 k2 k3 k4 k6 k7 k8 k9 d0 d1 d2 d3 d4 d5 d6 (shm_134 f0) (shm_24 f1) (shm_24 f2) (shm_134 f3) (shm_14 f4) (shm_14 f5) (shm_24 f6) (shm_134 f7) (shm_14 f8) (shm_14 f9))⟩
  refine ⟨(fun _ h => (by cases h)), [], trivial, ?_, (fun _ h => (by cases h))⟩
  rw [List.append_nil]
  exact List.forall_mem_cons.mpr ⟨⟨show (23 : Nat) < 100 from by decide, nf0⟩, List.forall_mem_cons.mpr ⟨⟨show (23 : Nat) < 100 from by decide, nf1⟩, List.forall_mem_cons.mpr ⟨⟨show (23 : Nat) < 100 from by decide, nf2⟩, List.forall_mem_cons.mpr ⟨⟨show (23 : Nat) < 100 from by decide, nf3⟩, (fun _ h => (by cases h))⟩⟩⟩⟩
set_option maxHeartbeats 4000000 in
theorem vc_Mo_dotLine_4_r0 (x1 : Int) (x2 : Int) (x3 : Int) (x4 : Int) (x6 : Int) (x7 : Int) (x8 : Int) (x9 : Int) (k1 : 0 ≤ x1 ∧ x1 ≤ 63) (k2 : 0 ≤ x2 ∧ x2 ≤ 63) (k3 : 0 ≤ x3 ∧ x3 ≤ 63) (k4 : 0 ≤ x4 ∧ x4 ≤ 63) (k6 : (-63) ≤ x6 ∧ x6 ≤ 63) (k7 : (-63) ≤ x7 ∧ x7 ≤ 63) (k8 : (-62) ≤ x8 ∧ x8 ≤ 63) (k9 : (-63) ≤ x9 ∧ x9 ≤ 62) (d0 : x8 + (-4294967296) ≤ x7 ∧ x7 ≤ x8 + 0) (d1 : x9 + 1 ≤ x8 ∧ x8 ≤ x9 + 4294967296) (d2 : x2 + (-63) ≤ x9 ∧ x9 ≤ x2 + 0) (d3 : x4 + (-63) ≤ x8 ∧ x8 ≤ x4 + 0) (d4 : x7 + (-4294967296) ≤ x6 ∧ x6 ≤ x7 + 0) (d5 : x1 + (-63) ≤ x7 ∧ x7 ≤ x1 + 0) (d6 : x3 + (-63) ≤ x6 ∧ x6 ≤ x3 + 0) (f0 : x7 ≤ x8) (f1 : x8 ≤ x8) (f2 : x8 ≤ x8) (f3 : x9 ≤ x8) (f4 : x9 = x2 - x4) (f5 : x8 = x4 - x2) (f6 : x6 ≤ x7) (f7 : x7 ≤ x7) (f8 : x7 = x1 - x3) (f9 : x6 = x3 - x1) : 0 ≤ x8 ∧ x8 ≤ 63 := by
  first | assumption | omega | grind
def o_Mo_dotLine_4 : or_T := (23, 10, [(1, (0, 0, 63, [])), (2, (0, 0, 63, [])), (3, (0, 0, 63, [])), (4, (0, 0, 63, [])), (6, (0, -63, 63, [])), (7, (0, -63, 63, [])), (8, (0, -62, 63, [])), (9, (0, -63, 62, []))], [(7, [7, 8], [5]), (7, [8, 8], [5]), (7, [8, 8], [5]), (7, [9, 8], [5]), (2, [9, 2, 4], []), (2, [8, 4, 2], []), (7, [6, 7], [5]), (7, [7, 7], [5]), (2, [7, 1, 3], []), (2, [6, 3, 1], [])], [(8, (0, 0, 63, []))], [], [], [], [(7, 8, -4294967296, 0), (8, 9, 1, 4294967296), (9, 2, -63, 0), (8, 4, -63, 0), (6, 7, -4294967296, 0), (7, 1, -63, 0), (6, 3, -63, 0)])
theorem oo_Mo_dotLine_4 {kA : Nat → ClassId} : or_ok PRD kA GG o_Mo_dotLine_4 := by
  refine or_mk fun A ta ws vs hD hth hl => ?_
  intro t1 k1 t2 k2 t3 k3 t4 k4 t6 k6 t7 k7 t8 k8 t9 k9 d0 d1 d2 d3 d4 d5 d6 f0 f1 f2 f3 f4 f5 f6 f7 f8 f9
  have hrf0 : 0 ≤ v_iv (n_v vs 8) ∧ v_iv (n_v vs 8) ≤ 63 := vc_Mo_dotLine_4_r0 (v_iv (n_v vs 1)) (v_iv (n_v vs 2)) (v_iv (n_v vs 3)) (v_iv (n_v vs 4)) (v_iv (n_v vs 6)) (v_iv (n_v vs 7)) (v_iv (n_v vs 8)) (v_iv (n_v vs 9)) k1 k2 k3 k4 k6 k7 k8 k9 d0 d1 d2 d3 d4 d5 d6 (shm_24 f0) (shm_134 f1) (shm_134 f2) (shm_24 f3) (shm_14 f4) (shm_14 f5) (shm_24 f6) (shm_134 f7) (shm_14 f8) (shm_14 f9)
  have rf8 : tv_ok ta (0, 0, 63, []) (n_v vs 8) := tv_in t8 (by omega) (by omega)
  refine ⟨List.forall_mem_cons.mpr ⟨rf8, (fun _ h => (by cases h))⟩, [], trivial, ?_, (fun _ h => (by cases h))⟩
  rw [List.append_nil]
  exact (fun _ h => (by cases h))
set_option maxHeartbeats 4000000 in
theorem vc_Mo_dotLine_5_0 (x1 : Int) (x2 : Int) (x3 : Int) (x4 : Int) (x6 : Int) (x7 : Int) (x8 : Int) (x9 : Int) (k1 : 0 ≤ x1 ∧ x1 ≤ 63) (k2 : 0 ≤ x2 ∧ x2 ≤ 63) (k3 : 0 ≤ x3 ∧ x3 ≤ 63) (k4 : 0 ≤ x4 ∧ x4 ≤ 63) (k6 : (-63) ≤ x6 ∧ x6 ≤ 63) (k7 : (-63) ≤ x7 ∧ x7 ≤ 63) (k8 : 0 ≤ x8 ∧ x8 ≤ 63) (k9 : (-63) ≤ x9 ∧ x9 ≤ 62) (d0 : x8 + (-4294967296) ≤ x7 ∧ x7 ≤ x8 + 0) (d1 : x9 + 1 ≤ x8 ∧ x8 ≤ x9 + 4294967296) (d2 : x2 + (-63) ≤ x9 ∧ x9 ≤ x2 + 0) (d3 : x4 + (-63) ≤ x8 ∧ x8 ≤ x4 + 0) (d4 : x7 + (-4294967296) ≤ x6 ∧ x6 ≤ x7 + 0) (d5 : x1 + (-63) ≤ x7 ∧ x7 ≤ x1 + 0) (d6 : x3 + (-63) ≤ x6 ∧ x6 ≤ x3 + 0) (f0 : x7 ≤ x8) (f1 : x8 ≤ x8) (f2 : x8 ≤ x8) (f3 : x9 ≤ x8) (f4 : x9 = x2 - x4) (f5 : x8 = x4 - x2) (f6 : x6 ≤ x7) (f7 : x7 ≤ x7) (f8 : x7 = x1 - x3) (f9 : x6 = x3 - x1) : 1 * x3 + ((-1) * x1 + ((-1) * x8 + 0)) ≤ 0 := by
  first | assumption | omega | grind
set_option maxHeartbeats 4000000 in
theorem vc_Mo_dotLine_5_1 (x1 : Int) (x2 : Int) (x3 : Int) (x4 : Int) (x6 : Int) (x7 : Int) (x8 : Int) (x9 : Int) (k1 : 0 ≤ x1 ∧ x1 ≤ 63) (k2 : 0 ≤ x2 ∧ x2 ≤ 63) (k3 : 0 ≤ x3 ∧ x3 ≤ 63) (k4 : 0 ≤ x4 ∧ x4 ≤ 63) (k6 : (-63) ≤ x6 ∧ x6 ≤ 63) (k7 : (-63) ≤ x7 ∧ x7 ≤ 63) (k8 : 0 ≤ x8 ∧ x8 ≤ 63) (k9 : (-63) ≤ x9 ∧ x9 ≤ 62) (d0 : x8 + (-4294967296) ≤ x7 ∧ x7 ≤ x8 + 0) (d1 : x9 + 1 ≤ x8 ∧ x8 ≤ x9 + 4294967296) (d2 : x2 + (-63) ≤ x9 ∧ x9 ≤ x2 + 0) (d3 : x4 + (-63) ≤ x8 ∧ x8 ≤ x4 + 0) (d4 : x7 + (-4294967296) ≤ x6 ∧ x6 ≤ x7 + 0) (d5 : x1 + (-63) ≤ x7 ∧ x7 ≤ x1 + 0) (d6 : x3 + (-63) ≤ x6 ∧ x6 ≤ x3 + 0) (f0 : x7 ≤ x8) (f1 : x8 ≤ x8) (f2 : x8 ≤ x8) (f3 : x9 ≤ x8) (f4 : x9 = x2 - x4) (f5 : x8 = x4 - x2) (f6 : x6 ≤ x7) (f7 : x7 ≤ x7) (f8 : x7 = x1 - x3) (f9 : x6 = x3 - x1) : (-1) * x3 + (1 * x1 + ((-1) * x8 + 0)) ≤ 0 := by
  first | assumption | omega | grind
set_option maxHeartbeats 4000000 in
theorem vc_Mo_dotLine_5_2 (x1 : Int) (x2 : Int) (x3 : Int) (x4 : Int) (x6 : Int) (x7 : Int) (x8 : Int) (x9 : Int) (k1 : 0 ≤ x1 ∧ x1 ≤ 63) (k2 : 0 ≤ x2 ∧ x2 ≤ 63) (k3 : 0 ≤ x3 ∧ x3 ≤ 63) (k4 : 0 ≤ x4 ∧ x4 ≤ 63) (k6 : (-63) ≤ x6 ∧ x6 ≤ 63) (k7 : (-63) ≤ x7 ∧ x7 ≤ 63) (k8 : 0 ≤ x8 ∧ x8 ≤ 63) (k9 : (-63) ≤ x9 ∧ x9 ≤ 62) (d0 : x8 + (-4294967296) ≤ x7 ∧ x7 ≤ x8 + 0) (d1 : x9 + 1 ≤ x8 ∧ x8 ≤ x9 + 4294967296) (d2 : x2 + (-63) ≤ x9 ∧ x9 ≤ x2 + 0) (d3 : x4 + (-63) ≤ x8 ∧ x8 ≤ x4 + 0) (d4 : x7 + (-4294967296) ≤ x6 ∧ x6 ≤ x7 + 0) (d5 : x1 + (-63) ≤ x7 ∧ x7 ≤ x1 + 0) (d6 : x3 + (-63) ≤ x6 ∧ x6 ≤ x3 + 0) (f0 : x7 ≤ x8) (f1 : x8 ≤ x8) (f2 : x8 ≤ x8) (f3 : x9 ≤ x8) (f4 : x9 = x2 - x4) (f5 : x8 = x4 - x2) (f6 : x6 ≤ x7) (f7 : x7 ≤ x7) (f8 : x7 = x1 - x3) (f9 : x6 = x3 - x1) : 1 * x4 + ((-1) * x2 + ((-1) * x8 + 0)) ≤ 0 := by
  first | assumption | omega | grind
set_option maxHeartbeats 4000000 in
theorem vc_Mo_dotLine_5_3 (x1 : Int) (x2 : Int) (x3 : Int) (x4 : Int) (x6 : Int) (x7 : Int) (x8 : Int) (x9 : Int) (k1 : 0 ≤ x1 ∧ x1 ≤ 63) (k2 : 0 ≤ x2 ∧ x2 ≤ 63) (k3 : 0 ≤ x3 ∧ x3 ≤ 63) (k4 : 0 ≤ x4 ∧ x4 ≤ 63) (k6 : (-63) ≤ x6 ∧ x6 ≤ 63) (k7 : (-63) ≤ x7 ∧ x7 ≤ 63) (k8 : 0 ≤ x8 ∧ x8 ≤ 63) (k9 : (-63) ≤ x9 ∧ x9 ≤ 62) (d0 : x8 + (-4294967296) ≤ x7 ∧ x7 ≤ x8 + 0) (d1 : x9 + 1 ≤ x8 ∧ x8 ≤ x9 + 4294967296) (d2 : x2 + (-63) ≤ x9 ∧ x9 ≤ x2 + 0) (d3 : x4 + (-63) ≤ x8 ∧ x8 ≤ x4 + 0) (d4 : x7 + (-4294967296) ≤ x6 ∧ x6 ≤ x7 + 0) (d5 : x1 + (-63) ≤ x7 ∧ x7 ≤ x1 + 0) (d6 : x3 + (-63) ≤ x6 ∧ x6 ≤ x3 + 0) (f0 : x7 ≤ x8) (f1 : x8 ≤ x8) (f2 : x8 ≤ x8) (f3 : x9 ≤ x8) (f4 : x9 = x2 - x4) (f5 : x8 = x4 - x2) (f6 : x6 ≤ x7) (f7 : x7 ≤ x7) (f8 : x7 = x1 - x3) (f9 : x6 = x3 - x1) : (-1) * x4 + (1 * x2 + ((-1) * x8 + 0)) ≤ 0 := by
  first | assumption | omega | grind
def o_Mo_dotLine_5 : or_T := (28, 11, [(1, (0, 0, 63, [])), (2, (0, 0, 63, [])), (3, (0, 0, 63, [])), (4, (0, 0, 63, [])), (6, (0, -63, 63, [])), (7, (0, -63, 63, [])), (8, (0, 0, 63, [])), (9, (0, -63, 62, []))], [(7, [7, 8], [5]), (7, [8, 8], [5]), (7, [8, 8], [5]), (7, [9, 8], [5]), (2, [9, 2, 4], []), (2, [8, 4, 2], []), (7, [6, 7], [5]), (7, [7, 7], [5]), (2, [7, 1, 3], []), (2, [6, 3, 1], [])], [], [], [(23, [3, 1, 8], [0, 1, -1, -1]), (23, [3, 1, 8], [0, -1, 1, -1]), (23, [4, 2, 8], [0, 1, -1, -1]), (23, [4, 2, 8], [0, -1, 1, -1])], [], [(7, 8, -4294967296, 0), (8, 9, 1, 4294967296), (9, 2, -63, 0), (8, 4, -63, 0), (6, 7, -4294967296, 0), (7, 1, -63, 0), (6, 3, -63, 0)])
theorem oo_Mo_dotLine_5 {kA : Nat → ClassId} : or_ok PRD kA GG o_Mo_dotLine_5 := by
  refine or_mk fun A ta ws vs hD hth hl => ?_
  intro t1 k1 t2 k2 t3 k3 t4 k4 t6 k6 t7 k7 t8 k8 t9 k9 d0 d1 d2 d3 d4 d5 d6 f0 f1 f2 f3 f4 f5 f6 f7 f8 f9
  have nf0 : fc_1 PRD (23, [3, 1, 8], [0, 1, -1, -1]) ws (vs) := ⟨nf_in hl rfl, sgq_148 (vc_Mo_dotLine_5_0 (v_iv (n_v vs 1)) (v_iv (n_v vs 2)) (v_iv (n_v vs 3)) (v_iv (n_v vs 4)) (v_iv (n_v vs 6)) (v_iv (n_v vs 7)) (v_iv (n_v vs 8)) (v_iv (n_v vs 9)) k1 k2 k3 k4 k6 k7 k8 k9 d0 d1 d2 d3 d4 d5 d6 (shm_24 f0) (shm_134 f1) (shm_134 f2) (shm_24 f3) (shm_14 f4) (shm_14 f5) (shm_24 f6) (shm_134 f7) (shm_14 f8) (shm_14 f9))⟩
  have nf1 : fc_1 PRD (23, [3, 1, 8], [0, -1, 1, -1]) ws (vs) := ⟨nf_in hl rfl, sgq_1093 (vc_Mo_dotLine_5_1 (v_iv (n_v vs 1)) (v_iv (n_v vs 2)) (v_iv (n_v vs 3)) (v_iv (n_v vs 4)) (v_iv (n_v vs 6)) (v_iv (n_v vs 7)) (v_iv (n_v vs 8)) (v_iv (n_v vs 9)) k1 k2 k3 k4 k6 k7 k8 k9 d0 d1 d2 d3 d4 d5 d6 (shm_24 f0) (shm_134 f1) (shm_134 f2) (shm_24 f3) (shm_14 f4) (shm_14 f5) (shm_24 f6) (shm_134 f7) (shm_14 f8) (shm_14 f9))⟩
  have nf2 : fc_1 PRD (23, [4, 2, 8], [0, 1, -1, -1]) ws (vs) := ⟨nf_in hl rfl, sgq_148 (vc_Mo_dotLine_5_2 (v_iv (n_v vs 1)) (v_iv (n_v vs 2)) (v_iv (n_v vs 3)) (v_iv (n_v vs 4)) (v_iv (n_v vs 6)) (v_iv (n_v vs 7)) (v_iv (n_v vs 8)) (v_iv (n_v vs 9)) k1 k2 k3 k4 k6 k7 k8 k9 d0 d1 d2 d3 d4 d5 d6 (shm_24 f0) (shm_134 f1) (shm_134 f2) (shm_24 f3) (shm_14 f4) (shm_14 f5) (shm_24 f6) (shm_134 f7) (shm_14 f8) (shm_14 f9))⟩
  have nf3 : fc_1 PRD (23, [4, 2, 8], [0, -1, 1, -1]) ws (vs) := ⟨nf_in hl rfl, sgq_1093 (vc_Mo_dotLine_5_3 (v_iv (n_v vs 1)) (v_iv (n_v vs 2)) (v_iv (n_v vs 3)) (v_iv (n_v vs 4)) (v_iv (n_v vs 6)) (v_iv (n_v vs 7)) (v_iv (n_v vs 8)) (v_iv (n_v vs 9)) k1 k2 k3 k4 k6 k7 k8 k9 d0 d1 d2 d3 d4 d5 d6 (shm_24 f0) (shm_134 f1) (shm_134 f2) (shm_24 f3) (shm_14 f4) (shm_14 f5) (shm_24 f6) (shm_134 f7) (shm_14 f8) (shm_14 f9))⟩
  refine ⟨(fun _ h => (by cases h)), [], trivial, ?_, (fun _ h => (by cases h))⟩
  rw [List.append_nil]
  exact List.forall_mem_cons.mpr ⟨⟨show (23 : Nat) < 100 from by decide, nf0⟩, List.forall_mem_cons.mpr ⟨⟨show (23 : Nat) < 100 from by decide, nf1⟩, List.forall_mem_cons.mpr ⟨⟨show (23 : Nat) < 100 from by decide, nf2⟩, List.forall_mem_cons.mpr ⟨⟨show (23 : Nat) < 100 from by decide, nf3⟩, (fun _ h => (by cases h))⟩⟩⟩⟩
set_option maxHeartbeats 4000000 in
theorem vc_Mo_dotLine_6_r0 (x1 : Int) (x2 : Int) (x3 : Int) (x4 : Int) (x6 : Int) (x7 : Int) (x8 : Int) (x9 : Int) (k1 : 0 ≤ x1 ∧ x1 ≤ 63) (k2 : 0 ≤ x2 ∧ x2 ≤ 63) (k3 : 0 ≤ x3 ∧ x3 ≤ 63) (k4 : 0 ≤ x4 ∧ x4 ≤ 63) (k6 : (-63) ≤ x6 ∧ x6 ≤ 63) (k7 : (-61) ≤ x7 ∧ x7 ≤ 63) (k8 : (-62) ≤ x8 ∧ x8 ≤ 62) (k9 : (-63) ≤ x9 ∧ x9 ≤ 62) (d0 : x8 + 1 ≤ x7 ∧ x7 ≤ x8 + 4294967296) (d1 : x9 + 1 ≤ x8 ∧ x8 ≤ x9 + 4294967296) (d2 : x2 + (-63) ≤ x9 ∧ x9 ≤ x2 + 0) (d3 : x4 + (-63) ≤ x8 ∧ x8 ≤ x4 + 0) (d4 : x7 + (-4294967296) ≤ x6 ∧ x6 ≤ x7 + 0) (d5 : x1 + (-63) ≤ x7 ∧ x7 ≤ x1 + 0) (d6 : x3 + (-63) ≤ x6 ∧ x6 ≤ x3 + 0) (f0 : x7 ≤ x7) (f1 : x8 ≤ x7) (f2 : x8 ≤ x8) (f3 : x9 ≤ x8) (f4 : x9 = x2 - x4) (f5 : x8 = x4 - x2) (f6 : x6 ≤ x7) (f7 : x7 ≤ x7) (f8 : x7 = x1 - x3) (f9 : x6 = x3 - x1) : 0 ≤ x7 ∧ x7 ≤ 63 := by
  first | assumption | omega | grind
def o_Mo_dotLine_6 : or_T := (23, 10, [(1, (0, 0, 63, [])), (2, (0, 0, 63, [])), (3, (0, 0, 63, [])), (4, (0, 0, 63, [])), (6, (0, -63, 63, [])), (7, (0, -61, 63, [])), (8, (0, -62, 62, [])), (9, (0, -63, 62, []))], [(7, [7, 7], [5]), (7, [8, 7], [5]), (7, [8, 8], [5]), (7, [9, 8], [5]), (2, [9, 2, 4], []), (2, [8, 4, 2], []), (7, [6, 7], [5]), (7, [7, 7], [5]), (2, [7, 1, 3], []), (2, [6, 3, 1], [])], [(7, (0, 0, 63, []))], [], [], [], [(7, 8, 1, 4294967296), (8, 9, 1, 4294967296), (9, 2, -63, 0), (8, 4, -63, 0), (6, 7, -4294967296, 0), (7, 1, -63, 0), (6, 3, -63, 0)])
theorem oo_Mo_dotLine_6 {kA : Nat → ClassId} : or_ok PRD kA GG o_Mo_dotLine_6 := by
  refine or_mk fun A ta ws vs hD hth hl => ?_
  intro t1 k1 t2 k2 t3 k3 t4 k4 t6 k6 t7 k7 t8 k8 t9 k9 d0 d1 d2 d3 d4 d5 d6 f0 f1 f2 f3 f4 f5 f6 f7 f8 f9
  have hrf0 : 0 ≤ v_iv (n_v vs 7) ∧ v_iv (n_v vs 7) ≤ 63 := vc_Mo_dotLine_6_r0 (v_iv (n_v vs 1)) (v_iv (n_v vs 2)) (v_iv (n_v vs 3)) (v_iv (n_v vs 4)) (v_iv (n_v vs 6)) (v_iv (n_v vs 7)) (v_iv (n_v vs 8)) (v_iv (n_v vs 9)) k1 k2 k3 k4 k6 k7 k8 k9 d0 d1 d2 d3 d4 d5 d6 (shm_134 f0) (shm_24 f1) (shm_134 f2) (shm_24 f3) (shm_14 f4) (shm_14 f5) (shm_24 f6) (shm_134 f7) (shm_14 f8) (shm_14 f9)
  have rf7 : tv_ok ta (0, 0, 63, []) (n_v vs 7) := tv_in t7 (by omega) (by omega)
  refine ⟨List.forall_mem_cons.mpr ⟨rf7, (fun _ h => (by cases h))⟩, [], trivial, ?_, (fun _ h => (by cases h))⟩
  rw [List.append_nil]
  exact (fun _ h => (by cases h))
set_option maxHeartbeats 4000000 in
theorem vc_Mo_dotLine_7_0 (x1 : Int) (x2 : Int) (x3 : Int) (x4 : Int) (x6 : Int) (x7 : Int) (x8 : Int) (x9 : Int) (k1 : 0 ≤ x1 ∧ x1 ≤ 63) (k2 : 0 ≤ x2 ∧ x2 ≤ 63) (k3 : 0 ≤ x3 ∧ x3 ≤ 63) (k4 : 0 ≤ x4 ∧ x4 ≤ 63) (k6 : (-63) ≤ x6 ∧ x6 ≤ 63) (k7 : 0 ≤ x7 ∧ x7 ≤ 63) (k8 : (-62) ≤ x8 ∧ x8 ≤ 62) (k9 : (-63) ≤ x9 ∧ x9 ≤ 62) (d0 : x8 + 1 ≤ x7 ∧ x7 ≤ x8 + 4294967296) (d1 : x9 + 1 ≤ x8 ∧ x8 ≤ x9 + 4294967296) (d2 : x2 + (-63) ≤ x9 ∧ x9 ≤ x2 + 0) (d3 : x4 + (-63) ≤ x8 ∧ x8 ≤ x4 + 0) (d4 : x7 + (-4294967296) ≤ x6 ∧ x6 ≤ x7 + 0) (d5 : x1 + (-63) ≤ x7 ∧ x7 ≤ x1 + 0) (d6 : x3 + (-63) ≤ x6 ∧ x6 ≤ x3 + 0) (f0 : x7 ≤ x7) (f1 : x8 ≤ x7) (f2 : x8 ≤ x8) (f3 : x9 ≤ x8) (f4 : x9 = x2 - x4) (f5 : x8 = x4 - x2) (f6 : x6 ≤ x7) (f7 : x7 ≤ x7) (f8 : x7 = x1 - x3) (f9 : x6 = x3 - x1) : 1 * x3 + ((-1) * x1 + ((-1) * x7 + 0)) ≤ 0 := by
  first | assumption | omega | grind
set_option maxHeartbeats 4000000 in
theorem vc_Mo_dotLine_7_1 (x1 : Int) (x2 : Int) (x3 : Int) (x4 : Int) (x6 : Int) (x7 : Int) (x8 : Int) (x9 : Int) (k1 : 0 ≤ x1 ∧ x1 ≤ 63) (k2 : 0 ≤ x2 ∧ x2 ≤ 63) (k3 : 0 ≤ x3 ∧ x3 ≤ 63) (k4 : 0 ≤ x4 ∧ x4 ≤ 63) (k6 : (-63) ≤ x6 ∧ x6 ≤ 63) (k7 : 0 ≤ x7 ∧ x7 ≤ 63) (k8 : (-62) ≤ x8 ∧ x8 ≤ 62) (k9 : (-63) ≤ x9 ∧ x9 ≤ 62) (d0 : x8 + 1 ≤ x7 ∧ x7 ≤ x8 + 4294967296) (d1 : x9 + 1 ≤ x8 ∧ x8 ≤ x9 + 4294967296) (d2 : x2 + (-63) ≤ x9 ∧ x9 ≤ x2 + 0) (d3 : x4 + (-63) ≤ x8 ∧ x8 ≤ x4 + 0) (d4 : x7 + (-4294967296) ≤ x6 ∧ x6 ≤ x7 + 0) (d5 : x1 + (-63) ≤ x7 ∧ x7 ≤ x1 + 0) (d6 : x3 + (-63) ≤ x6 ∧ x6 ≤ x3 + 0) (f0 : x7 ≤ x7) (f1 : x8 ≤ x7) (f2 : x8 ≤ x8) (f3 : x9 ≤ x8) (f4 : x9 = x2 - x4) (f5 : x8 = x4 - x2) (f6 : x6 ≤ x7) (f7 : x7 ≤ x7) (f8 : x7 = x1 - x3) (f9 : x6 = x3 - x1) : (-1) * x3 + (1 * x1 + ((-1) * x7 + 0)) ≤ 0 := by
  first | assumption | omega | grind
set_option maxHeartbeats 4000000 in
theorem vc_Mo_dotLine_7_2 (x1 : Int) (x2 : Int) (x3 : Int) (x4 : Int) (x6 : Int) (x7 : Int) (x8 : Int) (x9 : Int) (k1 : 0 ≤ x1 ∧ x1 ≤ 63) (k2 : 0 ≤ x2 ∧ x2 ≤ 63) (k3 : 0 ≤ x3 ∧ x3 ≤ 63) (k4 : 0 ≤ x4 ∧ x4 ≤ 63) (k6 : (-63) ≤ x6 ∧ x6 ≤ 63) (k7 : 0 ≤ x7 ∧ x7 ≤ 63) (k8 : (-62) ≤ x8 ∧ x8 ≤ 62) (k9 : (-63) ≤ x9 ∧ x9 ≤ 62) (d0 : x8 + 1 ≤ x7 ∧ x7 ≤ x8 + 4294967296) (d1 : x9 + 1 ≤ x8 ∧ x8 ≤ x9 + 4294967296) (d2 : x2 + (-63) ≤ x9 ∧ x9 ≤ x2 + 0) (d3 : x4 + (-63) ≤ x8 ∧ x8 ≤ x4 + 0) (d4 : x7 + (-4294967296) ≤ x6 ∧ x6 ≤ x7 + 0) (d5 : x1 + (-63) ≤ x7 ∧ x7 ≤ x1 + 0) (d6 : x3 + (-63) ≤ x6 ∧ x6 ≤ x3 + 0) (f0 : x7 ≤ x7) (f1 : x8 ≤ x7) (f2 : x8 ≤ x8) (f3 : x9 ≤ x8) (f4 : x9 = x2 - x4) (f5 : x8 = x4 - x2) (f6 : x6 ≤ x7) (f7 : x7 ≤ x7) (f8 : x7 = x1 - x3) (f9 : x6 = x3 - x1) : 1 * x4 + ((-1) * x2 + ((-1) * x7 + 0)) ≤ 0 := by
  first | assumption | omega | grind
set_option maxHeartbeats 4000000 in
theorem vc_Mo_dotLine_7_3 (x1 : Int) (x2 : Int) (x3 : Int) (x4 : Int) (x6 : Int) (x7 : Int) (x8 : Int) (x9 : Int) (k1 : 0 ≤ x1 ∧ x1 ≤ 63) (k2 : 0 ≤ x2 ∧ x2 ≤ 63) (k3 : 0 ≤ x3 ∧ x3 ≤ 63) (k4 : 0 ≤ x4 ∧ x4 ≤ 63) (k6 : (-63) ≤ x6 ∧ x6 ≤ 63) (k7 : 0 ≤ x7 ∧ x7 ≤ 63) (k8 : (-62) ≤ x8 ∧ x8 ≤ 62) (k9 : (-63) ≤ x9 ∧ x9 ≤ 62) (d0 : x8 + 1 ≤ x7 ∧ x7 ≤ x8 + 4294967296) (d1 : x9 + 1 ≤ x8 ∧ x8 ≤ x9 + 4294967296) (d2 : x2 + (-63) ≤ x9 ∧ x9 ≤ x2 + 0) (d3 : x4 + (-63) ≤ x8 ∧ x8 ≤ x4 + 0) (d4 : x7 + (-4294967296) ≤ x6 ∧ x6 ≤ x7 + 0) (d5 : x1 + (-63) ≤ x7 ∧ x7 ≤ x1 + 0) (d6 : x3 + (-63) ≤ x6 ∧ x6 ≤ x3 + 0) (f0 : x7 ≤ x7) (f1 : x8 ≤ x7) (f2 : x8 ≤ x8) (f3 : x9 ≤ x8) (f4 : x9 = x2 - x4) (f5 : x8 = x4 - x2) (f6 : x6 ≤ x7) (f7 : x7 ≤ x7) (f8 : x7 = x1 - x3) (f9 : x6 = x3 - x1) : (-1) * x4 + (1 * x2 + ((-1) * x7 + 0)) ≤ 0 := by
  first | assumption | omega | grind
def o_Mo_dotLine_7 : or_T := (28, 11, [(1, (0, 0, 63, [])), (2, (0, 0, 63, [])), (3, (0, 0, 63, [])), (4, (0, 0, 63, [])), (6, (0, -63, 63, [])), (7, (0, 0, 63, [])), (8, (0, -62, 62, [])), (9, (0, -63, 62, []))], [(7, [7, 7], [5]), (7, [8, 7], [5]), (7, [8, 8], [5]), (7, [9, 8], [5]), (2, [9, 2, 4], []), (2, [8, 4, 2], []), (7, [6, 7], [5]), (7, [7, 7], [5]), (2, [7, 1, 3], []), (2, [6, 3, 1], [])], [], [], [(23, [3, 1, 7], [0, 1, -1, -1]), (23, [3, 1, 7], [0, -1, 1, -1]), (23, [4, 2, 7], [0, 1, -1, -1]), (23, [4, 2, 7], [0, -1, 1, -1])], [], [(7, 8, 1, 4294967296), (8, 9, 1, 4294967296), (9, 2, -63, 0), (8, 4, -63, 0), (6, 7, -4294967296, 0), (7, 1, -63, 0), (6, 3, -63, 0)])
theorem oo_Mo_dotLine_7 {kA : Nat → ClassId} : or_ok PRD kA GG o_Mo_dotLine_7 := by
  refine or_mk fun A ta ws vs hD hth hl => ?_
  intro t1 k1 t2 k2 t3 k3 t4 k4 t6 k6 t7 k7 t8 k8 t9 k9 d0 d1 d2 d3 d4 d5 d6 f0 f1 f2 f3 f4 f5 f6 f7 f8 f9
  have nf0 : fc_1 PRD (23, [3, 1, 7], [0, 1, -1, -1]) ws (vs) := ⟨nf_in hl rfl, sgq_148 (vc_Mo_dotLine_7_0 (v_iv (n_v vs 1)) (v_iv (n_v vs 2)) (v_iv (n_v vs 3)) (v_iv (n_v vs 4)) (v_iv (n_v vs 6)) (v_iv (n_v vs 7)) (v_iv (n_v vs 8)) (v_iv (n_v vs 9)) k1 k2 k3 k4 k6 k7 k8 k9 d0 d1 d2 d3 d4 d5 d6 (shm_134 f0) (shm_24 f1) (shm_134 f2) (shm_24 f3) (shm_14 f4) (shm_14 f5) (shm_24 f6) (shm_134 f7) (shm_14 f8) (shm_14 f9))⟩
  have nf1 : fc_1 PRD (23, [3, 1, 7], [0, -1, 1, -1]) ws (vs) := ⟨nf_in hl rfl, sgq_1093 (vc_Mo_dotLine_7_1 (v_iv (n_v vs 1)) (v_iv (n_v vs 2)) (v_iv (n_v vs 3)) (v_iv (n_v vs 4)) (v_iv (n_v vs 6)) (v_iv (n_v vs 7)) (v_iv (n_v vs 8)) (v_iv (n_v vs 9)) k1 k2 k3 k4 k6 k7 k8 k9 d0 d1 d2 d3 d4 d5 d6 (shm_134 f0) (shm_24 f1) (shm_134 f2) (shm_24 f3) (shm_14 f4) (shm_14 f5) (shm_24 f6) (shm_134 f7) (shm_14 f8) (shm_14 f9))⟩
  have nf2 : fc_1 PRD (23, [4, 2, 7], [0, 1, -1, -1]) ws (vs) := ⟨nf_in hl rfl, sgq_148 (vc_Mo_dotLine_7_2 (v_iv (n_v vs 1)) (v_iv (n_v vs 2)) (v_iv (n_v vs 3)) (v_iv (n_v vs 4)) (v_iv (n_v vs 6)) (v_iv (n_v vs 7)) (v_iv (n_v vs 8)) (v_iv (n_v vs 9)) k1 k2 k3 k4 k6 k7 k8 k9 d0 d1 d2 d3 d4 d5 d6 (shm_134 f0) (shm_24 f1) (shm_134 f2) (shm_24 f3) (shm_14 f4) (shm_14 f5) (shm_24 f6) (shm_134 f7) (shm_14 f8) (shm_14 f9))⟩
  have nf3 : fc_1 PRD (23, [4, 2, 7], [0, -1, 1, -1]) ws (vs) := ⟨nf_in hl rfl, sgq_1093 (vc_Mo_dotLine_7_3 (v_iv (n_v vs 1)) (v_iv (n_v vs 2)) (v_iv (n_v vs 3)) (v_iv (n_v vs 4)) (v_iv (n_v vs 6)) (v_iv (n_v vs 7)) (v_iv (n_v vs 8)) (v_iv (n_v vs 9)) k1 k2 k3 k4 k6 k7 k8 k9 d0 d1 d2 d3 d4 d5 d6 (shm_134 f0) (shm_24 f1) (shm_134 f2) (shm_24 f3) (shm_14 f4) (shm_14 f5) (shm_24 f6) (shm_134 f7) (shm_14 f8) (shm_14 f9))⟩
  refine ⟨(fun _ h => (by cases h)), [], trivial, ?_, (fun _ h => (by cases h))⟩
  rw [List.append_nil]
  exact List.forall_mem_cons.mpr ⟨⟨show (23 : Nat) < 100 from by decide, nf0⟩, List.forall_mem_cons.mpr ⟨⟨show (23 : Nat) < 100 from by decide, nf1⟩, List.forall_mem_cons.mpr ⟨⟨show (23 : Nat) < 100 from by decide, nf2⟩, List.forall_mem_cons.mpr ⟨⟨show (23 : Nat) < 100 from by decide, nf3⟩, (fun _ h => (by cases h))⟩⟩⟩⟩
set_option maxHeartbeats 4000000 in
theorem vc_Mo_dotLine_8_r0 (x1 : Int) (x2 : Int) (x3 : Int) (x4 : Int) (x6 : Int) (x7 : Int) (x8 : Int) (x9 : Int) (k1 : 0 ≤ x1 ∧ x1 ≤ 63) (k2 : 0 ≤ x2 ∧ x2 ≤ 63) (k3 : 0 ≤ x3 ∧ x3 ≤ 63) (k4 : 0 ≤ x4 ∧ x4 ≤ 63) (k6 : (-62) ≤ x6 ∧ x6 ≤ 63) (k7 : (-63) ≤ x7 ∧ x7 ≤ 62) (k8 : (-63) ≤ x8 ∧ x8 ≤ 63) (k9 : (-62) ≤ x9 ∧ x9 ≤ 63) (d0 : x9 + (-4294967296) ≤ x6 ∧ x6 ≤ x9 + 0) (d1 : x9 + (-4294967296) ≤ x8 ∧ x8 ≤ x9 + 0) (d2 : x2 + (-63) ≤ x9 ∧ x9 ≤ x2 + 0) (d3 : x4 + (-63) ≤ x8 ∧ x8 ≤ x4 + 0) (d4 : x7 + 1 ≤ x6 ∧ x6 ≤ x7 + 4294967296) (d5 : x1 + (-63) ≤ x7 ∧ x7 ≤ x1 + 0) (d6 : x3 + (-63) ≤ x6 ∧ x6 ≤ x3 + 0) (f0 : x6 ≤ x9) (f1 : x9 ≤ x9) (f2 : x8 ≤ x9) (f3 : x9 ≤ x9) (f4 : x9 = x2 - x4) (f5 : x8 = x4 - x2) (f6 : x6 ≤ x6) (f7 : x7 ≤ x6) (f8 : x7 = x1 - x3) (f9 : x6 = x3 - x1) : 0 ≤ x9 ∧ x9 ≤ 63 := by
  first | assumption | omega | grind
def o_Mo_dotLine_8 : or_T := (23, 10, [(1, (0, 0, 63, [])), (2, (0, 0, 63, [])), (3, (0, 0, 63, [])), (4, (0, 0, 63, [])), (6, (0, -62, 63, [])), (7, (0, -63, 62, [])), (8, (0, -63, 63, [])), (9, (0, -62, 63, []))], [(7, [6, 9], [5]), (7, [9, 9], [5]), (7, [8, 9], [5]), (7, [9, 9], [5]), (2, [9, 2, 4], []), (2, [8, 4, 2], []), (7, [6, 6], [5]), (7, [7, 6], [5]), (2, [7, 1, 3], []), (2, [6, 3, 1], [])], [(9, (0, 0, 63, []))], [], [], [], [(6, 9, -4294967296, 0), (8, 9, -4294967296, 0), (9, 2, -63, 0), (8, 4, -63, 0), (6, 7, 1, 4294967296), (7, 1, -63, 0), (6, 3, -63, 0)])
theorem oo_Mo_dotLine_8 {kA : Nat → ClassId} : or_ok PRD kA GG o_Mo_dotLine_8 := by
  refine or_mk fun A ta ws vs hD hth hl => ?_
  intro t1 k1 t2 k2 t3 k3 t4 k4 t6 k6 t7 k7 t8 k8 t9 k9 d0 d1 d2 d3 d4 d5 d6 f0 f1 f2 f3 f4 f5 f6 f7 f8 f9
  have hrf0 : 0 ≤ v_iv (n_v vs 9) ∧ v_iv (n_v vs 9) ≤ 63 := vc_Mo_dotLine_8_r0 (v_iv (n_v vs 1)) (v_iv (n_v vs 2)) (v_iv (n_v vs 3)) (v_iv (n_v vs 4)) (v_iv (n_v vs 6)) (v_iv (n_v vs 7)) (v_iv (n_v vs 8)) (v_iv (n_v vs 9)) k1 k2 k3 k4 k6 k7 k8 k9 d0 d1 d2 d3 d4 d5 d6 (shm_24 f0) (shm_134 f1) (shm_24 f2) (shm_134 f3) (shm_14 f4) (shm_14 f5) (shm_134 f6) (shm_24 f7) (shm_14 f8) (shm_14 f9)
  have rf9 : tv_ok ta (0, 0, 63, []) (n_v vs 9) := tv_in t9 (by omega) (by omega)
  refine ⟨List.forall_mem_cons.mpr ⟨rf9, (fun _ h => (by cases h))⟩, [], trivial, ?_, (fun _ h => (by cases h))⟩
  rw [List.append_nil]
  exact (fun _ h => (by cases h))
set_option maxHeartbeats 4000000 in
theorem vc_Mo_dotLine_9_0 (x1 : Int) (x2 : Int) (x3 : Int) (x4 : Int) (x6 : Int) (x7 : Int) (x8 : Int) (x9 : Int) (k1 : 0 ≤ x1 ∧ x1 ≤ 63) (k2 : 0 ≤ x2 ∧ x2 ≤ 63) (k3 : 0 ≤ x3 ∧ x3 ≤ 63) (k4 : 0 ≤ x4 ∧ x4 ≤ 63) (k6 : (-62) ≤ x6 ∧ x6 ≤ 63) (k7 : (-63) ≤ x7 ∧ x7 ≤ 62) (k8 : (-63) ≤ x8 ∧ x8 ≤ 63) (k9 : 0 ≤ x9 ∧ x9 ≤ 63) (d0 : x9 + (-4294967296) ≤ x6 ∧ x6 ≤ x9 + 0) (d1 : x9 + (-4294967296) ≤ x8 ∧ x8 ≤ x9 + 0) (d2 : x2 + (-63) ≤ x9 ∧ x9 ≤ x2 + 0) (d3 : x4 + (-63) ≤ x8 ∧ x8 ≤ x4 + 0) (d4 : x7 + 1 ≤ x6 ∧ x6 ≤ x7 + 4294967296) (d5 : x1 + (-63) ≤ x7 ∧ x7 ≤ x1 + 0) (d6 : x3 + (-63) ≤ x6 ∧ x6 ≤ x3 + 0) (f0 : x6 ≤ x9) (f1 : x9 ≤ x9) (f2 : x8 ≤ x9) (f3 : x9 ≤ x9) (f4 : x9 = x2 - x4) (f5 : x8 = x4 - x2) (f6 : x6 ≤ x6) (f7 : x7 ≤ x6) (f8 : x7 = x1 - x3) (f9 : x6 = x3 - x1) : 1 * x3 + ((-1) * x1 + ((-1) * x9 + 0)) ≤ 0 := by
  first | assumption | omega | grind
set_option maxHeartbeats 4000000 in
theorem vc_Mo_dotLine_9_1 (x1 : Int) (x2 : Int) (x3 : Int) (x4 : Int) (x6 : Int) (x7 : Int) (x8 : Int) (x9 : Int) (k1 : 0 ≤ x1 ∧ x1 ≤ 63) (k2 : 0 ≤ x2 ∧ x2 ≤ 63) (k3 : 0 ≤ x3 ∧ x3 ≤ 63) (k4 : 0 ≤ x4 ∧ x4 ≤ 63) (k6 : (-62) ≤ x6 ∧ x6 ≤ 63) (k7 : (-63) ≤ x7 ∧ x7 ≤ 62) (k8 : (-63) ≤ x8 ∧ x8 ≤ 63) (k9 : 0 ≤ x9 ∧ x9 ≤ 63) (d0 : x9 + (-4294967296) ≤ x6 ∧ x6 ≤ x9 + 0) (d1 : x9 + (-4294967296) ≤ x8 ∧ x8 ≤ x9 + 0) (d2 : x2 + (-63) ≤ x9 ∧ x9 ≤ x2 + 0) (d3 : x4 + (-63) ≤ x8 ∧ x8 ≤ x4 + 0) (d4 : x7 + 1 ≤ x6 ∧ x6 ≤ x7 + 4294967296) (d5 : x1 + (-63) ≤ x7 ∧ x7 ≤ x1 + 0) (d6 : x3 + (-63) ≤ x6 ∧ x6 ≤ x3 + 0) (f0 : x6 ≤ x9) (f1 : x9 ≤ x9) (f2 : x8 ≤ x9) (f3 : x9 ≤ x9) (f4 : x9 = x2 - x4) (f5 : x8 = x4 - x2) (f6 : x6 ≤ x6) (f7 : x7 ≤ x6) (f8 : x7 = x1 - x3) (f9 : x6 = x3 - x1) : (-1) * x3 + (1 * x1 + ((-1) * x9 + 0)) ≤ 0 := by
  first | assumption | omega | grind
set_option maxHeartbeats 4000000 in
theorem vc_Mo_dotLine_9_2 (x1 : Int) (x2 : Int) (x3 : Int) (x4 : Int) (x6 : Int) (x7 : Int) (x8 : Int) (x9 : Int) (k1 : 0 ≤ x1 ∧ x1 ≤ 63) (k2 : 0 ≤ x2 ∧ x2 ≤ 63) (k3 : 0 ≤ x3 ∧ x3 ≤ 63) (k4 : 0 ≤ x4 ∧ x4 ≤ 63) (k6 : (-62) ≤ x6 ∧ x6 ≤ 63) (k7 : (-63) ≤ x7 ∧ x7 ≤ 62) (k8 : (-63) ≤ x8 ∧ x8 ≤ 63) (k9 : 0 ≤ x9 ∧ x9 ≤ 63) (d0 : x9 + (-4294967296) ≤ x6 ∧ x6 ≤ x9 + 0) (d1 : x9 + (-4294967296) ≤ x8 ∧ x8 ≤ x9 + 0) (d2 : x2 + (-63) ≤ x9 ∧ x9 ≤ x2 + 0) (d3 : x4 + (-63) ≤ x8 ∧ x8 ≤ x4 + 0) (d4 : x7 + 1 ≤ x6 ∧ x6 ≤ x7 + 4294967296) (d5 : x1 + (-63) ≤ x7 ∧ x7 ≤ x1 + 0) (d6 : x3 + (-63) ≤ x6 ∧ x6 ≤ x3 + 0) (f0 : x6 ≤ x9) (f1 : x9 ≤ x9) (f2 : x8 ≤ x9) (f3 : x9 ≤ x9) (f4 : x9 = x2 - x4) (f5 : x8 = x4 - x2) (f6 : x6 ≤ x6) (f7 : x7 ≤ x6) (f8 : x7 = x1 - x3) (f9 : x6 = x3 - x1) : 1 * x4 + ((-1) * x2 + ((-1) * x9 + 0)) ≤ 0 := by
  first | assumption | omega | grind
set_option maxHeartbeats 4000000 in
theorem vc_Mo_dotLine_9_3 (x1 : Int) (x2 : Int) (x3 : Int) (x4 : Int) (x6 : Int) (x7 : Int) (x8 : Int) (x9 : Int) (k1 : 0 ≤ x1 ∧ x1 ≤ 63) (k2 : 0 ≤ x2 ∧ x2 ≤ 63) (k3 : 0 ≤ x3 ∧ x3 ≤ 63) (k4 : 0 ≤ x4 ∧ x4 ≤ 63) (k6 : (-62) ≤ x6 ∧ x6 ≤ 63) (k7 : (-63) ≤ x7 ∧ x7 ≤ 62) (k8 : (-63) ≤ x8 ∧ x8 ≤ 63) (k9 : 0 ≤ x9 ∧ x9 ≤ 63) (d0 : x9 + (-4294967296) ≤ x6 ∧ x6 ≤ x9 + 0) (d1 : x9 + (-4294967296) ≤ x8 ∧ x8 ≤ x9 + 0) (d2 : x2 + (-63) ≤ x9 ∧ x9 ≤ x2 + 0) (d3 : x4 + (-63) ≤ x8 ∧ x8 ≤ x4 + 0) (d4 : x7 + 1 ≤ x6 ∧ x6 ≤ x7 + 4294967296) (d5 : x1 + (-63) ≤ x7 ∧ x7 ≤ x1 + 0) (d6 : x3 + (-63) ≤ x6 ∧ x6 ≤ x3 + 0) (f0 : x6 ≤ x9) (f1 : x9 ≤ x9) (f2 : x8 ≤ x9) (f3 : x9 ≤ x9) (f4 : x9 = x2 - x4) (f5 : x8 = x4 - x2) (f6 : x6 ≤ x6) (f7 : x7 ≤ x6) (f8 : x7 = x1 - x3) (f9 : x6 = x3 - x1) : (-1) * x4 + (1 * x2 + ((-1) * x9 + 0)) ≤ 0 := by
  first | assumption | omega | grind
def o_Mo_dotLine_9 : or_T := (28, 11, [(1, (0, 0, 63, [])), (2, (0, 0, 63, [])), (3, (0, 0, 63, [])), (4, (0, 0, 63, [])), (6, (0, -62, 63, [])), (7, (0, -63, 62, [])), (8, (0, -63, 63, [])), (9, (0, 0, 63, []))], [(7, [6, 9], [5]), (7, [9, 9], [5]), (7, [8, 9], [5]), (7, [9, 9], [5]), (2, [9, 2, 4], []), (2, [8, 4, 2], []), (7, [6, 6], [5]), (7, [7, 6], [5]), (2, [7, 1, 3], []), (2, [6, 3, 1], [])], [], [], [(23, [3, 1, 9], [0, 1, -1, -1]), (23, [3, 1, 9], [0, -1, 1, -1]), (23, [4, 2, 9], [0, 1, -1, -1]), (23, [4, 2, 9], [0, -1, 1, -1])], [], [(6, 9, -4294967296, 0), (8, 9, -4294967296, 0), (9, 2, -63, 0), (8, 4, -63, 0), (6, 7, 1, 4294967296), (7, 1, -63, 0), (6, 3, -63, 0)])
theorem oo_Mo_dotLine_9 {kA : Nat → ClassId} : or_ok PRD kA GG o_Mo_dotLine_9 := by
  refine or_mk fun A ta ws vs hD hth hl => ?_
  intro t1 k1 t2 k2 t3 k3 t4 k4 t6 k6 t7 k7 t8 k8 t9 k9 d0 d1 d2 d3 d4 d5 d6 f0 f1 f2 f3 f4 f5 f6 f7 f8 f9
  have nf0 : fc_1 PRD (23, [3, 1, 9], [0, 1, -1, -1]) ws (vs) := ⟨nf_in hl rfl, sgq_148 (vc_Mo_dotLine_9_0 (v_iv (n_v vs 1)) (v_iv (n_v vs 2)) (v_iv (n_v vs 3)) (v_iv (n_v vs 4)) (v_iv (n_v vs 6)) (v_iv (n_v vs 7)) (v_iv (n_v vs 8)) (v_iv (n_v vs 9)) k1 k2 k3 k4 k6 k7 k8 k9 d0 d1 d2 d3 d4 d5 d6 (shm_24 f0) (shm_134 f1) (shm_24 f2) (shm_134 f3) (shm_14 f4) (shm_14 f5) (shm_134 f6) (shm_24 f7) (shm_14 f8) (shm_14 f9))⟩
  have nf1 : fc_1 PRD (23, [3, 1, 9], [0, -1, 1, -1]) ws (vs) := ⟨nf_in hl rfl, sgq_1093 (vc_Mo_dotLine_9_1 (v_iv (n_v vs 1)) (v_iv (n_v vs 2)) (v_iv (n_v vs 3)) (v_iv (n_v vs 4)) (v_iv (n_v vs 6)) (v_iv (n_v vs 7)) (v_iv (n_v vs 8)) (v_iv (n_v vs 9)) k1 k2 k3 k4 k6 k7 k8 k9 d0 d1 d2 d3 d4 d5 d6 (shm_24 f0) (shm_134 f1) (shm_24 f2) (shm_134 f3) (shm_14 f4) (shm_14 f5) (shm_134 f6) (shm_24 f7) (shm_14 f8) (shm_14 f9))⟩
  have nf2 : fc_1 PRD (23, [4, 2, 9], [0, 1, -1, -1]) ws (vs) := ⟨nf_in hl rfl, sgq_148 (vc_Mo_dotLine_9_2 (v_iv (n_v vs 1)) (v_iv (n_v vs 2)) (v_iv (n_v vs 3)) (v_iv (n_v vs 4)) (v_iv (n_v vs 6)) (v_iv (n_v vs 7)) (v_iv (n_v vs 8)) (v_iv (n_v vs 9)) k1 k2 k3 k4 k6 k7 k8 k9 d0 d1 d2 d3 d4 d5 d6 (shm_24 f0) (shm_134 f1) (shm_24 f2) (shm_134 f3) (shm_14 f4) (shm_14 f5) (shm_134 f6) (shm_24 f7) (shm_14 f8) (shm_14 f9))⟩
  have nf3 : fc_1 PRD (23, [4, 2, 9], [0, -1, 1, -1]) ws (vs) := ⟨nf_in hl rfl, sgq_1093 (vc_Mo_dotLine_9_3 (v_iv (n_v vs 1)) (v_iv (n_v vs 2)) (v_iv (n_v vs 3)) (v_iv (n_v vs 4)) (v_iv (n_v vs 6)) (v_iv (n_v vs 7)) (v_iv (n_v vs 8)) (v_iv (n_v vs 9)) k1 k2 k3 k4 k6 k7 k8 k9 d0 d1 d2 d3 d4 d5 d6 (shm_24 f0) (shm_134 f1) (shm_24 f2) (shm_134 f3) (shm_14 f4) (shm_14 f5) (shm_134 f6) (shm_24 f7) (shm_14 f8) (shm_14 f9))⟩
  refine ⟨(fun _ h => (by cases h)), [], trivial, ?_, (fun _ h => (by cases h))⟩
  rw [List.append_nil]
  exact List.forall_mem_cons.mpr ⟨⟨show (23 : Nat) < 100 from by decide, nf0⟩, List.forall_mem_cons.mpr ⟨⟨show (23 : Nat) < 100 from by decide, nf1⟩, List.forall_mem_cons.mpr ⟨⟨show (23 : Nat) < 100 from by decide, nf2⟩, List.forall_mem_cons.mpr ⟨⟨show (23 : Nat) < 100 from by decide, nf3⟩, (fun _ h => (by cases h))⟩⟩⟩⟩
set_option maxHeartbeats 4000000 in
theorem vc_Mo_dotLine_10_r0 (x1 : Int) (x2 : Int) (x3 : Int) (x4 : Int) (x6 : Int) (x7 : Int) (x8 : Int) (x9 : Int) (k1 : 0 ≤ x1 ∧ x1 ≤ 63) (k2 : 0 ≤ x2 ∧ x2 ≤ 63) (k3 : 0 ≤ x3 ∧ x3 ≤ 63) (k4 : 0 ≤ x4 ∧ x4 ≤ 63) (k6 : (-62) ≤ x6 ∧ x6 ≤ 63) (k7 : (-63) ≤ x7 ∧ x7 ≤ 62) (k8 : (-63) ≤ x8 ∧ x8 ≤ 63) (k9 : (-63) ≤ x9 ∧ x9 ≤ 62) (d0 : x9 + 1 ≤ x6 ∧ x6 ≤ x9 + 4294967296) (d1 : x9 + (-4294967296) ≤ x8 ∧ x8 ≤ x9 + 0) (d2 : x2 + (-63) ≤ x9 ∧ x9 ≤ x2 + 0) (d3 : x4 + (-63) ≤ x8 ∧ x8 ≤ x4 + 0) (d4 : x7 + 1 ≤ x6 ∧ x6 ≤ x7 + 4294967296) (d5 : x1 + (-63) ≤ x7 ∧ x7 ≤ x1 + 0) (d6 : x3 + (-63) ≤ x6 ∧ x6 ≤ x3 + 0) (f0 : x6 ≤ x6) (f1 : x9 ≤ x6) (f2 : x8 ≤ x9) (f3 : x9 ≤ x9) (f4 : x9 = x2 - x4) (f5 : x8 = x4 - x2) (f6 : x6 ≤ x6) (f7 : x7 ≤ x6) (f8 : x7 = x1 - x3) (f9 : x6 = x3 - x1) : 0 ≤ x6 ∧ x6 ≤ 63 := by
  first | assumption | omega | grind
def o_Mo_dotLine_10 : or_T := (23, 10, [(1, (0, 0, 63, [])), (2, (0, 0, 63, [])), (3, (0, 0, 63, [])), (4, (0, 0, 63, [])), (6, (0, -62, 63, [])), (7, (0, -63, 62, [])), (8, (0, -63, 63, [])), (9, (0, -63, 62, []))], [(7, [6, 6], [5]), (7, [9, 6], [5]), (7, [8, 9], [5]), (7, [9, 9], [5]), (2, [9, 2, 4], []), (2, [8, 4, 2], []), (7, [6, 6], [5]), (7, [7, 6], [5]), (2, [7, 1, 3], []), (2, [6, 3, 1], [])], [(6, (0, 0, 63, []))], [], [], [], [(6, 9, 1, 4294967296), (8, 9, -4294967296, 0), (9, 2, -63, 0), (8, 4, -63, 0), (6, 7, 1, 4294967296), (7, 1, -63, 0), (6, 3, -63, 0)])
theorem oo_Mo_dotLine_10 {kA : Nat → ClassId} : or_ok PRD kA GG o_Mo_dotLine_10 := by
  refine or_mk fun A ta ws vs hD hth hl => ?_
  intro t1 k1 t2 k2 t3 k3 t4 k4 t6 k6 t7 k7 t8 k8 t9 k9 d0 d1 d2 d3 d4 d5 d6 f0 f1 f2 f3 f4 f5 f6 f7 f8 f9
  have hrf0 : 0 ≤ v_iv (n_v vs 6) ∧ v_iv (n_v vs 6) ≤ 63 := vc_Mo_dotLine_10_r0 (v_iv (n_v vs 1)) (v_iv (n_v vs 2)) (v_iv (n_v vs 3)) (v_iv (n_v vs 4)) (v_iv (n_v vs 6)) (v_iv (n_v vs 7)) (v_iv (n_v vs 8)) (v_iv (n_v vs 9)) k1 k2 k3 k4 k6 k7 k8 k9 d0 d1 d2 d3 d4 d5 d6 (shm_134 f0) (shm_24 f1) (shm_24 f2) (shm_134 f3) (shm_14 f4) (shm_14 f5) (shm_134 f6) (shm_24 f7) (shm_14 f8) (shm_14 f9)
  have rf6 : tv_ok ta (0, 0, 63, []) (n_v vs 6) := tv_in t6 (by omega) (by omega)
  refine ⟨List.forall_mem_cons.mpr ⟨rf6, (fun _ h => (by cases h))⟩, [], trivial, ?_, (fun _ h => (by cases h))⟩
  rw [List.append_nil]
  exact (fun _ h => (by cases h))
set_option maxHeartbeats 4000000 in
theorem vc_Mo_dotLine_11_0 (x1 : Int) (x2 : Int) (x3 : Int) (x4 : Int) (x6 : Int) (x7 : Int) (x8 : Int) (x9 : Int) (k1 : 0 ≤ x1 ∧ x1 ≤ 63) (k2 : 0 ≤ x2 ∧ x2 ≤ 63) (k3 : 0 ≤ x3 ∧ x3 ≤ 63) (k4 : 0 ≤ x4 ∧ x4 ≤ 63) (k6 : 0 ≤ x6 ∧ x6 ≤ 63) (k7 : (-63) ≤ x7 ∧ x7 ≤ 62) (k8 : (-63) ≤ x8 ∧ x8 ≤ 63) (k9 : (-63) ≤ x9 ∧ x9 ≤ 62) (d0 : x9 + 1 ≤ x6 ∧ x6 ≤ x9 + 4294967296) (d1 : x9 + (-4294967296) ≤ x8 ∧ x8 ≤ x9 + 0) (d2 : x2 + (-63) ≤ x9 ∧ x9 ≤ x2 + 0) (d3 : x4 + (-63) ≤ x8 ∧ x8 ≤ x4 + 0) (d4 : x7 + 1 ≤ x6 ∧ x6 ≤ x7 + 4294967296) (d5 : x1 + (-63) ≤ x7 ∧ x7 ≤ x1 + 0) (d6 : x3 + (-63) ≤ x6 ∧ x6 ≤ x3 + 0) (f0 : x6 ≤ x6) (f1 : x9 ≤ x6) (f2 : x8 ≤ x9) (f3 : x9 ≤ x9) (f4 : x9 = x2 - x4) (f5 : x8 = x4 - x2) (f6 : x6 ≤ x6) (f7 : x7 ≤ x6) (f8 : x7 = x1 - x3) (f9 : x6 = x3 - x1) : 1 * x3 + ((-1) * x1 + ((-1) * x6 + 0)) ≤ 0 := by
  first | assumption | omega | grind
set_option maxHeartbeats 4000000 in
theorem vc_Mo_dotLine_11_1 (x1 : Int) (x2 : Int) (x3 : Int) (x4 : Int) (x6 : Int) (x7 : Int) (x8 : Int) (x9 : Int) (k1 : 0 ≤ x1 ∧ x1 ≤ 63) (k2 : 0 ≤ x2 ∧ x2 ≤ 63) (k3 : 0 ≤ x3 ∧ x3 ≤ 63) (k4 : 0 ≤ x4 ∧ x4 ≤ 63) (k6 : 0 ≤ x6 ∧ x6 ≤ 63) (k7 : (-63) ≤ x7 ∧ x7 ≤ 62) (k8 : (-63) ≤ x8 ∧ x8 ≤ 63) (k9 : (-63) ≤ x9 ∧ x9 ≤ 62) (d0 : x9 + 1 ≤ x6 ∧ x6 ≤ x9 + 4294967296) (d1 : x9 + (-4294967296) ≤ x8 ∧ x8 ≤ x9 + 0) (d2 : x2 + (-63) ≤ x9 ∧ x9 ≤ x2 + 0) (d3 : x4 + (-63) ≤ x8 ∧ x8 ≤ x4 + 0) (d4 : x7 + 1 ≤ x6 ∧ x6 ≤ x7 + 4294967296) (d5 : x1 + (-63) ≤ x7 ∧ x7 ≤ x1 + 0) (d6 : x3 + (-63) ≤ x6 ∧ x6 ≤ x3 + 0) (f0 : x6 ≤ x6) (f1 : x9 ≤ x6) (f2 : x8 ≤ x9) (f3 : x9 ≤ x9) (f4 : x9 = x2 - x4) (f5 : x8 = x4 - x2) (f6 : x6 ≤ x6) (f7 : x7 ≤ x6) (f8 : x7 = x1 - x3) (f9 : x6 = x3 - x1) : (-1) * x3 + (1 * x1 + ((-1) * x6 + 0)) ≤ 0 := by
  first | assumption | omega | grind
set_option maxHeartbeats 4000000 in
theorem vc_Mo_dotLine_11_2 (x1 : Int) (x2 : Int) (x3 : Int) (x4 : Int) (x6 : Int) (x7 : Int) (x8 : Int) (x9 : Int) (k1 : 0 ≤ x1 ∧ x1 ≤ 63) (k2 : 0 ≤ x2 ∧ x2 ≤ 63) (k3 : 0 ≤ x3 ∧ x3 ≤ 63) (k4 : 0 ≤ x4 ∧ x4 ≤ 63) (k6 : 0 ≤ x6 ∧ x6 ≤ 63) (k7 : (-63) ≤ x7 ∧ x7 ≤ 62) (k8 : (-63) ≤ x8 ∧ x8 ≤ 63) (k9 : (-63) ≤ x9 ∧ x9 ≤ 62) (d0 : x9 + 1 ≤ x6 ∧ x6 ≤ x9 + 4294967296) (d1 : x9 + (-4294967296) ≤ x8 ∧ x8 ≤ x9 + 0) (d2 : x2 + (-63) ≤ x9 ∧ x9 ≤ x2 + 0) (d3 : x4 + (-63) ≤ x8 ∧ x8 ≤ x4 + 0) (d4 : x7 + 1 ≤ x6 ∧ x6 ≤ x7 + 4294967296) (d5 : x1 + (-63) ≤ x7 ∧ x7 ≤ x1 + 0) (d6 : x3 + (-63) ≤ x6 ∧ x6 ≤ x3 + 0) (f0 : x6 ≤ x6) (f1 : x9 ≤ x6) (f2 : x8 ≤ x9) (f3 : x9 ≤ x9) (f4 : x9 = x2 - x4) (f5 : x8 = x4 - x2) (f6 : x6 ≤ x6) (f7 : x7 ≤ x6) (f8 : x7 = x1 - x3) (f9 : x6 = x3 - x1) : 1 * x4 + ((-1) * x2 + ((-1) * x6 + 0)) ≤ 0 := by
  first | assumption | omega | grind
set_option maxHeartbeats 4000000 in
theorem vc_Mo_dotLine_11_3 (x1 : Int) (x2 : Int) (x3 : Int) (x4 : Int) (x6 : Int) (x7 : Int) (x8 : Int) (x9 : Int) (k1 : 0 ≤ x1 ∧ x1 ≤ 63) (k2 : 0 ≤ x2 ∧ x2 ≤ 63) (k3 : 0 ≤ x3 ∧ x3 ≤ 63) (k4 : 0 ≤ x4 ∧ x4 ≤ 63) (k6 : 0 ≤ x6 ∧ x6 ≤ 63) (k7 : (-63) ≤ x7 ∧ x7 ≤ 62) (k8 : (-63) ≤ x8 ∧ x8 ≤ 63) (k9 : (-63) ≤ x9 ∧ x9 ≤ 62) (d0 : x9 + 1 ≤ x6 ∧ x6 ≤ x9 + 4294967296) (d1 : x9 + (-4294967296) ≤ x8 ∧ x8 ≤ x9 + 0) (d2 : x2 + (-63) ≤ x9 ∧ x9 ≤ x2 + 0) (d3 : x4 + (-63) ≤ x8 ∧ x8 ≤ x4 + 0) (d4 : x7 + 1 ≤ x6 ∧ x6 ≤ x7 + 4294967296) (d5 : x1 + (-63) ≤ x7 ∧ x7 ≤ x1 + 0) (d6 : x3 + (-63) ≤ x6 ∧ x6 ≤ x3 + 0) (f0 : x6 ≤ x6) (f1 : x9 ≤ x6) (f2 : x8 ≤ x9) (f3 : x9 ≤ x9) (f4 : x9 = x2 - x4) (f5 : x8 = x4 - x2) (f6 : x6 ≤ x6) (f7 : x7 ≤ x6) (f8 : x7 = x1 - x3) (f9 : x6 = x3 - x1) : (-1) * x4 + (1 * x2 + ((-1) * x6 + 0)) ≤ 0 := by
  first | assumption | omega | grind
def o_Mo_dotLine_11 : or_T := (28, 11, [(1, (0, 0, 63, [])), (2, (0, 0, 63, [])), (3, (0, 0, 63, [])), (4, (0, 0, 63, [])), (6, (0, 0, 63, [])), (7, (0, -63, 62, [])), (8, (0, -63, 63, [])), (9, (0, -63, 62, []))], [(7, [6, 6], [5]), (7, [9, 6], [5]), (7, [8, 9], [5]), (7, [9, 9], [5]), (2, [9, 2, 4], []), (2, [8, 4, 2], []), (7, [6, 6], [5]), (7, [7, 6], [5]), (2, [7, 1, 3], []), (2, [6, 3, 1], [])], [], [], [(23, [3, 1, 6], [0, 1, -1, -1]), (23, [3, 1, 6], [0, -1, 1, -1]), (23, [4, 2, 6], [0, 1, -1, -1]), (23, [4, 2, 6], [0, -1, 1, -1])], [], [(6, 9, 1, 4294967296), (8, 9, -4294967296, 0), (9, 2, -63, 0), (8, 4, -63, 0), (6, 7, 1, 4294967296), (7, 1, -63, 0), (6, 3, -63, 0)])
theorem oo_Mo_dotLine_11 {kA : Nat → ClassId} : or_ok PRD kA GG o_Mo_dotLine_11 := by
  refine or_mk fun A ta ws vs hD hth hl => ?_
  intro t1 k1 t2 k2 t3 k3 t4 k4 t6 k6 t7 k7 t8 k8 t9 k9 d0 d1 d2 d3 d4 d5 d6 f0 f1 f2 f3 f4 f5 f6 f7 f8 f9
  have nf0 : fc_1 PRD (23, [3, 1, 6], [0, 1, -1, -1]) ws (vs) := ⟨nf_in hl rfl, sgq_148 (vc_Mo_dotLine_11_0 (v_iv (n_v vs 1)) (v_iv (n_v vs 2)) (v_iv (n_v vs 3)) (v_iv (n_v vs 4)) (v_iv (n_v vs 6)) (v_iv (n_v vs 7)) (v_iv (n_v vs 8)) (v_iv (n_v vs 9)) k1 k2 k3 k4 k6 k7 k8 k9 d0 d1 d2 d3 d4 d5 d6 (shm_134 f0) (shm_24 f1) (shm_24 f2) (shm_134 f3) (shm_14 f4) (shm_14 f5) (shm_134 f6) (shm_24 f7) (shm_14 f8) (shm_14 f9))⟩
  have nf1 : fc_1 PRD (23, [3, 1, 6], [0, -1, 1, -1]) ws (vs) := ⟨nf_in hl rfl, sgq_1093 (vc_Mo_dotLine_11_1 (v_iv (n_v vs 1)) (v_iv (n_v vs 2)) (v_iv (n_v vs 3)) (v_iv (n_v vs 4)) (v_iv (n_v vs 6)) (v_iv (n_v vs 7)) (v_iv (n_v vs 8)) (v_iv (n_v vs 9)) k1 k2 k3 k4 k6 k7 k8 k9 d0 d1 d2 d3 d4 d5 d6 (shm_134 f0) (shm_24 f1) (shm_24 f2) (shm_134 f3) (shm_14 f4) (shm_14 f5) (shm_134 f6) (shm_24 f7) (shm_14 f8) (shm_14 f9))⟩
  have nf2 : fc_1 PRD (23, [4, 2, 6], [0, 1, -1, -1]) ws (vs) := ⟨nf_in hl rfl, sgq_148 (vc_Mo_dotLine_11_2 (v_iv (n_v vs 1)) (v_iv (n_v vs 2)) (v_iv (n_v vs 3)) (v_iv (n_v vs 4)) (v_iv (n_v vs 6)) (v_iv (n_v vs 7)) (v_iv (n_v vs 8)) (v_iv (n_v vs 9)) k1 k2 k3 k4 k6 k7 k8 k9 d0 d1 d2 d3 d4 d5 d6 (shm_134 f0) (shm_24 f1) (shm_24 f2) (shm_134 f3) (shm_14 f4) (shm_14 f5) (shm_134 f6) (shm_24 f7) (shm_14 f8) (shm_14 f9))⟩
  have nf3 : fc_1 PRD (23, [4, 2, 6], [0, -1, 1, -1]) ws (vs) := ⟨nf_in hl rfl, sgq_1093 (vc_Mo_dotLine_11_3 (v_iv (n_v vs 1)) (v_iv (n_v vs 2)) (v_iv (n_v vs 3)) (v_iv (n_v vs 4)) (v_iv (n_v vs 6)) (v_iv (n_v vs 7)) (v_iv (n_v vs 8)) (v_iv (n_v vs 9)) k1 k2 k3 k4 k6 k7 k8 k9 d0 d1 d2 d3 d4 d5 d6 (shm_134 f0) (shm_24 f1) (shm_24 f2) (shm_134 f3) (shm_14 f4) (shm_14 f5) (shm_134 f6) (shm_24 f7) (shm_14 f8) (shm_14 f9))⟩
  refine ⟨(fun _ h => (by cases h)), [], trivial, ?_, (fun _ h => (by cases h))⟩
  rw [List.append_nil]
  exact List.forall_mem_cons.mpr ⟨⟨show (23 : Nat) < 100 from by decide, nf0⟩, List.forall_mem_cons.mpr ⟨⟨show (23 : Nat) < 100 from by decide, nf1⟩, List.forall_mem_cons.mpr ⟨⟨show (23 : Nat) < 100 from by decide, nf2⟩, List.forall_mem_cons.mpr ⟨⟨show (23 : Nat) < 100 from by decide, nf3⟩, (fun _ h => (by cases h))⟩⟩⟩⟩
set_option maxHeartbeats 4000000 in
theorem vc_Mo_dotLine_12_r0 (x1 : Int) (x2 : Int) (x3 : Int) (x4 : Int) (x6 : Int) (x7 : Int) (x8 : Int) (x9 : Int) (k1 : 0 ≤ x1 ∧ x1 ≤ 63) (k2 : 0 ≤ x2 ∧ x2 ≤ 63) (k3 : 0 ≤ x3 ∧ x3 ≤ 63) (k4 : 0 ≤ x4 ∧ x4 ≤ 63) (k6 : (-62) ≤ x6 ∧ x6 ≤ 63) (k7 : (-63) ≤ x7 ∧ x7 ≤ 62) (k8 : (-62) ≤ x8 ∧ x8 ≤ 63) (k9 : (-63) ≤ x9 ∧ x9 ≤ 62) (d0 : x8 + (-4294967296) ≤ x6 ∧ x6 ≤ x8 + 0) (d1 : x9 + 1 ≤ x8 ∧ x8 ≤ x9 + 4294967296) (d2 : x2 + (-63) ≤ x9 ∧ x9 ≤ x2 + 0) (d3 : x4 + (-63) ≤ x8 ∧ x8 ≤ x4 + 0) (d4 : x7 + 1 ≤ x6 ∧ x6 ≤ x7 + 4294967296) (d5 : x1 + (-63) ≤ x7 ∧ x7 ≤ x1 + 0) (d6 : x3 + (-63) ≤ x6 ∧ x6 ≤ x3 + 0) (f0 : x6 ≤ x8) (f1 : x8 ≤ x8) (f2 : x8 ≤ x8) (f3 : x9 ≤ x8) (f4 : x9 = x2 - x4) (f5 : x8 = x4 - x2) (f6 : x6 ≤ x6) (f7 : x7 ≤ x6) (f8 : x7 = x1 - x3) (f9 : x6 = x3 - x1) : 0 ≤ x8 ∧ x8 ≤ 63 := by
  first | assumption | omega | grind
def o_Mo_dotLine_12 : or_T := (23, 10, [(1, (0, 0, 63, [])), (2, (0, 0, 63, [])), (3, (0, 0, 63, [])), (4, (0, 0, 63, [])), (6, (0, -62, 63, [])), (7, (0, -63, 62, [])), (8, (0, -62, 63, [])), (9, (0, -63, 62, []))], [(7, [6, 8], [5]), (7, [8, 8], [5]), (7, [8, 8], [5]), (7, [9, 8], [5]), (2, [9, 2, 4], []), (2, [8, 4, 2], []), (7, [6, 6], [5]), (7, [7, 6], [5]), (2, [7, 1, 3], []), (2, [6, 3, 1], [])], [(8, (0, 0, 63, []))], [], [], [], [(6, 8, -4294967296, 0), (8, 9, 1, 4294967296), (9, 2, -63, 0), (8, 4, -63, 0), (6, 7, 1, 4294967296), (7, 1, -63, 0), (6, 3, -63, 0)])
theorem oo_Mo_dotLine_12 {kA : Nat → ClassId} : or_ok PRD kA GG o_Mo_dotLine_12 := by
  refine or_mk fun A ta ws vs hD hth hl => ?_
  intro t1 k1 t2 k2 t3 k3 t4 k4 t6 k6 t7 k7 t8 k8 t9 k9 d0 d1 d2 d3 d4 d5 d6 f0 f1 f2 f3 f4 f5 f6 f7 f8 f9
  have hrf0 : 0 ≤ v_iv (n_v vs 8) ∧ v_iv (n_v vs 8) ≤ 63 := vc_Mo_dotLine_12_r0 (v_iv (n_v vs 1)) (v_iv (n_v vs 2)) (v_iv (n_v vs 3)) (v_iv (n_v vs 4)) (v_iv (n_v vs 6)) (v_iv (n_v vs 7)) (v_iv (n_v vs 8)) (v_iv (n_v vs 9)) k1 k2 k3 k4 k6 k7 k8 k9 d0 d1 d2 d3 d4 d5 d6 (shm_24 f0) (shm_134 f1) (shm_134 f2) (shm_24 f3) (shm_14 f4) (shm_14 f5) (shm_134 f6) (shm_24 f7) (shm_14 f8) (shm_14 f9)
  have rf8 : tv_ok ta (0, 0, 63, []) (n_v vs 8) := tv_in t8 (by omega) (by omega)
  refine ⟨List.forall_mem_cons.mpr ⟨rf8, (fun _ h => (by cases h))⟩, [], trivial, ?_, (fun _ h => (by cases h))⟩
  rw [List.append_nil]
  exact (fun _ h => (by cases h))
set_option maxHeartbeats 4000000 in
theorem vc_Mo_dotLine_13_0 (x1 : Int) (x2 : Int) (x3 : Int) (x4 : Int) (x6 : Int) (x7 : Int) (x8 : Int) (x9 : Int) (k1 : 0 ≤ x1 ∧ x1 ≤ 63) (k2 : 0 ≤ x2 ∧ x2 ≤ 63) (k3 : 0 ≤ x3 ∧ x3 ≤ 63) (k4 : 0 ≤ x4 ∧ x4 ≤ 63) (k6 : (-62) ≤ x6 ∧ x6 ≤ 63) (k7 : (-63) ≤ x7 ∧ x7 ≤ 62) (k8 : 0 ≤ x8 ∧ x8 ≤ 63) (k9 : (-63) ≤ x9 ∧ x9 ≤ 62) (d0 : x8 + (-4294967296) ≤ x6 ∧ x6 ≤ x8 + 0) (d1 : x9 + 1 ≤ x8 ∧ x8 ≤ x9 + 4294967296) (d2 : x2 + (-63) ≤ x9 ∧ x9 ≤ x2 + 0) (d3 : x4 + (-63) ≤ x8 ∧ x8 ≤ x4 + 0) (d4 : x7 + 1 ≤ x6 ∧ x6 ≤ x7 + 4294967296) (d5 : x1 + (-63) ≤ x7 ∧ x7 ≤ x1 + 0) (d6 : x3 + (-63) ≤ x6 ∧ x6 ≤ x3 + 0) (f0 : x6 ≤ x8) (f1 : x8 ≤ x8) (f2 : x8 ≤ x8) (f3 : x9 ≤ x8) (f4 : x9 = x2 - x4) (f5 : x8 = x4 - x2) (f6 : x6 ≤ x6) (f7 : x7 ≤ x6) (f8 : x7 = x1 - x3) (f9 : x6 = x3 - x1) : 1 * x3 + ((-1) * x1 + ((-1) * x8 + 0)) ≤ 0 := by
  first | assumption | omega | grind
set_option maxHeartbeats 4000000 in
theorem vc_Mo_dotLine_13_1 (x1 : Int) (x2 : Int) (x3 : Int) (x4 : Int) (x6 : Int) (x7 : Int) (x8 : Int) (x9 : Int) (k1 : 0 ≤ x1 ∧ x1 ≤ 63) (k2 : 0 ≤ x2 ∧ x2 ≤ 63) (k3 : 0 ≤ x3 ∧ x3 ≤ 63) (k4 : 0 ≤ x4 ∧ x4 ≤ 63) (k6 : (-62) ≤ x6 ∧ x6 ≤ 63) (k7 : (-63) ≤ x7 ∧ x7 ≤ 62) (k8 : 0 ≤ x8 ∧ x8 ≤ 63) (k9 : (-63) ≤ x9 ∧ x9 ≤ 62) (d0 : x8 + (-4294967296) ≤ x6 ∧ x6 ≤ x8 + 0) (d1 : x9 + 1 ≤ x8 ∧ x8 ≤ x9 + 4294967296) (d2 : x2 + (-63) ≤ x9 ∧ x9 ≤ x2 + 0) (d3 : x4 + (-63) ≤ x8 ∧ x8 ≤ x4 + 0) (d4 : x7 + 1 ≤ x6 ∧ x6 ≤ x7 + 4294967296) (d5 : x1 + (-63) ≤ x7 ∧ x7 ≤ x1 + 0) (d6 : x3 + (-63) ≤ x6 ∧ x6 ≤ x3 + 0) (f0 : x6 ≤ x8) (f1 : x8 ≤ x8) (f2 : x8 ≤ x8) (f3 : x9 ≤ x8) (f4 : x9 = x2 - x4) (f5 : x8 = x4 - x2) (f6 : x6 ≤ x6) (f7 : x7 ≤ x6) (f8 : x7 = x1 - x3) (f9 : x6 = x3 - x1) : (-1) * x3 + (1 * x1 + ((-1) * x8 + 0)) ≤ 0 := by
  first | assumption | omega | grind
set_option maxHeartbeats 4000000 in
theorem vc_Mo_dotLine_13_2 (x1 : Int) (x2 : Int) (x3 : Int) (x4 : Int) (x6 : Int) (x7 : Int) (x8 : Int) (x9 : Int) (k1 : 0 ≤ x1 ∧ x1 ≤ 63) (k2 : 0 ≤ x2 ∧ x2 ≤ 63) (k3 : 0 ≤ x3 ∧ x3 ≤ 63) (k4 : 0 ≤ x4 ∧ x4 ≤ 63) (k6 : (-62) ≤ x6 ∧ x6 ≤ 63) (k7 : (-63) ≤ x7 ∧ x7 ≤ 62) (k8 : 0 ≤ x8 ∧ x8 ≤ 63) (k9 : (-63) ≤ x9 ∧ x9 ≤ 62) (d0 : x8 + (-4294967296) ≤ x6 ∧ x6 ≤ x8 + 0) (d1 : x9 + 1 ≤ x8 ∧ x8 ≤ x9 + 4294967296) (d2 : x2 + (-63) ≤ x9 ∧ x9 ≤ x2 + 0) (d3 : x4 + (-63) ≤ x8 ∧ x8 ≤ x4 + 0) (d4 : x7 + 1 ≤ x6 ∧ x6 ≤ x7 + 4294967296) (d5 : x1 + (-63) ≤ x7 ∧ x7 ≤ x1 + 0) (d6 : x3 + (-63) ≤ x6 ∧ x6 ≤ x3 + 0) (f0 : x6 ≤ x8) (f1 : x8 ≤ x8) (f2 : x8 ≤ x8) (f3 : x9 ≤ x8) (f4 : x9 = x2 - x4) (f5 : x8 = x4 - x2) (f6 : x6 ≤ x6) (f7 : x7 ≤ x6) (f8 : x7 = x1 - x3) (f9 : x6 = x3 - x1) : 1 * x4 + ((-1) * x2 + ((-1) * x8 + 0)) ≤ 0 := by
  first | assumption | omega | grind
set_option maxHeartbeats 4000000 in
theorem vc_Mo_dotLine_13_3 (x1 : Int) (x2 : Int) (x3 : Int) (x4 : Int) (x6 : Int) (x7 : Int) (x8 : Int) (x9 : Int) (k1 : 0 ≤ x1 ∧ x1 ≤ 63) (k2 : 0 ≤ x2 ∧ x2 ≤ 63) (k3 : 0 ≤ x3 ∧ x3 ≤ 63) (k4 : 0 ≤ x4 ∧ x4 ≤ 63) (k6 : (-62) ≤ x6 ∧ x6 ≤ 63) (k7 : (-63) ≤ x7 ∧ x7 ≤ 62) (k8 : 0 ≤ x8 ∧ x8 ≤ 63) (k9 : (-63) ≤ x9 ∧ x9 ≤ 62) (d0 : x8 + (-4294967296) ≤ x6 ∧ x6 ≤ x8 + 0) (d1 : x9 + 1 ≤ x8 ∧ x8 ≤ x9 + 4294967296) (d2 : x2 + (-63) ≤ x9 ∧ x9 ≤ x2 + 0) (d3 : x4 + (-63) ≤ x8 ∧ x8 ≤ x4 + 0) (d4 : x7 + 1 ≤ x6 ∧ x6 ≤ x7 + 4294967296) (d5 : x1 + (-63) ≤ x7 ∧ x7 ≤ x1 + 0) (d6 : x3 + (-63) ≤ x6 ∧ x6 ≤ x3 + 0) (f0 : x6 ≤ x8) (f1 : x8 ≤ x8) (f2 : x8 ≤ x8) (f3 : x9 ≤ x8) (f4 : x9 = x2 - x4) (f5 : x8 = x4 - x2) (f6 : x6 ≤ x6) (f7 : x7 ≤ x6) (f8 : x7 = x1 - x3) (f9 : x6 = x3 - x1) : (-1) * x4 + (1 * x2 + ((-1) * x8 + 0)) ≤ 0 := by
  first | assumption | omega | grind
def o_Mo_dotLine_13 : or_T := (28, 11, [(1, (0, 0, 63, [])), (2, (0, 0, 63, [])), (3, (0, 0, 63, [])), (4, (0, 0, 63, [])), (6, (0, -62, 63, [])), (7, (0, -63, 62, [])), (8, (0, 0, 63, [])), (9, (0, -63, 62, []))], [(7, [6, 8], [5]), (7, [8, 8], [5]), (7, [8, 8], [5]), (7, [9, 8], [5]), (2, [9, 2, 4], []), (2, [8, 4, 2], []), (7, [6, 6], [5]), (7, [7, 6], [5]), (2, [7, 1, 3], []), (2, [6, 3, 1], [])], [], [], [(23, [3, 1, 8], [0, 1, -1, -1]), (23, [3, 1, 8], [0, -1, 1, -1]), (23, [4, 2, 8], [0, 1, -1, -1]), (23, [4, 2, 8], [0, -1, 1, -1])], [], [(6, 8, -4294967296, 0), (8, 9, 1, 4294967296), (9, 2, -63, 0), (8, 4, -63, 0), (6, 7, 1, 4294967296), (7, 1, -63, 0), (6, 3, -63, 0)])
theorem oo_Mo_dotLine_13 {kA : Nat → ClassId} : or_ok PRD kA GG o_Mo_dotLine_13 := by
  refine or_mk fun A ta ws vs hD hth hl => ?_
  intro t1 k1 t2 k2 t3 k3 t4 k4 t6 k6 t7 k7 t8 k8 t9 k9 d0 d1 d2 d3 d4 d5 d6 f0 f1 f2 f3 f4 f5 f6 f7 f8 f9
  have nf0 : fc_1 PRD (23, [3, 1, 8], [0, 1, -1, -1]) ws (vs) := ⟨nf_in hl rfl, sgq_148 (vc_Mo_dotLine_13_0 (v_iv (n_v vs 1)) (v_iv (n_v vs 2)) (v_iv (n_v vs 3)) (v_iv (n_v vs 4)) (v_iv (n_v vs 6)) (v_iv (n_v vs 7)) (v_iv (n_v vs 8)) (v_iv (n_v vs 9)) k1 k2 k3 k4 k6 k7 k8 k9 d0 d1 d2 d3 d4 d5 d6 (shm_24 f0) (shm_134 f1) (shm_134 f2) (shm_24 f3) (shm_14 f4) (shm_14 f5) (shm_134 f6) (shm_24 f7) (shm_14 f8) (shm_14 f9))⟩
  have nf1 : fc_1 PRD (23, [3, 1, 8], [0, -1, 1, -1]) ws (vs) := ⟨nf_in hl rfl, sgq_1093 (vc_Mo_dotLine_13_1 (v_iv (n_v vs 1)) (v_iv (n_v vs 2)) (v_iv (n_v vs 3)) (v_iv (n_v vs 4)) (v_iv (n_v vs 6)) (v_iv (n_v vs 7)) (v_iv (n_v vs 8)) (v_iv (n_v vs 9)) k1 k2 k3 k4 k6 k7 k8 k9 d0 d1 d2 d3 d4 d5 d6 (shm_24 f0) (shm_134 f1) (shm_134 f2) (shm_24 f3) (shm_14 f4) (shm_14 f5) (shm_134 f6) (shm_24 f7) (shm_14 f8) (shm_14 f9))⟩
  have nf2 : fc_1 PRD (23, [4, 2, 8], [0, 1, -1, -1]) ws (vs) := ⟨nf_in hl rfl, sgq_148 (vc_Mo_dotLine_13_2 (v_iv (n_v vs 1)) (v_iv (n_v vs 2)) (v_iv (n_v vs 3)) (v_iv (n_v vs 4)) (v_iv (n_v vs 6)) (v_iv (n_v vs 7)) (v_iv (n_v vs 8)) (v_iv (n_v vs 9)) k1 k2 k3 k4 k6 k7 k8 k9 d0 d1 d2 d3 d4 d5 d6 (shm_24 f0) (shm_134 f1) (shm_134 f2) (shm_24 f3) (shm_14 f4) (shm_14 f5) (shm_134 f6) (shm_24 f7) (shm_14 f8) (shm_14 f9))⟩
  have nf3 : fc_1 PRD (23, [4, 2, 8], [0, -1, 1, -1]) ws (vs) := ⟨nf_in hl rfl, sgq_1093 (vc_Mo_dotLine_13_3 (v_iv (n_v vs 1)) (v_iv (n_v vs 2)) (v_iv (n_v vs 3)) (v_iv (n_v vs 4)) (v_iv (n_v vs 6)) (v_iv (n_v vs 7)) (v_iv (n_v vs 8)) (v_iv (n_v vs 9)) k1 k2 k3 k4 k6 k7 k8 k9 d0 d1 d2 d3 d4 d5 d6 (shm_24 f0) (shm_134 f1) (shm_134 f2) (shm_24 f3) (shm_14 f4) (shm_14 f5) (shm_134 f6) (shm_24 f7) (shm_14 f8) (shm_14 f9))⟩
  refine ⟨(fun _ h => (by cases h)), [], trivial, ?_, (fun _ h => (by cases h))⟩
  rw [List.append_nil]
  exact List.forall_mem_cons.mpr ⟨⟨show (23 : Nat) < 100 from by decide, nf0⟩, List.forall_mem_cons.mpr ⟨⟨show (23 : Nat) < 100 from by decide, nf1⟩, List.forall_mem_cons.mpr ⟨⟨show (23 : Nat) < 100 from by decide, nf2⟩, List.forall_mem_cons.mpr ⟨⟨show (23 : Nat) < 100 from by decide, nf3⟩, (fun _ h => (by cases h))⟩⟩⟩⟩
set_option maxHeartbeats 4000000 in
theorem vc_Mo_dotLine_14_r0 (x1 : Int) (x2 : Int) (x3 : Int) (x4 : Int) (x6 : Int) (x7 : Int) (x8 : Int) (x9 : Int) (k1 : 0 ≤ x1 ∧ x1 ≤ 63) (k2 : 0 ≤ x2 ∧ x2 ≤ 63) (k3 : 0 ≤ x3 ∧ x3 ≤ 63) (k4 : 0 ≤ x4 ∧ x4 ≤ 63) (k6 : (-61) ≤ x6 ∧ x6 ≤ 63) (k7 : (-63) ≤ x7 ∧ x7 ≤ 62) (k8 : (-62) ≤ x8 ∧ x8 ≤ 62) (k9 : (-63) ≤ x9 ∧ x9 ≤ 62) (d0 : x8 + 1 ≤ x6 ∧ x6 ≤ x8 + 4294967296) (d1 : x9 + 1 ≤ x8 ∧ x8 ≤ x9 + 4294967296) (d2 : x2 + (-63) ≤ x9 ∧ x9 ≤ x2 + 0) (d3 : x4 + (-63) ≤ x8 ∧ x8 ≤ x4 + 0) (d4 : x7 + 1 ≤ x6 ∧ x6 ≤ x7 + 4294967296) (d5 : x1 + (-63) ≤ x7 ∧ x7 ≤ x1 + 0) (d6 : x3 + (-63) ≤ x6 ∧ x6 ≤ x3 + 0) (f0 : x6 ≤ x6) (f1 : x8 ≤ x6) (f2 : x8 ≤ x8) (f3 : x9 ≤ x8) (f4 : x9 = x2 - x4) (f5 : x8 = x4 - x2) (f6 : x6 ≤ x6) (f7 : x7 ≤ x6) (f8 : x7 = x1 - x3) (f9 : x6 = x3 - x1) : 0 ≤ x6 ∧ x6 ≤ 63 := by
  first | assumption | omega | grind
def o_Mo_dotLine_14 : or_T := (23, 10, [(1, (0, 0, 63, [])), (2, (0, 0, 63, [])), (3, (0, 0, 63, [])), (4, (0, 0, 63, [])), (6, (0, -61, 63, [])), (7, (0, -63, 62, [])), (8, (0, -62, 62, [])), (9, (0, -63, 62, []))], [(7, [6, 6], [5]), (7, [8, 6], [5]), (7, [8, 8], [5]), (7, [9, 8], [5]), (2, [9, 2, 4], []), (2, [8, 4, 2], []), (7, [6, 6], [5]), (7, [7, 6], [5]), (2, [7, 1, 3], []), (2, [6, 3, 1], [])], [(6, (0, 0, 63, []))], [], [], [], [(6, 8, 1, 4294967296), (8, 9, 1, 4294967296), (9, 2, -63, 0), (8, 4, -63, 0), (6, 7, 1, 4294967296), (7, 1, -63, 0), (6, 3, -63, 0)])
theorem oo_Mo_dotLine_14 {kA : Nat → ClassId} : or_ok PRD kA GG o_Mo_dotLine_14 := by
  refine or_mk fun A ta ws vs hD hth hl => ?_
  intro t1 k1 t2 k2 t3 k3 t4 k4 t6 k6 t7 k7 t8 k8 t9 k9 d0 d1 d2 d3 d4 d5 d6 f0 f1 f2 f3 f4 f5 f6 f7 f8 f9
  have hrf0 : 0 ≤ v_iv (n_v vs 6) ∧ v_iv (n_v vs 6) ≤ 63 := vc_Mo_dotLine_14_r0 (v_iv (n_v vs 1)) (v_iv (n_v vs 2)) (v_iv (n_v vs 3)) (v_iv (n_v vs 4)) (v_iv (n_v vs 6)) (v_iv (n_v vs 7)) (v_iv (n_v vs 8)) (v_iv (n_v vs 9)) k1 k2 k3 k4 k6 k7 k8 k9 d0 d1 d2 d3 d4 d5 d6 (shm_134 f0) (shm_24 f1) (shm_134 f2) (shm_24 f3) (shm_14 f4) (shm_14 f5) (shm_134 f6) (shm_24 f7) (shm_14 f8) (shm_14 f9)
  have rf6 : tv_ok ta (0, 0, 63, []) (n_v vs 6) := tv_in t6 (by omega) (by omega)
  refine ⟨List.forall_mem_cons.mpr ⟨rf6, (fun _ h => (by cases h))⟩, [], trivial, ?_, (fun _ h => (by cases h))⟩
  rw [List.append_nil]
  exact (fun _ h => (by cases h))
set_option maxHeartbeats 4000000 in
theorem vc_Mo_dotLine_15_0 (x1 : Int) (x2 : Int) (x3 : Int) (x4 : Int) (x6 : Int) (x7 : Int) (x8 : Int) (x9 : Int) (k1 : 0 ≤ x1 ∧ x1 ≤ 63) (k2 : 0 ≤ x2 ∧ x2 ≤ 63) (k3 : 0 ≤ x3 ∧ x3 ≤ 63) (k4 : 0 ≤ x4 ∧ x4 ≤ 63) (k6 : 0 ≤ x6 ∧ x6 ≤ 63) (k7 : (-63) ≤ x7 ∧ x7 ≤ 62) (k8 : (-62) ≤ x8 ∧ x8 ≤ 62) (k9 : (-63) ≤ x9 ∧ x9 ≤ 62) (d0 : x8 + 1 ≤ x6 ∧ x6 ≤ x8 + 4294967296) (d1 : x9 + 1 ≤ x8 ∧ x8 ≤ x9 + 4294967296) (d2 : x2 + (-63) ≤ x9 ∧ x9 ≤ x2 + 0) (d3 : x4 + (-63) ≤ x8 ∧ x8 ≤ x4 + 0) (d4 : x7 + 1 ≤ x6 ∧ x6 ≤ x7 + 4294967296) (d5 : x1 + (-63) ≤ x7 ∧ x7 ≤ x1 + 0) (d6 : x3 + (-63) ≤ x6 ∧ x6 ≤ x3 + 0) (f0 : x6 ≤ x6) (f1 : x8 ≤ x6) (f2 : x8 ≤ x8) (f3 : x9 ≤ x8) (f4 : x9 = x2 - x4) (f5 : x8 = x4 - x2) (f6 : x6 ≤ x6) (f7 : x7 ≤ x6) (f8 : x7 = x1 - x3) (f9 : x6 = x3 - x1) : 1 * x3 + ((-1) * x1 + ((-1) * x6 + 0)) ≤ 0 := by
  first | assumption | omega | grind
set_option maxHeartbeats 4000000 in
theorem vc_Mo_dotLine_15_1 (x1 : Int) (x2 : Int) (x3 : Int) (x4 : Int) (x6 : Int) (x7 : Int) (x8 : Int) (x9 : Int) (k1 : 0 ≤ x1 ∧ x1 ≤ 63) (k2 : 0 ≤ x2 ∧ x2 ≤ 63) (k3 : 0 ≤ x3 ∧ x3 ≤ 63) (k4 : 0 ≤ x4 ∧ x4 ≤ 63) (k6 : 0 ≤ x6 ∧ x6 ≤ 63) (k7 : (-63) ≤ x7 ∧ x7 ≤ 62) (k8 : (-62) ≤ x8 ∧ x8 ≤ 62) (k9 : (-63) ≤ x9 ∧ x9 ≤ 62) (d0 : x8 + 1 ≤ x6 ∧ x6 ≤ x8 + 4294967296) (d1 : x9 + 1 ≤ x8 ∧ x8 ≤ x9 + 4294967296) (d2 : x2 + (-63) ≤ x9 ∧ x9 ≤ x2 + 0) (d3 : x4 + (-63) ≤ x8 ∧ x8 ≤ x4 + 0) (d4 : x7 + 1 ≤ x6 ∧ x6 ≤ x7 + 4294967296) (d5 : x1 + (-63) ≤ x7 ∧ x7 ≤ x1 + 0) (d6 : x3 + (-63) ≤ x6 ∧ x6 ≤ x3 + 0) (f0 : x6 ≤ x6) (f1 : x8 ≤ x6) (f2 : x8 ≤ x8) (f3 : x9 ≤ x8) (f4 : x9 = x2 - x4) (f5 : x8 = x4 - x2) (f6 : x6 ≤ x6) (f7 : x7 ≤ x6) (f8 : x7 = x1 - x3) (f9 : x6 = x3 - x1) : (-1) * x3 + (1 * x1 + ((-1) * x6 + 0)) ≤ 0 := by
  first | assumption | omega | grind
set_option maxHeartbeats 4000000 in
theorem vc_Mo_dotLine_15_2 (x1 : Int) (x2 : Int) (x3 : Int) (x4 : Int) (x6 : Int) (x7 : Int) (x8 : Int) (x9 : Int) (k1 : 0 ≤ x1 ∧ x1 ≤ 63) (k2 : 0 ≤ x2 ∧ x2 ≤ 63) (k3 : 0 ≤ x3 ∧ x3 ≤ 63) (k4 : 0 ≤ x4 ∧ x4 ≤ 63) (k6 : 0 ≤ x6 ∧ x6 ≤ 63) (k7 : (-63) ≤ x7 ∧ x7 ≤ 62) (k8 : (-62) ≤ x8 ∧ x8 ≤ 62) (k9 : (-63) ≤ x9 ∧ x9 ≤ 62) (d0 : x8 + 1 ≤ x6 ∧ x6 ≤ x8 + 4294967296) (d1 : x9 + 1 ≤ x8 ∧ x8 ≤ x9 + 4294967296) (d2 : x2 + (-63) ≤ x9 ∧ x9 ≤ x2 + 0) (d3 : x4 + (-63) ≤ x8 ∧ x8 ≤ x4 + 0) (d4 : x7 + 1 ≤ x6 ∧ x6 ≤ x7 + 4294967296) (d5 : x1 + (-63) ≤ x7 ∧ x7 ≤ x1 + 0) (d6 : x3 + (-63) ≤ x6 ∧ x6 ≤ x3 + 0) (f0 : x6 ≤ x6) (f1 : x8 ≤ x6) (f2 : x8 ≤ x8) (f3 : x9 ≤ x8) (f4 : x9 = x2 - x4) (f5 : x8 = x4 - x2) (f6 : x6 ≤ x6) (f7 : x7 ≤ x6) (f8 : x7 = x1 - x3) (f9 : x6 = x3 - x1) : 1 * x4 + ((-1) * x2 + ((-1) * x6 + 0)) ≤ 0 := by
  first | assumption | omega | grind
set_option maxHeartbeats 4000000 in
theorem vc_Mo_dotLine_15_3 (x1 : Int) (x2 : Int) (x3 : Int) (x4 : Int) (x6 : Int) (x7 : Int) (x8 : Int) (x9 : Int) (k1 : 0 ≤ x1 ∧ x1 ≤ 63) (k2 : 0 ≤ x2 ∧ x2 ≤ 63) (k3 : 0 ≤ x3 ∧ x3 ≤ 63) (k4 : 0 ≤ x4 ∧ x4 ≤ 63) (k6 : 0 ≤ x6 ∧ x6 ≤ 63) (k7 : (-63) ≤ x7 ∧ x7 ≤ 62) (k8 : (-62) ≤ x8 ∧ x8 ≤ 62) (k9 : (-63) ≤ x9 ∧ x9 ≤ 62) (d0 : x8 + 1 ≤ x6 ∧ x6 ≤ x8 + 4294967296) (d1 : x9 + 1 ≤ x8 ∧ x8 ≤ x9 + 4294967296) (d2 : x2 + (-63) ≤ x9 ∧ x9 ≤ x2 + 0) (d3 : x4 + (-63) ≤ x8 ∧ x8 ≤ x4 + 0) (d4 : x7 + 1 ≤ x6 ∧ x6 ≤ x7 + 4294967296) (d5 : x1 + (-63) ≤ x7 ∧ x7 ≤ x1 + 0) (d6 : x3 + (-63) ≤ x6 ∧ x6 ≤ x3 + 0) (f0 : x6 ≤ x6) (f1 : x8 ≤ x6) (f2 : x8 ≤ x8) (f3 : x9 ≤ x8) (f4 : x9 = x2 - x4) (f5 : x8 = x4 - x2) (f6 : x6 ≤ x6) (f7 : x7 ≤ x6) (f8 : x7 = x1 - x3) (f9 : x6 = x3 - x1) : (-1) * x4 + (1 * x2 + ((-1) * x6 + 0)) ≤ 0 := by
  first | assumption | omega | grind
def o_Mo_dotLine_15 : or_T := (28, 11, [(1, (0, 0, 63, [])), (2, (0, 0, 63, [])), (3, (0, 0, 63, [])), (4, (0, 0, 63, [])), (6, (0, 0, 63, [])), (7, (0, -63, 62, [])), (8, (0, -62, 62, [])), (9, (0, -63, 62, []))], [(7, [6, 6], [5]), (7, [8, 6], [5]), (7, [8, 8], [5]), (7, [9, 8], [5]), (2, [9, 2, 4], []), (2, [8, 4, 2], []), (7, [6, 6], [5]), (7, [7, 6], [5]), (2, [7, 1, 3], []), (2, [6, 3, 1], [])], [], [], [(23, [3, 1, 6], [0, 1, -1, -1]), (23, [3, 1, 6], [0, -1, 1, -1]), (23, [4, 2, 6], [0, 1, -1, -1]), (23, [4, 2, 6], [0, -1, 1, -1])], [], [(6, 8, 1, 4294967296), (8, 9, 1, 4294967296), (9, 2, -63, 0), (8, 4, -63, 0), (6, 7, 1, 4294967296), (7, 1, -63, 0), (6, 3, -63, 0)])
theorem oo_Mo_dotLine_15 {kA : Nat → ClassId} : or_ok PRD kA GG o_Mo_dotLine_15 := by
  refine or_mk fun A ta ws vs hD hth hl => ?_
  intro t1 k1 t2 k2 t3 k3 t4 k4 t6 k6 t7 k7 t8 k8 t9 k9 d0 d1 d2 d3 d4 d5 d6 f0 f1 f2 f3 f4 f5 f6 f7 f8 f9
  have nf0 : fc_1 PRD (23, [3, 1, 6], [0, 1, -1, -1]) ws (vs) := ⟨nf_in hl rfl, sgq_148 (vc_Mo_dotLine_15_0 (v_iv (n_v vs 1)) (v_iv (n_v vs 2)) (v_iv (n_v vs 3)) (v_iv (n_v vs 4)) (v_iv (n_v vs 6)) (v_iv (n_v vs 7)) (v_iv (n_v vs 8)) (v_iv (n_v vs 9)) k1 k2 k3 k4 k6 k7 k8 k9 d0 d1 d2 d3 d4 d5 d6 (shm_134 f0) (shm_24 f1) (shm_134 f2) (shm_24 f3) (shm_14 f4) (shm_14 f5) (shm_134 f6) (shm_24 f7) (shm_14 f8) (shm_14 f9))⟩
  have nf1 : fc_1 PRD (23, [3, 1, 6], [0, -1, 1, -1]) ws (vs) := ⟨nf_in hl rfl, sgq_1093 (vc_Mo_dotLine_15_1 (v_iv (n_v vs 1)) (v_iv (n_v vs 2)) (v_iv (n_v vs 3)) (v_iv (n_v vs 4)) (v_iv (n_v vs 6)) (v_iv (n_v vs 7)) (v_iv (n_v vs 8)) (v_iv (n_v vs 9)) k1 k2 k3 k4 k6 k7 k8 k9 d0 d1 d2 d3 d4 d5 d6 (shm_134 f0) (shm_24 f1) (shm_134 f2) (shm_24 f3) (shm_14 f4) (shm_14 f5) (shm_134 f6) (shm_24 f7) (shm_14 f8) (shm_14 f9))⟩
  have nf2 : fc_1 PRD (23, [4, 2, 6], [0, 1, -1, -1]) ws (vs) := ⟨nf_in hl rfl, sgq_148 (vc_Mo_dotLine_15_2 (v_iv (n_v vs 1)) (v_iv (n_v vs 2)) (v_iv (n_v vs 3)) (v_iv (n_v vs 4)) (v_iv (n_v vs 6)) (v_iv (n_v vs 7)) (v_iv (n_v vs 8)) (v_iv (n_v vs 9)) k1 k2 k3 k4 k6 k7 k8 k9 d0 d1 d2 d3 d4 d5 d6 (shm_134 f0) (shm_24 f1) (shm_134 f2) (shm_24 f3) (shm_14 f4) (shm_14 f5) (shm_134 f6) (shm_24 f7) (shm_14 f8) (shm_14 f9))⟩
  have nf3 : fc_1 PRD (23, [4, 2, 6], [0, -1, 1, -1]) ws (vs) := ⟨nf_in hl rfl, sgq_1093 (vc_Mo_dotLine_15_3 (v_iv (n_v vs 1)) (v_iv (n_v vs 2)) (v_iv (n_v vs 3)) (v_iv (n_v vs 4)) (v_iv (n_v vs 6)) (v_iv (n_v vs 7)) (v_iv (n_v vs 8)) (v_iv (n_v vs 9)) k1 k2 k3 k4 k6 k7 k8 k9 d0 d1 d2 d3 d4 d5 d6 (shm_134 f0) (shm_24 f1) (shm_134 f2) (shm_24 f3) (shm_14 f4) (shm_14 f5) (shm_134 f6) (shm_24 f7) (shm_14 f8) (shm_14 f9))⟩
  refine ⟨(fun _ h => (by cases h)), [], trivial, ?_, (fun _ h => (by cases h))⟩
  rw [List.append_nil]
  exact List.forall_mem_cons.mpr ⟨⟨show (23 : Nat) < 100 from by decide, nf0⟩, List.forall_mem_cons.mpr ⟨⟨show (23 : Nat) < 100 from by decide, nf1⟩, List.forall_mem_cons.mpr ⟨⟨show (23 : Nat) < 100 from by decide, nf2⟩, List.forall_mem_cons.mpr ⟨⟨show (23 : Nat) < 100 from by decide, nf3⟩, (fun _ h => (by cases h))⟩⟩⟩⟩
def o_Mo_dotLine_16 : or_T := (64, 17, [(1, (0, 0, 63, [])), (2, (0, 0, 63, [])), (3, (0, 0, 63, [])), (4, (0, 0, 63, [])), (6, (0, 1, 63, [])), (7, (0, 0, 63, [])), (8, (0, 2, 2, [])), (9, (0, 0, 126, [])), (10, (0, -63, 63, [])), (11, (0, -7938, 7938, [])), (12, (0, -7937, 8001, [])), (13, (0, 2, 2, [])), (14, (0, 2, 126, [])), (15, (0, -7938, 8001, [])), (16, (0, -7938, 8064, []))], [(1, [16, 1, 15], []), (20, [14, 15, 12], [50, 0, 0, 0, 6, 6, 2, 1, 0, 1, 1, 1, 2]), (20, [12, 14, 15], [50, 0, 0, 0, 6, 4, 2, 1, 0, 0, 1, 4, 6, 6, 2, 1, 1, 1, 2, 1, 1]), (3, [14, 13, 6], []), (1, [12, 11, 6], []), (3, [11, 9, 10], []), (2, [10, 3, 1], []), (3, [9, 8, 7], []), (8, [6], [1]), (7, [7, 6], [5]), (23, [3, 1, 6], [0, 1, -1, -1]), (23, [3, 1, 6], [0, -1, 1, -1]), (23, [4, 2, 6], [0, 1, -1, -1]), (23, [4, 2, 6], [0, -1, 1, -1])], [(16, (0, 0, 63, []))], [], [], [], [(16, 15, 0, 63), (16, 1, -7938, 8001), (12, 6, -7938, 7938), (12, 11, 1, 63), (10, 3, -63, 0), (7, 6, -4294967296, 0), (7, 6, -4294967296, 1)])
theorem oo_Mo_dotLine_16 {kA : Nat → ClassId} : or_ok PRD kA GG o_Mo_dotLine_16 := by
  refine or_mk fun A ta ws vs hD hth hl => ?_
  intro t1 k1 t2 k2 t3 k3 t4 k4 t6 k6 t7 k7 t8 k8 t9 k9 t10 k10 t11 k11 t12 k12 t13 k13 t14 k14 t15 k15 t16 k16 d0 d1 d2 d3 d4 d5 d6 f0 f1 f2 f3 f4 f5 f6 f7 f8 f9 f10 f11 f12 f13
  replace f0 := shm_12 f0
  replace f1 := shm_35 f1
  replace f2 := shm_36 f2
  replace f3 := shm_38 f3
  rw [show v_iv (n_v vs 13) = 2 from by omega] at f3
  replace f4 := shm_12 f4
  replace f5 := shm_38 f5
  replace f6 := shm_14 f6
  replace f7 := shm_38 f7
  rw [show v_iv (n_v vs 8) = 2 from by omega] at f7
  replace f8 := shm_154 f8
  replace f9 := shm_24 f9
  replace f10 := shm_148 f10
  replace f11 := shm_1093 f11
  replace f12 := shm_148 f12
  replace f13 := shm_1093 f13
  have z1 : v_iv (n_v vs 11) = 2 * v_iv (n_v vs 7) * v_iv (n_v vs 10) := by have z0 := ‹v_iv (n_v vs 11) = v_iv (n_v vs 9) * v_iv (n_v vs 10)›; rw [show v_iv (n_v vs 9) = 2 * v_iv (n_v vs 7) from by omega] at z0; exact z0
  have z2 : v_iv (n_v vs 14) * v_iv (n_v vs 15) = 2 * v_iv (n_v vs 6) * v_iv (n_v vs 15) := by rw [show v_iv (n_v vs 14) = 2 * v_iv (n_v vs 6) from by omega]
  have z3 := dl_in (a := v_iv (n_v vs 1)) (c := v_iv (n_v vs 3)) (n := v_iv (n_v vs 6)) (k := v_iv (n_v vs 7)) (q := v_iv (n_v vs 15)) (p := v_iv (n_v vs 12)) (e := v_iv (n_v vs 10)) (by omega) (by omega) (by omega) (by omega) (by omega) (by omega) (by omega) (by omega) (by omega)
  have rf16 : tv_ok ta (0, 0, 63, []) (n_v vs 16) := tv_in t16 (by first | omega | grind) (by first | omega | grind)
  refine ⟨List.forall_mem_cons.mpr ⟨rf16, (fun _ h => (by cases h))⟩, [], trivial, ?_, (fun _ h => (by cases h))⟩
  rw [List.append_nil]
  exact (fun _ h => (by cases h))
def o_Mo_dotLine_17 : or_T := (96, 26, [(1, (0, 0, 63, [])), (2, (0, 0, 63, [])), (3, (0, 0, 63, [])), (4, (0, 0, 63, [])), (6, (0, 1, 63, [])), (7, (0, 0, 63, [])), (8, (0, 2, 2, [])), (9, (0, 0, 126, [])), (10, (0, -63, 63, [])), (11, (0, -7938, 7938, [])), (12, (0, -7937, 8001, [])), (13, (0, 2, 2, [])), (14, (0, 2, 126, [])), (15, (0, -7938, 8001, [])), (16, (0, 0, 63, [])), (17, (0, 2, 2, [])), (18, (0, 0, 126, [])), (19, (0, -63, 63, [])), (20, (0, -7938, 7938, [])), (21, (0, -7937, 8001, [])), (22, (0, 2, 2, [])), (23, (0, 2, 126, [])), (24, (0, -7938, 8001, [])), (25, (0, -7938, 8064, []))], [(1, [25, 2, 24], []), (20, [23, 24, 21], [50, 0, 0, 0, 6, 6, 2, 1, 0, 1, 1, 1, 2]), (20, [21, 23, 24], [50, 0, 0, 0, 6, 4, 2, 1, 0, 0, 1, 4, 6, 6, 2, 1, 1, 1, 2, 1, 1]), (3, [23, 22, 6], []), (1, [21, 20, 6], []), (3, [20, 18, 19], []), (2, [19, 4, 2], []), (3, [18, 17, 7], []), (8, [6], [1]), (1, [16, 1, 15], []), (20, [14, 15, 12], [50, 0, 0, 0, 6, 6, 2, 1, 0, 1, 1, 1, 2]), (20, [12, 14, 15], [50, 0, 0, 0, 6, 4, 2, 1, 0, 0, 1, 4, 6, 6, 2, 1, 1, 1, 2, 1, 1]), (3, [14, 13, 6], []), (1, [12, 11, 6], []), (3, [11, 9, 10], []), (2, [10, 3, 1], []), (3, [9, 8, 7], []), (8, [6], [1]), (7, [7, 6], [5]), (23, [3, 1, 6], [0, 1, -1, -1]), (23, [3, 1, 6], [0, -1, 1, -1]), (23, [4, 2, 6], [0, 1, -1, -1]), (23, [4, 2, 6], [0, -1, 1, -1])], [(25, (0, 0, 63, []))], [], [], [], [(25, 24, 0, 63), (25, 2, -7938, 8001), (21, 6, -7938, 7938), (21, 20, 1, 63), (19, 4, -63, 0), (16, 15, 0, 63), (12, 6, -7938, 7938), (12, 11, 1, 63), (10, 3, -63, 0), (7, 6, -4294967296, 0), (7, 6, -4294967296, 1)])
theorem oo_Mo_dotLine_17 {kA : Nat → ClassId} : or_ok PRD kA GG o_Mo_dotLine_17 := by
  refine or_mk fun A ta ws vs hD hth hl => ?_
  intro t1 k1 t2 k2 t3 k3 t4 k4 t6 k6 t7 k7 t8 k8 t9 k9 t10 k10 t11 k11 t12 k12 t13 k13 t14 k14 t15 k15 t16 k16 t17 k17 t18 k18 t19 k19 t20 k20 t21 k21 t22 k22 t23 k23 t24 k24 t25 k25 d0 d1 d2 d3 d4 d5 d6 d7 d8 d9 d10 f0 f1 f2 f3 f4 f5 f6 f7 f8 f9 f10 f11 f12 f13 f14 f15 f16 f17 f18 f19 f20 f21 f22
  replace f0 := shm_12 f0
  replace f1 := shm_35 f1
  replace f2 := shm_36 f2
  replace f3 := shm_38 f3
  rw [show v_iv (n_v vs 22) = 2 from by omega] at f3
  replace f4 := shm_12 f4
  replace f5 := shm_38 f5
  replace f6 := shm_14 f6
  replace f7 := shm_38 f7
  rw [show v_iv (n_v vs 17) = 2 from by omega] at f7
  replace f8 := shm_154 f8
  replace f9 := shm_12 f9
  replace f10 := shm_35 f10
  replace f11 := shm_36 f11
  replace f12 := shm_38 f12
  rw [show v_iv (n_v vs 13) = 2 from by omega] at f12
  replace f13 := shm_12 f13
  replace f14 := shm_38 f14
  replace f15 := shm_14 f15
  replace f16 := shm_38 f16
  rw [show v_iv (n_v vs 8) = 2 from by omega] at f16
  replace f17 := shm_154 f17
  replace f18 := shm_24 f18
  replace f19 := shm_148 f19
  replace f20 := shm_1093 f20
  replace f21 := shm_148 f21
  replace f22 := shm_1093 f22
  have z1 : v_iv (n_v vs 20) = 2 * v_iv (n_v vs 7) * v_iv (n_v vs 19) := by have z0 := ‹v_iv (n_v vs 20) = v_iv (n_v vs 18) * v_iv (n_v vs 19)›; rw [show v_iv (n_v vs 18) = 2 * v_iv (n_v vs 7) from by omega] at z0; exact z0
  have z2 : v_iv (n_v vs 23) * v_iv (n_v vs 24) = 2 * v_iv (n_v vs 6) * v_iv (n_v vs 24) := by rw [show v_iv (n_v vs 23) = 2 * v_iv (n_v vs 6) from by omega]
  have z3 := dl_in (a := v_iv (n_v vs 2)) (c := v_iv (n_v vs 4)) (n := v_iv (n_v vs 6)) (k := v_iv (n_v vs 7)) (q := v_iv (n_v vs 24)) (p := v_iv (n_v vs 21)) (e := v_iv (n_v vs 19)) (by omega) (by omega) (by omega) (by omega) (by omega) (by omega) (by omega) (by omega) (by omega)
  have rf25 : tv_ok ta (0, 0, 63, []) (n_v vs 25) := tv_in t25 (by first | omega | grind) (by first | omega | grind)
  refine ⟨List.forall_mem_cons.mpr ⟨rf25, (fun _ h => (by cases h))⟩, [], trivial, ?_, (fun _ h => (by cases h))⟩
  rw [List.append_nil]
  exact (fun _ h => (by cases h))
def n_Mo_dotLine_an : List an_T := [(28, [(0, (2, 0, 0, [165])), (1, (0, 0, 63, [])), (2, (0, 0, 63, [])), (3, (0, 0, 63, [])), (4, (0, 0, 63, [])), (5, (0, 1, 256, [])), (6, (0, 0, 63, [])), (7, (0, 0, 64, []))], [], (0, 0), [(0, 0, 99972), (1, 7, 64), (0, 0, 100000)], [(7, 6, (Int.negSucc 999999999999), 1)], [], [], 0, [], [(23, [3, 1, 6], [0, 1, (Int.negSucc 0), (Int.negSucc 0)]), (23, [3, 1, 6], [0, (Int.negSucc 0), 1, (Int.negSucc 0)]), (23, [4, 2, 6], [0, 1, (Int.negSucc 0), (Int.negSucc 0)]), (23, [4, 2, 6], [0, (Int.negSucc 0), 1, (Int.negSucc 0)])])]
def t_Mo_dotLine_ct : ct_L := [(0, 855, e_Mo_max), (183, 931, e_jMath_floorDiv1_v69), (183, 931, e_jMath_floorDiv1_v70), (183, 931, e_jMath_floorDiv1_v71), (183, 931, e_jMath_floorDiv1_v72), (183, 931, e_jMath_floorDiv1_v73), (183, 931, e_jMath_floorDiv1_v74), (183, 931, e_jMath_floorDiv1_v75), (183, 931, e_jMath_floorDiv1_v76), (183, 931, e_jMath_floorDiv1_v77), (183, 931, e_jMath_floorDiv1_v78), (183, 931, e_jMath_floorDiv1_v79), (183, 931, e_jMath_floorDiv1_v80), (183, 931, e_jMath_floorDiv1_v81), (183, 931, e_jMath_floorDiv1_v82), (183, 931, e_jMath_floorDiv1_v83), (183, 931, e_jMath_floorDiv1_v84), (183, 931, e_jMath_floorDiv1_v85), (183, 931, e_jMath_floorDiv1_v86), (279, 931, e_jMath_floorDiv1_v69), (279, 931, e_jMath_floorDiv1_v70), (279, 931, e_jMath_floorDiv1_v71), (279, 931, e_jMath_floorDiv1_v72), (279, 931, e_jMath_floorDiv1_v73), (279, 931, e_jMath_floorDiv1_v74), (279, 931, e_jMath_floorDiv1_v75), (279, 931, e_jMath_floorDiv1_v76), (279, 931, e_jMath_floorDiv1_v77), (279, 931, e_jMath_floorDiv1_v78), (279, 931, e_jMath_floorDiv1_v79), (279, 931, e_jMath_floorDiv1_v80), (279, 931, e_jMath_floorDiv1_v81), (279, 931, e_jMath_floorDiv1_v82), (279, 931, e_jMath_floorDiv1_v83), (279, 931, e_jMath_floorDiv1_v84), (279, 931, e_jMath_floorDiv1_v85), (279, 931, e_jMath_floorDiv1_v86)]
set_option maxRecDepth 100000 in
theorem c_Mo_dotLine {l : Launch} {D : va_G} {kA : Nat → ClassId} (h_Mo_max : ct_ok PRD l D kA GG y_Mo_max z_Mo_max e_Mo_max) : ct_ok PRD l D kA GG y_Mo_dotLine z_Mo_dotLine e_Mo_dotLine := chk_all_ok (FT := [(369, 13, 175)]) (PT := []) (CT := t_Mo_dotLine_ct) (KT := []) (NT := []) (AN := n_Mo_dotLine_an) (OT := [o_Mo_dotLine_0, o_Mo_dotLine_1, o_Mo_dotLine_2, o_Mo_dotLine_3, o_Mo_dotLine_4, o_Mo_dotLine_5, o_Mo_dotLine_6, o_Mo_dotLine_7, o_Mo_dotLine_8, o_Mo_dotLine_9, o_Mo_dotLine_10, o_Mo_dotLine_11, o_Mo_dotLine_12, o_Mo_dotLine_13, o_Mo_dotLine_14, o_Mo_dotLine_15, o_Mo_dotLine_16, o_Mo_dotLine_17]) 3 476 (List.forall_mem_cons.mpr ⟨oo_Mo_dotLine_0, List.forall_mem_cons.mpr ⟨oo_Mo_dotLine_1, List.forall_mem_cons.mpr ⟨oo_Mo_dotLine_2, List.forall_mem_cons.mpr ⟨oo_Mo_dotLine_3, List.forall_mem_cons.mpr ⟨oo_Mo_dotLine_4, List.forall_mem_cons.mpr ⟨oo_Mo_dotLine_5, List.forall_mem_cons.mpr ⟨oo_Mo_dotLine_6, List.forall_mem_cons.mpr ⟨oo_Mo_dotLine_7, List.forall_mem_cons.mpr ⟨oo_Mo_dotLine_8, List.forall_mem_cons.mpr ⟨oo_Mo_dotLine_9, List.forall_mem_cons.mpr ⟨oo_Mo_dotLine_10, List.forall_mem_cons.mpr ⟨oo_Mo_dotLine_11, List.forall_mem_cons.mpr ⟨oo_Mo_dotLine_12, List.forall_mem_cons.mpr ⟨oo_Mo_dotLine_13, List.forall_mem_cons.mpr ⟨oo_Mo_dotLine_14, List.forall_mem_cons.mpr ⟨oo_Mo_dotLine_15, List.forall_mem_cons.mpr ⟨oo_Mo_dotLine_16, List.forall_mem_cons.mpr ⟨oo_Mo_dotLine_17, List.forall_mem_nil _⟩⟩⟩⟩⟩⟩⟩⟩⟩⟩⟩⟩⟩⟩⟩⟩⟩⟩) (by decide +kernel) ⟨List.forall_mem_cons.mpr ⟨gf_Mo_369, List.forall_mem_nil _⟩, List.forall_mem_nil _, List.forall_mem_cons.mpr ⟨cl_static (y := y_Mo_max) h_Mo_max wm_3430 wm_9 wm_3428 wm_3429 ⟨by decide, by decide, by decide +kernel⟩ (by decide), List.forall_mem_cons.mpr ⟨cl_static (y := y_jMath_floorDiv1) c_jMath_floorDiv1_v69 wm_1617 wm_10 wm_3556 wm_1616 ⟨by decide, by decide, by decide +kernel⟩ (by decide), List.forall_mem_cons.mpr ⟨cl_static (y := y_jMath_floorDiv1) c_jMath_floorDiv1_v70 wm_1617 wm_10 wm_3556 wm_1616 ⟨by decide, by decide, by decide +kernel⟩ (by decide), List.forall_mem_cons.mpr ⟨cl_static (y := y_jMath_floorDiv1) c_jMath_floorDiv1_v71 wm_1617 wm_10 wm_3556 wm_1616 ⟨by decide, by decide, by decide +kernel⟩ (by decide), List.forall_mem_cons.mpr ⟨cl_static (y := y_jMath_floorDiv1) c_jMath_floorDiv1_v72 wm_1617 wm_10 wm_3556 wm_1616 ⟨by decide, by decide, by decide +kernel⟩ (by decide), List.forall_mem_cons.mpr ⟨cl_static (y := y_jMath_floorDiv1) c_jMath_floorDiv1_v73 wm_1617 wm_10 wm_3556 wm_1616 ⟨by decide, by decide, by decide +kernel⟩ (by decide), List.forall_mem_cons.mpr ⟨cl_static (y := y_jMath_floorDiv1) c_jMath_floorDiv1_v74 wm_1617 wm_10 wm_3556 wm_1616 ⟨by decide, by decide, by decide +kernel⟩ (by decide), List.forall_mem_cons.mpr ⟨cl_static (y := y_jMath_floorDiv1) c_jMath_floorDiv1_v75 wm_1617 wm_10 wm_3556 wm_1616 ⟨by decide, by decide, by decide +kernel⟩ (by decide), List.forall_mem_cons.mpr ⟨cl_static (y := y_jMath_floorDiv1) c_jMath_floorDiv1_v76 wm_1617 wm_10 wm_3556 wm_1616 ⟨by decide, by decide, by decide +kernel⟩ (by decide), List.forall_mem_cons.mpr ⟨cl_static (y := y_jMath_floorDiv1) c_jMath_floorDiv1_v77 wm_1617 wm_10 wm_3556 wm_1616 ⟨by decide, by decide, by decide +kernel⟩ (by decide), List.forall_mem_cons.mpr ⟨cl_static (y := y_jMath_floorDiv1) c_jMath_floorDiv1_v78 wm_1617 wm_10 wm_3556 wm_1616 ⟨by decide, by decide, by decide +kernel⟩ (by decide), List.forall_mem_cons.mpr ⟨cl_static (y := y_jMath_floorDiv1) c_jMath_floorDiv1_v79 wm_1617 wm_10 wm_3556 wm_1616 ⟨by decide, by decide, by decide +kernel⟩ (by decide), List.forall_mem_cons.mpr ⟨cl_static (y := y_jMath_floorDiv1) c_jMath_floorDiv1_v80 wm_1617 wm_10 wm_3556 wm_1616 ⟨by decide, by decide, by decide +kernel⟩ (by decide), List.forall_mem_cons.mpr ⟨cl_static (y := y_jMath_floorDiv1) c_jMath_floorDiv1_v81 wm_1617 wm_10 wm_3556 wm_1616 ⟨by decide, by decide, by decide +kernel⟩ (by decide), List.forall_mem_cons.mpr ⟨cl_static (y := y_jMath_floorDiv1) c_jMath_floorDiv1_v82 wm_1617 wm_10 wm_3556 wm_1616 ⟨by decide, by decide, by decide +kernel⟩ (by decide), List.forall_mem_cons.mpr ⟨cl_static (y := y_jMath_floorDiv1) c_jMath_floorDiv1_v83 wm_1617 wm_10 wm_3556 wm_1616 ⟨by decide, by decide, by decide +kernel⟩ (by decide), List.forall_mem_cons.mpr ⟨cl_static (y := y_jMath_floorDiv1) c_jMath_floorDiv1_v84 wm_1617 wm_10 wm_3556 wm_1616 ⟨by decide, by decide, by decide +kernel⟩ (by decide), List.forall_mem_cons.mpr ⟨cl_static (y := y_jMath_floorDiv1) c_jMath_floorDiv1_v85 wm_1617 wm_10 wm_3556 wm_1616 ⟨by decide, by decide, by decide +kernel⟩ (by decide), List.forall_mem_cons.mpr ⟨cl_static (y := y_jMath_floorDiv1) c_jMath_floorDiv1_v86 wm_1617 wm_10 wm_3556 wm_1616 ⟨by decide, by decide, by decide +kernel⟩ (by decide), List.forall_mem_cons.mpr ⟨cl_static (y := y_jMath_floorDiv1) c_jMath_floorDiv1_v69 wm_1617 wm_10 wm_3556 wm_1616 ⟨by decide, by decide, by decide +kernel⟩ (by decide), List.forall_mem_cons.mpr ⟨cl_static (y := y_jMath_floorDiv1) c_jMath_floorDiv1_v70 wm_1617 wm_10 wm_3556 wm_1616 ⟨by decide, by decide, by decide +kernel⟩ (by decide), List.forall_mem_cons.mpr ⟨cl_static (y := y_jMath_floorDiv1) c_jMath_floorDiv1_v71 wm_1617 wm_10 wm_3556 wm_1616 ⟨by decide, by decide, by decide +kernel⟩ (by decide), List.forall_mem_cons.mpr ⟨cl_static (y := y_jMath_floorDiv1) c_jMath_floorDiv1_v72 wm_1617 wm_10 wm_3556 wm_1616 ⟨by decide, by decide, by decide +kernel⟩ (by decide), List.forall_mem_cons.mpr ⟨cl_static (y := y_jMath_floorDiv1) c_jMath_floorDiv1_v73 wm_1617 wm_10 wm_3556 wm_1616 ⟨by decide, by decide, by decide +kernel⟩ (by decide), List.forall_mem_cons.mpr ⟨cl_static (y := y_jMath_floorDiv1) c_jMath_floorDiv1_v74 wm_1617 wm_10 wm_3556 wm_1616 ⟨by decide, by decide, by decide +kernel⟩ (by decide), List.forall_mem_cons.mpr ⟨cl_static (y := y_jMath_floorDiv1) c_jMath_floorDiv1_v75 wm_1617 wm_10 wm_3556 wm_1616 ⟨by decide, by decide, by decide +kernel⟩ (by decide), List.forall_mem_cons.mpr ⟨cl_static (y := y_jMath_floorDiv1) c_jMath_floorDiv1_v76 wm_1617 wm_10 wm_3556 wm_1616 ⟨by decide, by decide, by decide +kernel⟩ (by decide), List.forall_mem_cons.mpr ⟨cl_static (y := y_jMath_floorDiv1) c_jMath_floorDiv1_v77 wm_1617 wm_10 wm_3556 wm_1616 ⟨by decide, by decide, by decide +kernel⟩ (by decide), List.forall_mem_cons.mpr ⟨cl_static (y := y_jMath_floorDiv1) c_jMath_floorDiv1_v78 wm_1617 wm_10 wm_3556 wm_1616 ⟨by decide, by decide, by decide +kernel⟩ (by decide), List.forall_mem_cons.mpr ⟨cl_static (y := y_jMath_floorDiv1) c_jMath_floorDiv1_v79 wm_1617 wm_10 wm_3556 wm_1616 ⟨by decide, by decide, by decide +kernel⟩ (by decide), List.forall_mem_cons.mpr ⟨cl_static (y := y_jMath_floorDiv1) c_jMath_floorDiv1_v80 wm_1617 wm_10 wm_3556 wm_1616 ⟨by decide, by decide, by decide +kernel⟩ (by decide), List.forall_mem_cons.mpr ⟨cl_static (y := y_jMath_floorDiv1) c_jMath_floorDiv1_v81 wm_1617 wm_10 wm_3556 wm_1616 ⟨by decide, by decide, by decide +kernel⟩ (by decide), List.forall_mem_cons.mpr ⟨cl_static (y := y_jMath_floorDiv1) c_jMath_floorDiv1_v82 wm_1617 wm_10 wm_3556 wm_1616 ⟨by decide, by decide, by decide +kernel⟩ (by decide), List.forall_mem_cons.mpr ⟨cl_static (y := y_jMath_floorDiv1) c_jMath_floorDiv1_v83 wm_1617 wm_10 wm_3556 wm_1616 ⟨by decide, by decide, by decide +kernel⟩ (by decide), List.forall_mem_cons.mpr ⟨cl_static (y := y_jMath_floorDiv1) c_jMath_floorDiv1_v84 wm_1617 wm_10 wm_3556 wm_1616 ⟨by decide, by decide, by decide +kernel⟩ (by decide), List.forall_mem_cons.mpr ⟨cl_static (y := y_jMath_floorDiv1) c_jMath_floorDiv1_v85 wm_1617 wm_10 wm_3556 wm_1616 ⟨by decide, by decide, by decide +kernel⟩ (by decide), List.forall_mem_cons.mpr ⟨cl_static (y := y_jMath_floorDiv1) c_jMath_floorDiv1_v86 wm_1617 wm_10 wm_3556 wm_1616 ⟨by decide, by decide, by decide +kernel⟩ (by decide), List.forall_mem_nil _⟩⟩⟩⟩⟩⟩⟩⟩⟩⟩⟩⟩⟩⟩⟩⟩⟩⟩⟩⟩⟩⟩⟩⟩⟩⟩⟩⟩⟩⟩⟩⟩⟩⟩⟩⟩⟩, List.forall_mem_nil _, List.forall_mem_nil _, GG_pl⟩ (by decide +kernel)
set_option maxHeartbeats 4000000 in
theorem vc_Mo_drawWay_0_0 (x1 : Int) (x2 : Int) (pt_0 : Int → Int) (ph_0 : Int → Int) (pn_0 : Int) (pm_0 : Int) (alive_0 : Int → Int) (blockOf_0 : Int → Int) (drawnEdge_0 : Int → Int) (drawnNode_0 : Int → Int) (faceMany_0 : Int → Int) (face_0 : Int → Int) (way_0 : Int → Int) (faces_0 : Int) (wayMany_0 : Int) (k1 : 0 ≤ x1 ∧ x1 ≤ 79) (k2 : 0 ≤ x2 ∧ x2 ≤ 0) (f1 : DWP (pn_0) (pm_0) (faces_0) (wayMany_0) (pt_0) (ph_0) (alive_0) (blockOf_0) (drawnEdge_0) (drawnNode_0) (faceMany_0) (face_0) (way_0) (x1)) (kz_0_31 : 0 ≤ pn_0 ∧ pn_0 ≤ 25) (kz_0_32 : 0 ≤ pm_0 ∧ pm_0 ≤ 80) (kz_0_39 : 0 ≤ faces_0 ∧ faces_0 ≤ 120) (kz_0_45 : 0 ≤ wayMany_0 ∧ wayMany_0 ≤ 30) : DWI (pn_0) (pm_0) (faces_0) (wayMany_0) (pt_0) (ph_0) (alive_0) (blockOf_0) (drawnEdge_0) (drawnNode_0) (faceMany_0) (face_0) (way_0) (x1) (x2) := by
  first
    | exact dwi_start ‹DWP _ _ _ _ _ _ _ _ _ _ _ _ _ _› (by omega)
    | (refine dwi_next (k := x3) ‹DWI _ _ _ _ _ _ _ _ _ _ _ _ _ _ _› (by omega) (by omega) (by omega) (fun u a => ?_) (fun e a b => ?_)
       · by_cases q : u = x7
         · have v := (hE_0_42_1 u a).1 q
           exact ⟨fun _ => Or.inr (by omega), fun _ => by omega⟩
         · rw [(hE_0_42_1 u a).2 q]
           exact ⟨Or.inl, fun z => z.elim id (fun w => by exfalso; omega)⟩
       · exact ⟨Or.inl, fun z => z.elim id (fun w => by exfalso; have := w.1; omega)⟩)
    | (have hj : JJ pm_0 pt_0 ph_0 alive_0 x14 (way_0 (x3 - 1)) (way_0 x3) := by
         rcases ‹EOF _ _ _ _ _ _ _› with ⟨z, _⟩ | z
         · exfalso; omega
         · rw [show x3 - 1 = x11 by omega, ← ‹x12 = way_0 x11›, ← ‹x13 = way_0 x3›]; exact z
       refine dwi_next (k := x3) ‹DWI _ _ _ _ _ _ _ _ _ _ _ _ _ _ _› (by omega) (by omega) (by omega) (fun u a => ?_) (fun e a b => ?_)
       · by_cases q : u = x7
         · have v := (hE_0_42_2 u a).1 q
           exact ⟨fun _ => Or.inr (by omega), fun _ => by omega⟩
         · rw [(hE_0_42_2 u a).2 q]
           exact ⟨Or.inl, fun z => z.elim id (fun w => by exfalso; omega)⟩
       · by_cases q : e = x14
         · have v := (hE_0_43_1 e a).1 q
           exact ⟨fun _ => Or.inr ⟨by omega, q ▸ hj⟩, fun _ => by omega⟩
         · rw [(hE_0_43_1 e a).2 q]
           exact ⟨Or.inl, fun z => z.elim id (fun w => absurd (JJ_one ‹GOK _ _ _ _› w.2 hj) q)⟩)
def o_Mo_drawWay_0 : or_T := (2, 3, [(0, (2, 0, 0, [165])), (1, (0, 0, 79, [])), (2, (0, 0, 0, []))], [(20, [0, 1], [60, 4, 9, 152, 31, 32, 39, 45, 33, 34, 35, 17, 43, 42, 40, 41, 46])], [], [], [(20, [0, 1, 2], [60, 4, 9, 153, 31, 32, 39, 45, 33, 34, 35, 17, 43, 42, 40, 41, 46]), (24, [0, 0], [])], [], [])
theorem oo_Mo_drawWay_0 {kA : Nat → ClassId} : or_ok PRD kA GG o_Mo_drawWay_0 := by
  refine or_mk fun A ta ws vs hD hth hl => ?_
  intro t0 r0 t1 k1 t2 k2 f1
  have kz_0_31 := fdq_144 hD hth r0
  have kz_0_32 := fdq_139 hD hth r0
  have kz_0_39 := fdq_134 hD hth r0
  have kz_0_45 := fdq_189 hD hth r0
  have nf0 : fc_1 PRD (20, [0, 1, 2], [60, 4, 9, 153, 31, 32, 39, 45, 33, 34, 35, 17, 43, 42, 40, 41, 46]) ws (vs) := ⟨nf_in hl rfl, sgq_1095 (vc_Mo_drawWay_0_0 (v_iv (n_v vs 1)) (v_iv (n_v vs 2)) (w_ei ws (w_ar ws (n_v vs 0) 33)) (w_ei ws (w_ar ws (n_v vs 0) 34)) (w_fi ws (n_v vs 0) 31) (w_fi ws (n_v vs 0) 32) (w_ei ws (w_ar ws (n_v vs 0) 35)) (w_ei ws (w_ar ws (n_v vs 0) 17)) (w_ei ws (w_ar ws (n_v vs 0) 43)) (w_ei ws (w_ar ws (n_v vs 0) 42)) (w_ei ws (w_ar ws (n_v vs 0) 40)) (w_ei ws (w_ar ws (n_v vs 0) 41)) (w_ei ws (w_ar ws (n_v vs 0) 46)) (w_fi ws (n_v vs 0) 39) (w_fi ws (n_v vs 0) 45) k1 k2 (shm_1094 f1) kz_0_31 kz_0_32 kz_0_39 kz_0_45)⟩
  have nf1 : fc_1 PRD (24, [0, 0], []) ws (vs) := by
    refine ⟨nf_in hl rfl, sgq_1 ?_⟩
    · show n_v vs 0 = n_v vs 0
      first | rfl | simp only [true_and]
  refine ⟨(fun _ h => (by cases h)), [], trivial, ?_, (fun _ h => (by cases h))⟩
  rw [List.append_nil]
  exact List.forall_mem_cons.mpr ⟨⟨show (20 : Nat) < 100 from by decide, nf0⟩, List.forall_mem_cons.mpr ⟨⟨show (24 : Nat) < 100 from by decide, nf1⟩, (fun _ h => (by cases h))⟩⟩
set_option maxHeartbeats 4000000 in
theorem vc_Mo_drawWay_1_0 (x1 : Int) (x3 : Int) (x4 : Int) (wayMany_0 : Int) (pt_0 : Int → Int) (ph_0 : Int → Int) (pn_0 : Int) (pm_0 : Int) (alive_0 : Int → Int) (blockOf_0 : Int → Int) (drawnEdge_0 : Int → Int) (drawnNode_0 : Int → Int) (faceMany_0 : Int → Int) (face_0 : Int → Int) (way_0 : Int → Int) (faces_0 : Int) (k1 : 0 ≤ x1 ∧ x1 ≤ 79) (k3 : 0 ≤ x3 ∧ x3 ≤ 30) (k4 : 0 ≤ x4 ∧ x4 ≤ 30) (d0 : x4 + 0 ≤ x3 ∧ x3 ≤ x4 + 4294967296) (g1 : x4 = wayMany_0) (f3 : DWI (pn_0) (pm_0) (faces_0) (wayMany_0) (pt_0) (ph_0) (alive_0) (blockOf_0) (drawnEdge_0) (drawnNode_0) (faceMany_0) (face_0) (way_0) (x1) (x3)) (kz_0_31 : 0 ≤ pn_0 ∧ pn_0 ≤ 25) (kz_0_32 : 0 ≤ pm_0 ∧ pm_0 ≤ 80) (kz_0_39 : 0 ≤ faces_0 ∧ faces_0 ≤ 120) (kz_0_45 : 0 ≤ wayMany_0 ∧ wayMany_0 ≤ 30) : DWQ (pm_0) (faces_0) (pt_0) (ph_0) (alive_0) (blockOf_0) (drawnEdge_0) (drawnNode_0) (faceMany_0) (face_0) (x1) := by
  exact dwi_end ‹DWI _ _ _ _ _ _ _ _ _ _ _ _ _ _ _› (by omega)
def o_Mo_drawWay_1 : or_T := (56, 5, [(0, (2, 0, 0, [165])), (1, (0, 0, 79, [])), (3, (0, 0, 30, [])), (4, (0, 0, 30, []))], [(9, [4, 2], [45]), (20, [2, 1, 3], [60, 4, 9, 153, 31, 32, 39, 45, 33, 34, 35, 17, 43, 42, 40, 41, 46]), (24, [0, 2], [])], [], [], [(20, [0, 1], [60, 2, 8, 154, 32, 39, 33, 34, 35, 17, 43, 42, 40, 41])], [], [(3, 4, 0, 4294967296)])
theorem oo_Mo_drawWay_1 {kA : Nat → ClassId} : or_ok PRD kA GG o_Mo_drawWay_1 := by
  refine or_mk fun A ta ws vs hD hth hl => ?_
  intro t0 r0 t1 k1 t3 k3 t4 k4 d0 f1 f3 f4
  replace f1 := shm_727 f1
  replace f3 := shm_1095 f3
  replace f4 := shm_5 f4
  have q2 : n_v vs 2 = n_v vs 0 := f4.symm
  simp only [q2] at f1 f3
  have g1 : v_iv (n_v vs 4) = w_fi ws (n_v vs 0) 45 := congrArg v_iv f1
  have kz_0_31 := fdq_144 hD hth r0
  have kz_0_32 := fdq_139 hD hth r0
  have kz_0_39 := fdq_134 hD hth r0
  have kz_0_45 := fdq_189 hD hth r0
  have nf0 : fc_1 PRD (20, [0, 1], [60, 2, 8, 154, 32, 39, 33, 34, 35, 17, 43, 42, 40, 41]) ws (vs) := ⟨nf_in hl rfl, sgq_1096 (vc_Mo_drawWay_1_0 (v_iv (n_v vs 1)) (v_iv (n_v vs 3)) (v_iv (n_v vs 4)) (w_fi ws (n_v vs 0) 45) (w_ei ws (w_ar ws (n_v vs 0) 33)) (w_ei ws (w_ar ws (n_v vs 0) 34)) (w_fi ws (n_v vs 0) 31) (w_fi ws (n_v vs 0) 32) (w_ei ws (w_ar ws (n_v vs 0) 35)) (w_ei ws (w_ar ws (n_v vs 0) 17)) (w_ei ws (w_ar ws (n_v vs 0) 43)) (w_ei ws (w_ar ws (n_v vs 0) 42)) (w_ei ws (w_ar ws (n_v vs 0) 40)) (w_ei ws (w_ar ws (n_v vs 0) 41)) (w_ei ws (w_ar ws (n_v vs 0) 46)) (w_fi ws (n_v vs 0) 39) k1 k3 k4 d0 g1 f3 kz_0_31 kz_0_32 kz_0_39 kz_0_45)⟩
  refine ⟨(fun _ h => (by cases h)), [], trivial, ?_, (fun _ h => (by cases h))⟩
  rw [List.append_nil]
  exact List.forall_mem_cons.mpr ⟨⟨show (20 : Nat) < 100 from by decide, nf0⟩, (fun _ h => (by cases h))⟩
set_option maxHeartbeats 4000000 in
theorem vc_Mo_drawWay_2_0 (x1 : Int) (x3 : Int) (x4 : Int) (x7 : Int) (x8 : Int) (x9 : Int) (pt_0 : Int → Int) (ph_0 : Int → Int) (pn_0 : Int) (pm_0 : Int) (way_1 : Int → Int) (wayMany_1 : Int) (pt_1 : Int → Int) (ph_1 : Int → Int) (pn_1 : Int) (pm_1 : Int) (alive_1 : Int → Int) (blockOf_1 : Int → Int) (drawnEdge_1 : Int → Int) (drawnNode_1 : Int → Int) (faceMany_1 : Int → Int) (face_1 : Int → Int) (faces_1 : Int) (faces_0 : Int) (wayMany_0 : Int) (blockOf_0 : Int → Int) (alive_0 : Int → Int) (faceMany_0 : Int → Int) (face_0 : Int → Int) (drawnNode_0 : Int → Int) (drawnEdge_0 : Int → Int) (way_0 : Int → Int) (k1 : 0 ≤ x1 ∧ x1 ≤ 79) (k3 : 0 ≤ x3 ∧ x3 ≤ 0) (k4 : 1 ≤ x4 ∧ x4 ≤ 30) (k7 : 0 ≤ x7 ∧ x7 ≤ 24) (k8 : 1 ≤ x8 ∧ x8 ≤ 1) (k9 : 1 ≤ x9 ∧ x9 ≤ 1) (f0 : x9 = x3 + 1) (h5 : x7 = way_1 (x3)) (g9 : x4 = wayMany_1) (f11 : DWI (pn_1) (pm_1) (faces_1) (wayMany_1) (pt_1) (ph_1) (alive_1) (blockOf_1) (drawnEdge_1) (drawnNode_1) (faceMany_1) (face_1) (way_1) (x1) (x3)) (fe_0_31_1 : pn_0 = pn_1) (fe_0_32_1 : pm_0 = pm_1) (fe_0_39_1 : faces_0 = faces_1) (fe_0_45_1 : wayMany_0 = wayMany_1) (hE_0_17_1 : ∀ j : Int, blockOf_0 j = blockOf_1 j) (hE_0_33_1 : ∀ j : Int, pt_0 j = pt_1 j) (hE_0_34_1 : ∀ j : Int, ph_0 j = ph_1 j) (hE_0_35_1 : ∀ j : Int, alive_0 j = alive_1 j) (hE_0_40_1 : ∀ j : Int, faceMany_0 j = faceMany_1 j) (hE_0_41_1 : ∀ j : Int, face_0 j = face_1 j) (hE_0_42_1 : ∀ j : Int, 0 ≤ j → (j = x7 → drawnNode_0 j = x8) ∧ (j ≠ x7 → drawnNode_0 j = drawnNode_1 j)) (hE_0_43_1 : ∀ j : Int, drawnEdge_0 j = drawnEdge_1 j) (hE_0_46_1 : ∀ j : Int, way_0 j = way_1 j) (kz_0_31 : 0 ≤ pn_0 ∧ pn_0 ≤ 25) (kz_0_32 : 0 ≤ pm_0 ∧ pm_0 ≤ 80) (kz_0_39 : 0 ≤ faces_0 ∧ faces_0 ≤ 120) (kz_0_45 : 0 ≤ wayMany_0 ∧ wayMany_0 ≤ 30) : DWI (pn_0) (pm_0) (faces_0) (wayMany_0) (pt_0) (ph_0) (alive_0) (blockOf_0) (drawnEdge_0) (drawnNode_0) (faceMany_0) (face_0) (way_0) (x1) (x9) := by
  subst fe_0_31_1
  subst fe_0_32_1
  subst fe_0_39_1
  subst fe_0_45_1
  have e_hE_0_17_1 := funext hE_0_17_1; subst e_hE_0_17_1
  have e_hE_0_33_1 := funext hE_0_33_1; subst e_hE_0_33_1
  have e_hE_0_34_1 := funext hE_0_34_1; subst e_hE_0_34_1
  have e_hE_0_35_1 := funext hE_0_35_1; subst e_hE_0_35_1
  have e_hE_0_40_1 := funext hE_0_40_1; subst e_hE_0_40_1
  have e_hE_0_41_1 := funext hE_0_41_1; subst e_hE_0_41_1
  have e_hE_0_43_1 := funext hE_0_43_1; subst e_hE_0_43_1
  have e_hE_0_46_1 := funext hE_0_46_1; subst e_hE_0_46_1
  first
    | exact dwi_start ‹DWP _ _ _ _ _ _ _ _ _ _ _ _ _ _› (by omega)
    | (refine dwi_next (k := x3) ‹DWI _ _ _ _ _ _ _ _ _ _ _ _ _ _ _› (by omega) (by omega) (by omega) (fun u a => ?_) (fun e a b => ?_)
       · by_cases q : u = x7
         · have v := (hE_0_42_1 u a).1 q
           exact ⟨fun _ => Or.inr (by omega), fun _ => by omega⟩
         · rw [(hE_0_42_1 u a).2 q]
           exact ⟨Or.inl, fun z => z.elim id (fun w => by exfalso; omega)⟩
       · exact ⟨Or.inl, fun z => z.elim id (fun w => by exfalso; have := w.1; omega)⟩)
    | (have hj : JJ pm_0 pt_0 ph_0 alive_0 x14 (way_0 (x3 - 1)) (way_0 x3) := by
         rcases ‹EOF _ _ _ _ _ _ _› with ⟨z, _⟩ | z
         · exfalso; omega
         · rw [show x3 - 1 = x11 by omega, ← ‹x12 = way_0 x11›, ← ‹x13 = way_0 x3›]; exact z
       refine dwi_next (k := x3) ‹DWI _ _ _ _ _ _ _ _ _ _ _ _ _ _ _› (by omega) (by omega) (by omega) (fun u a => ?_) (fun e a b => ?_)
       · by_cases q : u = x7
         · have v := (hE_0_42_2 u a).1 q
           exact ⟨fun _ => Or.inr (by omega), fun _ => by omega⟩
         · rw [(hE_0_42_2 u a).2 q]
           exact ⟨Or.inl, fun z => z.elim id (fun w => by exfalso; omega)⟩
       · by_cases q : e = x14
         · have v := (hE_0_43_1 e a).1 q
           exact ⟨fun _ => Or.inr ⟨by omega, q ▸ hj⟩, fun _ => by omega⟩
         · rw [(hE_0_43_1 e a).2 q]
           exact ⟨Or.inl, fun z => z.elim id (fun w => absurd (JJ_one ‹GOK _ _ _ _› w.2 hj) q)⟩)
def o_Mo_drawWay_2 : or_T := (2, 10, [(0, (2, 0, 0, [165])), (1, (0, 0, 79, [])), (3, (0, 0, 0, [])), (4, (0, 1, 30, [])), (5, (2, 0, 0, [188])), (7, (0, 0, 24, [])), (8, (0, 1, 1, [])), (9, (0, 1, 1, []))], [(6, [9, 3], [1]), (24, [0, 2], []), (100, [5, 7, 8], []), (10, [7, 6, 3], []), (9, [6, 2], [46]), (9, [5, 2], [42]), (9, [4, 2], [45]), (20, [2, 1, 3], [60, 4, 9, 153, 31, 32, 39, 45, 33, 34, 35, 17, 43, 42, 40, 41, 46])], [], [], [(20, [2, 1, 9], [60, 4, 9, 153, 31, 32, 39, 45, 33, 34, 35, 17, 43, 42, 40, 41, 46])], [], [])
theorem oo_Mo_drawWay_2 {kA : Nat → ClassId} : or_ok PRD kA GG o_Mo_drawWay_2 := by
  refine or_mk fun A ta ws vs hD hth hl => ?_
  intro t0 r0 t1 k1 t3 k3 t4 k4 t5 r5 t7 k7 t8 k8 t9 k9 f0 f3 ta1 w1 le1 s1 f5 f6 f7 f9 f11
  replace f0 := shm_4 f0
  replace f3 := shm_5 f3
  have s1 : (∀ b j, w_el ws b j = if b = v_ad (n_v vs 5) ∧ j = (v_iv (n_v vs 7)).toNat then v_iv (n_v vs 8) else w_el w1 b j) ∧ ∀ b k, w_fd ws b k = w_fd w1 b k := s1.2
  replace f5 := shm_106 f5
  replace f6 := shm_723 f6
  replace f7 := shm_525 f7
  replace f9 := shm_727 f9
  replace f11 := shm_1095 f11
  have q2 : n_v vs 2 = n_v vs 0 := f3.symm
  simp only [q2] at f6 f7 f9 f11
  have ar_0_17_1 : w_ar w1 (n_v vs 0) 17 = w_ar ws (n_v vs 0) 17 := congrArg v_ad (s1.2 _ _).symm
  have cr_0_17 := fdq_187 hD hth r0
  have ar_0_33_1 : w_ar w1 (n_v vs 0) 33 = w_ar ws (n_v vs 0) 33 := congrArg v_ad (s1.2 _ _).symm
  have cr_0_33 := fdq_116 hD hth r0
  have ar_0_34_1 : w_ar w1 (n_v vs 0) 34 = w_ar ws (n_v vs 0) 34 := congrArg v_ad (s1.2 _ _).symm
  have cr_0_34 := fdq_117 hD hth r0
  have ar_0_35_1 : w_ar w1 (n_v vs 0) 35 = w_ar ws (n_v vs 0) 35 := congrArg v_ad (s1.2 _ _).symm
  have cr_0_35 := fdq_131 hD hth r0
  have ar_0_40_1 : w_ar w1 (n_v vs 0) 40 = w_ar ws (n_v vs 0) 40 := congrArg v_ad (s1.2 _ _).symm
  have cr_0_40 := fdq_132 hD hth r0
  have ar_0_41_1 : w_ar w1 (n_v vs 0) 41 = w_ar ws (n_v vs 0) 41 := congrArg v_ad (s1.2 _ _).symm
  have cr_0_41 := fdq_133 hD hth r0
  have ar_0_42_1 : w_ar w1 (n_v vs 0) 42 = w_ar ws (n_v vs 0) 42 := congrArg v_ad (s1.2 _ _).symm
  have ar_0_43_1 : w_ar w1 (n_v vs 0) 43 = w_ar ws (n_v vs 0) 43 := congrArg v_ad (s1.2 _ _).symm
  have cr_0_43 := fdq_136 hD hth r0
  have ar_0_46_1 : w_ar w1 (n_v vs 0) 46 = w_ar ws (n_v vs 0) 46 := congrArg v_ad (s1.2 _ _).symm
  have cr_0_46 := fdq_188 hD hth r0
  have ad_6 : v_ad (n_v vs 6) = w_ar ws (n_v vs 0) 46 := (congrArg v_ad f6).trans ar_0_46_1
  have ad_5 : v_ad (n_v vs 5) = w_ar ws (n_v vs 0) 42 := (congrArg v_ad f7).trans ar_0_42_1
  simp only [ad_6] at f5
  have h5 : v_iv (n_v vs 7) = w_ei w1 (w_ar ws (n_v vs 0) 46) (v_iv (n_v vs 3)) := f5
  have g9 : v_iv (n_v vs 4) = w_fi w1 (n_v vs 0) 45 := congrArg v_iv f9
  simp only [ar_0_33_1, ar_0_34_1, ar_0_17_1, ar_0_35_1, ar_0_40_1, ar_0_41_1, ar_0_42_1, ar_0_43_1, ar_0_46_1] at f11
  have fe_0_31_1 : w_fi ws (n_v vs 0) 31 = w_fi w1 (n_v vs 0) 31 := congrArg v_iv (s1.2 _ _)
  have fe_0_32_1 : w_fi ws (n_v vs 0) 32 = w_fi w1 (n_v vs 0) 32 := congrArg v_iv (s1.2 _ _)
  have fe_0_39_1 : w_fi ws (n_v vs 0) 39 = w_fi w1 (n_v vs 0) 39 := congrArg v_iv (s1.2 _ _)
  have fe_0_45_1 : w_fi ws (n_v vs 0) 45 = w_fi w1 (n_v vs 0) 45 := congrArg v_iv (s1.2 _ _)
  have hE_0_17_1 : ∀ j : Int, w_ei ws (w_ar ws (n_v vs 0) 17) j = w_ei w1 (w_ar ws (n_v vs 0) 17) j := el_kp s1.1 r5 cr_0_17 (by decide)
  have hE_0_33_1 : ∀ j : Int, w_ei ws (w_ar ws (n_v vs 0) 33) j = w_ei w1 (w_ar ws (n_v vs 0) 33) j := el_kp s1.1 r5 cr_0_33 (by decide)
  have hE_0_34_1 : ∀ j : Int, w_ei ws (w_ar ws (n_v vs 0) 34) j = w_ei w1 (w_ar ws (n_v vs 0) 34) j := el_kp s1.1 r5 cr_0_34 (by decide)
  have hE_0_35_1 : ∀ j : Int, w_ei ws (w_ar ws (n_v vs 0) 35) j = w_ei w1 (w_ar ws (n_v vs 0) 35) j := el_kp s1.1 r5 cr_0_35 (by decide)
  have hE_0_40_1 : ∀ j : Int, w_ei ws (w_ar ws (n_v vs 0) 40) j = w_ei w1 (w_ar ws (n_v vs 0) 40) j := el_kp s1.1 r5 cr_0_40 (by decide)
  have hE_0_41_1 : ∀ j : Int, w_ei ws (w_ar ws (n_v vs 0) 41) j = w_ei w1 (w_ar ws (n_v vs 0) 41) j := el_kp s1.1 r5 cr_0_41 (by decide)
  have hE_0_42_1 : ∀ j : Int, 0 ≤ j → (j = v_iv (n_v vs 7) → w_ei ws (w_ar ws (n_v vs 0) 42) j = v_iv (n_v vs 8)) ∧ (j ≠ v_iv (n_v vs 7) → w_ei ws (w_ar ws (n_v vs 0) 42) j = w_ei w1 (w_ar ws (n_v vs 0) 42) j) := fun j hj => ⟨fun h => by unfold w_ei; rw [s1.1, if_pos ⟨ad_5.symm, by rw [h]⟩], fun h => by unfold w_ei; rw [s1.1, if_neg (fun e => h (by have := e.2; omega))]⟩
  have hE_0_43_1 : ∀ j : Int, w_ei ws (w_ar ws (n_v vs 0) 43) j = w_ei w1 (w_ar ws (n_v vs 0) 43) j := el_kp s1.1 r5 cr_0_43 (by decide)
  have hE_0_46_1 : ∀ j : Int, w_ei ws (w_ar ws (n_v vs 0) 46) j = w_ei w1 (w_ar ws (n_v vs 0) 46) j := el_kp s1.1 r5 cr_0_46 (by decide)
  have kz_0_31 := fdq_144 hD hth r0
  have kz_0_32 := fdq_139 hD hth r0
  have kz_0_39 := fdq_134 hD hth r0
  have kz_0_45 := fdq_189 hD hth r0
  have nf0 : fc_1 PRD (20, [2, 1, 9], [60, 4, 9, 153, 31, 32, 39, 45, 33, 34, 35, 17, 43, 42, 40, 41, 46]) ws (vs) := by
    refine ⟨nf_in hl rfl, sgq_1095 ?_⟩
    · show DWI (w_fi ws (n_v vs 2) 31) (w_fi ws (n_v vs 2) 32) (w_fi ws (n_v vs 2) 39) (w_fi ws (n_v vs 2) 45) (w_ei ws (w_ar ws (n_v vs 2) 33)) (w_ei ws (w_ar ws (n_v vs 2) 34)) (w_ei ws (w_ar ws (n_v vs 2) 35)) (w_ei ws (w_ar ws (n_v vs 2) 17)) (w_ei ws (w_ar ws (n_v vs 2) 43)) (w_ei ws (w_ar ws (n_v vs 2) 42)) (w_ei ws (w_ar ws (n_v vs 2) 40)) (w_ei ws (w_ar ws (n_v vs 2) 41)) (w_ei ws (w_ar ws (n_v vs 2) 46)) (v_iv (n_v vs 1)) (v_iv (n_v vs 9))
      rw [q2]
      exact vc_Mo_drawWay_2_0 (v_iv (n_v vs 1)) (v_iv (n_v vs 3)) (v_iv (n_v vs 4)) (v_iv (n_v vs 7)) (v_iv (n_v vs 8)) (v_iv (n_v vs 9)) (w_ei ws (w_ar ws (n_v vs 0) 33)) (w_ei ws (w_ar ws (n_v vs 0) 34)) (w_fi ws (n_v vs 0) 31) (w_fi ws (n_v vs 0) 32) (w_ei w1 (w_ar ws (n_v vs 0) 46)) (w_fi w1 (n_v vs 0) 45) (w_ei w1 (w_ar ws (n_v vs 0) 33)) (w_ei w1 (w_ar ws (n_v vs 0) 34)) (w_fi w1 (n_v vs 0) 31) (w_fi w1 (n_v vs 0) 32) (w_ei w1 (w_ar ws (n_v vs 0) 35)) (w_ei w1 (w_ar ws (n_v vs 0) 17)) (w_ei w1 (w_ar ws (n_v vs 0) 43)) (w_ei w1 (w_ar ws (n_v vs 0) 42)) (w_ei w1 (w_ar ws (n_v vs 0) 40)) (w_ei w1 (w_ar ws (n_v vs 0) 41)) (w_fi w1 (n_v vs 0) 39) (w_fi ws (n_v vs 0) 39) (w_fi ws (n_v vs 0) 45) (w_ei ws (w_ar ws (n_v vs 0) 17)) (w_ei ws (w_ar ws (n_v vs 0) 35)) (w_ei ws (w_ar ws (n_v vs 0) 40)) (w_ei ws (w_ar ws (n_v vs 0) 41)) (w_ei ws (w_ar ws (n_v vs 0) 42)) (w_ei ws (w_ar ws (n_v vs 0) 43)) (w_ei ws (w_ar ws (n_v vs 0) 46)) k1 k3 k4 k7 k8 k9 f0 h5 g9 f11 fe_0_31_1 fe_0_32_1 fe_0_39_1 fe_0_45_1 hE_0_17_1 hE_0_33_1 hE_0_34_1 hE_0_35_1 hE_0_40_1 hE_0_41_1 hE_0_42_1 hE_0_43_1 hE_0_46_1 kz_0_31 kz_0_32 kz_0_39 kz_0_45
  refine ⟨(fun _ h => (by cases h)), [], trivial, ?_, (fun _ h => (by cases h))⟩
  rw [List.append_nil]
  exact List.forall_mem_cons.mpr ⟨⟨show (20 : Nat) < 100 from by decide, nf0⟩, (fun _ h => (by cases h))⟩
set_option maxHeartbeats 4000000 in
theorem vc_Mo_drawWay_3_r0 (x1 : Int) (x3 : Int) (x4 : Int) (x11 : Int) (x12 : Int) (x13 : Int) (x14 : Int) (pt_0 : Int → Int) (ph_0 : Int → Int) (alive_0 : Int → Int) (pm_0 : Int) (way_0 : Int → Int) (pn_0 : Int) (way_1 : Int → Int) (wayMany_1 : Int) (pt_1 : Int → Int) (ph_1 : Int → Int) (pn_1 : Int) (pm_1 : Int) (alive_1 : Int → Int) (blockOf_1 : Int → Int) (drawnEdge_1 : Int → Int) (drawnNode_1 : Int → Int) (faceMany_1 : Int → Int) (face_1 : Int → Int) (faces_1 : Int) (faces_0 : Int) (wayMany_0 : Int) (blockOf_0 : Int → Int) (faceMany_0 : Int → Int) (face_0 : Int → Int) (drawnEdge_0 : Int → Int) (k1 : 0 ≤ x1 ∧ x1 ≤ 79) (k3 : 1 ≤ x3 ∧ x3 ≤ 29) (k4 : 2 ≤ x4 ∧ x4 ≤ 30) (k11 : 0 ≤ x11 ∧ x11 ≤ 28) (k12 : 0 ≤ x12 ∧ x12 ≤ 24) (k13 : 0 ≤ x13 ∧ x13 ≤ 24) (k14 : (-1) ≤ x14 ∧ x14 ≤ 79) (d0 : x3 + (-1) ≤ x11 ∧ x11 ≤ x3 + (-1)) (d1 : x4 + (-4294967296) ≤ x11 ∧ x11 ≤ x4 + (-2)) (f0 : EOF (pm_0) (pt_0) (ph_0) (alive_0) (x12) (x13) (x14)) (h1 : x13 = way_0 (x3)) (h3 : x12 = way_0 (x11)) (f6 : 0 < x3) (g13 : x4 = wayMany_1) (f15 : DWI (pn_1) (pm_1) (faces_1) (wayMany_1) (pt_1) (ph_1) (alive_1) (blockOf_1) (drawnEdge_1) (drawnNode_1) (faceMany_1) (face_1) (way_1) (x1) (x3)) (fe_0_31_1 : pn_0 = pn_1) (fe_0_32_1 : pm_0 = pm_1) (fe_0_39_1 : faces_0 = faces_1) (fe_0_45_1 : wayMany_0 = wayMany_1) (hE_0_17_1 : ∀ j : Int, blockOf_0 j = blockOf_1 j) (hE_0_33_1 : ∀ j : Int, pt_0 j = pt_1 j) (hE_0_34_1 : ∀ j : Int, ph_0 j = ph_1 j) (hE_0_35_1 : ∀ j : Int, alive_0 j = alive_1 j) (hE_0_40_1 : ∀ j : Int, faceMany_0 j = faceMany_1 j) (hE_0_41_1 : ∀ j : Int, face_0 j = face_1 j) (hE_0_43_1 : ∀ j : Int, drawnEdge_0 j = drawnEdge_1 j) (hE_0_46_1 : ∀ j : Int, way_0 j = way_1 j) (kz_0_31 : 0 ≤ pn_0 ∧ pn_0 ≤ 25) (kz_0_32 : 0 ≤ pm_0 ∧ pm_0 ≤ 80) (kz_0_39 : 0 ≤ faces_0 ∧ faces_0 ≤ 120) (kz_0_45 : 0 ≤ wayMany_0 ∧ wayMany_0 ≤ 30) : 0 ≤ x14 ∧ x14 ≤ 79 := by
  subst fe_0_31_1
  subst fe_0_32_1
  subst fe_0_39_1
  subst fe_0_45_1
  have e_hE_0_17_1 := funext hE_0_17_1; subst e_hE_0_17_1
  have e_hE_0_33_1 := funext hE_0_33_1; subst e_hE_0_33_1
  have e_hE_0_34_1 := funext hE_0_34_1; subst e_hE_0_34_1
  have e_hE_0_35_1 := funext hE_0_35_1; subst e_hE_0_35_1
  have e_hE_0_40_1 := funext hE_0_40_1; subst e_hE_0_40_1
  have e_hE_0_41_1 := funext hE_0_41_1; subst e_hE_0_41_1
  have e_hE_0_43_1 := funext hE_0_43_1; subst e_hE_0_43_1
  have e_hE_0_46_1 := funext hE_0_46_1; subst e_hE_0_46_1
  obtain ⟨e, he⟩ := dwi_way (j := x3) ‹DWI _ _ _ _ _ _ _ _ _ _ _ _ _ _ _› (by omega) (by omega)
  rcases ‹EOF _ _ _ _ _ _ _› with ⟨z, w⟩ | z
  · refine absurd ?_ (w e)
    rw [show x3 - 1 = x11 by omega] at he
    rw [‹x12 = way_0 x11›, ‹x13 = way_0 x3›]; exact he
  · have := z.1; have := z.2.1; omega
def o_Mo_drawWay_3 : or_T := (48, 15, [(0, (2, 0, 0, [165])), (1, (0, 0, 79, [])), (2, (2, 0, 0, [165])), (3, (0, 1, 29, [])), (4, (0, 2, 30, [])), (5, (2, 0, 0, [188])), (6, (2, 0, 0, [191])), (7, (0, 0, 24, [])), (8, (0, 1, 1, [])), (9, (2, 0, 0, [189])), (10, (0, 1, 1, [])), (11, (0, 0, 28, [])), (12, (0, 0, 24, [])), (13, (0, 0, 24, [])), (14, (0, -1, 79, []))], [(20, [2, 12, 13, 14], [60, 1, 3, 85, 32, 33, 34, 35]), (10, [13, 6, 3], []), (9, [6, 2], [46]), (10, [12, 6, 11], []), (2, [11, 3, 10], []), (9, [9, 2], [43]), (8, [3], [4]), (20, [2], [60, 2, 2, 75, 31, 32, 33, 34]), (24, [0, 2], []), (100, [5, 7, 8], []), (10, [7, 6, 3], []), (9, [5, 2], [42]), (7, [3, 4], [2]), (9, [4, 2], [45]), (20, [2], [60, 2, 2, 75, 31, 32, 33, 34]), (20, [2, 1, 3], [60, 4, 9, 153, 31, 32, 39, 45, 33, 34, 35, 17, 43, 42, 40, 41, 46])], [(14, (0, 0, 79, []))], [], [], [], [(11, 3, -1, -1), (11, 4, -4294967296, -2), (3, 4, -4294967296, -1)])
theorem oo_Mo_drawWay_3 {kA : Nat → ClassId} : or_ok PRD kA GG o_Mo_drawWay_3 := by
  refine or_mk fun A ta ws vs hD hth hl => ?_
  intro t0 r0 t1 k1 t2 r2 t3 k3 t4 k4 t5 r5 t6 r6 t7 k7 t8 k8 t9 r9 t10 k10 t11 k11 t12 k12 t13 k13 t14 k14 d0 d1 d2 f0 f1 f2 f3 f4 f5 f6 f7 f8 ta1 w1 le1 s1 f10 f11 f12 f13 f14 f15
  replace f0 := shm_962 f0
  replace f1 := shm_106 f1
  replace f2 := shm_723 f2
  replace f3 := shm_106 f3
  replace f8 := shm_5 f8
  have s1 : (∀ b j, w_el ws b j = if b = v_ad (n_v vs 5) ∧ j = (v_iv (n_v vs 7)).toNat then v_iv (n_v vs 8) else w_el w1 b j) ∧ ∀ b k, w_fd ws b k = w_fd w1 b k := s1.2
  replace f13 := shm_727 f13
  replace f15 := shm_1095 f15
  have q2 : n_v vs 2 = n_v vs 0 := f8.symm
  simp only [q2] at f0 f2 f13 f15
  have ar_0_17_1 : w_ar w1 (n_v vs 0) 17 = w_ar ws (n_v vs 0) 17 := congrArg v_ad (s1.2 _ _).symm
  have cr_0_17 := fdq_187 hD hth r0
  have ar_0_33_1 : w_ar w1 (n_v vs 0) 33 = w_ar ws (n_v vs 0) 33 := congrArg v_ad (s1.2 _ _).symm
  have cr_0_33 := fdq_116 hD hth r0
  have ar_0_34_1 : w_ar w1 (n_v vs 0) 34 = w_ar ws (n_v vs 0) 34 := congrArg v_ad (s1.2 _ _).symm
  have cr_0_34 := fdq_117 hD hth r0
  have ar_0_35_1 : w_ar w1 (n_v vs 0) 35 = w_ar ws (n_v vs 0) 35 := congrArg v_ad (s1.2 _ _).symm
  have cr_0_35 := fdq_131 hD hth r0
  have ar_0_40_1 : w_ar w1 (n_v vs 0) 40 = w_ar ws (n_v vs 0) 40 := congrArg v_ad (s1.2 _ _).symm
  have cr_0_40 := fdq_132 hD hth r0
  have ar_0_41_1 : w_ar w1 (n_v vs 0) 41 = w_ar ws (n_v vs 0) 41 := congrArg v_ad (s1.2 _ _).symm
  have cr_0_41 := fdq_133 hD hth r0
  have ar_0_42_1 : w_ar w1 (n_v vs 0) 42 = w_ar ws (n_v vs 0) 42 := congrArg v_ad (s1.2 _ _).symm
  have ar_0_43_1 : w_ar w1 (n_v vs 0) 43 = w_ar ws (n_v vs 0) 43 := congrArg v_ad (s1.2 _ _).symm
  have cr_0_43 := fdq_136 hD hth r0
  have ar_0_46_1 : w_ar w1 (n_v vs 0) 46 = w_ar ws (n_v vs 0) 46 := congrArg v_ad (s1.2 _ _).symm
  have cr_0_46 := fdq_188 hD hth r0
  have ad_6 : v_ad (n_v vs 6) = w_ar ws (n_v vs 0) 46 := congrArg v_ad f2
  simp only [ad_6] at f1
  have h1 : v_iv (n_v vs 13) = w_ei ws (w_ar ws (n_v vs 0) 46) (v_iv (n_v vs 3)) := f1
  simp only [ad_6] at f3
  have h3 : v_iv (n_v vs 12) = w_ei ws (w_ar ws (n_v vs 0) 46) (v_iv (n_v vs 11)) := f3
  have g13 : v_iv (n_v vs 4) = w_fi w1 (n_v vs 0) 45 := congrArg v_iv f13
  simp only [ar_0_33_1, ar_0_34_1, ar_0_17_1, ar_0_35_1, ar_0_40_1, ar_0_41_1, ar_0_42_1, ar_0_43_1, ar_0_46_1] at f15
  have fe_0_31_1 : w_fi ws (n_v vs 0) 31 = w_fi w1 (n_v vs 0) 31 := congrArg v_iv (s1.2 _ _)
  have fe_0_32_1 : w_fi ws (n_v vs 0) 32 = w_fi w1 (n_v vs 0) 32 := congrArg v_iv (s1.2 _ _)
  have fe_0_39_1 : w_fi ws (n_v vs 0) 39 = w_fi w1 (n_v vs 0) 39 := congrArg v_iv (s1.2 _ _)
  have fe_0_45_1 : w_fi ws (n_v vs 0) 45 = w_fi w1 (n_v vs 0) 45 := congrArg v_iv (s1.2 _ _)
  have hE_0_17_1 : ∀ j : Int, w_ei ws (w_ar ws (n_v vs 0) 17) j = w_ei w1 (w_ar ws (n_v vs 0) 17) j := el_kp s1.1 r5 cr_0_17 (by decide)
  have hE_0_33_1 : ∀ j : Int, w_ei ws (w_ar ws (n_v vs 0) 33) j = w_ei w1 (w_ar ws (n_v vs 0) 33) j := el_kp s1.1 r5 cr_0_33 (by decide)
  have hE_0_34_1 : ∀ j : Int, w_ei ws (w_ar ws (n_v vs 0) 34) j = w_ei w1 (w_ar ws (n_v vs 0) 34) j := el_kp s1.1 r5 cr_0_34 (by decide)
  have hE_0_35_1 : ∀ j : Int, w_ei ws (w_ar ws (n_v vs 0) 35) j = w_ei w1 (w_ar ws (n_v vs 0) 35) j := el_kp s1.1 r5 cr_0_35 (by decide)
  have hE_0_40_1 : ∀ j : Int, w_ei ws (w_ar ws (n_v vs 0) 40) j = w_ei w1 (w_ar ws (n_v vs 0) 40) j := el_kp s1.1 r5 cr_0_40 (by decide)
  have hE_0_41_1 : ∀ j : Int, w_ei ws (w_ar ws (n_v vs 0) 41) j = w_ei w1 (w_ar ws (n_v vs 0) 41) j := el_kp s1.1 r5 cr_0_41 (by decide)
  have hE_0_43_1 : ∀ j : Int, w_ei ws (w_ar ws (n_v vs 0) 43) j = w_ei w1 (w_ar ws (n_v vs 0) 43) j := el_kp s1.1 r5 cr_0_43 (by decide)
  have hE_0_46_1 : ∀ j : Int, w_ei ws (w_ar ws (n_v vs 0) 46) j = w_ei w1 (w_ar ws (n_v vs 0) 46) j := el_kp s1.1 r5 cr_0_46 (by decide)
  have kz_0_31 := fdq_144 hD hth r0
  have kz_0_32 := fdq_139 hD hth r0
  have kz_0_39 := fdq_134 hD hth r0
  have kz_0_45 := fdq_189 hD hth r0
  have hrf0 : 0 ≤ v_iv (n_v vs 14) ∧ v_iv (n_v vs 14) ≤ 79 := vc_Mo_drawWay_3_r0 (v_iv (n_v vs 1)) (v_iv (n_v vs 3)) (v_iv (n_v vs 4)) (v_iv (n_v vs 11)) (v_iv (n_v vs 12)) (v_iv (n_v vs 13)) (v_iv (n_v vs 14)) (w_ei ws (w_ar ws (n_v vs 0) 33)) (w_ei ws (w_ar ws (n_v vs 0) 34)) (w_ei ws (w_ar ws (n_v vs 0) 35)) (w_fi ws (n_v vs 0) 32) (w_ei ws (w_ar ws (n_v vs 0) 46)) (w_fi ws (n_v vs 0) 31) (w_ei w1 (w_ar ws (n_v vs 0) 46)) (w_fi w1 (n_v vs 0) 45) (w_ei w1 (w_ar ws (n_v vs 0) 33)) (w_ei w1 (w_ar ws (n_v vs 0) 34)) (w_fi w1 (n_v vs 0) 31) (w_fi w1 (n_v vs 0) 32) (w_ei w1 (w_ar ws (n_v vs 0) 35)) (w_ei w1 (w_ar ws (n_v vs 0) 17)) (w_ei w1 (w_ar ws (n_v vs 0) 43)) (w_ei w1 (w_ar ws (n_v vs 0) 42)) (w_ei w1 (w_ar ws (n_v vs 0) 40)) (w_ei w1 (w_ar ws (n_v vs 0) 41)) (w_fi w1 (n_v vs 0) 39) (w_fi ws (n_v vs 0) 39) (w_fi ws (n_v vs 0) 45) (w_ei ws (w_ar ws (n_v vs 0) 17)) (w_ei ws (w_ar ws (n_v vs 0) 40)) (w_ei ws (w_ar ws (n_v vs 0) 41)) (w_ei ws (w_ar ws (n_v vs 0) 43)) k1 k3 k4 k11 k12 k13 k14 d0 d1 f0 h1 h3 (shm_145 f6) g13 f15 fe_0_31_1 fe_0_32_1 fe_0_39_1 fe_0_45_1 hE_0_17_1 hE_0_33_1 hE_0_34_1 hE_0_35_1 hE_0_40_1 hE_0_41_1 hE_0_43_1 hE_0_46_1 kz_0_31 kz_0_32 kz_0_39 kz_0_45
  have rf14 : tv_ok ta (0, 0, 79, []) (n_v vs 14) := tv_in t14 (by first | omega | grind) (by first | omega | grind)
  refine ⟨List.forall_mem_cons.mpr ⟨rf14, (fun _ h => (by cases h))⟩, [], trivial, ?_, (fun _ h => (by cases h))⟩
  rw [List.append_nil]
  exact (fun _ h => (by cases h))
set_option maxHeartbeats 4000000 in
theorem vc_Mo_drawWay_4_0 (x1 : Int) (x3 : Int) (x4 : Int) (x7 : Int) (x8 : Int) (x11 : Int) (x12 : Int) (x13 : Int) (x14 : Int) (x15 : Int) (x16 : Int) (pt_0 : Int → Int) (ph_0 : Int → Int) (alive_0 : Int → Int) (pm_0 : Int) (pn_0 : Int) (pt_1 : Int → Int) (ph_1 : Int → Int) (alive_1 : Int → Int) (pm_1 : Int) (way_1 : Int → Int) (pn_1 : Int) (way_2 : Int → Int) (wayMany_2 : Int) (pt_2 : Int → Int) (ph_2 : Int → Int) (pn_2 : Int) (pm_2 : Int) (alive_2 : Int → Int) (blockOf_2 : Int → Int) (drawnEdge_2 : Int → Int) (drawnNode_2 : Int → Int) (faceMany_2 : Int → Int) (face_2 : Int → Int) (faces_2 : Int) (faces_0 : Int) (faces_1 : Int) (wayMany_0 : Int) (wayMany_1 : Int) (blockOf_0 : Int → Int) (blockOf_1 : Int → Int) (faceMany_0 : Int → Int) (faceMany_1 : Int → Int) (face_0 : Int → Int) (face_1 : Int → Int) (drawnNode_0 : Int → Int) (drawnNode_1 : Int → Int) (drawnEdge_0 : Int → Int) (drawnEdge_1 : Int → Int) (way_0 : Int → Int) (k1 : 0 ≤ x1 ∧ x1 ≤ 79) (k3 : 1 ≤ x3 ∧ x3 ≤ 29) (k4 : 2 ≤ x4 ∧ x4 ≤ 30) (k7 : 0 ≤ x7 ∧ x7 ≤ 24) (k8 : 1 ≤ x8 ∧ x8 ≤ 1) (k11 : 0 ≤ x11 ∧ x11 ≤ 28) (k12 : 0 ≤ x12 ∧ x12 ≤ 24) (k13 : 0 ≤ x13 ∧ x13 ≤ 24) (k14 : 0 ≤ x14 ∧ x14 ≤ 79) (k15 : 1 ≤ x15 ∧ x15 ≤ 1) (k16 : 2 ≤ x16 ∧ x16 ≤ 30) (d0 : x3 + 1 ≤ x16 ∧ x16 ≤ x3 + 1) (d1 : x4 + (-4294967296) ≤ x16 ∧ x16 ≤ x4 + 0) (d2 : x3 + (-1) ≤ x11 ∧ x11 ≤ x3 + (-1)) (d3 : x4 + (-4294967296) ≤ x11 ∧ x11 ≤ x4 + (-2)) (f0 : x16 = x3 + 1) (f5 : EOF (pm_1) (pt_1) (ph_1) (alive_1) (x12) (x13) (x14)) (h6 : x13 = way_1 (x3)) (h8 : x12 = way_1 (x11)) (f11 : 0 < x3) (h14 : x7 = way_2 (x3)) (g17 : x4 = wayMany_2) (f18 : GOK (pn_2) (pm_2) (pt_2) (ph_2)) (f19 : DWI (pn_2) (pm_2) (faces_2) (wayMany_2) (pt_2) (ph_2) (alive_2) (blockOf_2) (drawnEdge_2) (drawnNode_2) (faceMany_2) (face_2) (way_2) (x1) (x3)) (fe_0_31_1 : pn_0 = pn_1) (fe_0_32_1 : pm_0 = pm_1) (fe_0_39_1 : faces_0 = faces_1) (fe_0_45_1 : wayMany_0 = wayMany_1) (fe_0_31_2 : pn_1 = pn_2) (fe_0_32_2 : pm_1 = pm_2) (fe_0_39_2 : faces_1 = faces_2) (fe_0_45_2 : wayMany_1 = wayMany_2) (hE_0_17_1 : ∀ j : Int, blockOf_0 j = blockOf_1 j) (hE_0_17_2 : ∀ j : Int, blockOf_1 j = blockOf_2 j) (hE_0_33_1 : ∀ j : Int, pt_0 j = pt_1 j) (hE_0_33_2 : ∀ j : Int, pt_1 j = pt_2 j) (hE_0_34_1 : ∀ j : Int, ph_0 j = ph_1 j) (hE_0_34_2 : ∀ j : Int, ph_1 j = ph_2 j) (hE_0_35_1 : ∀ j : Int, alive_0 j = alive_1 j) (hE_0_35_2 : ∀ j : Int, alive_1 j = alive_2 j) (hE_0_40_1 : ∀ j : Int, faceMany_0 j = faceMany_1 j) (hE_0_40_2 : ∀ j : Int, faceMany_1 j = faceMany_2 j) (hE_0_41_1 : ∀ j : Int, face_0 j = face_1 j) (hE_0_41_2 : ∀ j : Int, face_1 j = face_2 j) (hE_0_42_1 : ∀ j : Int, drawnNode_0 j = drawnNode_1 j) (hE_0_42_2 : ∀ j : Int, 0 ≤ j → (j = x7 → drawnNode_1 j = x8) ∧ (j ≠ x7 → drawnNode_1 j = drawnNode_2 j)) (hE_0_43_1 : ∀ j : Int, 0 ≤ j → (j = x14 → drawnEdge_0 j = x15) ∧ (j ≠ x14 → drawnEdge_0 j = drawnEdge_1 j)) (hE_0_43_2 : ∀ j : Int, drawnEdge_1 j = drawnEdge_2 j) (hE_0_46_1 : ∀ j : Int, way_0 j = way_1 j) (hE_0_46_2 : ∀ j : Int, way_1 j = way_2 j) (kz_0_31 : 0 ≤ pn_0 ∧ pn_0 ≤ 25) (kz_0_32 : 0 ≤ pm_0 ∧ pm_0 ≤ 80) (kz_0_39 : 0 ≤ faces_0 ∧ faces_0 ≤ 120) (kz_0_45 : 0 ≤ wayMany_0 ∧ wayMany_0 ≤ 30) : DWI (pn_0) (pm_0) (faces_0) (wayMany_0) (pt_0) (ph_0) (alive_0) (blockOf_0) (drawnEdge_0) (drawnNode_0) (faceMany_0) (face_0) (way_0) (x1) (x16) := by
  subst fe_0_31_1
  subst fe_0_32_1
  subst fe_0_39_1
  subst fe_0_45_1
  subst fe_0_31_2
  subst fe_0_32_2
  subst fe_0_39_2
  subst fe_0_45_2
  have e_hE_0_17_1 := funext hE_0_17_1; subst e_hE_0_17_1
  have e_hE_0_17_2 := funext hE_0_17_2; subst e_hE_0_17_2
  have e_hE_0_33_1 := funext hE_0_33_1; subst e_hE_0_33_1
  have e_hE_0_33_2 := funext hE_0_33_2; subst e_hE_0_33_2
  have e_hE_0_34_1 := funext hE_0_34_1; subst e_hE_0_34_1
  have e_hE_0_34_2 := funext hE_0_34_2; subst e_hE_0_34_2
  have e_hE_0_35_1 := funext hE_0_35_1; subst e_hE_0_35_1
  have e_hE_0_35_2 := funext hE_0_35_2; subst e_hE_0_35_2
  have e_hE_0_40_1 := funext hE_0_40_1; subst e_hE_0_40_1
  have e_hE_0_40_2 := funext hE_0_40_2; subst e_hE_0_40_2
  have e_hE_0_41_1 := funext hE_0_41_1; subst e_hE_0_41_1
  have e_hE_0_41_2 := funext hE_0_41_2; subst e_hE_0_41_2
  have e_hE_0_42_1 := funext hE_0_42_1; subst e_hE_0_42_1
  have e_hE_0_43_2 := funext hE_0_43_2; subst e_hE_0_43_2
  have e_hE_0_46_1 := funext hE_0_46_1; subst e_hE_0_46_1
  have e_hE_0_46_2 := funext hE_0_46_2; subst e_hE_0_46_2
  first
    | exact dwi_start ‹DWP _ _ _ _ _ _ _ _ _ _ _ _ _ _› (by omega)
    | (refine dwi_next (k := x3) ‹DWI _ _ _ _ _ _ _ _ _ _ _ _ _ _ _› (by omega) (by omega) (by omega) (fun u a => ?_) (fun e a b => ?_)
       · by_cases q : u = x7
         · have v := (hE_0_42_1 u a).1 q
           exact ⟨fun _ => Or.inr (by omega), fun _ => by omega⟩
         · rw [(hE_0_42_1 u a).2 q]
           exact ⟨Or.inl, fun z => z.elim id (fun w => by exfalso; omega)⟩
       · exact ⟨Or.inl, fun z => z.elim id (fun w => by exfalso; have := w.1; omega)⟩)
    | (have hj : JJ pm_0 pt_0 ph_0 alive_0 x14 (way_0 (x3 - 1)) (way_0 x3) := by
         rcases ‹EOF _ _ _ _ _ _ _› with ⟨z, _⟩ | z
         · exfalso; omega
         · rw [show x3 - 1 = x11 by omega, ← ‹x12 = way_0 x11›, ← ‹x13 = way_0 x3›]; exact z
       refine dwi_next (k := x3) ‹DWI _ _ _ _ _ _ _ _ _ _ _ _ _ _ _› (by omega) (by omega) (by omega) (fun u a => ?_) (fun e a b => ?_)
       · by_cases q : u = x7
         · have v := (hE_0_42_2 u a).1 q
           exact ⟨fun _ => Or.inr (by omega), fun _ => by omega⟩
         · rw [(hE_0_42_2 u a).2 q]
           exact ⟨Or.inl, fun z => z.elim id (fun w => by exfalso; omega)⟩
       · by_cases q : e = x14
         · have v := (hE_0_43_1 e a).1 q
           exact ⟨fun _ => Or.inr ⟨by omega, q ▸ hj⟩, fun _ => by omega⟩
         · rw [(hE_0_43_1 e a).2 q]
           exact ⟨Or.inl, fun z => z.elim id (fun w => absurd (JJ_one ‹GOK _ _ _ _› w.2 hj) q)⟩)
def o_Mo_drawWay_4 : or_T := (2, 17, [(0, (2, 0, 0, [165])), (1, (0, 0, 79, [])), (3, (0, 1, 29, [])), (4, (0, 2, 30, [])), (5, (2, 0, 0, [188])), (7, (0, 0, 24, [])), (8, (0, 1, 1, [])), (9, (2, 0, 0, [189])), (11, (0, 0, 28, [])), (12, (0, 0, 24, [])), (13, (0, 0, 24, [])), (14, (0, 0, 79, [])), (15, (0, 1, 1, [])), (16, (0, 2, 30, []))], [(6, [16, 3], [1]), (24, [0, 2], []), (100, [9, 14, 15], []), (20, [2, 12, 13, 14], [60, 1, 3, 85, 32, 33, 34, 35]), (10, [13, 6, 3], []), (9, [6, 2], [46]), (10, [12, 6, 11], []), (9, [9, 2], [43]), (8, [3], [4]), (100, [5, 7, 8], []), (10, [7, 6, 3], []), (9, [5, 2], [42]), (9, [4, 2], [45]), (20, [2], [60, 2, 2, 75, 31, 32, 33, 34]), (20, [2, 1, 3], [60, 4, 9, 153, 31, 32, 39, 45, 33, 34, 35, 17, 43, 42, 40, 41, 46])], [], [], [(20, [2, 1, 16], [60, 4, 9, 153, 31, 32, 39, 45, 33, 34, 35, 17, 43, 42, 40, 41, 46])], [], [(16, 3, 1, 1), (16, 4, -4294967296, 0), (11, 3, -1, -1), (11, 4, -4294967296, -2)])
theorem oo_Mo_drawWay_4 {kA : Nat → ClassId} : or_ok PRD kA GG o_Mo_drawWay_4 := by
  refine or_mk fun A ta ws vs hD hth hl => ?_
  intro t0 r0 t1 k1 t3 k3 t4 k4 t5 r5 t7 k7 t8 k8 t9 r9 t11 k11 t12 k12 t13 k13 t14 k14 t15 k15 t16 k16 d0 d1 d2 d3 f0 f3 ta1 w1 le1 s1 f5 f6 f7 f8 f10 f11 ta2 w2 le2 s2 f14 f15 f17 f18 f19
  replace f0 := shm_4 f0
  replace f3 := shm_5 f3
  have s1 : (∀ b j, w_el ws b j = if b = v_ad (n_v vs 9) ∧ j = (v_iv (n_v vs 14)).toNat then v_iv (n_v vs 15) else w_el w1 b j) ∧ ∀ b k, w_fd ws b k = w_fd w1 b k := s1.2
  replace f5 := shm_962 f5
  replace f6 := shm_106 f6
  replace f7 := shm_723 f7
  replace f8 := shm_106 f8
  replace f10 := shm_526 f10
  replace f11 := shm_145 f11
  have s2 : (∀ b j, w_el w1 b j = if b = v_ad (n_v vs 5) ∧ j = (v_iv (n_v vs 7)).toNat then v_iv (n_v vs 8) else w_el w2 b j) ∧ ∀ b k, w_fd w1 b k = w_fd w2 b k := s2.2
  replace f14 := shm_106 f14
  replace f15 := shm_525 f15
  replace f17 := shm_727 f17
  replace f18 := shm_563 f18
  replace f19 := shm_1095 f19
  have q2 : n_v vs 2 = n_v vs 0 := f3.symm
  simp only [q2] at f5 f7 f10 f15 f17 f18 f19
  have ar_0_17_1 : w_ar w1 (n_v vs 0) 17 = w_ar ws (n_v vs 0) 17 := congrArg v_ad (s1.2 _ _).symm
  have ar_0_17_2 : w_ar w2 (n_v vs 0) 17 = w_ar ws (n_v vs 0) 17 := by rw [← ar_0_17_1]; show v_ad (w_fd w2 _ _) = v_ad (w_fd w1 _ _); rw [s2.2]
  have cr_0_17 := fdq_187 hD hth r0
  have ar_0_33_1 : w_ar w1 (n_v vs 0) 33 = w_ar ws (n_v vs 0) 33 := congrArg v_ad (s1.2 _ _).symm
  have ar_0_33_2 : w_ar w2 (n_v vs 0) 33 = w_ar ws (n_v vs 0) 33 := by rw [← ar_0_33_1]; show v_ad (w_fd w2 _ _) = v_ad (w_fd w1 _ _); rw [s2.2]
  have cr_0_33 := fdq_116 hD hth r0
  have ar_0_34_1 : w_ar w1 (n_v vs 0) 34 = w_ar ws (n_v vs 0) 34 := congrArg v_ad (s1.2 _ _).symm
  have ar_0_34_2 : w_ar w2 (n_v vs 0) 34 = w_ar ws (n_v vs 0) 34 := by rw [← ar_0_34_1]; show v_ad (w_fd w2 _ _) = v_ad (w_fd w1 _ _); rw [s2.2]
  have cr_0_34 := fdq_117 hD hth r0
  have ar_0_35_1 : w_ar w1 (n_v vs 0) 35 = w_ar ws (n_v vs 0) 35 := congrArg v_ad (s1.2 _ _).symm
  have ar_0_35_2 : w_ar w2 (n_v vs 0) 35 = w_ar ws (n_v vs 0) 35 := by rw [← ar_0_35_1]; show v_ad (w_fd w2 _ _) = v_ad (w_fd w1 _ _); rw [s2.2]
  have cr_0_35 := fdq_131 hD hth r0
  have ar_0_40_1 : w_ar w1 (n_v vs 0) 40 = w_ar ws (n_v vs 0) 40 := congrArg v_ad (s1.2 _ _).symm
  have ar_0_40_2 : w_ar w2 (n_v vs 0) 40 = w_ar ws (n_v vs 0) 40 := by rw [← ar_0_40_1]; show v_ad (w_fd w2 _ _) = v_ad (w_fd w1 _ _); rw [s2.2]
  have cr_0_40 := fdq_132 hD hth r0
  have ar_0_41_1 : w_ar w1 (n_v vs 0) 41 = w_ar ws (n_v vs 0) 41 := congrArg v_ad (s1.2 _ _).symm
  have ar_0_41_2 : w_ar w2 (n_v vs 0) 41 = w_ar ws (n_v vs 0) 41 := by rw [← ar_0_41_1]; show v_ad (w_fd w2 _ _) = v_ad (w_fd w1 _ _); rw [s2.2]
  have cr_0_41 := fdq_133 hD hth r0
  have ar_0_42_1 : w_ar w1 (n_v vs 0) 42 = w_ar ws (n_v vs 0) 42 := congrArg v_ad (s1.2 _ _).symm
  have ar_0_42_2 : w_ar w2 (n_v vs 0) 42 = w_ar ws (n_v vs 0) 42 := by rw [← ar_0_42_1]; show v_ad (w_fd w2 _ _) = v_ad (w_fd w1 _ _); rw [s2.2]
  have cr_0_42 := fdq_135 hD hth r0
  have ar_0_43_1 : w_ar w1 (n_v vs 0) 43 = w_ar ws (n_v vs 0) 43 := congrArg v_ad (s1.2 _ _).symm
  have ar_0_43_2 : w_ar w2 (n_v vs 0) 43 = w_ar ws (n_v vs 0) 43 := by rw [← ar_0_43_1]; show v_ad (w_fd w2 _ _) = v_ad (w_fd w1 _ _); rw [s2.2]
  have cr_0_43 := fdq_136 hD hth r0
  have ar_0_46_1 : w_ar w1 (n_v vs 0) 46 = w_ar ws (n_v vs 0) 46 := congrArg v_ad (s1.2 _ _).symm
  have ar_0_46_2 : w_ar w2 (n_v vs 0) 46 = w_ar ws (n_v vs 0) 46 := by rw [← ar_0_46_1]; show v_ad (w_fd w2 _ _) = v_ad (w_fd w1 _ _); rw [s2.2]
  have cr_0_46 := fdq_188 hD hth r0
  have ad_6 : v_ad (n_v vs 6) = w_ar ws (n_v vs 0) 46 := (congrArg v_ad f7).trans ar_0_46_1
  have ad_9 : v_ad (n_v vs 9) = w_ar ws (n_v vs 0) 43 := (congrArg v_ad f10).trans ar_0_43_1
  have ad_5 : v_ad (n_v vs 5) = w_ar ws (n_v vs 0) 42 := (congrArg v_ad f15).trans ar_0_42_2
  simp only [ar_0_33_1, ar_0_34_1, ar_0_35_1, ad_6] at f5 f6
  have h6 : v_iv (n_v vs 13) = w_ei w1 (w_ar ws (n_v vs 0) 46) (v_iv (n_v vs 3)) := f6
  simp only [ad_6] at f8
  have h8 : v_iv (n_v vs 12) = w_ei w1 (w_ar ws (n_v vs 0) 46) (v_iv (n_v vs 11)) := f8
  simp only [ar_0_33_1, ar_0_34_1, ad_6] at f14
  have h14 : v_iv (n_v vs 7) = w_ei w2 (w_ar ws (n_v vs 0) 46) (v_iv (n_v vs 3)) := f14
  have g17 : v_iv (n_v vs 4) = w_fi w2 (n_v vs 0) 45 := congrArg v_iv f17
  simp only [ar_0_33_2, ar_0_34_2, ar_0_17_2, ar_0_35_2, ar_0_40_2, ar_0_41_2, ar_0_42_2, ar_0_43_2, ar_0_46_2] at f18 f19
  have fe_0_31_1 : w_fi ws (n_v vs 0) 31 = w_fi w1 (n_v vs 0) 31 := congrArg v_iv (s1.2 _ _)
  have fe_0_32_1 : w_fi ws (n_v vs 0) 32 = w_fi w1 (n_v vs 0) 32 := congrArg v_iv (s1.2 _ _)
  have fe_0_39_1 : w_fi ws (n_v vs 0) 39 = w_fi w1 (n_v vs 0) 39 := congrArg v_iv (s1.2 _ _)
  have fe_0_45_1 : w_fi ws (n_v vs 0) 45 = w_fi w1 (n_v vs 0) 45 := congrArg v_iv (s1.2 _ _)
  have fe_0_31_2 : w_fi w1 (n_v vs 0) 31 = w_fi w2 (n_v vs 0) 31 := congrArg v_iv (s2.2 _ _)
  have fe_0_32_2 : w_fi w1 (n_v vs 0) 32 = w_fi w2 (n_v vs 0) 32 := congrArg v_iv (s2.2 _ _)
  have fe_0_39_2 : w_fi w1 (n_v vs 0) 39 = w_fi w2 (n_v vs 0) 39 := congrArg v_iv (s2.2 _ _)
  have fe_0_45_2 : w_fi w1 (n_v vs 0) 45 = w_fi w2 (n_v vs 0) 45 := congrArg v_iv (s2.2 _ _)
  have hE_0_17_1 : ∀ j : Int, w_ei ws (w_ar ws (n_v vs 0) 17) j = w_ei w1 (w_ar ws (n_v vs 0) 17) j := el_kp s1.1 r9 cr_0_17 (by decide)
  have hE_0_17_2 : ∀ j : Int, w_ei w1 (w_ar ws (n_v vs 0) 17) j = w_ei w2 (w_ar ws (n_v vs 0) 17) j := el_kp s2.1 r5 cr_0_17 (by decide)
  have hE_0_33_1 : ∀ j : Int, w_ei ws (w_ar ws (n_v vs 0) 33) j = w_ei w1 (w_ar ws (n_v vs 0) 33) j := el_kp s1.1 r9 cr_0_33 (by decide)
  have hE_0_33_2 : ∀ j : Int, w_ei w1 (w_ar ws (n_v vs 0) 33) j = w_ei w2 (w_ar ws (n_v vs 0) 33) j := el_kp s2.1 r5 cr_0_33 (by decide)
  have hE_0_34_1 : ∀ j : Int, w_ei ws (w_ar ws (n_v vs 0) 34) j = w_ei w1 (w_ar ws (n_v vs 0) 34) j := el_kp s1.1 r9 cr_0_34 (by decide)
  have hE_0_34_2 : ∀ j : Int, w_ei w1 (w_ar ws (n_v vs 0) 34) j = w_ei w2 (w_ar ws (n_v vs 0) 34) j := el_kp s2.1 r5 cr_0_34 (by decide)
  have hE_0_35_1 : ∀ j : Int, w_ei ws (w_ar ws (n_v vs 0) 35) j = w_ei w1 (w_ar ws (n_v vs 0) 35) j := el_kp s1.1 r9 cr_0_35 (by decide)
  have hE_0_35_2 : ∀ j : Int, w_ei w1 (w_ar ws (n_v vs 0) 35) j = w_ei w2 (w_ar ws (n_v vs 0) 35) j := el_kp s2.1 r5 cr_0_35 (by decide)
  have hE_0_40_1 : ∀ j : Int, w_ei ws (w_ar ws (n_v vs 0) 40) j = w_ei w1 (w_ar ws (n_v vs 0) 40) j := el_kp s1.1 r9 cr_0_40 (by decide)
  have hE_0_40_2 : ∀ j : Int, w_ei w1 (w_ar ws (n_v vs 0) 40) j = w_ei w2 (w_ar ws (n_v vs 0) 40) j := el_kp s2.1 r5 cr_0_40 (by decide)
  have hE_0_41_1 : ∀ j : Int, w_ei ws (w_ar ws (n_v vs 0) 41) j = w_ei w1 (w_ar ws (n_v vs 0) 41) j := el_kp s1.1 r9 cr_0_41 (by decide)
  have hE_0_41_2 : ∀ j : Int, w_ei w1 (w_ar ws (n_v vs 0) 41) j = w_ei w2 (w_ar ws (n_v vs 0) 41) j := el_kp s2.1 r5 cr_0_41 (by decide)
  have hE_0_42_1 : ∀ j : Int, w_ei ws (w_ar ws (n_v vs 0) 42) j = w_ei w1 (w_ar ws (n_v vs 0) 42) j := el_kp s1.1 r9 cr_0_42 (by decide)
  have hE_0_42_2 : ∀ j : Int, 0 ≤ j → (j = v_iv (n_v vs 7) → w_ei w1 (w_ar ws (n_v vs 0) 42) j = v_iv (n_v vs 8)) ∧ (j ≠ v_iv (n_v vs 7) → w_ei w1 (w_ar ws (n_v vs 0) 42) j = w_ei w2 (w_ar ws (n_v vs 0) 42) j) := fun j hj => ⟨fun h => by unfold w_ei; rw [s2.1, if_pos ⟨ad_5.symm, by rw [h]⟩], fun h => by unfold w_ei; rw [s2.1, if_neg (fun e => h (by have := e.2; omega))]⟩
  have hE_0_43_1 : ∀ j : Int, 0 ≤ j → (j = v_iv (n_v vs 14) → w_ei ws (w_ar ws (n_v vs 0) 43) j = v_iv (n_v vs 15)) ∧ (j ≠ v_iv (n_v vs 14) → w_ei ws (w_ar ws (n_v vs 0) 43) j = w_ei w1 (w_ar ws (n_v vs 0) 43) j) := fun j hj => ⟨fun h => by unfold w_ei; rw [s1.1, if_pos ⟨ad_9.symm, by rw [h]⟩], fun h => by unfold w_ei; rw [s1.1, if_neg (fun e => h (by have := e.2; omega))]⟩
  have hE_0_43_2 : ∀ j : Int, w_ei w1 (w_ar ws (n_v vs 0) 43) j = w_ei w2 (w_ar ws (n_v vs 0) 43) j := el_kp s2.1 r5 cr_0_43 (by decide)
  have hE_0_46_1 : ∀ j : Int, w_ei ws (w_ar ws (n_v vs 0) 46) j = w_ei w1 (w_ar ws (n_v vs 0) 46) j := el_kp s1.1 r9 cr_0_46 (by decide)
  have hE_0_46_2 : ∀ j : Int, w_ei w1 (w_ar ws (n_v vs 0) 46) j = w_ei w2 (w_ar ws (n_v vs 0) 46) j := el_kp s2.1 r5 cr_0_46 (by decide)
  have kz_0_31 := fdq_144 hD hth r0
  have kz_0_32 := fdq_139 hD hth r0
  have kz_0_39 := fdq_134 hD hth r0
  have kz_0_45 := fdq_189 hD hth r0
  have nf0 : fc_1 PRD (20, [2, 1, 16], [60, 4, 9, 153, 31, 32, 39, 45, 33, 34, 35, 17, 43, 42, 40, 41, 46]) ws (vs) := by
    refine ⟨nf_in hl rfl, sgq_1095 ?_⟩
    · show DWI (w_fi ws (n_v vs 2) 31) (w_fi ws (n_v vs 2) 32) (w_fi ws (n_v vs 2) 39) (w_fi ws (n_v vs 2) 45) (w_ei ws (w_ar ws (n_v vs 2) 33)) (w_ei ws (w_ar ws (n_v vs 2) 34)) (w_ei ws (w_ar ws (n_v vs 2) 35)) (w_ei ws (w_ar ws (n_v vs 2) 17)) (w_ei ws (w_ar ws (n_v vs 2) 43)) (w_ei ws (w_ar ws (n_v vs 2) 42)) (w_ei ws (w_ar ws (n_v vs 2) 40)) (w_ei ws (w_ar ws (n_v vs 2) 41)) (w_ei ws (w_ar ws (n_v vs 2) 46)) (v_iv (n_v vs 1)) (v_iv (n_v vs 16))
      rw [q2]
      exact vc_Mo_drawWay_4_0 (v_iv (n_v vs 1)) (v_iv (n_v vs 3)) (v_iv (n_v vs 4)) (v_iv (n_v vs 7)) (v_iv (n_v vs 8)) (v_iv (n_v vs 11)) (v_iv (n_v vs 12)) (v_iv (n_v vs 13)) (v_iv (n_v vs 14)) (v_iv (n_v vs 15)) (v_iv (n_v vs 16)) (w_ei ws (w_ar ws (n_v vs 0) 33)) (w_ei ws (w_ar ws (n_v vs 0) 34)) (w_ei ws (w_ar ws (n_v vs 0) 35)) (w_fi ws (n_v vs 0) 32) (w_fi ws (n_v vs 0) 31) (w_ei w1 (w_ar ws (n_v vs 0) 33)) (w_ei w1 (w_ar ws (n_v vs 0) 34)) (w_ei w1 (w_ar ws (n_v vs 0) 35)) (w_fi w1 (n_v vs 0) 32) (w_ei w1 (w_ar ws (n_v vs 0) 46)) (w_fi w1 (n_v vs 0) 31) (w_ei w2 (w_ar ws (n_v vs 0) 46)) (w_fi w2 (n_v vs 0) 45) (w_ei w2 (w_ar ws (n_v vs 0) 33)) (w_ei w2 (w_ar ws (n_v vs 0) 34)) (w_fi w2 (n_v vs 0) 31) (w_fi w2 (n_v vs 0) 32) (w_ei w2 (w_ar ws (n_v vs 0) 35)) (w_ei w2 (w_ar ws (n_v vs 0) 17)) (w_ei w2 (w_ar ws (n_v vs 0) 43)) (w_ei w2 (w_ar ws (n_v vs 0) 42)) (w_ei w2 (w_ar ws (n_v vs 0) 40)) (w_ei w2 (w_ar ws (n_v vs 0) 41)) (w_fi w2 (n_v vs 0) 39) (w_fi ws (n_v vs 0) 39) (w_fi w1 (n_v vs 0) 39) (w_fi ws (n_v vs 0) 45) (w_fi w1 (n_v vs 0) 45) (w_ei ws (w_ar ws (n_v vs 0) 17)) (w_ei w1 (w_ar ws (n_v vs 0) 17)) (w_ei ws (w_ar ws (n_v vs 0) 40)) (w_ei w1 (w_ar ws (n_v vs 0) 40)) (w_ei ws (w_ar ws (n_v vs 0) 41)) (w_ei w1 (w_ar ws (n_v vs 0) 41)) (w_ei ws (w_ar ws (n_v vs 0) 42)) (w_ei w1 (w_ar ws (n_v vs 0) 42)) (w_ei ws (w_ar ws (n_v vs 0) 43)) (w_ei w1 (w_ar ws (n_v vs 0) 43)) (w_ei ws (w_ar ws (n_v vs 0) 46)) k1 k3 k4 k7 k8 k11 k12 k13 k14 k15 k16 d0 d1 d2 d3 f0 f5 h6 h8 f11 h14 g17 f18 f19 fe_0_31_1 fe_0_32_1 fe_0_39_1 fe_0_45_1 fe_0_31_2 fe_0_32_2 fe_0_39_2 fe_0_45_2 hE_0_17_1 hE_0_17_2 hE_0_33_1 hE_0_33_2 hE_0_34_1 hE_0_34_2 hE_0_35_1 hE_0_35_2 hE_0_40_1 hE_0_40_2 hE_0_41_1 hE_0_41_2 hE_0_42_1 hE_0_42_2 hE_0_43_1 hE_0_43_2 hE_0_46_1 hE_0_46_2 kz_0_31 kz_0_32 kz_0_39 kz_0_45
  refine ⟨(fun _ h => (by cases h)), [], trivial, ?_, (fun _ h => (by cases h))⟩
  rw [List.append_nil]
  exact List.forall_mem_cons.mpr ⟨⟨show (20 : Nat) < 100 from by decide, nf0⟩, (fun _ h => (by cases h))⟩
def n_Mo_drawWay_an : List an_T := [(2, [(0, (2, 0, 0, [165])), (1, (0, 0, 30, []))], [], (0, 0), [(0, 0, 99998), (1, 3, 30), (0, 0, 100000)], [], [], [(2, 0, 0, [165]), (0, 0, 79, [])], 0, [], [(20, [2], [60, 2, 2, 75, 31, 32, 33, 34]), (20, [2, 1, 3], [60, 4, 9, 153, 31, 32, 39, 45, 33, 34, 35, 17, 43, 42, 40, 41, 46]), (24, [0, 2], [])])]
def t_Mo_drawWay_ct : ct_L := [(1, 646, e_Mo_edgeOf)]
set_option maxRecDepth 100000 in
theorem c_Mo_drawWay {l : Launch} {D : va_G} {kA : Nat → ClassId} (h_Mo_edgeOf : ct_ok PRD l D kA GG y_Mo_edgeOf z_Mo_edgeOf e_Mo_edgeOf) : ct_ok PRD l D kA GG y_Mo_drawWay z_Mo_drawWay e_Mo_drawWay := chk_all_ok (FT := [(81, 13, 42), (84, 13, 43), (90, 13, 46), (619, 13, 45)]) (PT := []) (CT := t_Mo_drawWay_ct) (KT := []) (NT := []) (AN := n_Mo_drawWay_an) (OT := [o_Mo_drawWay_0, o_Mo_drawWay_1, o_Mo_drawWay_2, o_Mo_drawWay_3, o_Mo_drawWay_4]) 3 200 (List.forall_mem_cons.mpr ⟨oo_Mo_drawWay_0, List.forall_mem_cons.mpr ⟨oo_Mo_drawWay_1, List.forall_mem_cons.mpr ⟨oo_Mo_drawWay_2, List.forall_mem_cons.mpr ⟨oo_Mo_drawWay_3, List.forall_mem_cons.mpr ⟨oo_Mo_drawWay_4, List.forall_mem_nil _⟩⟩⟩⟩⟩) (by decide +kernel) ⟨List.forall_mem_cons.mpr ⟨gf_Mo_81, List.forall_mem_cons.mpr ⟨gf_Mo_84, List.forall_mem_cons.mpr ⟨gf_Mo_90, List.forall_mem_cons.mpr ⟨gf_Mo_619, List.forall_mem_nil _⟩⟩⟩⟩, List.forall_mem_nil _, List.forall_mem_cons.mpr ⟨cl_virtual (y := y_Mo_edgeOf) (ci := 13) rfl rfl ⟨_, _, rfl⟩ (by decide +kernel) h_Mo_edgeOf wm_3195 wm_9 wm_3192 wm_3194 wv_15_7 ⟨by decide, by decide, by decide +kernel⟩ (by decide), List.forall_mem_nil _⟩, List.forall_mem_nil _, List.forall_mem_nil _, GG_pl⟩ (by decide +kernel)
set_option maxHeartbeats 4000000 in
theorem vc_Mo_from_0_0 (x1 : Int) (x3 : Int) (x4 : Int) (all_0 : Int → Int) (r_0 : Int) (turned_0 : Int → Int) (k1 : 0 ≤ x1 ∧ x1 ≤ 47) (k3 : 0 ≤ x3 ∧ x3 ≤ 0) (k4 : 0 ≤ x4 ∧ x4 ≤ 23) (f0 : x4 = all_0 (((r_0 + 267) + x1))) (h2 : x3 = turned_0 (x1)) : FRO (r_0) (all_0) (turned_0) (x1) (x4) := by
  unfold FRO frT
  first
    | (rw [if_pos (by omega)]; omega)
    | (rw [if_neg (by omega)]; omega)
def o_Mo_from_0 : or_T := (22, 5, [(0, (2, 0, 0, [165])), (1, (0, 0, 47, [])), (2, (2, 0, 0, [231])), (3, (0, 0, 0, [])), (4, (0, 0, 23, []))], [(20, [4, 0, 1], [50, 1, 1, 1005, 1002, 1, 2, 1, 0, 3, 1, 2, 4, 7, 4, 3, 2, 1, 5, 0, 267, 1, 2]), (8, [3], [0]), (10, [3, 2, 1], []), (9, [2, 0], [95])], [], [], [(20, [0, 1, 4], [60, 1, 2, 432, 5, 2, 95])], [], [])
theorem oo_Mo_from_0 {kA : Nat → ClassId} : or_ok PRD kA GG o_Mo_from_0 := by
  refine or_mk fun A ta ws vs hD hth hl => ?_
  intro t0 r0 t1 k1 t2 r2 t3 k3 t4 k4 f0 f1 f2 f3
  replace f2 := shm_106 f2
  replace f3 := shm_1097 f3
  have ad_2 : v_ad (n_v vs 2) = w_ar ws (n_v vs 0) 95 := congrArg v_ad f3
  simp only [ad_2] at f2
  have h2 : v_iv (n_v vs 3) = w_ei ws (w_ar ws (n_v vs 0) 95) (v_iv (n_v vs 1)) := f2
  have nf0 : fc_1 PRD (20, [0, 1, 4], [60, 1, 2, 432, 5, 2, 95]) ws (vs) := ⟨nf_in hl rfl, sgq_502 (vc_Mo_from_0_0 (v_iv (n_v vs 1)) (v_iv (n_v vs 3)) (v_iv (n_v vs 4)) (w_ei ws (w_ar ws (n_v vs 0) 2)) (w_fi ws (n_v vs 0) 5) (w_ei ws (w_ar ws (n_v vs 0) 95)) k1 k3 k4 (shm_735 f0) h2)⟩
  refine ⟨(fun _ h => (by cases h)), [], trivial, ?_, (fun _ h => (by cases h))⟩
  rw [List.append_nil]
  exact List.forall_mem_cons.mpr ⟨⟨show (20 : Nat) < 100 from by decide, nf0⟩, (fun _ h => (by cases h))⟩
set_option maxHeartbeats 4000000 in
theorem vc_Mo_from_1_0 (x1 : Int) (x3 : Int) (x4 : Int) (all_0 : Int → Int) (r_0 : Int) (turned_0 : Int → Int) (k1 : 0 ≤ x1 ∧ x1 ≤ 47) (k3 : 1 ≤ x3 ∧ x3 ≤ 1) (k4 : 0 ≤ x4 ∧ x4 ≤ 23) (f0 : x4 = all_0 (((r_0 + 315) + x1))) (h2 : x3 = turned_0 (x1)) : FRO (r_0) (all_0) (turned_0) (x1) (x4) := by
  unfold FRO frT
  first
    | (rw [if_pos (by omega)]; omega)
    | (rw [if_neg (by omega)]; omega)
def o_Mo_from_1 : or_T := (22, 5, [(0, (2, 0, 0, [165])), (1, (0, 0, 47, [])), (2, (2, 0, 0, [231])), (3, (0, 1, 1, [])), (4, (0, 0, 23, []))], [(20, [4, 0, 1], [50, 1, 1, 1005, 1002, 1, 2, 1, 0, 3, 1, 2, 4, 7, 4, 3, 2, 1, 5, 0, 315, 1, 2]), (8, [3], [1]), (10, [3, 2, 1], []), (9, [2, 0], [95])], [], [], [(20, [0, 1, 4], [60, 1, 2, 432, 5, 2, 95])], [], [])
theorem oo_Mo_from_1 {kA : Nat → ClassId} : or_ok PRD kA GG o_Mo_from_1 := by
  refine or_mk fun A ta ws vs hD hth hl => ?_
  intro t0 r0 t1 k1 t2 r2 t3 k3 t4 k4 f0 f1 f2 f3
  replace f2 := shm_106 f2
  replace f3 := shm_1097 f3
  have ad_2 : v_ad (n_v vs 2) = w_ar ws (n_v vs 0) 95 := congrArg v_ad f3
  simp only [ad_2] at f2
  have h2 : v_iv (n_v vs 3) = w_ei ws (w_ar ws (n_v vs 0) 95) (v_iv (n_v vs 1)) := f2
  have nf0 : fc_1 PRD (20, [0, 1, 4], [60, 1, 2, 432, 5, 2, 95]) ws (vs) := ⟨nf_in hl rfl, sgq_502 (vc_Mo_from_1_0 (v_iv (n_v vs 1)) (v_iv (n_v vs 3)) (v_iv (n_v vs 4)) (w_ei ws (w_ar ws (n_v vs 0) 2)) (w_fi ws (n_v vs 0) 5) (w_ei ws (w_ar ws (n_v vs 0) 95)) k1 k3 k4 (shm_591 f0) h2)⟩
  refine ⟨(fun _ h => (by cases h)), [], trivial, ?_, (fun _ h => (by cases h))⟩
  rw [List.append_nil]
  exact List.forall_mem_cons.mpr ⟨⟨show (20 : Nat) < 100 from by decide, nf0⟩, (fun _ h => (by cases h))⟩
def n_Mo_from_an : List an_T := []
def t_Mo_from_ct : ct_L := [(1, 394, e_Mo_tail), (1, 398, e_Mo_head)]
set_option maxRecDepth 100000 in
theorem c_Mo_from {l : Launch} {D : va_G} {kA : Nat → ClassId} (h_Mo_head : ct_ok PRD l D kA GG y_Mo_head z_Mo_head e_Mo_head) (h_Mo_tail : ct_ok PRD l D kA GG y_Mo_tail z_Mo_tail e_Mo_tail) : ct_ok PRD l D kA GG y_Mo_from z_Mo_from e_Mo_from := chk_all_ok (FT := [(210, 13, 95)]) (PT := []) (CT := t_Mo_from_ct) (KT := []) (NT := []) (AN := n_Mo_from_an) (OT := [o_Mo_from_0, o_Mo_from_1]) 0 200 (List.forall_mem_cons.mpr ⟨oo_Mo_from_0, List.forall_mem_cons.mpr ⟨oo_Mo_from_1, List.forall_mem_nil _⟩⟩) (by decide +kernel) ⟨List.forall_mem_cons.mpr ⟨gf_Mo_210, List.forall_mem_nil _⟩, List.forall_mem_nil _, List.forall_mem_cons.mpr ⟨cl_virtual (y := y_Mo_tail) (ci := 13) rfl rfl ⟨_, _, rfl⟩ (by decide +kernel) h_Mo_tail wm_3045 wm_9 wm_3042 wm_3044 wv_13_8 ⟨by decide, by decide, by decide +kernel⟩ (by decide), List.forall_mem_cons.mpr ⟨cl_virtual (y := y_Mo_head) (ci := 13) rfl rfl ⟨_, _, rfl⟩ (by decide +kernel) h_Mo_head wm_3049 wm_9 wm_3046 wm_3048 wv_13_9 ⟨by decide, by decide, by decide +kernel⟩ (by decide), List.forall_mem_nil _⟩⟩, List.forall_mem_nil _, List.forall_mem_nil _, GG_pl⟩ (by decide +kernel)

set_option maxHeartbeats 4000000 in
theorem vc_Mo_goRound_0_0 (x3 : Int) (pt_0 : Int → Int) (ph_0 : Int → Int) (pn_0 : Int) (pm_0 : Int) (alive_0 : Int → Int) (rotMany_0 : Int → Int) (rot_0 : Int → Int) (pt_1 : Int → Int) (ph_1 : Int → Int) (pn_1 : Int) (pm_1 : Int) (alive_1 : Int → Int) (rotMany_1 : Int → Int) (rot_1 : Int → Int) (roundOf_0 : Int → Int) (roundOf_1 : Int → Int) (k3 : 0 ≤ x3 ∧ x3 ≤ 0) (fe_0_31_1 : pn_0 = pn_1) (fe_0_32_1 : pm_0 = pm_1) (hE_0_33_1 : ∀ j : Int, pt_0 j = pt_1 j) (hE_0_34_1 : ∀ j : Int, ph_0 j = ph_1 j) (hE_0_35_1 : ∀ j : Int, alive_0 j = alive_1 j) (hE_0_36_1 : ∀ j : Int, rotMany_0 j = rotMany_1 j) (hE_0_37_1 : ∀ j : Int, rot_0 j = rot_1 j) (hE_0_54_1 : ∀ j : Int, roundOf_0 j = roundOf_1 j) (kz_0_31 : 0 ≤ pn_0 ∧ pn_0 ≤ 25) (kz_0_32 : 0 ≤ pm_0 ∧ pm_0 ≤ 80) : RO0 (roundOf_0) (x3) := by
  subst fe_0_31_1
  subst fe_0_32_1
  have e_hE_0_33_1 := funext hE_0_33_1; subst e_hE_0_33_1
  have e_hE_0_34_1 := funext hE_0_34_1; subst e_hE_0_34_1
  have e_hE_0_35_1 := funext hE_0_35_1; subst e_hE_0_35_1
  have e_hE_0_36_1 := funext hE_0_36_1; subst e_hE_0_36_1
  have e_hE_0_37_1 := funext hE_0_37_1; subst e_hE_0_37_1
  have e_hE_0_54_1 := funext hE_0_54_1; subst e_hE_0_54_1
  first
    | (intro j a b; exfalso; omega)
    | (have h := ‹RO0 _ _›
       intro j a b
       by_cases q : j = x3
       · have v := (hE_0_54_1 j a).1 q; omega
       · rw [(hE_0_54_1 j a).2 q]; exact h j a (by omega))
set_option maxHeartbeats 4000000 in
theorem vc_Mo_goRound_0_1 (x1 : Int) (pt_0 : Int → Int) (ph_0 : Int → Int) (pn_0 : Int) (pm_0 : Int) (alive_0 : Int → Int) (rotMany_0 : Int → Int) (rot_0 : Int → Int) (pt_1 : Int → Int) (ph_1 : Int → Int) (pn_1 : Int) (pm_1 : Int) (alive_1 : Int → Int) (rotMany_1 : Int → Int) (rot_1 : Int → Int) (rounds_0 : Int) (roundOf_0 : Int → Int) (roundOf_1 : Int → Int) (k1 : 0 ≤ x1 ∧ x1 ≤ 0) (fe_0_31_1 : pn_0 = pn_1) (fe_0_32_1 : pm_0 = pm_1) (fe_0_53_1 : rounds_0 = x1) (hE_0_33_1 : ∀ j : Int, pt_0 j = pt_1 j) (hE_0_34_1 : ∀ j : Int, ph_0 j = ph_1 j) (hE_0_35_1 : ∀ j : Int, alive_0 j = alive_1 j) (hE_0_36_1 : ∀ j : Int, rotMany_0 j = rotMany_1 j) (hE_0_37_1 : ∀ j : Int, rot_0 j = rot_1 j) (hE_0_54_1 : ∀ j : Int, roundOf_0 j = roundOf_1 j) (kz_0_31 : 0 ≤ pn_0 ∧ pn_0 ≤ 25) (kz_0_32 : 0 ≤ pm_0 ∧ pm_0 ≤ 80) (kz_0_53 : 0 ≤ rounds_0 ∧ rounds_0 ≤ 160) : rounds_0 = 0 := by
  subst fe_0_31_1
  subst fe_0_32_1
  have e_hE_0_33_1 := funext hE_0_33_1; subst e_hE_0_33_1
  have e_hE_0_34_1 := funext hE_0_34_1; subst e_hE_0_34_1
  have e_hE_0_35_1 := funext hE_0_35_1; subst e_hE_0_35_1
  have e_hE_0_36_1 := funext hE_0_36_1; subst e_hE_0_36_1
  have e_hE_0_37_1 := funext hE_0_37_1; subst e_hE_0_37_1
  have e_hE_0_54_1 := funext hE_0_54_1; subst e_hE_0_54_1
  first | omega
set_option maxHeartbeats 4000000 in
theorem vc_Mo_goRound_0_2 (x2 : Int) (pt_0 : Int → Int) (ph_0 : Int → Int) (pn_0 : Int) (pm_0 : Int) (alive_0 : Int → Int) (rotMany_0 : Int → Int) (rot_0 : Int → Int) (pt_1 : Int → Int) (ph_1 : Int → Int) (pn_1 : Int) (pm_1 : Int) (alive_1 : Int → Int) (rotMany_1 : Int → Int) (rot_1 : Int → Int) (roundOf_0 : Int → Int) (roundOf_1 : Int → Int) (k2 : 0 ≤ x2 ∧ x2 ≤ 0) (fe_0_31_1 : pn_0 = pn_1) (fe_0_32_1 : pm_0 = pm_1) (hE_0_33_1 : ∀ j : Int, pt_0 j = pt_1 j) (hE_0_34_1 : ∀ j : Int, ph_0 j = ph_1 j) (hE_0_35_1 : ∀ j : Int, alive_0 j = alive_1 j) (hE_0_36_1 : ∀ j : Int, rotMany_0 j = rotMany_1 j) (hE_0_37_1 : ∀ j : Int, rot_0 j = rot_1 j) (hE_0_54_1 : ∀ j : Int, roundOf_0 j = roundOf_1 j) (kz_0_31 : 0 ≤ pn_0 ∧ pn_0 ≤ 25) (kz_0_32 : 0 ≤ pm_0 ∧ pm_0 ≤ 80) : x2 = 0 := by
  subst fe_0_31_1
  subst fe_0_32_1
  have e_hE_0_33_1 := funext hE_0_33_1; subst e_hE_0_33_1
  have e_hE_0_34_1 := funext hE_0_34_1; subst e_hE_0_34_1
  have e_hE_0_35_1 := funext hE_0_35_1; subst e_hE_0_35_1
  have e_hE_0_36_1 := funext hE_0_36_1; subst e_hE_0_36_1
  have e_hE_0_37_1 := funext hE_0_37_1; subst e_hE_0_37_1
  have e_hE_0_54_1 := funext hE_0_54_1; subst e_hE_0_54_1
  first | omega
def o_Mo_goRound_0 : or_T := (9, 4, [(0, (2, 0, 0, [165])), (1, (0, 0, 0, [])), (2, (0, 0, 0, [])), (3, (0, 0, 0, []))], [(101, [0, 1], [53])], [], [], [(20, [0, 3], [60, 0, 1, 191, 54]), (20, [0], [50, 1, 0, 53, 1, 3, 2, 0, 53, 0, 0]), (20, [2], [50, 0, 0, 1, 2, 1, 0, 0, 0]), (24, [0, 0], [])], [], [])
theorem oo_Mo_goRound_0 {kA : Nat → ClassId} : or_ok PRD kA GG o_Mo_goRound_0 := by
  refine or_mk fun A ta ws vs hD hth hl => ?_
  intro t0 r0 t1 k1 t2 k2 t3 k3 ta1 w1 le1 s1
  have s1 : (∀ b j, w_el ws b j = w_el w1 b j) ∧ ∀ b j, w_fd ws b j = if b = v_ad (n_v vs 0) ∧ j = 53 then n_v vs 1 else w_fd w1 b j := s1.2
  have fe_0_31_1 : w_fi ws (n_v vs 0) 31 = w_fi w1 (n_v vs 0) 31 := by show v_iv (w_fd _ _ _) = v_iv (w_fd _ _ _); rw [s1.2, if_neg (fun e => absurd e.2 (by decide))]
  have fe_0_32_1 : w_fi ws (n_v vs 0) 32 = w_fi w1 (n_v vs 0) 32 := by show v_iv (w_fd _ _ _) = v_iv (w_fd _ _ _); rw [s1.2, if_neg (fun e => absurd e.2 (by decide))]
  have fe_0_53_1 : w_fi ws (n_v vs 0) 53 = v_iv (n_v vs 1) := by show v_iv (w_fd _ _ _) = _; rw [s1.2, if_pos ⟨rfl, rfl⟩]
  have hE_0_33_1 : ∀ j : Int, w_ei ws (w_ar ws (n_v vs 0) 33) j = w_ei w1 (w_ar ws (n_v vs 0) 33) j := fun j => s1.1 _ _
  have hE_0_34_1 : ∀ j : Int, w_ei ws (w_ar ws (n_v vs 0) 34) j = w_ei w1 (w_ar ws (n_v vs 0) 34) j := fun j => s1.1 _ _
  have hE_0_35_1 : ∀ j : Int, w_ei ws (w_ar ws (n_v vs 0) 35) j = w_ei w1 (w_ar ws (n_v vs 0) 35) j := fun j => s1.1 _ _
  have hE_0_36_1 : ∀ j : Int, w_ei ws (w_ar ws (n_v vs 0) 36) j = w_ei w1 (w_ar ws (n_v vs 0) 36) j := fun j => s1.1 _ _
  have hE_0_37_1 : ∀ j : Int, w_ei ws (w_ar ws (n_v vs 0) 37) j = w_ei w1 (w_ar ws (n_v vs 0) 37) j := fun j => s1.1 _ _
  have hE_0_54_1 : ∀ j : Int, w_ei ws (w_ar ws (n_v vs 0) 54) j = w_ei w1 (w_ar ws (n_v vs 0) 54) j := fun j => s1.1 _ _
  have kz_0_31 := fdq_144 hD hth r0
  have kz_0_32 := fdq_139 hD hth r0
  have kz_0_53 := fdq_267 hD hth r0
  have nf0 : fc_1 PRD (20, [0, 3], [60, 0, 1, 191, 54]) ws (vs) := ⟨nf_in hl rfl, sgq_1098 (vc_Mo_goRound_0_0 (v_iv (n_v vs 3)) (w_ei ws (w_ar ws (n_v vs 0) 33)) (w_ei ws (w_ar ws (n_v vs 0) 34)) (w_fi ws (n_v vs 0) 31) (w_fi ws (n_v vs 0) 32) (w_ei ws (w_ar ws (n_v vs 0) 35)) (w_ei ws (w_ar ws (n_v vs 0) 36)) (w_ei ws (w_ar ws (n_v vs 0) 37)) (w_ei w1 (w_ar ws (n_v vs 0) 33)) (w_ei w1 (w_ar ws (n_v vs 0) 34)) (w_fi w1 (n_v vs 0) 31) (w_fi w1 (n_v vs 0) 32) (w_ei w1 (w_ar ws (n_v vs 0) 35)) (w_ei w1 (w_ar ws (n_v vs 0) 36)) (w_ei w1 (w_ar ws (n_v vs 0) 37)) (w_ei ws (w_ar ws (n_v vs 0) 54)) (w_ei w1 (w_ar ws (n_v vs 0) 54)) k3 fe_0_31_1 fe_0_32_1 hE_0_33_1 hE_0_34_1 hE_0_35_1 hE_0_36_1 hE_0_37_1 hE_0_54_1 kz_0_31 kz_0_32)⟩
  have nf1 : fc_1 PRD (20, [0], [50, 1, 0, 53, 1, 3, 2, 0, 53, 0, 0]) ws (vs) := ⟨nf_in hl rfl, sgq_1099 (vc_Mo_goRound_0_1 (v_iv (n_v vs 1)) (w_ei ws (w_ar ws (n_v vs 0) 33)) (w_ei ws (w_ar ws (n_v vs 0) 34)) (w_fi ws (n_v vs 0) 31) (w_fi ws (n_v vs 0) 32) (w_ei ws (w_ar ws (n_v vs 0) 35)) (w_ei ws (w_ar ws (n_v vs 0) 36)) (w_ei ws (w_ar ws (n_v vs 0) 37)) (w_ei w1 (w_ar ws (n_v vs 0) 33)) (w_ei w1 (w_ar ws (n_v vs 0) 34)) (w_fi w1 (n_v vs 0) 31) (w_fi w1 (n_v vs 0) 32) (w_ei w1 (w_ar ws (n_v vs 0) 35)) (w_ei w1 (w_ar ws (n_v vs 0) 36)) (w_ei w1 (w_ar ws (n_v vs 0) 37)) (w_fi ws (n_v vs 0) 53) (w_ei ws (w_ar ws (n_v vs 0) 54)) (w_ei w1 (w_ar ws (n_v vs 0) 54)) k1 fe_0_31_1 fe_0_32_1 fe_0_53_1 hE_0_33_1 hE_0_34_1 hE_0_35_1 hE_0_36_1 hE_0_37_1 hE_0_54_1 kz_0_31 kz_0_32 kz_0_53)⟩
  have nf2 : fc_1 PRD (20, [2], [50, 0, 0, 1, 2, 1, 0, 0, 0]) ws (vs) := ⟨nf_in hl rfl, sgq_636 (vc_Mo_goRound_0_2 (v_iv (n_v vs 2)) (w_ei ws (w_ar ws (n_v vs 0) 33)) (w_ei ws (w_ar ws (n_v vs 0) 34)) (w_fi ws (n_v vs 0) 31) (w_fi ws (n_v vs 0) 32) (w_ei ws (w_ar ws (n_v vs 0) 35)) (w_ei ws (w_ar ws (n_v vs 0) 36)) (w_ei ws (w_ar ws (n_v vs 0) 37)) (w_ei w1 (w_ar ws (n_v vs 0) 33)) (w_ei w1 (w_ar ws (n_v vs 0) 34)) (w_fi w1 (n_v vs 0) 31) (w_fi w1 (n_v vs 0) 32) (w_ei w1 (w_ar ws (n_v vs 0) 35)) (w_ei w1 (w_ar ws (n_v vs 0) 36)) (w_ei w1 (w_ar ws (n_v vs 0) 37)) (w_ei ws (w_ar ws (n_v vs 0) 54)) (w_ei w1 (w_ar ws (n_v vs 0) 54)) k2 fe_0_31_1 fe_0_32_1 hE_0_33_1 hE_0_34_1 hE_0_35_1 hE_0_36_1 hE_0_37_1 hE_0_54_1 kz_0_31 kz_0_32)⟩
  have nf3 : fc_1 PRD (24, [0, 0], []) ws (vs) := by
    refine ⟨nf_in hl rfl, sgq_1 ?_⟩
    · show n_v vs 0 = n_v vs 0
      first | rfl | simp only [true_and]
  refine ⟨(fun _ h => (by cases h)), [], trivial, ?_, (fun _ h => (by cases h))⟩
  rw [List.append_nil]
  exact List.forall_mem_cons.mpr ⟨⟨show (20 : Nat) < 100 from by decide, nf0⟩, List.forall_mem_cons.mpr ⟨⟨show (20 : Nat) < 100 from by decide, nf1⟩, List.forall_mem_cons.mpr ⟨⟨show (20 : Nat) < 100 from by decide, nf2⟩, List.forall_mem_cons.mpr ⟨⟨show (24 : Nat) < 100 from by decide, nf3⟩, (fun _ h => (by cases h))⟩⟩⟩⟩
set_option maxHeartbeats 4000000 in
theorem vc_Mo_goRound_1_0 (x2 : Int) (x3 : Int) (x5 : Int) (x6 : Int) (x7 : Int) (pm_0 : Int) (pt_0 : Int → Int) (ph_0 : Int → Int) (alive_0 : Int → Int) (rotMany_0 : Int → Int) (rot_0 : Int → Int) (roundOf_0 : Int → Int) (rounds_0 : Int) (roundBegin_0 : Int → Int) (roundDart_0 : Int → Int) (k2 : 0 ≤ x2 ∧ x2 ≤ 0) (k3 : 0 ≤ x3 ∧ x3 ≤ 160) (k5 : 0 ≤ x5 ∧ x5 ≤ 80) (k6 : 0 ≤ x6 ∧ x6 ≤ 160) (k7 : 0 ≤ x7 ∧ x7 ≤ 0) (d0 : x6 + 0 ≤ x3 ∧ x3 ≤ x6 + 4294967296) (f1 : x6 = 2 * x5) (g2 : x5 = pm_0) (f5 : RO0 (roundOf_0) (x3)) (f6 : rounds_0 = 0) (f7 : x2 = 0) (kz_0_32 : 0 ≤ pm_0 ∧ pm_0 ≤ 80) (kz_0_53 : 0 ≤ rounds_0 ∧ rounds_0 ≤ 160) : GOI (pm_0) (rounds_0) (pt_0) (ph_0) (alive_0) (rotMany_0) (rot_0) (roundOf_0) (roundBegin_0) (roundDart_0) (x2) (x7) := by
  first
    | exact goi_start ‹RO0 _ _› (by omega) (by omega) (by omega) (by omega)
    | exact goi_skip ‹GOI _ _ _ _ _ _ _ _ _ _ _ _› (by omega) (Or.inl (by rw [← (by omega : x10 = x3 / 2)]; omega))
    | exact goi_skip ‹GOI _ _ _ _ _ _ _ _ _ _ _ _› (by omega) (Or.inr (by omega))
    | exact git_end ‹GIT _ _ _ _ _ _ _ _ _ _ _ _ _› (by omega) (by omega) (by omega)
def o_Mo_goRound_1 : or_T := (34, 8, [(0, (2, 0, 0, [165])), (2, (0, 0, 0, [])), (3, (0, 0, 160, [])), (4, (0, 2, 2, [])), (5, (0, 0, 80, [])), (6, (0, 0, 160, [])), (7, (0, 0, 0, []))], [(3, [6, 4, 5], []), (9, [5, 1], [32]), (20, [1, 3], [60, 0, 1, 191, 54]), (20, [1], [50, 1, 0, 53, 1, 3, 2, 0, 53, 0, 0]), (20, [2], [50, 0, 0, 1, 2, 1, 0, 0, 0]), (24, [0, 1], [])], [], [], [(20, [1, 2, 7], [60, 2, 8, 192, 32, 53, 33, 34, 35, 36, 37, 54, 56, 57])], [], [(3, 6, 0, 4294967296)])
theorem oo_Mo_goRound_1 {kA : Nat → ClassId} : or_ok PRD kA GG o_Mo_goRound_1 := by
  refine or_mk fun A ta ws vs hD hth hl => ?_
  intro t0 r0 t2 k2 t3 k3 t4 k4 t5 k5 t6 k6 t7 k7 d0 f1 f2 f5 f6 f7 f8
  replace f1 := shm_38 f1
  rw [show v_iv (n_v vs 4) = 2 from by omega] at f1
  replace f2 := shm_519 f2
  replace f5 := shm_1098 f5
  replace f6 := shm_1099 f6
  replace f7 := shm_636 f7
  replace f8 := shm_5 f8
  have q1 : n_v vs 1 = n_v vs 0 := f8.symm
  simp only [q1] at f2 f5 f6
  have g2 : v_iv (n_v vs 5) = w_fi ws (n_v vs 0) 32 := congrArg v_iv f2
  have kz_0_32 := fdq_139 hD hth r0
  have kz_0_53 := fdq_267 hD hth r0
  have nf0 : fc_1 PRD (20, [1, 2, 7], [60, 2, 8, 192, 32, 53, 33, 34, 35, 36, 37, 54, 56, 57]) ws (vs) := by
    refine ⟨nf_in hl rfl, sgq_1100 ?_⟩
    · show GOI (w_fi ws (n_v vs 1) 32) (w_fi ws (n_v vs 1) 53) (w_ei ws (w_ar ws (n_v vs 1) 33)) (w_ei ws (w_ar ws (n_v vs 1) 34)) (w_ei ws (w_ar ws (n_v vs 1) 35)) (w_ei ws (w_ar ws (n_v vs 1) 36)) (w_ei ws (w_ar ws (n_v vs 1) 37)) (w_ei ws (w_ar ws (n_v vs 1) 54)) (w_ei ws (w_ar ws (n_v vs 1) 56)) (w_ei ws (w_ar ws (n_v vs 1) 57)) (v_iv (n_v vs 2)) (v_iv (n_v vs 7))
      rw [q1]
      exact vc_Mo_goRound_1_0 (v_iv (n_v vs 2)) (v_iv (n_v vs 3)) (v_iv (n_v vs 5)) (v_iv (n_v vs 6)) (v_iv (n_v vs 7)) (w_fi ws (n_v vs 0) 32) (w_ei ws (w_ar ws (n_v vs 0) 33)) (w_ei ws (w_ar ws (n_v vs 0) 34)) (w_ei ws (w_ar ws (n_v vs 0) 35)) (w_ei ws (w_ar ws (n_v vs 0) 36)) (w_ei ws (w_ar ws (n_v vs 0) 37)) (w_ei ws (w_ar ws (n_v vs 0) 54)) (w_fi ws (n_v vs 0) 53) (w_ei ws (w_ar ws (n_v vs 0) 56)) (w_ei ws (w_ar ws (n_v vs 0) 57)) k2 k3 k5 k6 k7 d0 f1 g2 f5 f6 f7 kz_0_32 kz_0_53
  refine ⟨(fun _ h => (by cases h)), [], trivial, ?_, (fun _ h => (by cases h))⟩
  rw [List.append_nil]
  exact List.forall_mem_cons.mpr ⟨⟨show (20 : Nat) < 100 from by decide, nf0⟩, (fun _ h => (by cases h))⟩
set_option maxHeartbeats 4000000 in
theorem vc_Mo_goRound_2_0 (x3 : Int) (x8 : Int) (x9 : Int) (pt_0 : Int → Int) (ph_0 : Int → Int) (pn_0 : Int) (pm_0 : Int) (alive_0 : Int → Int) (rotMany_0 : Int → Int) (rot_0 : Int → Int) (rounds_0 : Int) (pm_1 : Int) (pt_1 : Int → Int) (ph_1 : Int → Int) (pn_1 : Int) (alive_1 : Int → Int) (rotMany_1 : Int → Int) (rot_1 : Int → Int) (roundOf_1 : Int → Int) (rounds_1 : Int) (roundOf_0 : Int → Int) (k3 : 0 ≤ x3 ∧ x3 ≤ 159) (k8 : (-1) ≤ x8 ∧ x8 ≤ (-1)) (k9 : 1 ≤ x9 ∧ x9 ≤ 160) (d0 : x3 + 1 ≤ x9 ∧ x9 ≤ x3 + 1) (f13 : RO0 (roundOf_1) (x3)) (fe_0_31_1 : pn_0 = pn_1) (fe_0_32_1 : pm_0 = pm_1) (fe_0_53_1 : rounds_0 = rounds_1) (hE_0_33_1 : ∀ j : Int, pt_0 j = pt_1 j) (hE_0_34_1 : ∀ j : Int, ph_0 j = ph_1 j) (hE_0_35_1 : ∀ j : Int, alive_0 j = alive_1 j) (hE_0_36_1 : ∀ j : Int, rotMany_0 j = rotMany_1 j) (hE_0_37_1 : ∀ j : Int, rot_0 j = rot_1 j) (hE_0_54_1 : ∀ j : Int, 0 ≤ j → (j = x3 → roundOf_0 j = x8) ∧ (j ≠ x3 → roundOf_0 j = roundOf_1 j)) (kz_0_31 : 0 ≤ pn_0 ∧ pn_0 ≤ 25) (kz_0_32 : 0 ≤ pm_0 ∧ pm_0 ≤ 80) (kz_0_53 : 0 ≤ rounds_0 ∧ rounds_0 ≤ 160) : RO0 (roundOf_0) (x9) := by
  subst fe_0_31_1
  subst fe_0_32_1
  subst fe_0_53_1
  have e_hE_0_33_1 := funext hE_0_33_1; subst e_hE_0_33_1
  have e_hE_0_34_1 := funext hE_0_34_1; subst e_hE_0_34_1
  have e_hE_0_35_1 := funext hE_0_35_1; subst e_hE_0_35_1
  have e_hE_0_36_1 := funext hE_0_36_1; subst e_hE_0_36_1
  have e_hE_0_37_1 := funext hE_0_37_1; subst e_hE_0_37_1
  first
    | (intro j a b; exfalso; omega)
    | (have h := ‹RO0 _ _›
       intro j a b
       by_cases q : j = x3
       · have v := (hE_0_54_1 j a).1 q; omega
       · rw [(hE_0_54_1 j a).2 q]; exact h j a (by omega))
def o_Mo_goRound_2 : or_T := (9, 10, [(0, (2, 0, 0, [165])), (3, (0, 0, 159, [])), (7, (2, 0, 0, [196])), (8, (0, -1, -1, [])), (9, (0, 1, 160, []))], [(24, [0, 1], []), (100, [7, 3, 8], []), (9, [7, 1], [54]), (20, [1, 3], [60, 0, 1, 191, 54])], [], [], [(20, [1, 9], [60, 0, 1, 191, 54])], [], [(9, 3, 1, 1), (3, 6, -4294967296, -1)])
theorem oo_Mo_goRound_2 {kA : Nat → ClassId} : or_ok PRD kA GG o_Mo_goRound_2 := by
  refine or_mk fun A ta ws vs hD hth hl => ?_
  intro t0 r0 t3 k3 t7 r7 t8 k8 t9 k9 d0 d2 f5 ta1 w1 le1 s1 f7 f13
  replace f5 := shm_5 f5
  have s1 : (∀ b j, w_el ws b j = if b = v_ad (n_v vs 7) ∧ j = (v_iv (n_v vs 3)).toNat then v_iv (n_v vs 8) else w_el w1 b j) ∧ ∀ b k, w_fd ws b k = w_fd w1 b k := s1.2
  replace f7 := shm_1091 f7
  replace f13 := shm_1098 f13
  have q1 : n_v vs 1 = n_v vs 0 := f5.symm
  simp only [q1] at f7 f13
  have ar_0_33_1 : w_ar w1 (n_v vs 0) 33 = w_ar ws (n_v vs 0) 33 := congrArg v_ad (s1.2 _ _).symm
  have cr_0_33 := fdq_116 hD hth r0
  have ar_0_34_1 : w_ar w1 (n_v vs 0) 34 = w_ar ws (n_v vs 0) 34 := congrArg v_ad (s1.2 _ _).symm
  have cr_0_34 := fdq_117 hD hth r0
  have ar_0_35_1 : w_ar w1 (n_v vs 0) 35 = w_ar ws (n_v vs 0) 35 := congrArg v_ad (s1.2 _ _).symm
  have cr_0_35 := fdq_131 hD hth r0
  have ar_0_36_1 : w_ar w1 (n_v vs 0) 36 = w_ar ws (n_v vs 0) 36 := congrArg v_ad (s1.2 _ _).symm
  have cr_0_36 := fdq_166 hD hth r0
  have ar_0_37_1 : w_ar w1 (n_v vs 0) 37 = w_ar ws (n_v vs 0) 37 := congrArg v_ad (s1.2 _ _).symm
  have cr_0_37 := fdq_167 hD hth r0
  have ar_0_54_1 : w_ar w1 (n_v vs 0) 54 = w_ar ws (n_v vs 0) 54 := congrArg v_ad (s1.2 _ _).symm
  have ad_7 : v_ad (n_v vs 7) = w_ar ws (n_v vs 0) 54 := (congrArg v_ad f7).trans ar_0_54_1
  simp only [ar_0_33_1, ar_0_34_1, ar_0_35_1, ar_0_36_1, ar_0_37_1, ar_0_54_1] at f13
  have fe_0_31_1 : w_fi ws (n_v vs 0) 31 = w_fi w1 (n_v vs 0) 31 := congrArg v_iv (s1.2 _ _)
  have fe_0_32_1 : w_fi ws (n_v vs 0) 32 = w_fi w1 (n_v vs 0) 32 := congrArg v_iv (s1.2 _ _)
  have fe_0_53_1 : w_fi ws (n_v vs 0) 53 = w_fi w1 (n_v vs 0) 53 := congrArg v_iv (s1.2 _ _)
  have hE_0_33_1 : ∀ j : Int, w_ei ws (w_ar ws (n_v vs 0) 33) j = w_ei w1 (w_ar ws (n_v vs 0) 33) j := el_kp s1.1 r7 cr_0_33 (by decide)
  have hE_0_34_1 : ∀ j : Int, w_ei ws (w_ar ws (n_v vs 0) 34) j = w_ei w1 (w_ar ws (n_v vs 0) 34) j := el_kp s1.1 r7 cr_0_34 (by decide)
  have hE_0_35_1 : ∀ j : Int, w_ei ws (w_ar ws (n_v vs 0) 35) j = w_ei w1 (w_ar ws (n_v vs 0) 35) j := el_kp s1.1 r7 cr_0_35 (by decide)
  have hE_0_36_1 : ∀ j : Int, w_ei ws (w_ar ws (n_v vs 0) 36) j = w_ei w1 (w_ar ws (n_v vs 0) 36) j := el_kp s1.1 r7 cr_0_36 (by decide)
  have hE_0_37_1 : ∀ j : Int, w_ei ws (w_ar ws (n_v vs 0) 37) j = w_ei w1 (w_ar ws (n_v vs 0) 37) j := el_kp s1.1 r7 cr_0_37 (by decide)
  have hE_0_54_1 : ∀ j : Int, 0 ≤ j → (j = v_iv (n_v vs 3) → w_ei ws (w_ar ws (n_v vs 0) 54) j = v_iv (n_v vs 8)) ∧ (j ≠ v_iv (n_v vs 3) → w_ei ws (w_ar ws (n_v vs 0) 54) j = w_ei w1 (w_ar ws (n_v vs 0) 54) j) := fun j hj => ⟨fun h => by unfold w_ei; rw [s1.1, if_pos ⟨ad_7.symm, by rw [h]⟩], fun h => by unfold w_ei; rw [s1.1, if_neg (fun e => h (by have := e.2; omega))]⟩
  have kz_0_31 := fdq_144 hD hth r0
  have kz_0_32 := fdq_139 hD hth r0
  have kz_0_53 := fdq_267 hD hth r0
  have nf0 : fc_1 PRD (20, [1, 9], [60, 0, 1, 191, 54]) ws (vs) := by
    refine ⟨nf_in hl rfl, sgq_1098 ?_⟩
    · show RO0 (w_ei ws (w_ar ws (n_v vs 1) 54)) (v_iv (n_v vs 9))
      rw [q1]
      exact vc_Mo_goRound_2_0 (v_iv (n_v vs 3)) (v_iv (n_v vs 8)) (v_iv (n_v vs 9)) (w_ei ws (w_ar ws (n_v vs 0) 33)) (w_ei ws (w_ar ws (n_v vs 0) 34)) (w_fi ws (n_v vs 0) 31) (w_fi ws (n_v vs 0) 32) (w_ei ws (w_ar ws (n_v vs 0) 35)) (w_ei ws (w_ar ws (n_v vs 0) 36)) (w_ei ws (w_ar ws (n_v vs 0) 37)) (w_fi ws (n_v vs 0) 53) (w_fi w1 (n_v vs 0) 32) (w_ei w1 (w_ar ws (n_v vs 0) 33)) (w_ei w1 (w_ar ws (n_v vs 0) 34)) (w_fi w1 (n_v vs 0) 31) (w_ei w1 (w_ar ws (n_v vs 0) 35)) (w_ei w1 (w_ar ws (n_v vs 0) 36)) (w_ei w1 (w_ar ws (n_v vs 0) 37)) (w_ei w1 (w_ar ws (n_v vs 0) 54)) (w_fi w1 (n_v vs 0) 53) (w_ei ws (w_ar ws (n_v vs 0) 54)) k3 k8 k9 d0 f13 fe_0_31_1 fe_0_32_1 fe_0_53_1 hE_0_33_1 hE_0_34_1 hE_0_35_1 hE_0_36_1 hE_0_37_1 hE_0_54_1 kz_0_31 kz_0_32 kz_0_53
  refine ⟨(fun _ h => (by cases h)), [], trivial, ?_, (fun _ h => (by cases h))⟩
  rw [List.append_nil]
  exact List.forall_mem_cons.mpr ⟨⟨show (20 : Nat) < 100 from by decide, nf0⟩, (fun _ h => (by cases h))⟩
set_option maxHeartbeats 4000000 in
theorem vc_Mo_goRound_3_0 (x2 : Int) (x3 : Int) (x4 : Int) (x6 : Int) (x7 : Int) (pt_0 : Int → Int) (ph_0 : Int → Int) (pn_0 : Int) (pm_0 : Int) (alive_0 : Int → Int) (rotMany_0 : Int → Int) (rot_0 : Int → Int) (rounds_1 : Int) (pm_1 : Int) (pt_1 : Int → Int) (ph_1 : Int → Int) (pn_1 : Int) (alive_1 : Int → Int) (rotMany_1 : Int → Int) (rot_1 : Int → Int) (roundOf_1 : Int → Int) (roundBegin_1 : Int → Int) (roundDart_1 : Int → Int) (rounds_0 : Int) (roundOf_0 : Int → Int) (roundBegin_0 : Int → Int) (roundDart_0 : Int → Int) (k2 : 0 ≤ x2 ∧ x2 ≤ 160) (k3 : 0 ≤ x3 ∧ x3 ≤ 160) (k4 : 0 ≤ x4 ∧ x4 ≤ 160) (k6 : 0 ≤ x6 ∧ x6 ≤ 80) (k7 : 0 ≤ x7 ∧ x7 ≤ 160) (d0 : x7 + 0 ≤ x3 ∧ x3 ≤ x7 + 4294967296) (g4 : x4 = rounds_1) (f7 : x7 = 2 * x6) (g8 : x6 = pm_1) (f11 : GOI (pm_1) (rounds_1) (pt_1) (ph_1) (alive_1) (rotMany_1) (rot_1) (roundOf_1) (roundBegin_1) (roundDart_1) (x2) (x3)) (fe_0_31_1 : pn_0 = pn_1) (fe_0_32_1 : pm_0 = pm_1) (fe_0_53_1 : rounds_0 = rounds_1) (hE_0_33_1 : ∀ j : Int, pt_0 j = pt_1 j) (hE_0_34_1 : ∀ j : Int, ph_0 j = ph_1 j) (hE_0_35_1 : ∀ j : Int, alive_0 j = alive_1 j) (hE_0_36_1 : ∀ j : Int, rotMany_0 j = rotMany_1 j) (hE_0_37_1 : ∀ j : Int, rot_0 j = rot_1 j) (hE_0_54_1 : ∀ j : Int, roundOf_0 j = roundOf_1 j) (hE_0_56_1 : ∀ j : Int, 0 ≤ j → (j = x4 → roundBegin_0 j = x2) ∧ (j ≠ x4 → roundBegin_0 j = roundBegin_1 j)) (hE_0_57_1 : ∀ j : Int, roundDart_0 j = roundDart_1 j) (kz_0_31 : 0 ≤ pn_0 ∧ pn_0 ≤ 25) (kz_0_32 : 0 ≤ pm_0 ∧ pm_0 ≤ 80) (kz_0_53 : 0 ≤ rounds_0 ∧ rounds_0 ≤ 160) : GRD (pm_0) (rounds_0) (pt_0) (ph_0) (alive_0) (rotMany_0) (rot_0) (roundOf_0) (roundBegin_0) (roundDart_0) := by
  subst fe_0_31_1
  subst fe_0_32_1
  subst fe_0_53_1
  have e_hE_0_33_1 := funext hE_0_33_1; subst e_hE_0_33_1
  have e_hE_0_34_1 := funext hE_0_34_1; subst e_hE_0_34_1
  have e_hE_0_35_1 := funext hE_0_35_1; subst e_hE_0_35_1
  have e_hE_0_36_1 := funext hE_0_36_1; subst e_hE_0_36_1
  have e_hE_0_37_1 := funext hE_0_37_1; subst e_hE_0_37_1
  have e_hE_0_54_1 := funext hE_0_54_1; subst e_hE_0_54_1
  have e_hE_0_57_1 := funext hE_0_57_1; subst e_hE_0_57_1
  exact goi_end ‹GOI _ _ _ _ _ _ _ _ _ _ _ _› (by omega) hE_0_56_1 (by omega) rfl
def o_Mo_goRound_3 : or_T := (136, 9, [(0, (2, 0, 0, [165])), (2, (0, 0, 160, [])), (3, (0, 0, 160, [])), (4, (0, 0, 160, [])), (5, (0, 2, 2, [])), (6, (0, 0, 80, [])), (7, (0, 0, 160, [])), (8, (2, 0, 0, [198]))], [(24, [0, 1], []), (100, [8, 4, 2], []), (9, [4, 1], [53]), (9, [8, 1], [56]), (3, [7, 5, 6], []), (9, [6, 1], [32]), (20, [1, 2, 3], [60, 2, 8, 192, 32, 53, 33, 34, 35, 36, 37, 54, 56, 57])], [], [], [(20, [0], [60, 2, 8, 193, 32, 53, 33, 34, 35, 36, 37, 54, 56, 57])], [], [(3, 7, 0, 4294967296)])
theorem oo_Mo_goRound_3 {kA : Nat → ClassId} : or_ok PRD kA GG o_Mo_goRound_3 := by
  refine or_mk fun A ta ws vs hD hth hl => ?_
  intro t0 r0 t2 k2 t3 k3 t4 k4 t5 k5 t6 k6 t7 k7 t8 r8 d0 f2 ta1 w1 le1 s1 f4 f5 f7 f8 f11
  replace f2 := shm_5 f2
  have s1 : (∀ b j, w_el ws b j = if b = v_ad (n_v vs 8) ∧ j = (v_iv (n_v vs 4)).toNat then v_iv (n_v vs 2) else w_el w1 b j) ∧ ∀ b k, w_fd ws b k = w_fd w1 b k := s1.2
  replace f4 := shm_1101 f4
  replace f5 := shm_1102 f5
  replace f7 := shm_38 f7
  rw [show v_iv (n_v vs 5) = 2 from by omega] at f7
  replace f8 := shm_519 f8
  replace f11 := shm_1100 f11
  have q1 : n_v vs 1 = n_v vs 0 := f2.symm
  simp only [q1] at f4 f5 f8 f11
  have ar_0_33_1 : w_ar w1 (n_v vs 0) 33 = w_ar ws (n_v vs 0) 33 := congrArg v_ad (s1.2 _ _).symm
  have cr_0_33 := fdq_116 hD hth r0
  have ar_0_34_1 : w_ar w1 (n_v vs 0) 34 = w_ar ws (n_v vs 0) 34 := congrArg v_ad (s1.2 _ _).symm
  have cr_0_34 := fdq_117 hD hth r0
  have ar_0_35_1 : w_ar w1 (n_v vs 0) 35 = w_ar ws (n_v vs 0) 35 := congrArg v_ad (s1.2 _ _).symm
  have cr_0_35 := fdq_131 hD hth r0
  have ar_0_36_1 : w_ar w1 (n_v vs 0) 36 = w_ar ws (n_v vs 0) 36 := congrArg v_ad (s1.2 _ _).symm
  have cr_0_36 := fdq_166 hD hth r0
  have ar_0_37_1 : w_ar w1 (n_v vs 0) 37 = w_ar ws (n_v vs 0) 37 := congrArg v_ad (s1.2 _ _).symm
  have cr_0_37 := fdq_167 hD hth r0
  have ar_0_54_1 : w_ar w1 (n_v vs 0) 54 = w_ar ws (n_v vs 0) 54 := congrArg v_ad (s1.2 _ _).symm
  have cr_0_54 := fdq_264 hD hth r0
  have ar_0_56_1 : w_ar w1 (n_v vs 0) 56 = w_ar ws (n_v vs 0) 56 := congrArg v_ad (s1.2 _ _).symm
  have ar_0_57_1 : w_ar w1 (n_v vs 0) 57 = w_ar ws (n_v vs 0) 57 := congrArg v_ad (s1.2 _ _).symm
  have cr_0_57 := fdq_266 hD hth r0
  have ad_8 : v_ad (n_v vs 8) = w_ar ws (n_v vs 0) 56 := (congrArg v_ad f5).trans ar_0_56_1
  have g4 : v_iv (n_v vs 4) = w_fi w1 (n_v vs 0) 53 := congrArg v_iv f4
  have g8 : v_iv (n_v vs 6) = w_fi w1 (n_v vs 0) 32 := congrArg v_iv f8
  simp only [ar_0_33_1, ar_0_34_1, ar_0_35_1, ar_0_36_1, ar_0_37_1, ar_0_54_1, ar_0_56_1, ar_0_57_1] at f11
  have fe_0_31_1 : w_fi ws (n_v vs 0) 31 = w_fi w1 (n_v vs 0) 31 := congrArg v_iv (s1.2 _ _)
  have fe_0_32_1 : w_fi ws (n_v vs 0) 32 = w_fi w1 (n_v vs 0) 32 := congrArg v_iv (s1.2 _ _)
  have fe_0_53_1 : w_fi ws (n_v vs 0) 53 = w_fi w1 (n_v vs 0) 53 := congrArg v_iv (s1.2 _ _)
  have hE_0_33_1 : ∀ j : Int, w_ei ws (w_ar ws (n_v vs 0) 33) j = w_ei w1 (w_ar ws (n_v vs 0) 33) j := el_kp s1.1 r8 cr_0_33 (by decide)
  have hE_0_34_1 : ∀ j : Int, w_ei ws (w_ar ws (n_v vs 0) 34) j = w_ei w1 (w_ar ws (n_v vs 0) 34) j := el_kp s1.1 r8 cr_0_34 (by decide)
  have hE_0_35_1 : ∀ j : Int, w_ei ws (w_ar ws (n_v vs 0) 35) j = w_ei w1 (w_ar ws (n_v vs 0) 35) j := el_kp s1.1 r8 cr_0_35 (by decide)
  have hE_0_36_1 : ∀ j : Int, w_ei ws (w_ar ws (n_v vs 0) 36) j = w_ei w1 (w_ar ws (n_v vs 0) 36) j := el_kp s1.1 r8 cr_0_36 (by decide)
  have hE_0_37_1 : ∀ j : Int, w_ei ws (w_ar ws (n_v vs 0) 37) j = w_ei w1 (w_ar ws (n_v vs 0) 37) j := el_kp s1.1 r8 cr_0_37 (by decide)
  have hE_0_54_1 : ∀ j : Int, w_ei ws (w_ar ws (n_v vs 0) 54) j = w_ei w1 (w_ar ws (n_v vs 0) 54) j := el_kp s1.1 r8 cr_0_54 (by decide)
  have hE_0_56_1 : ∀ j : Int, 0 ≤ j → (j = v_iv (n_v vs 4) → w_ei ws (w_ar ws (n_v vs 0) 56) j = v_iv (n_v vs 2)) ∧ (j ≠ v_iv (n_v vs 4) → w_ei ws (w_ar ws (n_v vs 0) 56) j = w_ei w1 (w_ar ws (n_v vs 0) 56) j) := fun j hj => ⟨fun h => by unfold w_ei; rw [s1.1, if_pos ⟨ad_8.symm, by rw [h]⟩], fun h => by unfold w_ei; rw [s1.1, if_neg (fun e => h (by have := e.2; omega))]⟩
  have hE_0_57_1 : ∀ j : Int, w_ei ws (w_ar ws (n_v vs 0) 57) j = w_ei w1 (w_ar ws (n_v vs 0) 57) j := el_kp s1.1 r8 cr_0_57 (by decide)
  have kz_0_31 := fdq_144 hD hth r0
  have kz_0_32 := fdq_139 hD hth r0
  have kz_0_53 := fdq_267 hD hth r0
  have nf0 : fc_1 PRD (20, [0], [60, 2, 8, 193, 32, 53, 33, 34, 35, 36, 37, 54, 56, 57]) ws (vs) := ⟨nf_in hl rfl, sgq_1103 (vc_Mo_goRound_3_0 (v_iv (n_v vs 2)) (v_iv (n_v vs 3)) (v_iv (n_v vs 4)) (v_iv (n_v vs 6)) (v_iv (n_v vs 7)) (w_ei ws (w_ar ws (n_v vs 0) 33)) (w_ei ws (w_ar ws (n_v vs 0) 34)) (w_fi ws (n_v vs 0) 31) (w_fi ws (n_v vs 0) 32) (w_ei ws (w_ar ws (n_v vs 0) 35)) (w_ei ws (w_ar ws (n_v vs 0) 36)) (w_ei ws (w_ar ws (n_v vs 0) 37)) (w_fi w1 (n_v vs 0) 53) (w_fi w1 (n_v vs 0) 32) (w_ei w1 (w_ar ws (n_v vs 0) 33)) (w_ei w1 (w_ar ws (n_v vs 0) 34)) (w_fi w1 (n_v vs 0) 31) (w_ei w1 (w_ar ws (n_v vs 0) 35)) (w_ei w1 (w_ar ws (n_v vs 0) 36)) (w_ei w1 (w_ar ws (n_v vs 0) 37)) (w_ei w1 (w_ar ws (n_v vs 0) 54)) (w_ei w1 (w_ar ws (n_v vs 0) 56)) (w_ei w1 (w_ar ws (n_v vs 0) 57)) (w_fi ws (n_v vs 0) 53) (w_ei ws (w_ar ws (n_v vs 0) 54)) (w_ei ws (w_ar ws (n_v vs 0) 56)) (w_ei ws (w_ar ws (n_v vs 0) 57)) k2 k3 k4 k6 k7 d0 g4 f7 g8 f11 fe_0_31_1 fe_0_32_1 fe_0_53_1 hE_0_33_1 hE_0_34_1 hE_0_35_1 hE_0_36_1 hE_0_37_1 hE_0_54_1 hE_0_56_1 hE_0_57_1 kz_0_31 kz_0_32 kz_0_53)⟩
  refine ⟨(fun _ h => (by cases h)), [], trivial, ?_, (fun _ h => (by cases h))⟩
  rw [List.append_nil]
  exact List.forall_mem_cons.mpr ⟨⟨show (20 : Nat) < 100 from by decide, nf0⟩, (fun _ h => (by cases h))⟩
set_option maxHeartbeats 4000000 in
theorem vc_Mo_goRound_4_0 (x2 : Int) (x3 : Int) (x10 : Int) (x11 : Int) (x12 : Int) (alive_0 : Int → Int) (pm_0 : Int) (pt_0 : Int → Int) (ph_0 : Int → Int) (rotMany_0 : Int → Int) (rot_0 : Int → Int) (roundOf_0 : Int → Int) (roundBegin_0 : Int → Int) (roundDart_0 : Int → Int) (rounds_0 : Int) (k2 : 0 ≤ x2 ∧ x2 ≤ 160) (k3 : 0 ≤ x3 ∧ x3 ≤ 159) (k10 : 0 ≤ x10 ∧ x10 ≤ 79) (k11 : 0 ≤ x11 ∧ x11 ≤ 0) (k12 : 1 ≤ x12 ∧ x12 ≤ 160) (f0 : x12 = x3 + 1) (h2 : x11 = alive_0 (x10)) (f3 : x10 = x3 / 2) (f11 : GOI (pm_0) (rounds_0) (pt_0) (ph_0) (alive_0) (rotMany_0) (rot_0) (roundOf_0) (roundBegin_0) (roundDart_0) (x2) (x3)) (kz_0_32 : 0 ≤ pm_0 ∧ pm_0 ≤ 80) (kz_0_53 : 0 ≤ rounds_0 ∧ rounds_0 ≤ 160) : GOI (pm_0) (rounds_0) (pt_0) (ph_0) (alive_0) (rotMany_0) (rot_0) (roundOf_0) (roundBegin_0) (roundDart_0) (x2) (x12) := by
  first
    | exact goi_start ‹RO0 _ _› (by omega) (by omega) (by omega) (by omega)
    | exact goi_skip ‹GOI _ _ _ _ _ _ _ _ _ _ _ _› (by omega) (Or.inl (by rw [← (by omega : x10 = x3 / 2)]; omega))
    | exact goi_skip ‹GOI _ _ _ _ _ _ _ _ _ _ _ _› (by omega) (Or.inr (by omega))
    | exact git_end ‹GIT _ _ _ _ _ _ _ _ _ _ _ _ _› (by omega) (by omega) (by omega)
def o_Mo_goRound_4 : or_T := (34, 13, [(0, (2, 0, 0, [165])), (2, (0, 0, 160, [])), (3, (0, 0, 159, [])), (10, (0, 0, 79, [])), (11, (0, 0, 0, [])), (12, (0, 1, 160, []))], [(6, [12, 3], [1]), (10, [11, 8, 10], []), (11, [10, 3], [2]), (9, [8, 1], [35]), (20, [1, 2, 3], [60, 2, 8, 192, 32, 53, 33, 34, 35, 36, 37, 54, 56, 57]), (24, [0, 1], [])], [], [], [(20, [1, 2, 12], [60, 2, 8, 192, 32, 53, 33, 34, 35, 36, 37, 54, 56, 57])], [], [])
theorem oo_Mo_goRound_4 {kA : Nat → ClassId} : or_ok PRD kA GG o_Mo_goRound_4 := by
  refine or_mk fun A ta ws vs hD hth hl => ?_
  intro t0 r0 t2 k2 t3 k3 t10 k10 t11 k11 t12 k12 f0 f2 f3 f5 f11 f12
  replace f0 := shm_4 f0
  replace f2 := shm_106 f2
  replace f3 := shm_573 f3
  replace f5 := shm_505 f5
  replace f11 := shm_1100 f11
  replace f12 := shm_5 f12
  have q1 : n_v vs 1 = n_v vs 0 := f12.symm
  simp only [q1] at f5 f11
  have ad_8 : v_ad (n_v vs 8) = w_ar ws (n_v vs 0) 35 := congrArg v_ad f5
  simp only [ad_8] at f2
  have h2 : v_iv (n_v vs 11) = w_ei ws (w_ar ws (n_v vs 0) 35) (v_iv (n_v vs 10)) := f2
  have kz_0_32 := fdq_139 hD hth r0
  have kz_0_53 := fdq_267 hD hth r0
  have nf0 : fc_1 PRD (20, [1, 2, 12], [60, 2, 8, 192, 32, 53, 33, 34, 35, 36, 37, 54, 56, 57]) ws (vs) := by
    refine ⟨nf_in hl rfl, sgq_1100 ?_⟩
    · show GOI (w_fi ws (n_v vs 1) 32) (w_fi ws (n_v vs 1) 53) (w_ei ws (w_ar ws (n_v vs 1) 33)) (w_ei ws (w_ar ws (n_v vs 1) 34)) (w_ei ws (w_ar ws (n_v vs 1) 35)) (w_ei ws (w_ar ws (n_v vs 1) 36)) (w_ei ws (w_ar ws (n_v vs 1) 37)) (w_ei ws (w_ar ws (n_v vs 1) 54)) (w_ei ws (w_ar ws (n_v vs 1) 56)) (w_ei ws (w_ar ws (n_v vs 1) 57)) (v_iv (n_v vs 2)) (v_iv (n_v vs 12))
      rw [q1]
      exact vc_Mo_goRound_4_0 (v_iv (n_v vs 2)) (v_iv (n_v vs 3)) (v_iv (n_v vs 10)) (v_iv (n_v vs 11)) (v_iv (n_v vs 12)) (w_ei ws (w_ar ws (n_v vs 0) 35)) (w_fi ws (n_v vs 0) 32) (w_ei ws (w_ar ws (n_v vs 0) 33)) (w_ei ws (w_ar ws (n_v vs 0) 34)) (w_ei ws (w_ar ws (n_v vs 0) 36)) (w_ei ws (w_ar ws (n_v vs 0) 37)) (w_ei ws (w_ar ws (n_v vs 0) 54)) (w_ei ws (w_ar ws (n_v vs 0) 56)) (w_ei ws (w_ar ws (n_v vs 0) 57)) (w_fi ws (n_v vs 0) 53) k2 k3 k10 k11 k12 f0 h2 f3 f11 kz_0_32 kz_0_53
  refine ⟨(fun _ h => (by cases h)), [], trivial, ?_, (fun _ h => (by cases h))⟩
  rw [List.append_nil]
  exact List.forall_mem_cons.mpr ⟨⟨show (20 : Nat) < 100 from by decide, nf0⟩, (fun _ h => (by cases h))⟩
set_option maxHeartbeats 4000000 in
theorem vc_Mo_goRound_5_0 (pt_0 : Int → Int) (ph_0 : Int → Int) (pn_0 : Int) (pm_0 : Int) (alive_0 : Int → Int) (rotMany_0 : Int → Int) (rot_0 : Int → Int) (rounds_1 : Int) (roundOf_1 : Int → Int) (alive_1 : Int → Int) (pm_1 : Int) (pt_1 : Int → Int) (ph_1 : Int → Int) (pn_1 : Int) (rotMany_1 : Int → Int) (rot_1 : Int → Int) (roundDart_1 : Int → Int) (rounds_0 : Int) (roundOf_0 : Int → Int) (roundDart_0 : Int → Int) (f17 : GOK (pn_1) (pm_1) (pt_1) (ph_1)) (fe_0_31_1 : pn_0 = pn_1) (fe_0_32_1 : pm_0 = pm_1) (fe_0_53_1 : rounds_0 = rounds_1) (hE_0_33_1 : ∀ j : Int, pt_0 j = pt_1 j) (hE_0_34_1 : ∀ j : Int, ph_0 j = ph_1 j) (hE_0_35_1 : ∀ j : Int, alive_0 j = alive_1 j) (hE_0_36_1 : ∀ j : Int, rotMany_0 j = rotMany_1 j) (hE_0_37_1 : ∀ j : Int, rot_0 j = rot_1 j) (hE_0_54_1 : ∀ j : Int, roundOf_0 j = roundOf_1 j) (hE_0_57_1 : ∀ j : Int, roundDart_0 j = roundDart_1 j) (kz_0_31 : 0 ≤ pn_0 ∧ pn_0 ≤ 25) (kz_0_32 : 0 ≤ pm_0 ∧ pm_0 ≤ 80) (kz_0_53 : 0 ≤ rounds_0 ∧ rounds_0 ≤ 160) : GOK (pn_0) (pm_0) (pt_0) (ph_0) := by
  subst fe_0_31_1
  subst fe_0_32_1
  subst fe_0_53_1
  have e_hE_0_33_1 := funext hE_0_33_1; subst e_hE_0_33_1
  have e_hE_0_34_1 := funext hE_0_34_1; subst e_hE_0_34_1
  have e_hE_0_35_1 := funext hE_0_35_1; subst e_hE_0_35_1
  have e_hE_0_36_1 := funext hE_0_36_1; subst e_hE_0_36_1
  have e_hE_0_37_1 := funext hE_0_37_1; subst e_hE_0_37_1
  have e_hE_0_54_1 := funext hE_0_54_1; subst e_hE_0_54_1
  have e_hE_0_57_1 := funext hE_0_57_1; subst e_hE_0_57_1
  first | assumption
set_option maxHeartbeats 4000000 in
theorem vc_Mo_goRound_5_1 (pt_0 : Int → Int) (ph_0 : Int → Int) (pn_0 : Int) (pm_0 : Int) (alive_0 : Int → Int) (rotMany_0 : Int → Int) (rot_0 : Int → Int) (rounds_1 : Int) (roundOf_1 : Int → Int) (alive_1 : Int → Int) (pm_1 : Int) (pt_1 : Int → Int) (ph_1 : Int → Int) (pn_1 : Int) (rotMany_1 : Int → Int) (rot_1 : Int → Int) (roundDart_1 : Int → Int) (rounds_0 : Int) (roundOf_0 : Int → Int) (roundDart_0 : Int → Int) (f18 : EML (pn_1) (pm_1) (pt_1) (ph_1) (alive_1) (rotMany_1) (rot_1)) (fe_0_31_1 : pn_0 = pn_1) (fe_0_32_1 : pm_0 = pm_1) (fe_0_53_1 : rounds_0 = rounds_1) (hE_0_33_1 : ∀ j : Int, pt_0 j = pt_1 j) (hE_0_34_1 : ∀ j : Int, ph_0 j = ph_1 j) (hE_0_35_1 : ∀ j : Int, alive_0 j = alive_1 j) (hE_0_36_1 : ∀ j : Int, rotMany_0 j = rotMany_1 j) (hE_0_37_1 : ∀ j : Int, rot_0 j = rot_1 j) (hE_0_54_1 : ∀ j : Int, roundOf_0 j = roundOf_1 j) (hE_0_57_1 : ∀ j : Int, roundDart_0 j = roundDart_1 j) (kz_0_31 : 0 ≤ pn_0 ∧ pn_0 ≤ 25) (kz_0_32 : 0 ≤ pm_0 ∧ pm_0 ≤ 80) (kz_0_53 : 0 ≤ rounds_0 ∧ rounds_0 ≤ 160) : EML (pn_0) (pm_0) (pt_0) (ph_0) (alive_0) (rotMany_0) (rot_0) := by
  subst fe_0_31_1
  subst fe_0_32_1
  subst fe_0_53_1
  have e_hE_0_33_1 := funext hE_0_33_1; subst e_hE_0_33_1
  have e_hE_0_34_1 := funext hE_0_34_1; subst e_hE_0_34_1
  have e_hE_0_35_1 := funext hE_0_35_1; subst e_hE_0_35_1
  have e_hE_0_36_1 := funext hE_0_36_1; subst e_hE_0_36_1
  have e_hE_0_37_1 := funext hE_0_37_1; subst e_hE_0_37_1
  have e_hE_0_54_1 := funext hE_0_54_1; subst e_hE_0_54_1
  have e_hE_0_57_1 := funext hE_0_57_1; subst e_hE_0_57_1
  first | assumption
set_option maxHeartbeats 4000000 in
theorem vc_Mo_goRound_5_2 (x2 : Int) (x3 : Int) (x4 : Int) (x6 : Int) (x7 : Int) (x10 : Int) (x11 : Int) (x13 : Int) (pt_0 : Int → Int) (ph_0 : Int → Int) (pn_0 : Int) (pm_0 : Int) (alive_0 : Int → Int) (rotMany_0 : Int → Int) (rot_0 : Int → Int) (rounds_1 : Int) (roundOf_1 : Int → Int) (alive_1 : Int → Int) (pm_1 : Int) (pt_1 : Int → Int) (ph_1 : Int → Int) (pn_1 : Int) (rotMany_1 : Int → Int) (rot_1 : Int → Int) (roundBegin_1 : Int → Int) (roundDart_1 : Int → Int) (rounds_0 : Int) (roundOf_0 : Int → Int) (roundBegin_0 : Int → Int) (roundDart_0 : Int → Int) (k2 : 0 ≤ x2 ∧ x2 ≤ 160) (k3 : 0 ≤ x3 ∧ x3 ≤ 159) (k4 : 0 ≤ x4 ∧ x4 ≤ 160) (k6 : 0 ≤ x6 ∧ x6 ≤ 80) (k7 : 1 ≤ x7 ∧ x7 ≤ 160) (k10 : 0 ≤ x10 ∧ x10 ≤ 79) (k11 : 1 ≤ x11 ∧ x11 ≤ 1) (k13 : (-1) ≤ x13 ∧ x13 ≤ (-1)) (d0 : x7 + (-4294967296) ≤ x3 ∧ x3 ≤ x7 + (-1)) (g4 : x4 = rounds_1) (h7 : x13 = roundOf_1 (x3)) (h10 : x11 = alive_1 (x10)) (f11 : x10 = x3 / 2) (f15 : x7 = 2 * x6) (g16 : x6 = pm_1) (f19 : GOI (pm_1) (rounds_1) (pt_1) (ph_1) (alive_1) (rotMany_1) (rot_1) (roundOf_1) (roundBegin_1) (roundDart_1) (x2) (x3)) (fe_0_31_1 : pn_0 = pn_1) (fe_0_32_1 : pm_0 = pm_1) (fe_0_53_1 : rounds_0 = rounds_1) (hE_0_33_1 : ∀ j : Int, pt_0 j = pt_1 j) (hE_0_34_1 : ∀ j : Int, ph_0 j = ph_1 j) (hE_0_35_1 : ∀ j : Int, alive_0 j = alive_1 j) (hE_0_36_1 : ∀ j : Int, rotMany_0 j = rotMany_1 j) (hE_0_37_1 : ∀ j : Int, rot_0 j = rot_1 j) (hE_0_54_1 : ∀ j : Int, roundOf_0 j = roundOf_1 j) (hE_0_56_1 : ∀ j : Int, 0 ≤ j → (j = x4 → roundBegin_0 j = x2) ∧ (j ≠ x4 → roundBegin_0 j = roundBegin_1 j)) (hE_0_57_1 : ∀ j : Int, roundDart_0 j = roundDart_1 j) (kz_0_31 : 0 ≤ pn_0 ∧ pn_0 ≤ 25) (kz_0_32 : 0 ≤ pm_0 ∧ pm_0 ≤ 80) (kz_0_53 : 0 ≤ rounds_0 ∧ rounds_0 ≤ 160) : GII (pm_0) (rounds_0) (pt_0) (ph_0) (alive_0) (rotMany_0) (rot_0) (roundOf_0) (roundBegin_0) (roundDart_0) (x2) (x3) (x3) := by
  subst fe_0_31_1
  subst fe_0_32_1
  subst fe_0_53_1
  have e_hE_0_33_1 := funext hE_0_33_1; subst e_hE_0_33_1
  have e_hE_0_34_1 := funext hE_0_34_1; subst e_hE_0_34_1
  have e_hE_0_35_1 := funext hE_0_35_1; subst e_hE_0_35_1
  have e_hE_0_36_1 := funext hE_0_36_1; subst e_hE_0_36_1
  have e_hE_0_37_1 := funext hE_0_37_1; subst e_hE_0_37_1
  have e_hE_0_54_1 := funext hE_0_54_1; subst e_hE_0_54_1
  have e_hE_0_57_1 := funext hE_0_57_1; subst e_hE_0_57_1
  first
    | exact git_next ‹GOK _ _ _ _› ‹EML _ _ _ _ _ _ _› ‹GIT _ _ _ _ _ _ _ _ _ _ _ _ _› (by omega)
    | exact gii_start ‹GOI _ _ _ _ _ _ _ _ _ _ _ _› (by omega) (by omega) (by rw [← (by omega : x10 = x3 / 2)]; omega) (by omega) hE_0_56_1 (by omega) rfl rfl
set_option maxHeartbeats 4000000 in
theorem vc_Mo_goRound_5_3 (x2 : Int) (pt_0 : Int → Int) (ph_0 : Int → Int) (pn_0 : Int) (pm_0 : Int) (alive_0 : Int → Int) (rotMany_0 : Int → Int) (rot_0 : Int → Int) (rounds_1 : Int) (roundOf_1 : Int → Int) (alive_1 : Int → Int) (pm_1 : Int) (pt_1 : Int → Int) (ph_1 : Int → Int) (pn_1 : Int) (rotMany_1 : Int → Int) (rot_1 : Int → Int) (roundDart_1 : Int → Int) (rounds_0 : Int) (roundOf_0 : Int → Int) (roundDart_0 : Int → Int) (gx : Int) (k2 : 0 ≤ x2 ∧ x2 ≤ 160) (fe_0_31_1 : pn_0 = pn_1) (fe_0_32_1 : pm_0 = pm_1) (fe_0_53_1 : rounds_0 = rounds_1) (hE_0_33_1 : ∀ j : Int, pt_0 j = pt_1 j) (hE_0_34_1 : ∀ j : Int, ph_0 j = ph_1 j) (hE_0_35_1 : ∀ j : Int, alive_0 j = alive_1 j) (hE_0_36_1 : ∀ j : Int, rotMany_0 j = rotMany_1 j) (hE_0_37_1 : ∀ j : Int, rot_0 j = rot_1 j) (hE_0_54_1 : ∀ j : Int, roundOf_0 j = roundOf_1 j) (hE_0_57_1 : ∀ j : Int, roundDart_0 j = roundDart_1 j) (kz_0_31 : 0 ≤ pn_0 ∧ pn_0 ≤ 25) (kz_0_32 : 0 ≤ pm_0 ∧ pm_0 ≤ 80) (kz_0_53 : 0 ≤ rounds_0 ∧ rounds_0 ≤ 160) (ex2 : gx = 160) : (-1) * x2 + ((-1) * gx + 0) ≤ (-160) := by
  subst fe_0_31_1
  subst fe_0_32_1
  subst fe_0_53_1
  have e_hE_0_33_1 := funext hE_0_33_1; subst e_hE_0_33_1
  have e_hE_0_34_1 := funext hE_0_34_1; subst e_hE_0_34_1
  have e_hE_0_35_1 := funext hE_0_35_1; subst e_hE_0_35_1
  have e_hE_0_36_1 := funext hE_0_36_1; subst e_hE_0_36_1
  have e_hE_0_37_1 := funext hE_0_37_1; subst e_hE_0_37_1
  have e_hE_0_54_1 := funext hE_0_54_1; subst e_hE_0_54_1
  have e_hE_0_57_1 := funext hE_0_57_1; subst e_hE_0_57_1
  first | omega
def o_Mo_goRound_5 : or_T := (79, 15, [(0, (2, 0, 0, [165])), (2, (0, 0, 160, [])), (3, (0, 0, 159, [])), (4, (0, 0, 160, [])), (5, (0, 2, 2, [])), (6, (0, 0, 80, [])), (7, (0, 1, 160, [])), (10, (0, 0, 79, [])), (11, (0, 1, 1, [])), (13, (0, -1, -1, [])), (14, (2, 0, 0, [198]))], [(24, [0, 1], []), (100, [14, 4, 2], []), (9, [4, 1], [53]), (9, [14, 1], [56]), (10, [13, 12, 3], []), (9, [12, 1], [54]), (10, [11, 8, 10], []), (11, [10, 3], [2]), (9, [8, 1], [35]), (3, [7, 5, 6], []), (9, [6, 1], [32]), (20, [1], [60, 2, 2, 75, 31, 32, 33, 34]), (20, [1], [60, 2, 5, 187, 31, 32, 33, 34, 35, 36, 37]), (20, [1, 2, 3], [60, 2, 8, 192, 32, 53, 33, 34, 35, 36, 37, 54, 56, 57])], [], [(0, -2, 161, [])], [(20, [1], [60, 2, 2, 75, 31, 32, 33, 34]), (20, [1], [60, 2, 5, 187, 31, 32, 33, 34, 35, 36, 37]), (20, [1, 2, 3, 3], [60, 2, 8, 194, 32, 53, 33, 34, 35, 36, 37, 54, 56, 57]), (20, [2, 15], [30, -160, -1, 0, 0, -1, 0, 0]), (24, [0, 1], [])], [], [(3, 7, -4294967296, -1)])
theorem oo_Mo_goRound_5 {kA : Nat → ClassId} : or_ok PRD kA GG o_Mo_goRound_5 := by
  refine or_mk fun A ta ws vs hD hth hl => ?_
  intro t0 r0 t2 k2 t3 k3 t4 k4 t5 k5 t6 k6 t7 k7 t10 k10 t11 k11 t13 k13 t14 r14 d0 f2 ta1 w1 le1 s1 f4 f5 f7 f8 f10 f11 f13 f15 f16 f17 f18 f19
  replace f2 := shm_5 f2
  have s1 : (∀ b j, w_el ws b j = if b = v_ad (n_v vs 14) ∧ j = (v_iv (n_v vs 4)).toNat then v_iv (n_v vs 2) else w_el w1 b j) ∧ ∀ b k, w_fd ws b k = w_fd w1 b k := s1.2
  replace f4 := shm_1101 f4
  replace f5 := shm_1102 f5
  replace f7 := shm_106 f7
  replace f8 := shm_1091 f8
  replace f10 := shm_106 f10
  replace f11 := shm_573 f11
  replace f13 := shm_505 f13
  replace f15 := shm_38 f15
  rw [show v_iv (n_v vs 5) = 2 from by omega] at f15
  replace f16 := shm_519 f16
  replace f17 := shm_563 f17
  replace f18 := shm_982 f18
  replace f19 := shm_1100 f19
  have q1 : n_v vs 1 = n_v vs 0 := f2.symm
  simp only [q1] at f4 f5 f8 f13 f16 f17 f18 f19
  have ar_0_33_1 : w_ar w1 (n_v vs 0) 33 = w_ar ws (n_v vs 0) 33 := congrArg v_ad (s1.2 _ _).symm
  have cr_0_33 := fdq_116 hD hth r0
  have ar_0_34_1 : w_ar w1 (n_v vs 0) 34 = w_ar ws (n_v vs 0) 34 := congrArg v_ad (s1.2 _ _).symm
  have cr_0_34 := fdq_117 hD hth r0
  have ar_0_35_1 : w_ar w1 (n_v vs 0) 35 = w_ar ws (n_v vs 0) 35 := congrArg v_ad (s1.2 _ _).symm
  have cr_0_35 := fdq_131 hD hth r0
  have ar_0_36_1 : w_ar w1 (n_v vs 0) 36 = w_ar ws (n_v vs 0) 36 := congrArg v_ad (s1.2 _ _).symm
  have cr_0_36 := fdq_166 hD hth r0
  have ar_0_37_1 : w_ar w1 (n_v vs 0) 37 = w_ar ws (n_v vs 0) 37 := congrArg v_ad (s1.2 _ _).symm
  have cr_0_37 := fdq_167 hD hth r0
  have ar_0_54_1 : w_ar w1 (n_v vs 0) 54 = w_ar ws (n_v vs 0) 54 := congrArg v_ad (s1.2 _ _).symm
  have cr_0_54 := fdq_264 hD hth r0
  have ar_0_56_1 : w_ar w1 (n_v vs 0) 56 = w_ar ws (n_v vs 0) 56 := congrArg v_ad (s1.2 _ _).symm
  have ar_0_57_1 : w_ar w1 (n_v vs 0) 57 = w_ar ws (n_v vs 0) 57 := congrArg v_ad (s1.2 _ _).symm
  have cr_0_57 := fdq_266 hD hth r0
  have ad_14 : v_ad (n_v vs 14) = w_ar ws (n_v vs 0) 56 := (congrArg v_ad f5).trans ar_0_56_1
  have ad_12 : v_ad (n_v vs 12) = w_ar ws (n_v vs 0) 54 := (congrArg v_ad f8).trans ar_0_54_1
  have ad_8 : v_ad (n_v vs 8) = w_ar ws (n_v vs 0) 35 := (congrArg v_ad f13).trans ar_0_35_1
  have g4 : v_iv (n_v vs 4) = w_fi w1 (n_v vs 0) 53 := congrArg v_iv f4
  simp only [ad_12] at f7
  have h7 : v_iv (n_v vs 13) = w_ei w1 (w_ar ws (n_v vs 0) 54) (v_iv (n_v vs 3)) := f7
  simp only [ad_8] at f10
  have h10 : v_iv (n_v vs 11) = w_ei w1 (w_ar ws (n_v vs 0) 35) (v_iv (n_v vs 10)) := f10
  have g16 : v_iv (n_v vs 6) = w_fi w1 (n_v vs 0) 32 := congrArg v_iv f16
  simp only [ar_0_33_1, ar_0_34_1, ar_0_35_1, ar_0_36_1, ar_0_37_1, ar_0_54_1, ar_0_56_1, ar_0_57_1] at f17 f18 f19
  have fe_0_31_1 : w_fi ws (n_v vs 0) 31 = w_fi w1 (n_v vs 0) 31 := congrArg v_iv (s1.2 _ _)
  have fe_0_32_1 : w_fi ws (n_v vs 0) 32 = w_fi w1 (n_v vs 0) 32 := congrArg v_iv (s1.2 _ _)
  have fe_0_53_1 : w_fi ws (n_v vs 0) 53 = w_fi w1 (n_v vs 0) 53 := congrArg v_iv (s1.2 _ _)
  have hE_0_33_1 : ∀ j : Int, w_ei ws (w_ar ws (n_v vs 0) 33) j = w_ei w1 (w_ar ws (n_v vs 0) 33) j := el_kp s1.1 r14 cr_0_33 (by decide)
  have hE_0_34_1 : ∀ j : Int, w_ei ws (w_ar ws (n_v vs 0) 34) j = w_ei w1 (w_ar ws (n_v vs 0) 34) j := el_kp s1.1 r14 cr_0_34 (by decide)
  have hE_0_35_1 : ∀ j : Int, w_ei ws (w_ar ws (n_v vs 0) 35) j = w_ei w1 (w_ar ws (n_v vs 0) 35) j := el_kp s1.1 r14 cr_0_35 (by decide)
  have hE_0_36_1 : ∀ j : Int, w_ei ws (w_ar ws (n_v vs 0) 36) j = w_ei w1 (w_ar ws (n_v vs 0) 36) j := el_kp s1.1 r14 cr_0_36 (by decide)
  have hE_0_37_1 : ∀ j : Int, w_ei ws (w_ar ws (n_v vs 0) 37) j = w_ei w1 (w_ar ws (n_v vs 0) 37) j := el_kp s1.1 r14 cr_0_37 (by decide)
  have hE_0_54_1 : ∀ j : Int, w_ei ws (w_ar ws (n_v vs 0) 54) j = w_ei w1 (w_ar ws (n_v vs 0) 54) j := el_kp s1.1 r14 cr_0_54 (by decide)
  have hE_0_56_1 : ∀ j : Int, 0 ≤ j → (j = v_iv (n_v vs 4) → w_ei ws (w_ar ws (n_v vs 0) 56) j = v_iv (n_v vs 2)) ∧ (j ≠ v_iv (n_v vs 4) → w_ei ws (w_ar ws (n_v vs 0) 56) j = w_ei w1 (w_ar ws (n_v vs 0) 56) j) := fun j hj => ⟨fun h => by unfold w_ei; rw [s1.1, if_pos ⟨ad_14.symm, by rw [h]⟩], fun h => by unfold w_ei; rw [s1.1, if_neg (fun e => h (by have := e.2; omega))]⟩
  have hE_0_57_1 : ∀ j : Int, w_ei ws (w_ar ws (n_v vs 0) 57) j = w_ei w1 (w_ar ws (n_v vs 0) 57) j := el_kp s1.1 r14 cr_0_57 (by decide)
  have kz_0_31 := fdq_144 hD hth r0
  have kz_0_32 := fdq_139 hD hth r0
  have kz_0_53 := fdq_267 hD hth r0
  obtain ⟨x, ex, hx⟩ := iv_ex (ta := ta) (lo := (-2)) (hi := 161) (z := 160) (by omega) (by omega) (by omega) (by omega)
  have ex2 : v_iv (Value.int x) = 160 := ex
  have ex3 : (-2) ≤ v_iv (Value.int x) ∧ v_iv (Value.int x) ≤ 161 := tv_rng hx
  have e_0 : n_v (vs ++ [Value.int x]) 0 = n_v vs 0 := n_v_old (by rw [hl]; decide)
  have e_1 : n_v (vs ++ [Value.int x]) 1 = n_v vs 1 := n_v_old (by rw [hl]; decide)
  have e_2 : n_v (vs ++ [Value.int x]) 2 = n_v vs 2 := n_v_old (by rw [hl]; decide)
  have e_3 : n_v (vs ++ [Value.int x]) 3 = n_v vs 3 := n_v_old (by rw [hl]; decide)
  have e_15 : n_v (vs ++ [Value.int x]) 15 = Value.int x := n_v_new hl
  have nf0 : fc_1 PRD (20, [1], [60, 2, 2, 75, 31, 32, 33, 34]) ws (vs ++ [Value.int x]) := by
    refine ⟨nf_inA hl rfl, sgq_563 ?_⟩
    · show GOK (w_fi ws (n_v (vs ++ [Value.int x]) 1) 31) (w_fi ws (n_v (vs ++ [Value.int x]) 1) 32) (w_ei ws (w_ar ws (n_v (vs ++ [Value.int x]) 1) 33)) (w_ei ws (w_ar ws (n_v (vs ++ [Value.int x]) 1) 34))
      simp only [e_1, q1]
      exact vc_Mo_goRound_5_0 (w_ei ws (w_ar ws (n_v vs 0) 33)) (w_ei ws (w_ar ws (n_v vs 0) 34)) (w_fi ws (n_v vs 0) 31) (w_fi ws (n_v vs 0) 32) (w_ei ws (w_ar ws (n_v vs 0) 35)) (w_ei ws (w_ar ws (n_v vs 0) 36)) (w_ei ws (w_ar ws (n_v vs 0) 37)) (w_fi w1 (n_v vs 0) 53) (w_ei w1 (w_ar ws (n_v vs 0) 54)) (w_ei w1 (w_ar ws (n_v vs 0) 35)) (w_fi w1 (n_v vs 0) 32) (w_ei w1 (w_ar ws (n_v vs 0) 33)) (w_ei w1 (w_ar ws (n_v vs 0) 34)) (w_fi w1 (n_v vs 0) 31) (w_ei w1 (w_ar ws (n_v vs 0) 36)) (w_ei w1 (w_ar ws (n_v vs 0) 37)) (w_ei w1 (w_ar ws (n_v vs 0) 57)) (w_fi ws (n_v vs 0) 53) (w_ei ws (w_ar ws (n_v vs 0) 54)) (w_ei ws (w_ar ws (n_v vs 0) 57)) f17 fe_0_31_1 fe_0_32_1 fe_0_53_1 hE_0_33_1 hE_0_34_1 hE_0_35_1 hE_0_36_1 hE_0_37_1 hE_0_54_1 hE_0_57_1 kz_0_31 kz_0_32 kz_0_53
  have nf1 : fc_1 PRD (20, [1], [60, 2, 5, 187, 31, 32, 33, 34, 35, 36, 37]) ws (vs ++ [Value.int x]) := by
    refine ⟨nf_inA hl rfl, sgq_982 ?_⟩
    · show EML (w_fi ws (n_v (vs ++ [Value.int x]) 1) 31) (w_fi ws (n_v (vs ++ [Value.int x]) 1) 32) (w_ei ws (w_ar ws (n_v (vs ++ [Value.int x]) 1) 33)) (w_ei ws (w_ar ws (n_v (vs ++ [Value.int x]) 1) 34)) (w_ei ws (w_ar ws (n_v (vs ++ [Value.int x]) 1) 35)) (w_ei ws (w_ar ws (n_v (vs ++ [Value.int x]) 1) 36)) (w_ei ws (w_ar ws (n_v (vs ++ [Value.int x]) 1) 37))
      simp only [e_1, q1]
      exact vc_Mo_goRound_5_1 (w_ei ws (w_ar ws (n_v vs 0) 33)) (w_ei ws (w_ar ws (n_v vs 0) 34)) (w_fi ws (n_v vs 0) 31) (w_fi ws (n_v vs 0) 32) (w_ei ws (w_ar ws (n_v vs 0) 35)) (w_ei ws (w_ar ws (n_v vs 0) 36)) (w_ei ws (w_ar ws (n_v vs 0) 37)) (w_fi w1 (n_v vs 0) 53) (w_ei w1 (w_ar ws (n_v vs 0) 54)) (w_ei w1 (w_ar ws (n_v vs 0) 35)) (w_fi w1 (n_v vs 0) 32) (w_ei w1 (w_ar ws (n_v vs 0) 33)) (w_ei w1 (w_ar ws (n_v vs 0) 34)) (w_fi w1 (n_v vs 0) 31) (w_ei w1 (w_ar ws (n_v vs 0) 36)) (w_ei w1 (w_ar ws (n_v vs 0) 37)) (w_ei w1 (w_ar ws (n_v vs 0) 57)) (w_fi ws (n_v vs 0) 53) (w_ei ws (w_ar ws (n_v vs 0) 54)) (w_ei ws (w_ar ws (n_v vs 0) 57)) f18 fe_0_31_1 fe_0_32_1 fe_0_53_1 hE_0_33_1 hE_0_34_1 hE_0_35_1 hE_0_36_1 hE_0_37_1 hE_0_54_1 hE_0_57_1 kz_0_31 kz_0_32 kz_0_53
  have nf2 : fc_1 PRD (20, [1, 2, 3, 3], [60, 2, 8, 194, 32, 53, 33, 34, 35, 36, 37, 54, 56, 57]) ws (vs ++ [Value.int x]) := by
    refine ⟨nf_inA hl rfl, sgq_1104 ?_⟩
    · show GII (w_fi ws (n_v (vs ++ [Value.int x]) 1) 32) (w_fi ws (n_v (vs ++ [Value.int x]) 1) 53) (w_ei ws (w_ar ws (n_v (vs ++ [Value.int x]) 1) 33)) (w_ei ws (w_ar ws (n_v (vs ++ [Value.int x]) 1) 34)) (w_ei ws (w_ar ws (n_v (vs ++ [Value.int x]) 1) 35)) (w_ei ws (w_ar ws (n_v (vs ++ [Value.int x]) 1) 36)) (w_ei ws (w_ar ws (n_v (vs ++ [Value.int x]) 1) 37)) (w_ei ws (w_ar ws (n_v (vs ++ [Value.int x]) 1) 54)) (w_ei ws (w_ar ws (n_v (vs ++ [Value.int x]) 1) 56)) (w_ei ws (w_ar ws (n_v (vs ++ [Value.int x]) 1) 57)) (v_iv (n_v (vs ++ [Value.int x]) 2)) (v_iv (n_v (vs ++ [Value.int x]) 3)) (v_iv (n_v (vs ++ [Value.int x]) 3))
      simp only [e_1, e_2, e_3, q1]
      exact vc_Mo_goRound_5_2 (v_iv (n_v vs 2)) (v_iv (n_v vs 3)) (v_iv (n_v vs 4)) (v_iv (n_v vs 6)) (v_iv (n_v vs 7)) (v_iv (n_v vs 10)) (v_iv (n_v vs 11)) (v_iv (n_v vs 13)) (w_ei ws (w_ar ws (n_v vs 0) 33)) (w_ei ws (w_ar ws (n_v vs 0) 34)) (w_fi ws (n_v vs 0) 31) (w_fi ws (n_v vs 0) 32) (w_ei ws (w_ar ws (n_v vs 0) 35)) (w_ei ws (w_ar ws (n_v vs 0) 36)) (w_ei ws (w_ar ws (n_v vs 0) 37)) (w_fi w1 (n_v vs 0) 53) (w_ei w1 (w_ar ws (n_v vs 0) 54)) (w_ei w1 (w_ar ws (n_v vs 0) 35)) (w_fi w1 (n_v vs 0) 32) (w_ei w1 (w_ar ws (n_v vs 0) 33)) (w_ei w1 (w_ar ws (n_v vs 0) 34)) (w_fi w1 (n_v vs 0) 31) (w_ei w1 (w_ar ws (n_v vs 0) 36)) (w_ei w1 (w_ar ws (n_v vs 0) 37)) (w_ei w1 (w_ar ws (n_v vs 0) 56)) (w_ei w1 (w_ar ws (n_v vs 0) 57)) (w_fi ws (n_v vs 0) 53) (w_ei ws (w_ar ws (n_v vs 0) 54)) (w_ei ws (w_ar ws (n_v vs 0) 56)) (w_ei ws (w_ar ws (n_v vs 0) 57)) k2 k3 k4 k6 k7 k10 k11 k13 d0 g4 h7 h10 f11 f15 g16 f19 fe_0_31_1 fe_0_32_1 fe_0_53_1 hE_0_33_1 hE_0_34_1 hE_0_35_1 hE_0_36_1 hE_0_37_1 hE_0_54_1 hE_0_56_1 hE_0_57_1 kz_0_31 kz_0_32 kz_0_53
  have nf3 : fc_1 PRD (20, [2, 15], [30, -160, -1, 0, 0, -1, 0, 0]) ws (vs ++ [Value.int x]) := by
    refine ⟨nf_inA hl rfl, sgq_1105 ?_⟩
    · show (-1) * v_iv (n_v (vs ++ [Value.int x]) 2) + ((-1) * v_iv (n_v (vs ++ [Value.int x]) 15) + 0) ≤ (-160)
      simp only [e_2, e_15]
      exact vc_Mo_goRound_5_3 (v_iv (n_v vs 2)) (w_ei ws (w_ar ws (n_v vs 0) 33)) (w_ei ws (w_ar ws (n_v vs 0) 34)) (w_fi ws (n_v vs 0) 31) (w_fi ws (n_v vs 0) 32) (w_ei ws (w_ar ws (n_v vs 0) 35)) (w_ei ws (w_ar ws (n_v vs 0) 36)) (w_ei ws (w_ar ws (n_v vs 0) 37)) (w_fi w1 (n_v vs 0) 53) (w_ei w1 (w_ar ws (n_v vs 0) 54)) (w_ei w1 (w_ar ws (n_v vs 0) 35)) (w_fi w1 (n_v vs 0) 32) (w_ei w1 (w_ar ws (n_v vs 0) 33)) (w_ei w1 (w_ar ws (n_v vs 0) 34)) (w_fi w1 (n_v vs 0) 31) (w_ei w1 (w_ar ws (n_v vs 0) 36)) (w_ei w1 (w_ar ws (n_v vs 0) 37)) (w_ei w1 (w_ar ws (n_v vs 0) 57)) (w_fi ws (n_v vs 0) 53) (w_ei ws (w_ar ws (n_v vs 0) 54)) (w_ei ws (w_ar ws (n_v vs 0) 57)) (v_iv (Value.int x)) k2 fe_0_31_1 fe_0_32_1 fe_0_53_1 hE_0_33_1 hE_0_34_1 hE_0_35_1 hE_0_36_1 hE_0_37_1 hE_0_54_1 hE_0_57_1 kz_0_31 kz_0_32 kz_0_53 ex2
  have nf4 : fc_1 PRD (24, [0, 1], []) ws (vs ++ [Value.int x]) := by
    refine ⟨nf_inA hl rfl, sgq_5 ?_⟩
    · show n_v (vs ++ [Value.int x]) 0 = n_v (vs ++ [Value.int x]) 1
      first | rfl | simp only [e_0, e_1, q1]
  exact ⟨(fun _ h => (by cases h)), [Value.int x], ag_one hx, List.forall_mem_cons.mpr ⟨⟨show (20 : Nat) < 100 from by decide, nf0⟩, List.forall_mem_cons.mpr ⟨⟨show (20 : Nat) < 100 from by decide, nf1⟩, List.forall_mem_cons.mpr ⟨⟨show (20 : Nat) < 100 from by decide, nf2⟩, List.forall_mem_cons.mpr ⟨⟨show (20 : Nat) < 100 from by decide, nf3⟩, List.forall_mem_cons.mpr ⟨⟨show (24 : Nat) < 100 from by decide, nf4⟩, (fun _ h => (by cases h))⟩⟩⟩⟩⟩, (fun _ h => (by cases h))⟩
set_option maxHeartbeats 4000000 in
theorem vc_Mo_goRound_6_0 (x2 : Int) (x3 : Int) (x10 : Int) (x13 : Int) (x14 : Int) (roundOf_0 : Int → Int) (alive_0 : Int → Int) (pm_0 : Int) (pt_0 : Int → Int) (ph_0 : Int → Int) (rotMany_0 : Int → Int) (rot_0 : Int → Int) (roundBegin_0 : Int → Int) (roundDart_0 : Int → Int) (rounds_0 : Int) (k2 : 0 ≤ x2 ∧ x2 ≤ 160) (k3 : 0 ≤ x3 ∧ x3 ≤ 159) (k13 : 0 ≤ x13 ∧ x13 ≤ 159) (k14 : 1 ≤ x14 ∧ x14 ≤ 160) (f0 : x14 = x3 + 1) (h2 : x13 = roundOf_0 (x3)) (f14 : GOI (pm_0) (rounds_0) (pt_0) (ph_0) (alive_0) (rotMany_0) (rot_0) (roundOf_0) (roundBegin_0) (roundDart_0) (x2) (x3)) (kz_0_32 : 0 ≤ pm_0 ∧ pm_0 ≤ 80) (kz_0_53 : 0 ≤ rounds_0 ∧ rounds_0 ≤ 160) : GOI (pm_0) (rounds_0) (pt_0) (ph_0) (alive_0) (rotMany_0) (rot_0) (roundOf_0) (roundBegin_0) (roundDart_0) (x2) (x14) := by
  first
    | exact goi_start ‹RO0 _ _› (by omega) (by omega) (by omega) (by omega)
    | exact goi_skip ‹GOI _ _ _ _ _ _ _ _ _ _ _ _› (by omega) (Or.inl (by rw [← (by omega : x10 = x3 / 2)]; omega))
    | exact goi_skip ‹GOI _ _ _ _ _ _ _ _ _ _ _ _› (by omega) (Or.inr (by omega))
    | exact git_end ‹GIT _ _ _ _ _ _ _ _ _ _ _ _ _› (by omega) (by omega) (by omega)
def o_Mo_goRound_6 : or_T := (34, 15, [(0, (2, 0, 0, [165])), (2, (0, 0, 160, [])), (3, (0, 0, 159, [])), (13, (0, 0, 159, [])), (14, (0, 1, 160, []))], [(6, [14, 3], [1]), (10, [13, 12, 3], []), (9, [12, 1], [54]), (20, [1, 2, 3], [60, 2, 8, 192, 32, 53, 33, 34, 35, 36, 37, 54, 56, 57]), (24, [0, 1], [])], [], [], [(20, [1, 2, 14], [60, 2, 8, 192, 32, 53, 33, 34, 35, 36, 37, 54, 56, 57])], [], [])
theorem oo_Mo_goRound_6 {kA : Nat → ClassId} : or_ok PRD kA GG o_Mo_goRound_6 := by
  refine or_mk fun A ta ws vs hD hth hl => ?_
  intro t0 r0 t2 k2 t3 k3 t13 k13 t14 k14 f0 f2 f3 f14 f15
  replace f0 := shm_4 f0
  replace f2 := shm_106 f2
  replace f3 := shm_1091 f3
  replace f14 := shm_1100 f14
  replace f15 := shm_5 f15
  have q1 : n_v vs 1 = n_v vs 0 := f15.symm
  simp only [q1] at f3 f14
  have ad_12 : v_ad (n_v vs 12) = w_ar ws (n_v vs 0) 54 := congrArg v_ad f3
  simp only [ad_12] at f2
  have h2 : v_iv (n_v vs 13) = w_ei ws (w_ar ws (n_v vs 0) 54) (v_iv (n_v vs 3)) := f2
  have kz_0_32 := fdq_139 hD hth r0
  have kz_0_53 := fdq_267 hD hth r0
  have nf0 : fc_1 PRD (20, [1, 2, 14], [60, 2, 8, 192, 32, 53, 33, 34, 35, 36, 37, 54, 56, 57]) ws (vs) := by
    refine ⟨nf_in hl rfl, sgq_1100 ?_⟩
    · show GOI (w_fi ws (n_v vs 1) 32) (w_fi ws (n_v vs 1) 53) (w_ei ws (w_ar ws (n_v vs 1) 33)) (w_ei ws (w_ar ws (n_v vs 1) 34)) (w_ei ws (w_ar ws (n_v vs 1) 35)) (w_ei ws (w_ar ws (n_v vs 1) 36)) (w_ei ws (w_ar ws (n_v vs 1) 37)) (w_ei ws (w_ar ws (n_v vs 1) 54)) (w_ei ws (w_ar ws (n_v vs 1) 56)) (w_ei ws (w_ar ws (n_v vs 1) 57)) (v_iv (n_v vs 2)) (v_iv (n_v vs 14))
      rw [q1]
      exact vc_Mo_goRound_6_0 (v_iv (n_v vs 2)) (v_iv (n_v vs 3)) (v_iv (n_v vs 10)) (v_iv (n_v vs 13)) (v_iv (n_v vs 14)) (w_ei ws (w_ar ws (n_v vs 0) 54)) (w_ei ws (w_ar ws (n_v vs 0) 35)) (w_fi ws (n_v vs 0) 32) (w_ei ws (w_ar ws (n_v vs 0) 33)) (w_ei ws (w_ar ws (n_v vs 0) 34)) (w_ei ws (w_ar ws (n_v vs 0) 36)) (w_ei ws (w_ar ws (n_v vs 0) 37)) (w_ei ws (w_ar ws (n_v vs 0) 56)) (w_ei ws (w_ar ws (n_v vs 0) 57)) (w_fi ws (n_v vs 0) 53) k2 k3 k13 k14 f0 h2 f14 kz_0_32 kz_0_53
  refine ⟨(fun _ h => (by cases h)), [], trivial, ?_, (fun _ h => (by cases h))⟩
  rw [List.append_nil]
  exact List.forall_mem_cons.mpr ⟨⟨show (20 : Nat) < 100 from by decide, nf0⟩, (fun _ h => (by cases h))⟩
set_option maxHeartbeats 4000000 in
theorem vc_Mo_goRound_7_r0 (x2 : Int) (x3 : Int) (x4 : Int) (x7 : Int) (rounds_0 : Int) (pt_0 : Int → Int) (ph_0 : Int → Int) (pm_0 : Int) (alive_0 : Int → Int) (rotMany_0 : Int → Int) (rot_0 : Int → Int) (roundOf_0 : Int → Int) (roundBegin_0 : Int → Int) (roundDart_0 : Int → Int) (k2 : 0 ≤ x2 ∧ x2 ≤ 160) (k3 : 0 ≤ x3 ∧ x3 ≤ 255) (k4 : 0 ≤ x4 ∧ x4 ≤ 159) (k7 : 0 ≤ x7 ∧ x7 ≤ 160) (g0 : x7 = rounds_0) (f4 : GII (pm_0) (rounds_0) (pt_0) (ph_0) (alive_0) (rotMany_0) (rot_0) (roundOf_0) (roundBegin_0) (roundDart_0) (x2) (x3) (x4)) (kz_0_32 : 0 ≤ pm_0 ∧ pm_0 ≤ 80) (kz_0_53 : 0 ≤ rounds_0 ∧ rounds_0 ≤ 160) : 0 ≤ x7 ∧ x7 ≤ 159 := by
  have h := gii_len ‹GII _ _ _ _ _ _ _ _ _ _ _ _ _›
  have h1 := ‹GII _ _ _ _ _ _ _ _ _ _ _ _ _›.1.1.2.1
  have h2 := ‹GII _ _ _ _ _ _ _ _ _ _ _ _ _›.1.2.2.2.1.1
  have h3 := ‹GII _ _ _ _ _ _ _ _ _ _ _ _ _›.1.1.1
  omega
def o_Mo_goRound_7 : or_T := (88, 8, [(0, (2, 0, 0, [165])), (1, (2, 0, 0, [165])), (2, (0, 0, 160, [])), (3, (0, 0, 255, [])), (4, (0, 0, 159, [])), (5, (0, -2, 161, [])), (6, (2, 0, 0, [196])), (7, (0, 0, 160, []))], [(9, [7, 1], [53]), (9, [6, 1], [54]), (20, [1], [60, 2, 2, 75, 31, 32, 33, 34]), (20, [1], [60, 2, 5, 187, 31, 32, 33, 34, 35, 36, 37]), (20, [1, 2, 3, 4], [60, 2, 8, 194, 32, 53, 33, 34, 35, 36, 37, 54, 56, 57]), (20, [2, 5], [30, -160, -1, 0, 0, -1, 0, 0]), (24, [0, 1], [])], [(7, (0, 0, 159, []))], [], [], [], [])
theorem oo_Mo_goRound_7 {kA : Nat → ClassId} : or_ok PRD kA GG o_Mo_goRound_7 := by
  refine or_mk fun A ta ws vs hD hth hl => ?_
  intro t0 r0 t1 r1 t2 k2 t3 k3 t4 k4 t5 k5 t6 r6 t7 k7 f0 f1 f2 f3 f4 f5 f6
  replace f0 := shm_1101 f0
  replace f4 := shm_1106 f4
  replace f6 := shm_5 f6
  have q1 : n_v vs 1 = n_v vs 0 := f6.symm
  simp only [q1] at f0 f4
  have g0 : v_iv (n_v vs 7) = w_fi ws (n_v vs 0) 53 := congrArg v_iv f0
  have kz_0_32 := fdq_139 hD hth r0
  have kz_0_53 := fdq_267 hD hth r0
  have hrf0 : 0 ≤ v_iv (n_v vs 7) ∧ v_iv (n_v vs 7) ≤ 159 := vc_Mo_goRound_7_r0 (v_iv (n_v vs 2)) (v_iv (n_v vs 3)) (v_iv (n_v vs 4)) (v_iv (n_v vs 7)) (w_fi ws (n_v vs 0) 53) (w_ei ws (w_ar ws (n_v vs 0) 33)) (w_ei ws (w_ar ws (n_v vs 0) 34)) (w_fi ws (n_v vs 0) 32) (w_ei ws (w_ar ws (n_v vs 0) 35)) (w_ei ws (w_ar ws (n_v vs 0) 36)) (w_ei ws (w_ar ws (n_v vs 0) 37)) (w_ei ws (w_ar ws (n_v vs 0) 54)) (w_ei ws (w_ar ws (n_v vs 0) 56)) (w_ei ws (w_ar ws (n_v vs 0) 57)) k2 k3 k4 k7 g0 f4 kz_0_32 kz_0_53
  have rf7 : tv_ok ta (0, 0, 159, []) (n_v vs 7) := tv_in t7 (by first | omega | grind) (by first | omega | grind)
  refine ⟨List.forall_mem_cons.mpr ⟨rf7, (fun _ h => (by cases h))⟩, [], trivial, ?_, (fun _ h => (by cases h))⟩
  rw [List.append_nil]
  exact (fun _ h => (by cases h))
set_option maxHeartbeats 4000000 in
theorem vc_Mo_goRound_8_r0 (x2 : Int) (x3 : Int) (x4 : Int) (pt_0 : Int → Int) (ph_0 : Int → Int) (pn_0 : Int) (pm_0 : Int) (alive_0 : Int → Int) (rotMany_0 : Int → Int) (rot_0 : Int → Int) (rounds_1 : Int) (pt_1 : Int → Int) (ph_1 : Int → Int) (pn_1 : Int) (pm_1 : Int) (alive_1 : Int → Int) (rotMany_1 : Int → Int) (rot_1 : Int → Int) (roundOf_1 : Int → Int) (roundBegin_1 : Int → Int) (roundDart_1 : Int → Int) (rounds_0 : Int) (roundBegin_0 : Int → Int) (roundDart_0 : Int → Int) (k2 : 0 ≤ x2 ∧ x2 ≤ 160) (k3 : 0 ≤ x3 ∧ x3 ≤ 255) (k4 : 0 ≤ x4 ∧ x4 ≤ 159) (f10 : GII (pm_1) (rounds_1) (pt_1) (ph_1) (alive_1) (rotMany_1) (rot_1) (roundOf_1) (roundBegin_1) (roundDart_1) (x2) (x3) (x4)) (fe_0_31_1 : pn_0 = pn_1) (fe_0_32_1 : pm_0 = pm_1) (fe_0_53_1 : rounds_0 = rounds_1) (hE_0_33_1 : ∀ j : Int, pt_0 j = pt_1 j) (hE_0_34_1 : ∀ j : Int, ph_0 j = ph_1 j) (hE_0_35_1 : ∀ j : Int, alive_0 j = alive_1 j) (hE_0_36_1 : ∀ j : Int, rotMany_0 j = rotMany_1 j) (hE_0_37_1 : ∀ j : Int, rot_0 j = rot_1 j) (hE_0_56_1 : ∀ j : Int, roundBegin_0 j = roundBegin_1 j) (hE_0_57_1 : ∀ j : Int, roundDart_0 j = roundDart_1 j) (kz_0_31 : 0 ≤ pn_0 ∧ pn_0 ≤ 25) (kz_0_32 : 0 ≤ pm_0 ∧ pm_0 ≤ 80) (kz_0_53 : 0 ≤ rounds_0 ∧ rounds_0 ≤ 160) : 0 ≤ x2 ∧ x2 ≤ 159 := by
  subst fe_0_31_1
  subst fe_0_32_1
  subst fe_0_53_1
  have e_hE_0_33_1 := funext hE_0_33_1; subst e_hE_0_33_1
  have e_hE_0_34_1 := funext hE_0_34_1; subst e_hE_0_34_1
  have e_hE_0_35_1 := funext hE_0_35_1; subst e_hE_0_35_1
  have e_hE_0_36_1 := funext hE_0_36_1; subst e_hE_0_36_1
  have e_hE_0_37_1 := funext hE_0_37_1; subst e_hE_0_37_1
  have e_hE_0_56_1 := funext hE_0_56_1; subst e_hE_0_56_1
  have e_hE_0_57_1 := funext hE_0_57_1; subst e_hE_0_57_1
  have h := gii_len ‹GII _ _ _ _ _ _ _ _ _ _ _ _ _›
  omega
def o_Mo_goRound_8 : or_T := (95, 9, [(0, (2, 0, 0, [165])), (1, (2, 0, 0, [165])), (2, (0, 0, 160, [])), (3, (0, 0, 255, [])), (4, (0, 0, 159, [])), (5, (0, -2, 161, [])), (6, (2, 0, 0, [196])), (7, (0, 0, 159, [])), (8, (2, 0, 0, [199]))], [(9, [8, 1], [57]), (20, [1], [60, 2, 2, 75, 31, 32, 33, 34]), (20, [1], [60, 2, 5, 187, 31, 32, 33, 34, 35, 36, 37]), (20, [2, 5], [30, -160, -1, 0, 0, -1, 0, 0]), (24, [0, 1], []), (100, [6, 4, 7], []), (9, [7, 1], [53]), (9, [6, 1], [54]), (20, [1], [60, 2, 2, 75, 31, 32, 33, 34]), (20, [1], [60, 2, 5, 187, 31, 32, 33, 34, 35, 36, 37]), (20, [1, 2, 3, 4], [60, 2, 8, 194, 32, 53, 33, 34, 35, 36, 37, 54, 56, 57]), (20, [2, 5], [30, -160, -1, 0, 0, -1, 0, 0])], [(2, (0, 0, 159, []))], [], [], [], [])
theorem oo_Mo_goRound_8 {kA : Nat → ClassId} : or_ok PRD kA GG o_Mo_goRound_8 := by
  refine or_mk fun A ta ws vs hD hth hl => ?_
  intro t0 r0 t1 r1 t2 k2 t3 k3 t4 k4 t5 k5 t6 r6 t7 k7 t8 r8 f0 f1 f2 f3 f4 ta1 w1 le1 s1 f6 f7 f8 f9 f10 f11
  replace f4 := shm_5 f4
  have s1 : (∀ b j, w_el ws b j = if b = v_ad (n_v vs 6) ∧ j = (v_iv (n_v vs 4)).toNat then v_iv (n_v vs 7) else w_el w1 b j) ∧ ∀ b k, w_fd ws b k = w_fd w1 b k := s1.2
  replace f10 := shm_1106 f10
  have q1 : n_v vs 1 = n_v vs 0 := f4.symm
  simp only [q1] at f10
  have ar_0_33_1 : w_ar w1 (n_v vs 0) 33 = w_ar ws (n_v vs 0) 33 := congrArg v_ad (s1.2 _ _).symm
  have cr_0_33 := fdq_116 hD hth r0
  have ar_0_34_1 : w_ar w1 (n_v vs 0) 34 = w_ar ws (n_v vs 0) 34 := congrArg v_ad (s1.2 _ _).symm
  have cr_0_34 := fdq_117 hD hth r0
  have ar_0_35_1 : w_ar w1 (n_v vs 0) 35 = w_ar ws (n_v vs 0) 35 := congrArg v_ad (s1.2 _ _).symm
  have cr_0_35 := fdq_131 hD hth r0
  have ar_0_36_1 : w_ar w1 (n_v vs 0) 36 = w_ar ws (n_v vs 0) 36 := congrArg v_ad (s1.2 _ _).symm
  have cr_0_36 := fdq_166 hD hth r0
  have ar_0_37_1 : w_ar w1 (n_v vs 0) 37 = w_ar ws (n_v vs 0) 37 := congrArg v_ad (s1.2 _ _).symm
  have cr_0_37 := fdq_167 hD hth r0
  have ar_0_54_1 : w_ar w1 (n_v vs 0) 54 = w_ar ws (n_v vs 0) 54 := congrArg v_ad (s1.2 _ _).symm
  have ar_0_56_1 : w_ar w1 (n_v vs 0) 56 = w_ar ws (n_v vs 0) 56 := congrArg v_ad (s1.2 _ _).symm
  have cr_0_56 := fdq_265 hD hth r0
  have ar_0_57_1 : w_ar w1 (n_v vs 0) 57 = w_ar ws (n_v vs 0) 57 := congrArg v_ad (s1.2 _ _).symm
  have cr_0_57 := fdq_266 hD hth r0
  simp only [ar_0_33_1, ar_0_34_1, ar_0_35_1, ar_0_36_1, ar_0_37_1, ar_0_54_1, ar_0_56_1, ar_0_57_1] at f10
  have fe_0_31_1 : w_fi ws (n_v vs 0) 31 = w_fi w1 (n_v vs 0) 31 := congrArg v_iv (s1.2 _ _)
  have fe_0_32_1 : w_fi ws (n_v vs 0) 32 = w_fi w1 (n_v vs 0) 32 := congrArg v_iv (s1.2 _ _)
  have fe_0_53_1 : w_fi ws (n_v vs 0) 53 = w_fi w1 (n_v vs 0) 53 := congrArg v_iv (s1.2 _ _)
  have hE_0_33_1 : ∀ j : Int, w_ei ws (w_ar ws (n_v vs 0) 33) j = w_ei w1 (w_ar ws (n_v vs 0) 33) j := el_kp s1.1 r6 cr_0_33 (by decide)
  have hE_0_34_1 : ∀ j : Int, w_ei ws (w_ar ws (n_v vs 0) 34) j = w_ei w1 (w_ar ws (n_v vs 0) 34) j := el_kp s1.1 r6 cr_0_34 (by decide)
  have hE_0_35_1 : ∀ j : Int, w_ei ws (w_ar ws (n_v vs 0) 35) j = w_ei w1 (w_ar ws (n_v vs 0) 35) j := el_kp s1.1 r6 cr_0_35 (by decide)
  have hE_0_36_1 : ∀ j : Int, w_ei ws (w_ar ws (n_v vs 0) 36) j = w_ei w1 (w_ar ws (n_v vs 0) 36) j := el_kp s1.1 r6 cr_0_36 (by decide)
  have hE_0_37_1 : ∀ j : Int, w_ei ws (w_ar ws (n_v vs 0) 37) j = w_ei w1 (w_ar ws (n_v vs 0) 37) j := el_kp s1.1 r6 cr_0_37 (by decide)
  have hE_0_56_1 : ∀ j : Int, w_ei ws (w_ar ws (n_v vs 0) 56) j = w_ei w1 (w_ar ws (n_v vs 0) 56) j := el_kp s1.1 r6 cr_0_56 (by decide)
  have hE_0_57_1 : ∀ j : Int, w_ei ws (w_ar ws (n_v vs 0) 57) j = w_ei w1 (w_ar ws (n_v vs 0) 57) j := el_kp s1.1 r6 cr_0_57 (by decide)
  have kz_0_31 := fdq_144 hD hth r0
  have kz_0_32 := fdq_139 hD hth r0
  have kz_0_53 := fdq_267 hD hth r0
  have hrf0 : 0 ≤ v_iv (n_v vs 2) ∧ v_iv (n_v vs 2) ≤ 159 := vc_Mo_goRound_8_r0 (v_iv (n_v vs 2)) (v_iv (n_v vs 3)) (v_iv (n_v vs 4)) (w_ei ws (w_ar ws (n_v vs 0) 33)) (w_ei ws (w_ar ws (n_v vs 0) 34)) (w_fi ws (n_v vs 0) 31) (w_fi ws (n_v vs 0) 32) (w_ei ws (w_ar ws (n_v vs 0) 35)) (w_ei ws (w_ar ws (n_v vs 0) 36)) (w_ei ws (w_ar ws (n_v vs 0) 37)) (w_fi w1 (n_v vs 0) 53) (w_ei w1 (w_ar ws (n_v vs 0) 33)) (w_ei w1 (w_ar ws (n_v vs 0) 34)) (w_fi w1 (n_v vs 0) 31) (w_fi w1 (n_v vs 0) 32) (w_ei w1 (w_ar ws (n_v vs 0) 35)) (w_ei w1 (w_ar ws (n_v vs 0) 36)) (w_ei w1 (w_ar ws (n_v vs 0) 37)) (w_ei w1 (w_ar ws (n_v vs 0) 54)) (w_ei w1 (w_ar ws (n_v vs 0) 56)) (w_ei w1 (w_ar ws (n_v vs 0) 57)) (w_fi ws (n_v vs 0) 53) (w_ei ws (w_ar ws (n_v vs 0) 56)) (w_ei ws (w_ar ws (n_v vs 0) 57)) k2 k3 k4 f10 fe_0_31_1 fe_0_32_1 fe_0_53_1 hE_0_33_1 hE_0_34_1 hE_0_35_1 hE_0_36_1 hE_0_37_1 hE_0_56_1 hE_0_57_1 kz_0_31 kz_0_32 kz_0_53
  have rf2 : tv_ok ta (0, 0, 159, []) (n_v vs 2) := tv_in t2 (by first | omega | grind) (by first | omega | grind)
  refine ⟨List.forall_mem_cons.mpr ⟨rf2, (fun _ h => (by cases h))⟩, [], trivial, ?_, (fun _ h => (by cases h))⟩
  rw [List.append_nil]
  exact (fun _ h => (by cases h))
set_option maxHeartbeats 4000000 in
theorem vc_Mo_goRound_9_0 (x2 : Int) (x3 : Int) (x4 : Int) (x7 : Int) (x9 : Int) (pt_0 : Int → Int) (ph_0 : Int → Int) (pn_0 : Int) (pm_0 : Int) (alive_0 : Int → Int) (rotMany_0 : Int → Int) (rot_0 : Int → Int) (pt_1 : Int → Int) (ph_1 : Int → Int) (pn_1 : Int) (pm_1 : Int) (alive_1 : Int → Int) (rotMany_1 : Int → Int) (rot_1 : Int → Int) (rounds_2 : Int) (pt_2 : Int → Int) (ph_2 : Int → Int) (pn_2 : Int) (pm_2 : Int) (alive_2 : Int → Int) (rotMany_2 : Int → Int) (rot_2 : Int → Int) (roundOf_2 : Int → Int) (roundBegin_2 : Int → Int) (roundDart_2 : Int → Int) (rounds_0 : Int) (rounds_1 : Int) (roundOf_0 : Int → Int) (roundOf_1 : Int → Int) (roundBegin_0 : Int → Int) (roundBegin_1 : Int → Int) (roundDart_0 : Int → Int) (roundDart_1 : Int → Int) (k2 : 0 ≤ x2 ∧ x2 ≤ 159) (k3 : 0 ≤ x3 ∧ x3 ≤ 255) (k4 : 0 ≤ x4 ∧ x4 ≤ 159) (k7 : 0 ≤ x7 ∧ x7 ≤ 159) (k9 : 1 ≤ x9 ∧ x9 ≤ 160) (f0 : x9 = x2 + 1) (g11 : x7 = rounds_2) (f15 : GII (pm_2) (rounds_2) (pt_2) (ph_2) (alive_2) (rotMany_2) (rot_2) (roundOf_2) (roundBegin_2) (roundDart_2) (x2) (x3) (x4)) (fe_0_31_1 : pn_0 = pn_1) (fe_0_32_1 : pm_0 = pm_1) (fe_0_53_1 : rounds_0 = rounds_1) (fe_0_31_2 : pn_1 = pn_2) (fe_0_32_2 : pm_1 = pm_2) (fe_0_53_2 : rounds_1 = rounds_2) (hE_0_33_1 : ∀ j : Int, pt_0 j = pt_1 j) (hE_0_33_2 : ∀ j : Int, pt_1 j = pt_2 j) (hE_0_34_1 : ∀ j : Int, ph_0 j = ph_1 j) (hE_0_34_2 : ∀ j : Int, ph_1 j = ph_2 j) (hE_0_35_1 : ∀ j : Int, alive_0 j = alive_1 j) (hE_0_35_2 : ∀ j : Int, alive_1 j = alive_2 j) (hE_0_36_1 : ∀ j : Int, rotMany_0 j = rotMany_1 j) (hE_0_36_2 : ∀ j : Int, rotMany_1 j = rotMany_2 j) (hE_0_37_1 : ∀ j : Int, rot_0 j = rot_1 j) (hE_0_37_2 : ∀ j : Int, rot_1 j = rot_2 j) (hE_0_54_1 : ∀ j : Int, roundOf_0 j = roundOf_1 j) (hE_0_54_2 : ∀ j : Int, 0 ≤ j → (j = x4 → roundOf_1 j = x7) ∧ (j ≠ x4 → roundOf_1 j = roundOf_2 j)) (hE_0_56_1 : ∀ j : Int, roundBegin_0 j = roundBegin_1 j) (hE_0_56_2 : ∀ j : Int, roundBegin_1 j = roundBegin_2 j) (hE_0_57_1 : ∀ j : Int, 0 ≤ j → (j = x2 → roundDart_0 j = x4) ∧ (j ≠ x2 → roundDart_0 j = roundDart_1 j)) (hE_0_57_2 : ∀ j : Int, roundDart_1 j = roundDart_2 j) (kz_0_31 : 0 ≤ pn_0 ∧ pn_0 ≤ 25) (kz_0_32 : 0 ≤ pm_0 ∧ pm_0 ≤ 80) (kz_0_53 : 0 ≤ rounds_0 ∧ rounds_0 ≤ 160) : GIA (pm_0) (rounds_0) (pt_0) (ph_0) (alive_0) (rotMany_0) (rot_0) (roundOf_0) (roundBegin_0) (roundDart_0) (x9) (x3) (x4) := by
  subst fe_0_31_1
  subst fe_0_32_1
  subst fe_0_53_1
  subst fe_0_31_2
  subst fe_0_32_2
  subst fe_0_53_2
  have e_hE_0_33_1 := funext hE_0_33_1; subst e_hE_0_33_1
  have e_hE_0_33_2 := funext hE_0_33_2; subst e_hE_0_33_2
  have e_hE_0_34_1 := funext hE_0_34_1; subst e_hE_0_34_1
  have e_hE_0_34_2 := funext hE_0_34_2; subst e_hE_0_34_2
  have e_hE_0_35_1 := funext hE_0_35_1; subst e_hE_0_35_1
  have e_hE_0_35_2 := funext hE_0_35_2; subst e_hE_0_35_2
  have e_hE_0_36_1 := funext hE_0_36_1; subst e_hE_0_36_1
  have e_hE_0_36_2 := funext hE_0_36_2; subst e_hE_0_36_2
  have e_hE_0_37_1 := funext hE_0_37_1; subst e_hE_0_37_1
  have e_hE_0_37_2 := funext hE_0_37_2; subst e_hE_0_37_2
  have e_hE_0_54_1 := funext hE_0_54_1; subst e_hE_0_54_1
  have e_hE_0_56_1 := funext hE_0_56_1; subst e_hE_0_56_1
  have e_hE_0_56_2 := funext hE_0_56_2; subst e_hE_0_56_2
  have e_hE_0_57_2 := funext hE_0_57_2; subst e_hE_0_57_2
  exact gii_app ‹GII _ _ _ _ _ _ _ _ _ _ _ _ _› hE_0_54_2 rfl (by omega) hE_0_57_1 rfl rfl (by omega)
set_option maxHeartbeats 4000000 in
theorem vc_Mo_goRound_9_1 (x2 : Int) (x3 : Int) (x4 : Int) (pt_0 : Int → Int) (ph_0 : Int → Int) (pn_0 : Int) (pm_0 : Int) (alive_0 : Int → Int) (rotMany_0 : Int → Int) (rot_0 : Int → Int) (pt_1 : Int → Int) (ph_1 : Int → Int) (pn_1 : Int) (pm_1 : Int) (alive_1 : Int → Int) (rotMany_1 : Int → Int) (rot_1 : Int → Int) (rounds_2 : Int) (pt_2 : Int → Int) (ph_2 : Int → Int) (pn_2 : Int) (pm_2 : Int) (alive_2 : Int → Int) (rotMany_2 : Int → Int) (rot_2 : Int → Int) (roundOf_2 : Int → Int) (roundBegin_2 : Int → Int) (roundDart_2 : Int → Int) (rounds_0 : Int) (rounds_1 : Int) (roundOf_0 : Int → Int) (roundOf_1 : Int → Int) (roundBegin_0 : Int → Int) (roundBegin_1 : Int → Int) (roundDart_1 : Int → Int) (k2 : 0 ≤ x2 ∧ x2 ≤ 159) (k3 : 0 ≤ x3 ∧ x3 ≤ 255) (k4 : 0 ≤ x4 ∧ x4 ≤ 159) (f15 : GII (pm_2) (rounds_2) (pt_2) (ph_2) (alive_2) (rotMany_2) (rot_2) (roundOf_2) (roundBegin_2) (roundDart_2) (x2) (x3) (x4)) (fe_0_31_1 : pn_0 = pn_1) (fe_0_32_1 : pm_0 = pm_1) (fe_0_53_1 : rounds_0 = rounds_1) (fe_0_31_2 : pn_1 = pn_2) (fe_0_32_2 : pm_1 = pm_2) (fe_0_53_2 : rounds_1 = rounds_2) (hE_0_33_1 : ∀ j : Int, pt_0 j = pt_1 j) (hE_0_33_2 : ∀ j : Int, pt_1 j = pt_2 j) (hE_0_34_1 : ∀ j : Int, ph_0 j = ph_1 j) (hE_0_34_2 : ∀ j : Int, ph_1 j = ph_2 j) (hE_0_35_1 : ∀ j : Int, alive_0 j = alive_1 j) (hE_0_35_2 : ∀ j : Int, alive_1 j = alive_2 j) (hE_0_36_1 : ∀ j : Int, rotMany_0 j = rotMany_1 j) (hE_0_36_2 : ∀ j : Int, rotMany_1 j = rotMany_2 j) (hE_0_37_1 : ∀ j : Int, rot_0 j = rot_1 j) (hE_0_37_2 : ∀ j : Int, rot_1 j = rot_2 j) (hE_0_54_1 : ∀ j : Int, roundOf_0 j = roundOf_1 j) (hE_0_56_1 : ∀ j : Int, roundBegin_0 j = roundBegin_1 j) (hE_0_56_2 : ∀ j : Int, roundBegin_1 j = roundBegin_2 j) (hE_0_57_2 : ∀ j : Int, roundDart_1 j = roundDart_2 j) (kz_0_31 : 0 ≤ pn_0 ∧ pn_0 ≤ 25) (kz_0_32 : 0 ≤ pm_0 ∧ pm_0 ≤ 80) (kz_0_53 : 0 ≤ rounds_0 ∧ rounds_0 ≤ 160) : LIV (pm_0) (alive_0) (x4) := by
  subst fe_0_31_1
  subst fe_0_32_1
  subst fe_0_53_1
  subst fe_0_31_2
  subst fe_0_32_2
  subst fe_0_53_2
  have e_hE_0_33_1 := funext hE_0_33_1; subst e_hE_0_33_1
  have e_hE_0_33_2 := funext hE_0_33_2; subst e_hE_0_33_2
  have e_hE_0_34_1 := funext hE_0_34_1; subst e_hE_0_34_1
  have e_hE_0_34_2 := funext hE_0_34_2; subst e_hE_0_34_2
  have e_hE_0_35_1 := funext hE_0_35_1; subst e_hE_0_35_1
  have e_hE_0_35_2 := funext hE_0_35_2; subst e_hE_0_35_2
  have e_hE_0_36_1 := funext hE_0_36_1; subst e_hE_0_36_1
  have e_hE_0_36_2 := funext hE_0_36_2; subst e_hE_0_36_2
  have e_hE_0_37_1 := funext hE_0_37_1; subst e_hE_0_37_1
  have e_hE_0_37_2 := funext hE_0_37_2; subst e_hE_0_37_2
  have e_hE_0_54_1 := funext hE_0_54_1; subst e_hE_0_54_1
  have e_hE_0_56_1 := funext hE_0_56_1; subst e_hE_0_56_1
  have e_hE_0_56_2 := funext hE_0_56_2; subst e_hE_0_56_2
  have e_hE_0_57_2 := funext hE_0_57_2; subst e_hE_0_57_2
  exact (gii_len ‹GII _ _ _ _ _ _ _ _ _ _ _ _ _›).2.2.2.2
def o_Mo_goRound_9 : or_T := (101, 10, [(0, (2, 0, 0, [165])), (2, (0, 0, 159, [])), (3, (0, 0, 255, [])), (4, (0, 0, 159, [])), (6, (2, 0, 0, [196])), (7, (0, 0, 159, [])), (8, (2, 0, 0, [199])), (9, (0, 1, 160, []))], [(6, [9, 2], [1]), (24, [0, 1], []), (100, [8, 2, 4], []), (9, [8, 1], [57]), (100, [6, 4, 7], []), (9, [7, 1], [53]), (9, [6, 1], [54]), (20, [1, 2, 3, 4], [60, 2, 8, 194, 32, 53, 33, 34, 35, 36, 37, 54, 56, 57])], [], [], [(20, [1, 9, 3, 4], [60, 2, 8, 195, 32, 53, 33, 34, 35, 36, 37, 54, 56, 57]), (20, [1, 4], [60, 1, 1, 190, 32, 35])], [], [(9, 2, 1, 1)])
theorem oo_Mo_goRound_9 {kA : Nat → ClassId} : or_ok PRD kA GG o_Mo_goRound_9 := by
  refine or_mk fun A ta ws vs hD hth hl => ?_
  intro t0 r0 t2 k2 t3 k3 t4 k4 t6 r6 t7 k7 t8 r8 t9 k9 d0 f0 f4 ta1 w1 le1 s1 f6 ta2 w2 le2 s2 f11 f12 f15
  replace f0 := shm_4 f0
  replace f4 := shm_5 f4
  have s1 : (∀ b j, w_el ws b j = if b = v_ad (n_v vs 8) ∧ j = (v_iv (n_v vs 2)).toNat then v_iv (n_v vs 4) else w_el w1 b j) ∧ ∀ b k, w_fd ws b k = w_fd w1 b k := s1.2
  replace f6 := shm_1107 f6
  have s2 : (∀ b j, w_el w1 b j = if b = v_ad (n_v vs 6) ∧ j = (v_iv (n_v vs 4)).toNat then v_iv (n_v vs 7) else w_el w2 b j) ∧ ∀ b k, w_fd w1 b k = w_fd w2 b k := s2.2
  replace f11 := shm_1101 f11
  replace f12 := shm_1091 f12
  replace f15 := shm_1106 f15
  have q1 : n_v vs 1 = n_v vs 0 := f4.symm
  simp only [q1] at f6 f11 f12 f15
  have ar_0_33_1 : w_ar w1 (n_v vs 0) 33 = w_ar ws (n_v vs 0) 33 := congrArg v_ad (s1.2 _ _).symm
  have ar_0_33_2 : w_ar w2 (n_v vs 0) 33 = w_ar ws (n_v vs 0) 33 := by rw [← ar_0_33_1]; show v_ad (w_fd w2 _ _) = v_ad (w_fd w1 _ _); rw [s2.2]
  have cr_0_33 := fdq_116 hD hth r0
  have ar_0_34_1 : w_ar w1 (n_v vs 0) 34 = w_ar ws (n_v vs 0) 34 := congrArg v_ad (s1.2 _ _).symm
  have ar_0_34_2 : w_ar w2 (n_v vs 0) 34 = w_ar ws (n_v vs 0) 34 := by rw [← ar_0_34_1]; show v_ad (w_fd w2 _ _) = v_ad (w_fd w1 _ _); rw [s2.2]
  have cr_0_34 := fdq_117 hD hth r0
  have ar_0_35_1 : w_ar w1 (n_v vs 0) 35 = w_ar ws (n_v vs 0) 35 := congrArg v_ad (s1.2 _ _).symm
  have ar_0_35_2 : w_ar w2 (n_v vs 0) 35 = w_ar ws (n_v vs 0) 35 := by rw [← ar_0_35_1]; show v_ad (w_fd w2 _ _) = v_ad (w_fd w1 _ _); rw [s2.2]
  have cr_0_35 := fdq_131 hD hth r0
  have ar_0_36_1 : w_ar w1 (n_v vs 0) 36 = w_ar ws (n_v vs 0) 36 := congrArg v_ad (s1.2 _ _).symm
  have ar_0_36_2 : w_ar w2 (n_v vs 0) 36 = w_ar ws (n_v vs 0) 36 := by rw [← ar_0_36_1]; show v_ad (w_fd w2 _ _) = v_ad (w_fd w1 _ _); rw [s2.2]
  have cr_0_36 := fdq_166 hD hth r0
  have ar_0_37_1 : w_ar w1 (n_v vs 0) 37 = w_ar ws (n_v vs 0) 37 := congrArg v_ad (s1.2 _ _).symm
  have ar_0_37_2 : w_ar w2 (n_v vs 0) 37 = w_ar ws (n_v vs 0) 37 := by rw [← ar_0_37_1]; show v_ad (w_fd w2 _ _) = v_ad (w_fd w1 _ _); rw [s2.2]
  have cr_0_37 := fdq_167 hD hth r0
  have ar_0_54_1 : w_ar w1 (n_v vs 0) 54 = w_ar ws (n_v vs 0) 54 := congrArg v_ad (s1.2 _ _).symm
  have ar_0_54_2 : w_ar w2 (n_v vs 0) 54 = w_ar ws (n_v vs 0) 54 := by rw [← ar_0_54_1]; show v_ad (w_fd w2 _ _) = v_ad (w_fd w1 _ _); rw [s2.2]
  have cr_0_54 := fdq_264 hD hth r0
  have ar_0_56_1 : w_ar w1 (n_v vs 0) 56 = w_ar ws (n_v vs 0) 56 := congrArg v_ad (s1.2 _ _).symm
  have ar_0_56_2 : w_ar w2 (n_v vs 0) 56 = w_ar ws (n_v vs 0) 56 := by rw [← ar_0_56_1]; show v_ad (w_fd w2 _ _) = v_ad (w_fd w1 _ _); rw [s2.2]
  have cr_0_56 := fdq_265 hD hth r0
  have ar_0_57_1 : w_ar w1 (n_v vs 0) 57 = w_ar ws (n_v vs 0) 57 := congrArg v_ad (s1.2 _ _).symm
  have ar_0_57_2 : w_ar w2 (n_v vs 0) 57 = w_ar ws (n_v vs 0) 57 := by rw [← ar_0_57_1]; show v_ad (w_fd w2 _ _) = v_ad (w_fd w1 _ _); rw [s2.2]
  have cr_0_57 := fdq_266 hD hth r0
  have ad_8 : v_ad (n_v vs 8) = w_ar ws (n_v vs 0) 57 := (congrArg v_ad f6).trans ar_0_57_1
  have ad_6 : v_ad (n_v vs 6) = w_ar ws (n_v vs 0) 54 := (congrArg v_ad f12).trans ar_0_54_2
  have g11 : v_iv (n_v vs 7) = w_fi w2 (n_v vs 0) 53 := congrArg v_iv f11
  simp only [ar_0_33_2, ar_0_34_2, ar_0_35_2, ar_0_36_2, ar_0_37_2, ar_0_54_2, ar_0_56_2, ar_0_57_2] at f15
  have fe_0_31_1 : w_fi ws (n_v vs 0) 31 = w_fi w1 (n_v vs 0) 31 := congrArg v_iv (s1.2 _ _)
  have fe_0_32_1 : w_fi ws (n_v vs 0) 32 = w_fi w1 (n_v vs 0) 32 := congrArg v_iv (s1.2 _ _)
  have fe_0_53_1 : w_fi ws (n_v vs 0) 53 = w_fi w1 (n_v vs 0) 53 := congrArg v_iv (s1.2 _ _)
  have fe_0_31_2 : w_fi w1 (n_v vs 0) 31 = w_fi w2 (n_v vs 0) 31 := congrArg v_iv (s2.2 _ _)
  have fe_0_32_2 : w_fi w1 (n_v vs 0) 32 = w_fi w2 (n_v vs 0) 32 := congrArg v_iv (s2.2 _ _)
  have fe_0_53_2 : w_fi w1 (n_v vs 0) 53 = w_fi w2 (n_v vs 0) 53 := congrArg v_iv (s2.2 _ _)
  have hE_0_33_1 : ∀ j : Int, w_ei ws (w_ar ws (n_v vs 0) 33) j = w_ei w1 (w_ar ws (n_v vs 0) 33) j := el_kp s1.1 r8 cr_0_33 (by decide)
  have hE_0_33_2 : ∀ j : Int, w_ei w1 (w_ar ws (n_v vs 0) 33) j = w_ei w2 (w_ar ws (n_v vs 0) 33) j := el_kp s2.1 r6 cr_0_33 (by decide)
  have hE_0_34_1 : ∀ j : Int, w_ei ws (w_ar ws (n_v vs 0) 34) j = w_ei w1 (w_ar ws (n_v vs 0) 34) j := el_kp s1.1 r8 cr_0_34 (by decide)
  have hE_0_34_2 : ∀ j : Int, w_ei w1 (w_ar ws (n_v vs 0) 34) j = w_ei w2 (w_ar ws (n_v vs 0) 34) j := el_kp s2.1 r6 cr_0_34 (by decide)
  have hE_0_35_1 : ∀ j : Int, w_ei ws (w_ar ws (n_v vs 0) 35) j = w_ei w1 (w_ar ws (n_v vs 0) 35) j := el_kp s1.1 r8 cr_0_35 (by decide)
  have hE_0_35_2 : ∀ j : Int, w_ei w1 (w_ar ws (n_v vs 0) 35) j = w_ei w2 (w_ar ws (n_v vs 0) 35) j := el_kp s2.1 r6 cr_0_35 (by decide)
  have hE_0_36_1 : ∀ j : Int, w_ei ws (w_ar ws (n_v vs 0) 36) j = w_ei w1 (w_ar ws (n_v vs 0) 36) j := el_kp s1.1 r8 cr_0_36 (by decide)
  have hE_0_36_2 : ∀ j : Int, w_ei w1 (w_ar ws (n_v vs 0) 36) j = w_ei w2 (w_ar ws (n_v vs 0) 36) j := el_kp s2.1 r6 cr_0_36 (by decide)
  have hE_0_37_1 : ∀ j : Int, w_ei ws (w_ar ws (n_v vs 0) 37) j = w_ei w1 (w_ar ws (n_v vs 0) 37) j := el_kp s1.1 r8 cr_0_37 (by decide)
  have hE_0_37_2 : ∀ j : Int, w_ei w1 (w_ar ws (n_v vs 0) 37) j = w_ei w2 (w_ar ws (n_v vs 0) 37) j := el_kp s2.1 r6 cr_0_37 (by decide)
  have hE_0_54_1 : ∀ j : Int, w_ei ws (w_ar ws (n_v vs 0) 54) j = w_ei w1 (w_ar ws (n_v vs 0) 54) j := el_kp s1.1 r8 cr_0_54 (by decide)
  have hE_0_54_2 : ∀ j : Int, 0 ≤ j → (j = v_iv (n_v vs 4) → w_ei w1 (w_ar ws (n_v vs 0) 54) j = v_iv (n_v vs 7)) ∧ (j ≠ v_iv (n_v vs 4) → w_ei w1 (w_ar ws (n_v vs 0) 54) j = w_ei w2 (w_ar ws (n_v vs 0) 54) j) := fun j hj => ⟨fun h => by unfold w_ei; rw [s2.1, if_pos ⟨ad_6.symm, by rw [h]⟩], fun h => by unfold w_ei; rw [s2.1, if_neg (fun e => h (by have := e.2; omega))]⟩
  have hE_0_56_1 : ∀ j : Int, w_ei ws (w_ar ws (n_v vs 0) 56) j = w_ei w1 (w_ar ws (n_v vs 0) 56) j := el_kp s1.1 r8 cr_0_56 (by decide)
  have hE_0_56_2 : ∀ j : Int, w_ei w1 (w_ar ws (n_v vs 0) 56) j = w_ei w2 (w_ar ws (n_v vs 0) 56) j := el_kp s2.1 r6 cr_0_56 (by decide)
  have hE_0_57_1 : ∀ j : Int, 0 ≤ j → (j = v_iv (n_v vs 2) → w_ei ws (w_ar ws (n_v vs 0) 57) j = v_iv (n_v vs 4)) ∧ (j ≠ v_iv (n_v vs 2) → w_ei ws (w_ar ws (n_v vs 0) 57) j = w_ei w1 (w_ar ws (n_v vs 0) 57) j) := fun j hj => ⟨fun h => by unfold w_ei; rw [s1.1, if_pos ⟨ad_8.symm, by rw [h]⟩], fun h => by unfold w_ei; rw [s1.1, if_neg (fun e => h (by have := e.2; omega))]⟩
  have hE_0_57_2 : ∀ j : Int, w_ei w1 (w_ar ws (n_v vs 0) 57) j = w_ei w2 (w_ar ws (n_v vs 0) 57) j := el_kp s2.1 r6 cr_0_57 (by decide)
  have kz_0_31 := fdq_144 hD hth r0
  have kz_0_32 := fdq_139 hD hth r0
  have kz_0_53 := fdq_267 hD hth r0
  have nf0 : fc_1 PRD (20, [1, 9, 3, 4], [60, 2, 8, 195, 32, 53, 33, 34, 35, 36, 37, 54, 56, 57]) ws (vs) := by
    refine ⟨nf_in hl rfl, sgq_1108 ?_⟩
    · show GIA (w_fi ws (n_v vs 1) 32) (w_fi ws (n_v vs 1) 53) (w_ei ws (w_ar ws (n_v vs 1) 33)) (w_ei ws (w_ar ws (n_v vs 1) 34)) (w_ei ws (w_ar ws (n_v vs 1) 35)) (w_ei ws (w_ar ws (n_v vs 1) 36)) (w_ei ws (w_ar ws (n_v vs 1) 37)) (w_ei ws (w_ar ws (n_v vs 1) 54)) (w_ei ws (w_ar ws (n_v vs 1) 56)) (w_ei ws (w_ar ws (n_v vs 1) 57)) (v_iv (n_v vs 9)) (v_iv (n_v vs 3)) (v_iv (n_v vs 4))
      rw [q1]
      exact vc_Mo_goRound_9_0 (v_iv (n_v vs 2)) (v_iv (n_v vs 3)) (v_iv (n_v vs 4)) (v_iv (n_v vs 7)) (v_iv (n_v vs 9)) (w_ei ws (w_ar ws (n_v vs 0) 33)) (w_ei ws (w_ar ws (n_v vs 0) 34)) (w_fi ws (n_v vs 0) 31) (w_fi ws (n_v vs 0) 32) (w_ei ws (w_ar ws (n_v vs 0) 35)) (w_ei ws (w_ar ws (n_v vs 0) 36)) (w_ei ws (w_ar ws (n_v vs 0) 37)) (w_ei w1 (w_ar ws (n_v vs 0) 33)) (w_ei w1 (w_ar ws (n_v vs 0) 34)) (w_fi w1 (n_v vs 0) 31) (w_fi w1 (n_v vs 0) 32) (w_ei w1 (w_ar ws (n_v vs 0) 35)) (w_ei w1 (w_ar ws (n_v vs 0) 36)) (w_ei w1 (w_ar ws (n_v vs 0) 37)) (w_fi w2 (n_v vs 0) 53) (w_ei w2 (w_ar ws (n_v vs 0) 33)) (w_ei w2 (w_ar ws (n_v vs 0) 34)) (w_fi w2 (n_v vs 0) 31) (w_fi w2 (n_v vs 0) 32) (w_ei w2 (w_ar ws (n_v vs 0) 35)) (w_ei w2 (w_ar ws (n_v vs 0) 36)) (w_ei w2 (w_ar ws (n_v vs 0) 37)) (w_ei w2 (w_ar ws (n_v vs 0) 54)) (w_ei w2 (w_ar ws (n_v vs 0) 56)) (w_ei w2 (w_ar ws (n_v vs 0) 57)) (w_fi ws (n_v vs 0) 53) (w_fi w1 (n_v vs 0) 53) (w_ei ws (w_ar ws (n_v vs 0) 54)) (w_ei w1 (w_ar ws (n_v vs 0) 54)) (w_ei ws (w_ar ws (n_v vs 0) 56)) (w_ei w1 (w_ar ws (n_v vs 0) 56)) (w_ei ws (w_ar ws (n_v vs 0) 57)) (w_ei w1 (w_ar ws (n_v vs 0) 57)) k2 k3 k4 k7 k9 f0 g11 f15 fe_0_31_1 fe_0_32_1 fe_0_53_1 fe_0_31_2 fe_0_32_2 fe_0_53_2 hE_0_33_1 hE_0_33_2 hE_0_34_1 hE_0_34_2 hE_0_35_1 hE_0_35_2 hE_0_36_1 hE_0_36_2 hE_0_37_1 hE_0_37_2 hE_0_54_1 hE_0_54_2 hE_0_56_1 hE_0_56_2 hE_0_57_1 hE_0_57_2 kz_0_31 kz_0_32 kz_0_53
  have nf1 : fc_1 PRD (20, [1, 4], [60, 1, 1, 190, 32, 35]) ws (vs) := by
    refine ⟨nf_in hl rfl, sgq_983 ?_⟩
    · show LIV (w_fi ws (n_v vs 1) 32) (w_ei ws (w_ar ws (n_v vs 1) 35)) (v_iv (n_v vs 4))
      rw [q1]
      exact vc_Mo_goRound_9_1 (v_iv (n_v vs 2)) (v_iv (n_v vs 3)) (v_iv (n_v vs 4)) (w_ei ws (w_ar ws (n_v vs 0) 33)) (w_ei ws (w_ar ws (n_v vs 0) 34)) (w_fi ws (n_v vs 0) 31) (w_fi ws (n_v vs 0) 32) (w_ei ws (w_ar ws (n_v vs 0) 35)) (w_ei ws (w_ar ws (n_v vs 0) 36)) (w_ei ws (w_ar ws (n_v vs 0) 37)) (w_ei w1 (w_ar ws (n_v vs 0) 33)) (w_ei w1 (w_ar ws (n_v vs 0) 34)) (w_fi w1 (n_v vs 0) 31) (w_fi w1 (n_v vs 0) 32) (w_ei w1 (w_ar ws (n_v vs 0) 35)) (w_ei w1 (w_ar ws (n_v vs 0) 36)) (w_ei w1 (w_ar ws (n_v vs 0) 37)) (w_fi w2 (n_v vs 0) 53) (w_ei w2 (w_ar ws (n_v vs 0) 33)) (w_ei w2 (w_ar ws (n_v vs 0) 34)) (w_fi w2 (n_v vs 0) 31) (w_fi w2 (n_v vs 0) 32) (w_ei w2 (w_ar ws (n_v vs 0) 35)) (w_ei w2 (w_ar ws (n_v vs 0) 36)) (w_ei w2 (w_ar ws (n_v vs 0) 37)) (w_ei w2 (w_ar ws (n_v vs 0) 54)) (w_ei w2 (w_ar ws (n_v vs 0) 56)) (w_ei w2 (w_ar ws (n_v vs 0) 57)) (w_fi ws (n_v vs 0) 53) (w_fi w1 (n_v vs 0) 53) (w_ei ws (w_ar ws (n_v vs 0) 54)) (w_ei w1 (w_ar ws (n_v vs 0) 54)) (w_ei ws (w_ar ws (n_v vs 0) 56)) (w_ei w1 (w_ar ws (n_v vs 0) 56)) (w_ei w1 (w_ar ws (n_v vs 0) 57)) k2 k3 k4 f15 fe_0_31_1 fe_0_32_1 fe_0_53_1 fe_0_31_2 fe_0_32_2 fe_0_53_2 hE_0_33_1 hE_0_33_2 hE_0_34_1 hE_0_34_2 hE_0_35_1 hE_0_35_2 hE_0_36_1 hE_0_36_2 hE_0_37_1 hE_0_37_2 hE_0_54_1 hE_0_56_1 hE_0_56_2 hE_0_57_2 kz_0_31 kz_0_32 kz_0_53
  refine ⟨(fun _ h => (by cases h)), [], trivial, ?_, (fun _ h => (by cases h))⟩
  rw [List.append_nil]
  exact List.forall_mem_cons.mpr ⟨⟨show (20 : Nat) < 100 from by decide, nf0⟩, List.forall_mem_cons.mpr ⟨⟨show (20 : Nat) < 100 from by decide, nf1⟩, (fun _ h => (by cases h))⟩⟩
set_option maxHeartbeats 4000000 in
theorem vc_Mo_goRound_10_0 (pt_0 : Int → Int) (ph_0 : Int → Int) (rotMany_0 : Int → Int) (rot_0 : Int → Int) (pm_0 : Int) (alive_0 : Int → Int) (roundOf_0 : Int → Int) (roundBegin_0 : Int → Int) (rounds_0 : Int) (pn_0 : Int) (pt_1 : Int → Int) (ph_1 : Int → Int) (pn_1 : Int) (pm_1 : Int) (alive_1 : Int → Int) (rotMany_1 : Int → Int) (rot_1 : Int → Int) (rounds_2 : Int) (pt_2 : Int → Int) (ph_2 : Int → Int) (pn_2 : Int) (pm_2 : Int) (alive_2 : Int → Int) (rotMany_2 : Int → Int) (rot_2 : Int → Int) (roundBegin_2 : Int → Int) (roundDart_2 : Int → Int) (rounds_1 : Int) (roundOf_1 : Int → Int) (roundBegin_1 : Int → Int) (roundDart_1 : Int → Int) (f16 : GOK (pn_2) (pm_2) (pt_2) (ph_2)) (fe_0_31_1 : pn_0 = pn_1) (fe_0_32_1 : pm_0 = pm_1) (fe_0_53_1 : rounds_0 = rounds_1) (fe_0_31_2 : pn_1 = pn_2) (fe_0_32_2 : pm_1 = pm_2) (fe_0_53_2 : rounds_1 = rounds_2) (hE_0_33_1 : ∀ j : Int, pt_0 j = pt_1 j) (hE_0_33_2 : ∀ j : Int, pt_1 j = pt_2 j) (hE_0_34_1 : ∀ j : Int, ph_0 j = ph_1 j) (hE_0_34_2 : ∀ j : Int, ph_1 j = ph_2 j) (hE_0_35_1 : ∀ j : Int, alive_0 j = alive_1 j) (hE_0_35_2 : ∀ j : Int, alive_1 j = alive_2 j) (hE_0_36_1 : ∀ j : Int, rotMany_0 j = rotMany_1 j) (hE_0_36_2 : ∀ j : Int, rotMany_1 j = rotMany_2 j) (hE_0_37_1 : ∀ j : Int, rot_0 j = rot_1 j) (hE_0_37_2 : ∀ j : Int, rot_1 j = rot_2 j) (hE_0_54_1 : ∀ j : Int, roundOf_0 j = roundOf_1 j) (hE_0_56_1 : ∀ j : Int, roundBegin_0 j = roundBegin_1 j) (hE_0_56_2 : ∀ j : Int, roundBegin_1 j = roundBegin_2 j) (hE_0_57_2 : ∀ j : Int, roundDart_1 j = roundDart_2 j) (kz_0_31 : 0 ≤ pn_0 ∧ pn_0 ≤ 25) (kz_0_32 : 0 ≤ pm_0 ∧ pm_0 ≤ 80) (kz_0_53 : 0 ≤ rounds_0 ∧ rounds_0 ≤ 160) : GOK (pn_0) (pm_0) (pt_0) (ph_0) := by
  subst fe_0_31_1
  subst fe_0_32_1
  subst fe_0_53_1
  subst fe_0_31_2
  subst fe_0_32_2
  subst fe_0_53_2
  have e_hE_0_33_1 := funext hE_0_33_1; subst e_hE_0_33_1
  have e_hE_0_33_2 := funext hE_0_33_2; subst e_hE_0_33_2
  have e_hE_0_34_1 := funext hE_0_34_1; subst e_hE_0_34_1
  have e_hE_0_34_2 := funext hE_0_34_2; subst e_hE_0_34_2
  have e_hE_0_35_1 := funext hE_0_35_1; subst e_hE_0_35_1
  have e_hE_0_35_2 := funext hE_0_35_2; subst e_hE_0_35_2
  have e_hE_0_36_1 := funext hE_0_36_1; subst e_hE_0_36_1
  have e_hE_0_36_2 := funext hE_0_36_2; subst e_hE_0_36_2
  have e_hE_0_37_1 := funext hE_0_37_1; subst e_hE_0_37_1
  have e_hE_0_37_2 := funext hE_0_37_2; subst e_hE_0_37_2
  have e_hE_0_54_1 := funext hE_0_54_1; subst e_hE_0_54_1
  have e_hE_0_56_1 := funext hE_0_56_1; subst e_hE_0_56_1
  have e_hE_0_56_2 := funext hE_0_56_2; subst e_hE_0_56_2
  have e_hE_0_57_2 := funext hE_0_57_2; subst e_hE_0_57_2
  first | assumption
set_option maxHeartbeats 4000000 in
theorem vc_Mo_goRound_10_1 (pt_0 : Int → Int) (ph_0 : Int → Int) (rotMany_0 : Int → Int) (rot_0 : Int → Int) (pm_0 : Int) (alive_0 : Int → Int) (roundOf_0 : Int → Int) (roundBegin_0 : Int → Int) (rounds_0 : Int) (pn_0 : Int) (pt_1 : Int → Int) (ph_1 : Int → Int) (pn_1 : Int) (pm_1 : Int) (alive_1 : Int → Int) (rotMany_1 : Int → Int) (rot_1 : Int → Int) (rounds_2 : Int) (pt_2 : Int → Int) (ph_2 : Int → Int) (pn_2 : Int) (pm_2 : Int) (alive_2 : Int → Int) (rotMany_2 : Int → Int) (rot_2 : Int → Int) (roundBegin_2 : Int → Int) (roundDart_2 : Int → Int) (rounds_1 : Int) (roundOf_1 : Int → Int) (roundBegin_1 : Int → Int) (roundDart_1 : Int → Int) (f17 : EML (pn_2) (pm_2) (pt_2) (ph_2) (alive_2) (rotMany_2) (rot_2)) (fe_0_31_1 : pn_0 = pn_1) (fe_0_32_1 : pm_0 = pm_1) (fe_0_53_1 : rounds_0 = rounds_1) (fe_0_31_2 : pn_1 = pn_2) (fe_0_32_2 : pm_1 = pm_2) (fe_0_53_2 : rounds_1 = rounds_2) (hE_0_33_1 : ∀ j : Int, pt_0 j = pt_1 j) (hE_0_33_2 : ∀ j : Int, pt_1 j = pt_2 j) (hE_0_34_1 : ∀ j : Int, ph_0 j = ph_1 j) (hE_0_34_2 : ∀ j : Int, ph_1 j = ph_2 j) (hE_0_35_1 : ∀ j : Int, alive_0 j = alive_1 j) (hE_0_35_2 : ∀ j : Int, alive_1 j = alive_2 j) (hE_0_36_1 : ∀ j : Int, rotMany_0 j = rotMany_1 j) (hE_0_36_2 : ∀ j : Int, rotMany_1 j = rotMany_2 j) (hE_0_37_1 : ∀ j : Int, rot_0 j = rot_1 j) (hE_0_37_2 : ∀ j : Int, rot_1 j = rot_2 j) (hE_0_54_1 : ∀ j : Int, roundOf_0 j = roundOf_1 j) (hE_0_56_1 : ∀ j : Int, roundBegin_0 j = roundBegin_1 j) (hE_0_56_2 : ∀ j : Int, roundBegin_1 j = roundBegin_2 j) (hE_0_57_2 : ∀ j : Int, roundDart_1 j = roundDart_2 j) (kz_0_31 : 0 ≤ pn_0 ∧ pn_0 ≤ 25) (kz_0_32 : 0 ≤ pm_0 ∧ pm_0 ≤ 80) (kz_0_53 : 0 ≤ rounds_0 ∧ rounds_0 ≤ 160) : EML (pn_0) (pm_0) (pt_0) (ph_0) (alive_0) (rotMany_0) (rot_0) := by
  subst fe_0_31_1
  subst fe_0_32_1
  subst fe_0_53_1
  subst fe_0_31_2
  subst fe_0_32_2
  subst fe_0_53_2
  have e_hE_0_33_1 := funext hE_0_33_1; subst e_hE_0_33_1
  have e_hE_0_33_2 := funext hE_0_33_2; subst e_hE_0_33_2
  have e_hE_0_34_1 := funext hE_0_34_1; subst e_hE_0_34_1
  have e_hE_0_34_2 := funext hE_0_34_2; subst e_hE_0_34_2
  have e_hE_0_35_1 := funext hE_0_35_1; subst e_hE_0_35_1
  have e_hE_0_35_2 := funext hE_0_35_2; subst e_hE_0_35_2
  have e_hE_0_36_1 := funext hE_0_36_1; subst e_hE_0_36_1
  have e_hE_0_36_2 := funext hE_0_36_2; subst e_hE_0_36_2
  have e_hE_0_37_1 := funext hE_0_37_1; subst e_hE_0_37_1
  have e_hE_0_37_2 := funext hE_0_37_2; subst e_hE_0_37_2
  have e_hE_0_54_1 := funext hE_0_54_1; subst e_hE_0_54_1
  have e_hE_0_56_1 := funext hE_0_56_1; subst e_hE_0_56_1
  have e_hE_0_56_2 := funext hE_0_56_2; subst e_hE_0_56_2
  have e_hE_0_57_2 := funext hE_0_57_2; subst e_hE_0_57_2
  first | assumption
set_option maxHeartbeats 4000000 in
theorem vc_Mo_goRound_10_2 (x3 : Int) (x4 : Int) (x9 : Int) (x10 : Int) (pt_0 : Int → Int) (ph_0 : Int → Int) (rotMany_0 : Int → Int) (rot_0 : Int → Int) (pm_0 : Int) (alive_0 : Int → Int) (roundOf_0 : Int → Int) (roundBegin_0 : Int → Int) (roundDart_0 : Int → Int) (rounds_0 : Int) (pn_0 : Int) (pt_1 : Int → Int) (ph_1 : Int → Int) (pn_1 : Int) (pm_1 : Int) (alive_1 : Int → Int) (rotMany_1 : Int → Int) (rot_1 : Int → Int) (rounds_2 : Int) (pt_2 : Int → Int) (ph_2 : Int → Int) (pn_2 : Int) (pm_2 : Int) (alive_2 : Int → Int) (rotMany_2 : Int → Int) (rot_2 : Int → Int) (roundBegin_2 : Int → Int) (roundDart_2 : Int → Int) (rounds_1 : Int) (roundOf_1 : Int → Int) (roundBegin_1 : Int → Int) (roundDart_1 : Int → Int) (k3 : 0 ≤ x3 ∧ x3 ≤ 255) (k4 : 0 ≤ x4 ∧ x4 ≤ 159) (k9 : 1 ≤ x9 ∧ x9 ≤ 160) (k10 : 0 ≤ x10 ∧ x10 ≤ 159) (f0 : NDT (pm_0) (pt_0) (ph_0) (rotMany_0) (rot_0) (x4) (x10)) (f1 : GIA (pm_0) (rounds_0) (pt_0) (ph_0) (alive_0) (rotMany_0) (rot_0) (roundOf_0) (roundBegin_0) (roundDart_0) (x9) (x3) (x4)) (fe_0_31_1 : pn_0 = pn_1) (fe_0_32_1 : pm_0 = pm_1) (fe_0_53_1 : rounds_0 = rounds_1) (fe_0_31_2 : pn_1 = pn_2) (fe_0_32_2 : pm_1 = pm_2) (fe_0_53_2 : rounds_1 = rounds_2) (hE_0_33_1 : ∀ j : Int, pt_0 j = pt_1 j) (hE_0_33_2 : ∀ j : Int, pt_1 j = pt_2 j) (hE_0_34_1 : ∀ j : Int, ph_0 j = ph_1 j) (hE_0_34_2 : ∀ j : Int, ph_1 j = ph_2 j) (hE_0_35_1 : ∀ j : Int, alive_0 j = alive_1 j) (hE_0_35_2 : ∀ j : Int, alive_1 j = alive_2 j) (hE_0_36_1 : ∀ j : Int, rotMany_0 j = rotMany_1 j) (hE_0_36_2 : ∀ j : Int, rotMany_1 j = rotMany_2 j) (hE_0_37_1 : ∀ j : Int, rot_0 j = rot_1 j) (hE_0_37_2 : ∀ j : Int, rot_1 j = rot_2 j) (hE_0_54_1 : ∀ j : Int, roundOf_0 j = roundOf_1 j) (hE_0_56_1 : ∀ j : Int, roundBegin_0 j = roundBegin_1 j) (hE_0_56_2 : ∀ j : Int, roundBegin_1 j = roundBegin_2 j) (hE_0_57_2 : ∀ j : Int, roundDart_1 j = roundDart_2 j) (kz_0_31 : 0 ≤ pn_0 ∧ pn_0 ≤ 25) (kz_0_32 : 0 ≤ pm_0 ∧ pm_0 ≤ 80) (kz_0_53 : 0 ≤ rounds_0 ∧ rounds_0 ≤ 160) : GIT (pm_0) (rounds_0) (pt_0) (ph_0) (alive_0) (rotMany_0) (rot_0) (roundOf_0) (roundBegin_0) (roundDart_0) (x9) (x3) (x10) := by
  subst fe_0_31_1
  subst fe_0_32_1
  subst fe_0_53_1
  subst fe_0_31_2
  subst fe_0_32_2
  subst fe_0_53_2
  have e_hE_0_33_1 := funext hE_0_33_1; subst e_hE_0_33_1
  have e_hE_0_33_2 := funext hE_0_33_2; subst e_hE_0_33_2
  have e_hE_0_34_1 := funext hE_0_34_1; subst e_hE_0_34_1
  have e_hE_0_34_2 := funext hE_0_34_2; subst e_hE_0_34_2
  have e_hE_0_35_1 := funext hE_0_35_1; subst e_hE_0_35_1
  have e_hE_0_35_2 := funext hE_0_35_2; subst e_hE_0_35_2
  have e_hE_0_36_1 := funext hE_0_36_1; subst e_hE_0_36_1
  have e_hE_0_36_2 := funext hE_0_36_2; subst e_hE_0_36_2
  have e_hE_0_37_1 := funext hE_0_37_1; subst e_hE_0_37_1
  have e_hE_0_37_2 := funext hE_0_37_2; subst e_hE_0_37_2
  have e_hE_0_54_1 := funext hE_0_54_1; subst e_hE_0_54_1
  have e_hE_0_56_1 := funext hE_0_56_1; subst e_hE_0_56_1
  have e_hE_0_56_2 := funext hE_0_56_2; subst e_hE_0_56_2
  have e_hE_0_57_2 := funext hE_0_57_2; subst e_hE_0_57_2
  exact git_of ‹GIA _ _ _ _ _ _ _ _ _ _ _ _ _› ‹NDT _ _ _ _ _ _ _›
set_option maxHeartbeats 4000000 in
theorem vc_Mo_goRound_10_3 (x2 : Int) (x5 : Int) (x9 : Int) (pt_0 : Int → Int) (ph_0 : Int → Int) (rotMany_0 : Int → Int) (rot_0 : Int → Int) (pm_0 : Int) (alive_0 : Int → Int) (roundOf_0 : Int → Int) (roundBegin_0 : Int → Int) (rounds_0 : Int) (pn_0 : Int) (pt_1 : Int → Int) (ph_1 : Int → Int) (pn_1 : Int) (pm_1 : Int) (alive_1 : Int → Int) (rotMany_1 : Int → Int) (rot_1 : Int → Int) (rounds_2 : Int) (pt_2 : Int → Int) (ph_2 : Int → Int) (pn_2 : Int) (pm_2 : Int) (alive_2 : Int → Int) (rotMany_2 : Int → Int) (rot_2 : Int → Int) (roundBegin_2 : Int → Int) (roundDart_2 : Int → Int) (rounds_1 : Int) (roundOf_1 : Int → Int) (roundBegin_1 : Int → Int) (roundDart_1 : Int → Int) (gx : Int) (k2 : 0 ≤ x2 ∧ x2 ≤ 159) (k5 : (-2) ≤ x5 ∧ x5 ≤ 161) (k9 : 1 ≤ x9 ∧ x9 ≤ 160) (d0 : x2 + 1 ≤ x9 ∧ x9 ≤ x2 + 1) (f6 : (-1) * x2 + ((-1) * x5 + 0) ≤ (-160)) (fe_0_31_1 : pn_0 = pn_1) (fe_0_32_1 : pm_0 = pm_1) (fe_0_53_1 : rounds_0 = rounds_1) (fe_0_31_2 : pn_1 = pn_2) (fe_0_32_2 : pm_1 = pm_2) (fe_0_53_2 : rounds_1 = rounds_2) (hE_0_33_1 : ∀ j : Int, pt_0 j = pt_1 j) (hE_0_33_2 : ∀ j : Int, pt_1 j = pt_2 j) (hE_0_34_1 : ∀ j : Int, ph_0 j = ph_1 j) (hE_0_34_2 : ∀ j : Int, ph_1 j = ph_2 j) (hE_0_35_1 : ∀ j : Int, alive_0 j = alive_1 j) (hE_0_35_2 : ∀ j : Int, alive_1 j = alive_2 j) (hE_0_36_1 : ∀ j : Int, rotMany_0 j = rotMany_1 j) (hE_0_36_2 : ∀ j : Int, rotMany_1 j = rotMany_2 j) (hE_0_37_1 : ∀ j : Int, rot_0 j = rot_1 j) (hE_0_37_2 : ∀ j : Int, rot_1 j = rot_2 j) (hE_0_54_1 : ∀ j : Int, roundOf_0 j = roundOf_1 j) (hE_0_56_1 : ∀ j : Int, roundBegin_0 j = roundBegin_1 j) (hE_0_56_2 : ∀ j : Int, roundBegin_1 j = roundBegin_2 j) (hE_0_57_2 : ∀ j : Int, roundDart_1 j = roundDart_2 j) (kz_0_31 : 0 ≤ pn_0 ∧ pn_0 ≤ 25) (kz_0_32 : 0 ≤ pm_0 ∧ pm_0 ≤ 80) (kz_0_53 : 0 ≤ rounds_0 ∧ rounds_0 ≤ 160) (ex2 : gx = 0 + (1 * x5 + 0)) : (-1) * x9 + ((-1) * gx + 0) ≤ (-161) := by
  subst fe_0_31_1
  subst fe_0_32_1
  subst fe_0_53_1
  subst fe_0_31_2
  subst fe_0_32_2
  subst fe_0_53_2
  have e_hE_0_33_1 := funext hE_0_33_1; subst e_hE_0_33_1
  have e_hE_0_33_2 := funext hE_0_33_2; subst e_hE_0_33_2
  have e_hE_0_34_1 := funext hE_0_34_1; subst e_hE_0_34_1
  have e_hE_0_34_2 := funext hE_0_34_2; subst e_hE_0_34_2
  have e_hE_0_35_1 := funext hE_0_35_1; subst e_hE_0_35_1
  have e_hE_0_35_2 := funext hE_0_35_2; subst e_hE_0_35_2
  have e_hE_0_36_1 := funext hE_0_36_1; subst e_hE_0_36_1
  have e_hE_0_36_2 := funext hE_0_36_2; subst e_hE_0_36_2
  have e_hE_0_37_1 := funext hE_0_37_1; subst e_hE_0_37_1
  have e_hE_0_37_2 := funext hE_0_37_2; subst e_hE_0_37_2
  have e_hE_0_54_1 := funext hE_0_54_1; subst e_hE_0_54_1
  have e_hE_0_56_1 := funext hE_0_56_1; subst e_hE_0_56_1
  have e_hE_0_56_2 := funext hE_0_56_2; subst e_hE_0_56_2
  have e_hE_0_57_2 := funext hE_0_57_2; subst e_hE_0_57_2
  first | omega
def o_Mo_goRound_10 : or_T := (105, 11, [(0, (2, 0, 0, [165])), (1, (2, 0, 0, [165])), (2, (0, 0, 159, [])), (3, (0, 0, 255, [])), (4, (0, 0, 159, [])), (5, (0, -2, 161, [])), (6, (2, 0, 0, [196])), (7, (0, 0, 159, [])), (8, (2, 0, 0, [199])), (9, (0, 1, 160, [])), (10, (0, 0, 159, []))], [(20, [1, 4, 10], [60, 1, 4, 188, 32, 33, 34, 36, 37]), (20, [1, 9, 3, 4], [60, 2, 8, 195, 32, 53, 33, 34, 35, 36, 37, 54, 56, 57]), (20, [1, 4], [60, 1, 1, 190, 32, 35]), (6, [9, 2], [1]), (20, [1], [60, 2, 2, 75, 31, 32, 33, 34]), (20, [1], [60, 2, 5, 187, 31, 32, 33, 34, 35, 36, 37]), (20, [2, 5], [30, -160, -1, 0, 0, -1, 0, 0]), (24, [0, 1], []), (100, [8, 2, 4], []), (9, [8, 1], [57]), (20, [1], [60, 2, 2, 75, 31, 32, 33, 34]), (20, [1], [60, 2, 5, 187, 31, 32, 33, 34, 35, 36, 37]), (20, [2, 5], [30, -160, -1, 0, 0, -1, 0, 0]), (100, [6, 4, 7], []), (9, [7, 1], [53]), (9, [6, 1], [54]), (20, [1], [60, 2, 2, 75, 31, 32, 33, 34]), (20, [1], [60, 2, 5, 187, 31, 32, 33, 34, 35, 36, 37]), (20, [1, 2, 3, 4], [60, 2, 8, 194, 32, 53, 33, 34, 35, 36, 37, 54, 56, 57]), (20, [2, 5], [30, -160, -1, 0, 0, -1, 0, 0])], [], [(0, -2, 161, [])], [(20, [1], [60, 2, 2, 75, 31, 32, 33, 34]), (20, [1], [60, 2, 5, 187, 31, 32, 33, 34, 35, 36, 37]), (20, [1, 9, 3, 10], [60, 2, 8, 196, 32, 53, 33, 34, 35, 36, 37, 54, 56, 57]), (20, [9, 11], [30, -161, -1, 0, 0, -1, 0, 0]), (24, [0, 1], [])], [(11, 5, 0, 0)], [(9, 2, 1, 1)])
theorem oo_Mo_goRound_10 {kA : Nat → ClassId} : or_ok PRD kA GG o_Mo_goRound_10 := by
  refine or_mk fun A ta ws vs hD hth hl => ?_
  intro t0 r0 t1 r1 t2 k2 t3 k3 t4 k4 t5 k5 t6 r6 t7 k7 t8 r8 t9 k9 t10 k10 d0 f0 f1 f2 f3 f4 f5 f6 f7 ta1 w1 le1 s1 f9 f10 f11 f12 ta2 w2 le2 s2 f14 f15 f16 f17 f18 f19
  replace f0 := shm_985 f0
  replace f1 := shm_1108 f1
  replace f2 := shm_983 f2
  replace f3 := shm_4 f3
  replace f4 := shm_563 f4
  replace f5 := shm_982 f5
  replace f6 := shm_1105 f6
  replace f7 := shm_5 f7
  have s1 : (∀ b j, w_el ws b j = if b = v_ad (n_v vs 8) ∧ j = (v_iv (n_v vs 2)).toNat then v_iv (n_v vs 4) else w_el w1 b j) ∧ ∀ b k, w_fd ws b k = w_fd w1 b k := s1.2
  replace f9 := shm_1107 f9
  replace f10 := shm_563 f10
  replace f11 := shm_982 f11
  replace f12 := shm_1105 f12
  have s2 : (∀ b j, w_el w1 b j = if b = v_ad (n_v vs 6) ∧ j = (v_iv (n_v vs 4)).toNat then v_iv (n_v vs 7) else w_el w2 b j) ∧ ∀ b k, w_fd w1 b k = w_fd w2 b k := s2.2
  replace f14 := shm_1101 f14
  replace f15 := shm_1091 f15
  replace f16 := shm_563 f16
  replace f17 := shm_982 f17
  replace f18 := shm_1106 f18
  replace f19 := shm_1105 f19
  have q1 : n_v vs 1 = n_v vs 0 := f7.symm
  simp only [q1] at f0 f1 f2 f4 f5 f9 f10 f11 f14 f15 f16 f17 f18
  have ar_0_33_1 : w_ar w1 (n_v vs 0) 33 = w_ar ws (n_v vs 0) 33 := congrArg v_ad (s1.2 _ _).symm
  have ar_0_33_2 : w_ar w2 (n_v vs 0) 33 = w_ar ws (n_v vs 0) 33 := by rw [← ar_0_33_1]; show v_ad (w_fd w2 _ _) = v_ad (w_fd w1 _ _); rw [s2.2]
  have cr_0_33 := fdq_116 hD hth r0
  have ar_0_34_1 : w_ar w1 (n_v vs 0) 34 = w_ar ws (n_v vs 0) 34 := congrArg v_ad (s1.2 _ _).symm
  have ar_0_34_2 : w_ar w2 (n_v vs 0) 34 = w_ar ws (n_v vs 0) 34 := by rw [← ar_0_34_1]; show v_ad (w_fd w2 _ _) = v_ad (w_fd w1 _ _); rw [s2.2]
  have cr_0_34 := fdq_117 hD hth r0
  have ar_0_35_1 : w_ar w1 (n_v vs 0) 35 = w_ar ws (n_v vs 0) 35 := congrArg v_ad (s1.2 _ _).symm
  have ar_0_35_2 : w_ar w2 (n_v vs 0) 35 = w_ar ws (n_v vs 0) 35 := by rw [← ar_0_35_1]; show v_ad (w_fd w2 _ _) = v_ad (w_fd w1 _ _); rw [s2.2]
  have cr_0_35 := fdq_131 hD hth r0
  have ar_0_36_1 : w_ar w1 (n_v vs 0) 36 = w_ar ws (n_v vs 0) 36 := congrArg v_ad (s1.2 _ _).symm
  have ar_0_36_2 : w_ar w2 (n_v vs 0) 36 = w_ar ws (n_v vs 0) 36 := by rw [← ar_0_36_1]; show v_ad (w_fd w2 _ _) = v_ad (w_fd w1 _ _); rw [s2.2]
  have cr_0_36 := fdq_166 hD hth r0
  have ar_0_37_1 : w_ar w1 (n_v vs 0) 37 = w_ar ws (n_v vs 0) 37 := congrArg v_ad (s1.2 _ _).symm
  have ar_0_37_2 : w_ar w2 (n_v vs 0) 37 = w_ar ws (n_v vs 0) 37 := by rw [← ar_0_37_1]; show v_ad (w_fd w2 _ _) = v_ad (w_fd w1 _ _); rw [s2.2]
  have cr_0_37 := fdq_167 hD hth r0
  have ar_0_54_1 : w_ar w1 (n_v vs 0) 54 = w_ar ws (n_v vs 0) 54 := congrArg v_ad (s1.2 _ _).symm
  have ar_0_54_2 : w_ar w2 (n_v vs 0) 54 = w_ar ws (n_v vs 0) 54 := by rw [← ar_0_54_1]; show v_ad (w_fd w2 _ _) = v_ad (w_fd w1 _ _); rw [s2.2]
  have cr_0_54 := fdq_264 hD hth r0
  have ar_0_56_1 : w_ar w1 (n_v vs 0) 56 = w_ar ws (n_v vs 0) 56 := congrArg v_ad (s1.2 _ _).symm
  have ar_0_56_2 : w_ar w2 (n_v vs 0) 56 = w_ar ws (n_v vs 0) 56 := by rw [← ar_0_56_1]; show v_ad (w_fd w2 _ _) = v_ad (w_fd w1 _ _); rw [s2.2]
  have cr_0_56 := fdq_265 hD hth r0
  have ar_0_57_1 : w_ar w1 (n_v vs 0) 57 = w_ar ws (n_v vs 0) 57 := congrArg v_ad (s1.2 _ _).symm
  have ar_0_57_2 : w_ar w2 (n_v vs 0) 57 = w_ar ws (n_v vs 0) 57 := by rw [← ar_0_57_1]; show v_ad (w_fd w2 _ _) = v_ad (w_fd w1 _ _); rw [s2.2]
  have cr_0_57 := fdq_266 hD hth r0
  have ad_8 : v_ad (n_v vs 8) = w_ar ws (n_v vs 0) 57 := (congrArg v_ad f9).trans ar_0_57_1
  have ad_6 : v_ad (n_v vs 6) = w_ar ws (n_v vs 0) 54 := (congrArg v_ad f15).trans ar_0_54_2
  simp only [ar_0_33_1, ar_0_34_1, ar_0_35_1, ar_0_36_1, ar_0_37_1] at f10 f11
  have g14 : v_iv (n_v vs 7) = w_fi w2 (n_v vs 0) 53 := congrArg v_iv f14
  simp only [ar_0_33_2, ar_0_34_2, ar_0_35_2, ar_0_36_2, ar_0_37_2, ar_0_54_2, ar_0_56_2, ar_0_57_2] at f16 f17 f18
  have fe_0_31_1 : w_fi ws (n_v vs 0) 31 = w_fi w1 (n_v vs 0) 31 := congrArg v_iv (s1.2 _ _)
  have fe_0_32_1 : w_fi ws (n_v vs 0) 32 = w_fi w1 (n_v vs 0) 32 := congrArg v_iv (s1.2 _ _)
  have fe_0_53_1 : w_fi ws (n_v vs 0) 53 = w_fi w1 (n_v vs 0) 53 := congrArg v_iv (s1.2 _ _)
  have fe_0_31_2 : w_fi w1 (n_v vs 0) 31 = w_fi w2 (n_v vs 0) 31 := congrArg v_iv (s2.2 _ _)
  have fe_0_32_2 : w_fi w1 (n_v vs 0) 32 = w_fi w2 (n_v vs 0) 32 := congrArg v_iv (s2.2 _ _)
  have fe_0_53_2 : w_fi w1 (n_v vs 0) 53 = w_fi w2 (n_v vs 0) 53 := congrArg v_iv (s2.2 _ _)
  have hE_0_33_1 : ∀ j : Int, w_ei ws (w_ar ws (n_v vs 0) 33) j = w_ei w1 (w_ar ws (n_v vs 0) 33) j := el_kp s1.1 r8 cr_0_33 (by decide)
  have hE_0_33_2 : ∀ j : Int, w_ei w1 (w_ar ws (n_v vs 0) 33) j = w_ei w2 (w_ar ws (n_v vs 0) 33) j := el_kp s2.1 r6 cr_0_33 (by decide)
  have hK_0_33 := elq_57 hD hth cr_0_33
  have hE_0_34_1 : ∀ j : Int, w_ei ws (w_ar ws (n_v vs 0) 34) j = w_ei w1 (w_ar ws (n_v vs 0) 34) j := el_kp s1.1 r8 cr_0_34 (by decide)
  have hE_0_34_2 : ∀ j : Int, w_ei w1 (w_ar ws (n_v vs 0) 34) j = w_ei w2 (w_ar ws (n_v vs 0) 34) j := el_kp s2.1 r6 cr_0_34 (by decide)
  have hK_0_34 := elq_58 hD hth cr_0_34
  have hE_0_35_1 : ∀ j : Int, w_ei ws (w_ar ws (n_v vs 0) 35) j = w_ei w1 (w_ar ws (n_v vs 0) 35) j := el_kp s1.1 r8 cr_0_35 (by decide)
  have hE_0_35_2 : ∀ j : Int, w_ei w1 (w_ar ws (n_v vs 0) 35) j = w_ei w2 (w_ar ws (n_v vs 0) 35) j := el_kp s2.1 r6 cr_0_35 (by decide)
  have hK_0_35 := elq_69 hD hth cr_0_35
  have hE_0_36_1 : ∀ j : Int, w_ei ws (w_ar ws (n_v vs 0) 36) j = w_ei w1 (w_ar ws (n_v vs 0) 36) j := el_kp s1.1 r8 cr_0_36 (by decide)
  have hE_0_36_2 : ∀ j : Int, w_ei w1 (w_ar ws (n_v vs 0) 36) j = w_ei w2 (w_ar ws (n_v vs 0) 36) j := el_kp s2.1 r6 cr_0_36 (by decide)
  have hK_0_36 := elq_94 hD hth cr_0_36
  have hE_0_37_1 : ∀ j : Int, w_ei ws (w_ar ws (n_v vs 0) 37) j = w_ei w1 (w_ar ws (n_v vs 0) 37) j := el_kp s1.1 r8 cr_0_37 (by decide)
  have hE_0_37_2 : ∀ j : Int, w_ei w1 (w_ar ws (n_v vs 0) 37) j = w_ei w2 (w_ar ws (n_v vs 0) 37) j := el_kp s2.1 r6 cr_0_37 (by decide)
  have hK_0_37 := elq_95 hD hth cr_0_37
  have hE_0_54_1 : ∀ j : Int, w_ei ws (w_ar ws (n_v vs 0) 54) j = w_ei w1 (w_ar ws (n_v vs 0) 54) j := el_kp s1.1 r8 cr_0_54 (by decide)
  have hE_0_54_2 : ∀ j : Int, 0 ≤ j → (j = v_iv (n_v vs 4) → w_ei w1 (w_ar ws (n_v vs 0) 54) j = v_iv (n_v vs 7)) ∧ (j ≠ v_iv (n_v vs 4) → w_ei w1 (w_ar ws (n_v vs 0) 54) j = w_ei w2 (w_ar ws (n_v vs 0) 54) j) := fun j hj => ⟨fun h => by unfold w_ei; rw [s2.1, if_pos ⟨ad_6.symm, by rw [h]⟩], fun h => by unfold w_ei; rw [s2.1, if_neg (fun e => h (by have := e.2; omega))]⟩
  have hK_0_54 := elq_169 hD hth cr_0_54
  have hE_0_56_1 : ∀ j : Int, w_ei ws (w_ar ws (n_v vs 0) 56) j = w_ei w1 (w_ar ws (n_v vs 0) 56) j := el_kp s1.1 r8 cr_0_56 (by decide)
  have hE_0_56_2 : ∀ j : Int, w_ei w1 (w_ar ws (n_v vs 0) 56) j = w_ei w2 (w_ar ws (n_v vs 0) 56) j := el_kp s2.1 r6 cr_0_56 (by decide)
  have hK_0_56 := elq_170 hD hth cr_0_56
  have hE_0_57_1 : ∀ j : Int, 0 ≤ j → (j = v_iv (n_v vs 2) → w_ei ws (w_ar ws (n_v vs 0) 57) j = v_iv (n_v vs 4)) ∧ (j ≠ v_iv (n_v vs 2) → w_ei ws (w_ar ws (n_v vs 0) 57) j = w_ei w1 (w_ar ws (n_v vs 0) 57) j) := fun j hj => ⟨fun h => by unfold w_ei; rw [s1.1, if_pos ⟨ad_8.symm, by rw [h]⟩], fun h => by unfold w_ei; rw [s1.1, if_neg (fun e => h (by have := e.2; omega))]⟩
  have hE_0_57_2 : ∀ j : Int, w_ei w1 (w_ar ws (n_v vs 0) 57) j = w_ei w2 (w_ar ws (n_v vs 0) 57) j := el_kp s2.1 r6 cr_0_57 (by decide)
  have hK_0_57 := elq_171 hD hth cr_0_57
  have kz_0_31 := fdq_144 hD hth r0
  have kz_0_32 := fdq_139 hD hth r0
  have kz_0_53 := fdq_267 hD hth r0
  obtain ⟨x, ex, hx⟩ := iv_ex (ta := ta) (lo := (-2)) (hi := 161) (z := 0 + (1 * v_iv (n_v vs 5) + 0)) (by omega) (by omega) (by omega) (by omega)
  have ex2 : v_iv (Value.int x) = 0 + (1 * v_iv (n_v vs 5) + 0) := ex
  have ex3 : (-2) ≤ v_iv (Value.int x) ∧ v_iv (Value.int x) ≤ 161 := tv_rng hx
  have e_0 : n_v (vs ++ [Value.int x]) 0 = n_v vs 0 := n_v_old (by rw [hl]; decide)
  have e_1 : n_v (vs ++ [Value.int x]) 1 = n_v vs 1 := n_v_old (by rw [hl]; decide)
  have e_3 : n_v (vs ++ [Value.int x]) 3 = n_v vs 3 := n_v_old (by rw [hl]; decide)
  have e_9 : n_v (vs ++ [Value.int x]) 9 = n_v vs 9 := n_v_old (by rw [hl]; decide)
  have e_10 : n_v (vs ++ [Value.int x]) 10 = n_v vs 10 := n_v_old (by rw [hl]; decide)
  have e_11 : n_v (vs ++ [Value.int x]) 11 = Value.int x := n_v_new hl
  have nf0 : fc_1 PRD (20, [1], [60, 2, 2, 75, 31, 32, 33, 34]) ws (vs ++ [Value.int x]) := by
    refine ⟨nf_inA hl rfl, sgq_563 ?_⟩
    · show GOK (w_fi ws (n_v (vs ++ [Value.int x]) 1) 31) (w_fi ws (n_v (vs ++ [Value.int x]) 1) 32) (w_ei ws (w_ar ws (n_v (vs ++ [Value.int x]) 1) 33)) (w_ei ws (w_ar ws (n_v (vs ++ [Value.int x]) 1) 34))
      simp only [e_1, q1]
      exact vc_Mo_goRound_10_0 (w_ei ws (w_ar ws (n_v vs 0) 33)) (w_ei ws (w_ar ws (n_v vs 0) 34)) (w_ei ws (w_ar ws (n_v vs 0) 36)) (w_ei ws (w_ar ws (n_v vs 0) 37)) (w_fi ws (n_v vs 0) 32) (w_ei ws (w_ar ws (n_v vs 0) 35)) (w_ei ws (w_ar ws (n_v vs 0) 54)) (w_ei ws (w_ar ws (n_v vs 0) 56)) (w_fi ws (n_v vs 0) 53) (w_fi ws (n_v vs 0) 31) (w_ei w1 (w_ar ws (n_v vs 0) 33)) (w_ei w1 (w_ar ws (n_v vs 0) 34)) (w_fi w1 (n_v vs 0) 31) (w_fi w1 (n_v vs 0) 32) (w_ei w1 (w_ar ws (n_v vs 0) 35)) (w_ei w1 (w_ar ws (n_v vs 0) 36)) (w_ei w1 (w_ar ws (n_v vs 0) 37)) (w_fi w2 (n_v vs 0) 53) (w_ei w2 (w_ar ws (n_v vs 0) 33)) (w_ei w2 (w_ar ws (n_v vs 0) 34)) (w_fi w2 (n_v vs 0) 31) (w_fi w2 (n_v vs 0) 32) (w_ei w2 (w_ar ws (n_v vs 0) 35)) (w_ei w2 (w_ar ws (n_v vs 0) 36)) (w_ei w2 (w_ar ws (n_v vs 0) 37)) (w_ei w2 (w_ar ws (n_v vs 0) 56)) (w_ei w2 (w_ar ws (n_v vs 0) 57)) (w_fi w1 (n_v vs 0) 53) (w_ei w1 (w_ar ws (n_v vs 0) 54)) (w_ei w1 (w_ar ws (n_v vs 0) 56)) (w_ei w1 (w_ar ws (n_v vs 0) 57)) f16 fe_0_31_1 fe_0_32_1 fe_0_53_1 fe_0_31_2 fe_0_32_2 fe_0_53_2 hE_0_33_1 hE_0_33_2 hE_0_34_1 hE_0_34_2 hE_0_35_1 hE_0_35_2 hE_0_36_1 hE_0_36_2 hE_0_37_1 hE_0_37_2 hE_0_54_1 hE_0_56_1 hE_0_56_2 hE_0_57_2 kz_0_31 kz_0_32 kz_0_53
  have nf1 : fc_1 PRD (20, [1], [60, 2, 5, 187, 31, 32, 33, 34, 35, 36, 37]) ws (vs ++ [Value.int x]) := by
    refine ⟨nf_inA hl rfl, sgq_982 ?_⟩
    · show EML (w_fi ws (n_v (vs ++ [Value.int x]) 1) 31) (w_fi ws (n_v (vs ++ [Value.int x]) 1) 32) (w_ei ws (w_ar ws (n_v (vs ++ [Value.int x]) 1) 33)) (w_ei ws (w_ar ws (n_v (vs ++ [Value.int x]) 1) 34)) (w_ei ws (w_ar ws (n_v (vs ++ [Value.int x]) 1) 35)) (w_ei ws (w_ar ws (n_v (vs ++ [Value.int x]) 1) 36)) (w_ei ws (w_ar ws (n_v (vs ++ [Value.int x]) 1) 37))
      simp only [e_1, q1]
      exact vc_Mo_goRound_10_1 (w_ei ws (w_ar ws (n_v vs 0) 33)) (w_ei ws (w_ar ws (n_v vs 0) 34)) (w_ei ws (w_ar ws (n_v vs 0) 36)) (w_ei ws (w_ar ws (n_v vs 0) 37)) (w_fi ws (n_v vs 0) 32) (w_ei ws (w_ar ws (n_v vs 0) 35)) (w_ei ws (w_ar ws (n_v vs 0) 54)) (w_ei ws (w_ar ws (n_v vs 0) 56)) (w_fi ws (n_v vs 0) 53) (w_fi ws (n_v vs 0) 31) (w_ei w1 (w_ar ws (n_v vs 0) 33)) (w_ei w1 (w_ar ws (n_v vs 0) 34)) (w_fi w1 (n_v vs 0) 31) (w_fi w1 (n_v vs 0) 32) (w_ei w1 (w_ar ws (n_v vs 0) 35)) (w_ei w1 (w_ar ws (n_v vs 0) 36)) (w_ei w1 (w_ar ws (n_v vs 0) 37)) (w_fi w2 (n_v vs 0) 53) (w_ei w2 (w_ar ws (n_v vs 0) 33)) (w_ei w2 (w_ar ws (n_v vs 0) 34)) (w_fi w2 (n_v vs 0) 31) (w_fi w2 (n_v vs 0) 32) (w_ei w2 (w_ar ws (n_v vs 0) 35)) (w_ei w2 (w_ar ws (n_v vs 0) 36)) (w_ei w2 (w_ar ws (n_v vs 0) 37)) (w_ei w2 (w_ar ws (n_v vs 0) 56)) (w_ei w2 (w_ar ws (n_v vs 0) 57)) (w_fi w1 (n_v vs 0) 53) (w_ei w1 (w_ar ws (n_v vs 0) 54)) (w_ei w1 (w_ar ws (n_v vs 0) 56)) (w_ei w1 (w_ar ws (n_v vs 0) 57)) f17 fe_0_31_1 fe_0_32_1 fe_0_53_1 fe_0_31_2 fe_0_32_2 fe_0_53_2 hE_0_33_1 hE_0_33_2 hE_0_34_1 hE_0_34_2 hE_0_35_1 hE_0_35_2 hE_0_36_1 hE_0_36_2 hE_0_37_1 hE_0_37_2 hE_0_54_1 hE_0_56_1 hE_0_56_2 hE_0_57_2 kz_0_31 kz_0_32 kz_0_53
  have nf2 : fc_1 PRD (20, [1, 9, 3, 10], [60, 2, 8, 196, 32, 53, 33, 34, 35, 36, 37, 54, 56, 57]) ws (vs ++ [Value.int x]) := by
    refine ⟨nf_inA hl rfl, sgq_1109 ?_⟩
    · show GIT (w_fi ws (n_v (vs ++ [Value.int x]) 1) 32) (w_fi ws (n_v (vs ++ [Value.int x]) 1) 53) (w_ei ws (w_ar ws (n_v (vs ++ [Value.int x]) 1) 33)) (w_ei ws (w_ar ws (n_v (vs ++ [Value.int x]) 1) 34)) (w_ei ws (w_ar ws (n_v (vs ++ [Value.int x]) 1) 35)) (w_ei ws (w_ar ws (n_v (vs ++ [Value.int x]) 1) 36)) (w_ei ws (w_ar ws (n_v (vs ++ [Value.int x]) 1) 37)) (w_ei ws (w_ar ws (n_v (vs ++ [Value.int x]) 1) 54)) (w_ei ws (w_ar ws (n_v (vs ++ [Value.int x]) 1) 56)) (w_ei ws (w_ar ws (n_v (vs ++ [Value.int x]) 1) 57)) (v_iv (n_v (vs ++ [Value.int x]) 9)) (v_iv (n_v (vs ++ [Value.int x]) 3)) (v_iv (n_v (vs ++ [Value.int x]) 10))
      simp only [e_1, e_3, e_9, e_10, q1]
      exact vc_Mo_goRound_10_2 (v_iv (n_v vs 3)) (v_iv (n_v vs 4)) (v_iv (n_v vs 9)) (v_iv (n_v vs 10)) (w_ei ws (w_ar ws (n_v vs 0) 33)) (w_ei ws (w_ar ws (n_v vs 0) 34)) (w_ei ws (w_ar ws (n_v vs 0) 36)) (w_ei ws (w_ar ws (n_v vs 0) 37)) (w_fi ws (n_v vs 0) 32) (w_ei ws (w_ar ws (n_v vs 0) 35)) (w_ei ws (w_ar ws (n_v vs 0) 54)) (w_ei ws (w_ar ws (n_v vs 0) 56)) (w_ei ws (w_ar ws (n_v vs 0) 57)) (w_fi ws (n_v vs 0) 53) (w_fi ws (n_v vs 0) 31) (w_ei w1 (w_ar ws (n_v vs 0) 33)) (w_ei w1 (w_ar ws (n_v vs 0) 34)) (w_fi w1 (n_v vs 0) 31) (w_fi w1 (n_v vs 0) 32) (w_ei w1 (w_ar ws (n_v vs 0) 35)) (w_ei w1 (w_ar ws (n_v vs 0) 36)) (w_ei w1 (w_ar ws (n_v vs 0) 37)) (w_fi w2 (n_v vs 0) 53) (w_ei w2 (w_ar ws (n_v vs 0) 33)) (w_ei w2 (w_ar ws (n_v vs 0) 34)) (w_fi w2 (n_v vs 0) 31) (w_fi w2 (n_v vs 0) 32) (w_ei w2 (w_ar ws (n_v vs 0) 35)) (w_ei w2 (w_ar ws (n_v vs 0) 36)) (w_ei w2 (w_ar ws (n_v vs 0) 37)) (w_ei w2 (w_ar ws (n_v vs 0) 56)) (w_ei w2 (w_ar ws (n_v vs 0) 57)) (w_fi w1 (n_v vs 0) 53) (w_ei w1 (w_ar ws (n_v vs 0) 54)) (w_ei w1 (w_ar ws (n_v vs 0) 56)) (w_ei w1 (w_ar ws (n_v vs 0) 57)) k3 k4 k9 k10 f0 f1 fe_0_31_1 fe_0_32_1 fe_0_53_1 fe_0_31_2 fe_0_32_2 fe_0_53_2 hE_0_33_1 hE_0_33_2 hE_0_34_1 hE_0_34_2 hE_0_35_1 hE_0_35_2 hE_0_36_1 hE_0_36_2 hE_0_37_1 hE_0_37_2 hE_0_54_1 hE_0_56_1 hE_0_56_2 hE_0_57_2 kz_0_31 kz_0_32 kz_0_53
  have nf3 : fc_1 PRD (20, [9, 11], [30, -161, -1, 0, 0, -1, 0, 0]) ws (vs ++ [Value.int x]) := by
    refine ⟨nf_inA hl rfl, sgq_1110 ?_⟩
    · show (-1) * v_iv (n_v (vs ++ [Value.int x]) 9) + ((-1) * v_iv (n_v (vs ++ [Value.int x]) 11) + 0) ≤ (-161)
      simp only [e_9, e_11]
      exact vc_Mo_goRound_10_3 (v_iv (n_v vs 2)) (v_iv (n_v vs 5)) (v_iv (n_v vs 9)) (w_ei ws (w_ar ws (n_v vs 0) 33)) (w_ei ws (w_ar ws (n_v vs 0) 34)) (w_ei ws (w_ar ws (n_v vs 0) 36)) (w_ei ws (w_ar ws (n_v vs 0) 37)) (w_fi ws (n_v vs 0) 32) (w_ei ws (w_ar ws (n_v vs 0) 35)) (w_ei ws (w_ar ws (n_v vs 0) 54)) (w_ei ws (w_ar ws (n_v vs 0) 56)) (w_fi ws (n_v vs 0) 53) (w_fi ws (n_v vs 0) 31) (w_ei w1 (w_ar ws (n_v vs 0) 33)) (w_ei w1 (w_ar ws (n_v vs 0) 34)) (w_fi w1 (n_v vs 0) 31) (w_fi w1 (n_v vs 0) 32) (w_ei w1 (w_ar ws (n_v vs 0) 35)) (w_ei w1 (w_ar ws (n_v vs 0) 36)) (w_ei w1 (w_ar ws (n_v vs 0) 37)) (w_fi w2 (n_v vs 0) 53) (w_ei w2 (w_ar ws (n_v vs 0) 33)) (w_ei w2 (w_ar ws (n_v vs 0) 34)) (w_fi w2 (n_v vs 0) 31) (w_fi w2 (n_v vs 0) 32) (w_ei w2 (w_ar ws (n_v vs 0) 35)) (w_ei w2 (w_ar ws (n_v vs 0) 36)) (w_ei w2 (w_ar ws (n_v vs 0) 37)) (w_ei w2 (w_ar ws (n_v vs 0) 56)) (w_ei w2 (w_ar ws (n_v vs 0) 57)) (w_fi w1 (n_v vs 0) 53) (w_ei w1 (w_ar ws (n_v vs 0) 54)) (w_ei w1 (w_ar ws (n_v vs 0) 56)) (w_ei w1 (w_ar ws (n_v vs 0) 57)) (v_iv (Value.int x)) k2 k5 k9 d0 f6 fe_0_31_1 fe_0_32_1 fe_0_53_1 fe_0_31_2 fe_0_32_2 fe_0_53_2 hE_0_33_1 hE_0_33_2 hE_0_34_1 hE_0_34_2 hE_0_35_1 hE_0_35_2 hE_0_36_1 hE_0_36_2 hE_0_37_1 hE_0_37_2 hE_0_54_1 hE_0_56_1 hE_0_56_2 hE_0_57_2 kz_0_31 kz_0_32 kz_0_53 ex2
  have nf4 : fc_1 PRD (24, [0, 1], []) ws (vs ++ [Value.int x]) := by
    refine ⟨nf_inA hl rfl, sgq_5 ?_⟩
    · show n_v (vs ++ [Value.int x]) 0 = n_v (vs ++ [Value.int x]) 1
      first | rfl | simp only [e_0, e_1, q1]
  obtain ⟨x0, e0, _, _⟩ := tv_int t5 rfl
  have e1 : v_iv (n_v vs 5) = x0.toInt := by rw [e0]; rfl
  have ho : sy_ofs (vs ++ [Value.int x]) (11, 5, 0, 0) := by
    refine ⟨x, x0, by rw [List.getElem?_append_right (by rw [hl]; decide), hl]; rfl, ?_, ?_, ?_⟩
    · rw [List.getElem?_append_left (by rw [hl]; decide)]; exact n_v_some (by rw [hl]; decide) e0
    · show x0.toInt + 0 ≤ x.toInt; omega
    · show x.toInt ≤ x0.toInt + 0; omega
  exact ⟨(fun _ h => (by cases h)), [Value.int x], ag_one hx, List.forall_mem_cons.mpr ⟨⟨show (20 : Nat) < 100 from by decide, nf0⟩, List.forall_mem_cons.mpr ⟨⟨show (20 : Nat) < 100 from by decide, nf1⟩, List.forall_mem_cons.mpr ⟨⟨show (20 : Nat) < 100 from by decide, nf2⟩, List.forall_mem_cons.mpr ⟨⟨show (20 : Nat) < 100 from by decide, nf3⟩, List.forall_mem_cons.mpr ⟨⟨show (24 : Nat) < 100 from by decide, nf4⟩, (fun _ h => (by cases h))⟩⟩⟩⟩⟩, List.forall_mem_cons.mpr ⟨ho, (fun _ h => (by cases h))⟩⟩
set_option maxHeartbeats 4000000 in
theorem vc_Mo_goRound_11_0 (pt_0 : Int → Int) (ph_0 : Int → Int) (pn_0 : Int) (pm_0 : Int) (f1 : GOK (pn_0) (pm_0) (pt_0) (ph_0)) (kz_0_31 : 0 ≤ pn_0 ∧ pn_0 ≤ 25) (kz_0_32 : 0 ≤ pm_0 ∧ pm_0 ≤ 80) : GOK (pn_0) (pm_0) (pt_0) (ph_0) := by
  first | assumption
set_option maxHeartbeats 4000000 in
theorem vc_Mo_goRound_11_1 (pt_0 : Int → Int) (ph_0 : Int → Int) (pn_0 : Int) (pm_0 : Int) (alive_0 : Int → Int) (rotMany_0 : Int → Int) (rot_0 : Int → Int) (f2 : EML (pn_0) (pm_0) (pt_0) (ph_0) (alive_0) (rotMany_0) (rot_0)) (kz_0_31 : 0 ≤ pn_0 ∧ pn_0 ≤ 25) (kz_0_32 : 0 ≤ pm_0 ∧ pm_0 ≤ 80) : EML (pn_0) (pm_0) (pt_0) (ph_0) (alive_0) (rotMany_0) (rot_0) := by
  first | assumption
set_option maxHeartbeats 4000000 in
theorem vc_Mo_goRound_11_2 (x2 : Int) (x3 : Int) (x4 : Int) (pt_0 : Int → Int) (ph_0 : Int → Int) (pn_0 : Int) (pm_0 : Int) (alive_0 : Int → Int) (rotMany_0 : Int → Int) (rot_0 : Int → Int) (roundOf_0 : Int → Int) (roundBegin_0 : Int → Int) (roundDart_0 : Int → Int) (rounds_0 : Int) (k2 : 1 ≤ x2 ∧ x2 ≤ 160) (k3 : 0 ≤ x3 ∧ x3 ≤ 255) (k4 : 0 ≤ x4 ∧ x4 ≤ 159) (f0 : x4 ≠ x3) (f1 : GOK (pn_0) (pm_0) (pt_0) (ph_0)) (f2 : EML (pn_0) (pm_0) (pt_0) (ph_0) (alive_0) (rotMany_0) (rot_0)) (f3 : GIT (pm_0) (rounds_0) (pt_0) (ph_0) (alive_0) (rotMany_0) (rot_0) (roundOf_0) (roundBegin_0) (roundDart_0) (x2) (x3) (x4)) (kz_0_31 : 0 ≤ pn_0 ∧ pn_0 ≤ 25) (kz_0_32 : 0 ≤ pm_0 ∧ pm_0 ≤ 80) (kz_0_53 : 0 ≤ rounds_0 ∧ rounds_0 ≤ 160) : GII (pm_0) (rounds_0) (pt_0) (ph_0) (alive_0) (rotMany_0) (rot_0) (roundOf_0) (roundBegin_0) (roundDart_0) (x2) (x3) (x4) := by
  first
    | exact git_next ‹GOK _ _ _ _› ‹EML _ _ _ _ _ _ _› ‹GIT _ _ _ _ _ _ _ _ _ _ _ _ _› (by omega)
    | exact gii_start ‹GOI _ _ _ _ _ _ _ _ _ _ _ _› (by omega) (by omega) (by rw [← (by omega : x10 = x3 / 2)]; omega) (by omega) hE_0_56_1 (by omega) rfl rfl
set_option maxHeartbeats 4000000 in
theorem vc_Mo_goRound_11_3 (x2 : Int) (x6 : Int) (gx : Int) (k2 : 1 ≤ x2 ∧ x2 ≤ 160) (k6 : (-2) ≤ x6 ∧ x6 ≤ 161) (f4 : (-1) * x2 + ((-1) * x6 + 0) ≤ (-161)) (ex2 : gx = (-1) + (1 * x6 + 0)) : (-1) * x2 + ((-1) * gx + 0) ≤ (-160) := by
  first | omega
def o_Mo_goRound_11 : or_T := (79, 7, [(0, (2, 0, 0, [165])), (1, (2, 0, 0, [165])), (2, (0, 1, 160, [])), (3, (0, 0, 255, [])), (4, (0, 0, 159, [])), (6, (0, -2, 161, []))], [(7, [4, 3], [1]), (20, [1], [60, 2, 2, 75, 31, 32, 33, 34]), (20, [1], [60, 2, 5, 187, 31, 32, 33, 34, 35, 36, 37]), (20, [1, 2, 3, 4], [60, 2, 8, 196, 32, 53, 33, 34, 35, 36, 37, 54, 56, 57]), (20, [2, 6], [30, -161, -1, 0, 0, -1, 0, 0]), (24, [0, 1], [])], [], [(0, -2, 161, [])], [(20, [1], [60, 2, 2, 75, 31, 32, 33, 34]), (20, [1], [60, 2, 5, 187, 31, 32, 33, 34, 35, 36, 37]), (20, [1, 2, 3, 4], [60, 2, 8, 194, 32, 53, 33, 34, 35, 36, 37, 54, 56, 57]), (20, [2, 7], [30, -160, -1, 0, 0, -1, 0, 0]), (24, [0, 1], [])], [(7, 6, -1000000000000, -1)], [])
theorem oo_Mo_goRound_11 {kA : Nat → ClassId} : or_ok PRD kA GG o_Mo_goRound_11 := by
  refine or_mk fun A ta ws vs hD hth hl => ?_
  intro t0 r0 t1 r1 t2 k2 t3 k3 t4 k4 t6 k6 f0 f1 f2 f3 f4 f5
  replace f0 := shm_40 f0
  replace f1 := shm_563 f1
  replace f2 := shm_982 f2
  replace f3 := shm_1109 f3
  replace f4 := shm_1110 f4
  replace f5 := shm_5 f5
  have q1 : n_v vs 1 = n_v vs 0 := f5.symm
  simp only [q1] at f1 f2 f3
  have cr_0_33 := fdq_116 hD hth r0
  have cr_0_34 := fdq_117 hD hth r0
  have cr_0_35 := fdq_131 hD hth r0
  have cr_0_36 := fdq_166 hD hth r0
  have cr_0_37 := fdq_167 hD hth r0
  have cr_0_54 := fdq_264 hD hth r0
  have cr_0_56 := fdq_265 hD hth r0
  have cr_0_57 := fdq_266 hD hth r0
  have hK_0_33 := elq_57 hD hth cr_0_33
  have hK_0_34 := elq_58 hD hth cr_0_34
  have hK_0_35 := elq_69 hD hth cr_0_35
  have hK_0_36 := elq_94 hD hth cr_0_36
  have hK_0_37 := elq_95 hD hth cr_0_37
  have hK_0_54 := elq_169 hD hth cr_0_54
  have hK_0_56 := elq_170 hD hth cr_0_56
  have hK_0_57 := elq_171 hD hth cr_0_57
  have kz_0_31 := fdq_144 hD hth r0
  have kz_0_32 := fdq_139 hD hth r0
  have kz_0_53 := fdq_267 hD hth r0
  obtain ⟨x, ex, hx⟩ := iv_ex (ta := ta) (lo := (-2)) (hi := 161) (z := (-1) + (1 * v_iv (n_v vs 6) + 0)) (by omega) (by omega) (by omega) (by omega)
  have ex2 : v_iv (Value.int x) = (-1) + (1 * v_iv (n_v vs 6) + 0) := ex
  have ex3 : (-2) ≤ v_iv (Value.int x) ∧ v_iv (Value.int x) ≤ 161 := tv_rng hx
  have e_0 : n_v (vs ++ [Value.int x]) 0 = n_v vs 0 := n_v_old (by rw [hl]; decide)
  have e_1 : n_v (vs ++ [Value.int x]) 1 = n_v vs 1 := n_v_old (by rw [hl]; decide)
  have e_2 : n_v (vs ++ [Value.int x]) 2 = n_v vs 2 := n_v_old (by rw [hl]; decide)
  have e_3 : n_v (vs ++ [Value.int x]) 3 = n_v vs 3 := n_v_old (by rw [hl]; decide)
  have e_4 : n_v (vs ++ [Value.int x]) 4 = n_v vs 4 := n_v_old (by rw [hl]; decide)
  have e_7 : n_v (vs ++ [Value.int x]) 7 = Value.int x := n_v_new hl
  have nf0 : fc_1 PRD (20, [1], [60, 2, 2, 75, 31, 32, 33, 34]) ws (vs ++ [Value.int x]) := by
    refine ⟨nf_inA hl rfl, sgq_563 ?_⟩
    · show GOK (w_fi ws (n_v (vs ++ [Value.int x]) 1) 31) (w_fi ws (n_v (vs ++ [Value.int x]) 1) 32) (w_ei ws (w_ar ws (n_v (vs ++ [Value.int x]) 1) 33)) (w_ei ws (w_ar ws (n_v (vs ++ [Value.int x]) 1) 34))
      simp only [e_1, q1]
      exact vc_Mo_goRound_11_0 (w_ei ws (w_ar ws (n_v vs 0) 33)) (w_ei ws (w_ar ws (n_v vs 0) 34)) (w_fi ws (n_v vs 0) 31) (w_fi ws (n_v vs 0) 32) f1 kz_0_31 kz_0_32
  have nf1 : fc_1 PRD (20, [1], [60, 2, 5, 187, 31, 32, 33, 34, 35, 36, 37]) ws (vs ++ [Value.int x]) := by
    refine ⟨nf_inA hl rfl, sgq_982 ?_⟩
    · show EML (w_fi ws (n_v (vs ++ [Value.int x]) 1) 31) (w_fi ws (n_v (vs ++ [Value.int x]) 1) 32) (w_ei ws (w_ar ws (n_v (vs ++ [Value.int x]) 1) 33)) (w_ei ws (w_ar ws (n_v (vs ++ [Value.int x]) 1) 34)) (w_ei ws (w_ar ws (n_v (vs ++ [Value.int x]) 1) 35)) (w_ei ws (w_ar ws (n_v (vs ++ [Value.int x]) 1) 36)) (w_ei ws (w_ar ws (n_v (vs ++ [Value.int x]) 1) 37))
      simp only [e_1, q1]
      exact vc_Mo_goRound_11_1 (w_ei ws (w_ar ws (n_v vs 0) 33)) (w_ei ws (w_ar ws (n_v vs 0) 34)) (w_fi ws (n_v vs 0) 31) (w_fi ws (n_v vs 0) 32) (w_ei ws (w_ar ws (n_v vs 0) 35)) (w_ei ws (w_ar ws (n_v vs 0) 36)) (w_ei ws (w_ar ws (n_v vs 0) 37)) f2 kz_0_31 kz_0_32
  have nf2 : fc_1 PRD (20, [1, 2, 3, 4], [60, 2, 8, 194, 32, 53, 33, 34, 35, 36, 37, 54, 56, 57]) ws (vs ++ [Value.int x]) := by
    refine ⟨nf_inA hl rfl, sgq_1106 ?_⟩
    · show GII (w_fi ws (n_v (vs ++ [Value.int x]) 1) 32) (w_fi ws (n_v (vs ++ [Value.int x]) 1) 53) (w_ei ws (w_ar ws (n_v (vs ++ [Value.int x]) 1) 33)) (w_ei ws (w_ar ws (n_v (vs ++ [Value.int x]) 1) 34)) (w_ei ws (w_ar ws (n_v (vs ++ [Value.int x]) 1) 35)) (w_ei ws (w_ar ws (n_v (vs ++ [Value.int x]) 1) 36)) (w_ei ws (w_ar ws (n_v (vs ++ [Value.int x]) 1) 37)) (w_ei ws (w_ar ws (n_v (vs ++ [Value.int x]) 1) 54)) (w_ei ws (w_ar ws (n_v (vs ++ [Value.int x]) 1) 56)) (w_ei ws (w_ar ws (n_v (vs ++ [Value.int x]) 1) 57)) (v_iv (n_v (vs ++ [Value.int x]) 2)) (v_iv (n_v (vs ++ [Value.int x]) 3)) (v_iv (n_v (vs ++ [Value.int x]) 4))
      simp only [e_1, e_2, e_3, e_4, q1]
      exact vc_Mo_goRound_11_2 (v_iv (n_v vs 2)) (v_iv (n_v vs 3)) (v_iv (n_v vs 4)) (w_ei ws (w_ar ws (n_v vs 0) 33)) (w_ei ws (w_ar ws (n_v vs 0) 34)) (w_fi ws (n_v vs 0) 31) (w_fi ws (n_v vs 0) 32) (w_ei ws (w_ar ws (n_v vs 0) 35)) (w_ei ws (w_ar ws (n_v vs 0) 36)) (w_ei ws (w_ar ws (n_v vs 0) 37)) (w_ei ws (w_ar ws (n_v vs 0) 54)) (w_ei ws (w_ar ws (n_v vs 0) 56)) (w_ei ws (w_ar ws (n_v vs 0) 57)) (w_fi ws (n_v vs 0) 53) k2 k3 k4 f0 f1 f2 f3 kz_0_31 kz_0_32 kz_0_53
  have nf3 : fc_1 PRD (20, [2, 7], [30, -160, -1, 0, 0, -1, 0, 0]) ws (vs ++ [Value.int x]) := by
    refine ⟨nf_inA hl rfl, sgq_1105 ?_⟩
    · show (-1) * v_iv (n_v (vs ++ [Value.int x]) 2) + ((-1) * v_iv (n_v (vs ++ [Value.int x]) 7) + 0) ≤ (-160)
      simp only [e_2, e_7]
      exact vc_Mo_goRound_11_3 (v_iv (n_v vs 2)) (v_iv (n_v vs 6)) (v_iv (Value.int x)) k2 k6 f4 ex2
  have nf4 : fc_1 PRD (24, [0, 1], []) ws (vs ++ [Value.int x]) := by
    refine ⟨nf_inA hl rfl, sgq_5 ?_⟩
    · show n_v (vs ++ [Value.int x]) 0 = n_v (vs ++ [Value.int x]) 1
      first | rfl | simp only [e_0, e_1, q1]
  obtain ⟨x0, e0, _, _⟩ := tv_int t6 rfl
  have e1 : v_iv (n_v vs 6) = x0.toInt := by rw [e0]; rfl
  have ho : sy_ofs (vs ++ [Value.int x]) (7, 6, -1000000000000, -1) := by
    refine ⟨x, x0, by rw [List.getElem?_append_right (by rw [hl]; decide), hl]; rfl, ?_, ?_, ?_⟩
    · rw [List.getElem?_append_left (by rw [hl]; decide)]; exact n_v_some (by rw [hl]; decide) e0
    · show x0.toInt + (-1000000000000) ≤ x.toInt; omega
    · show x.toInt ≤ x0.toInt + (-1); omega
  exact ⟨(fun _ h => (by cases h)), [Value.int x], ag_one hx, List.forall_mem_cons.mpr ⟨⟨show (20 : Nat) < 100 from by decide, nf0⟩, List.forall_mem_cons.mpr ⟨⟨show (20 : Nat) < 100 from by decide, nf1⟩, List.forall_mem_cons.mpr ⟨⟨show (20 : Nat) < 100 from by decide, nf2⟩, List.forall_mem_cons.mpr ⟨⟨show (20 : Nat) < 100 from by decide, nf3⟩, List.forall_mem_cons.mpr ⟨⟨show (24 : Nat) < 100 from by decide, nf4⟩, (fun _ h => (by cases h))⟩⟩⟩⟩⟩, List.forall_mem_cons.mpr ⟨ho, (fun _ h => (by cases h))⟩⟩
set_option maxHeartbeats 4000000 in
theorem vc_Mo_goRound_12_0 (x2 : Int) (x3 : Int) (x4 : Int) (x5 : Int) (x8 : Int) (x9 : Int) (pt_0 : Int → Int) (ph_0 : Int → Int) (pn_0 : Int) (pm_0 : Int) (alive_0 : Int → Int) (rotMany_0 : Int → Int) (rot_0 : Int → Int) (rounds_1 : Int) (pt_1 : Int → Int) (ph_1 : Int → Int) (pn_1 : Int) (pm_1 : Int) (alive_1 : Int → Int) (rotMany_1 : Int → Int) (rot_1 : Int → Int) (roundOf_1 : Int → Int) (roundBegin_1 : Int → Int) (roundDart_1 : Int → Int) (rounds_0 : Int) (roundOf_0 : Int → Int) (roundBegin_0 : Int → Int) (roundDart_0 : Int → Int) (k2 : 1 ≤ x2 ∧ x2 ≤ 160) (k3 : 0 ≤ x3 ∧ x3 ≤ 159) (k4 : 0 ≤ x4 ∧ x4 ≤ 159) (k5 : 0 ≤ x5 ∧ x5 ≤ 159) (k8 : 1 ≤ x8 ∧ x8 ≤ 160) (k9 : 1 ≤ x9 ∧ x9 ≤ 160) (d1 : x5 + 1 ≤ x8 ∧ x8 ≤ x5 + 1) (f0 : x9 = x3 + 1) (g7 : x5 = rounds_1) (f8 : x4 = x3) (f11 : GIT (pm_1) (rounds_1) (pt_1) (ph_1) (alive_1) (rotMany_1) (rot_1) (roundOf_1) (roundBegin_1) (roundDart_1) (x2) (x3) (x4)) (fe_0_31_1 : pn_0 = pn_1) (fe_0_32_1 : pm_0 = pm_1) (fe_0_53_1 : rounds_0 = x8) (hE_0_33_1 : ∀ j : Int, pt_0 j = pt_1 j) (hE_0_34_1 : ∀ j : Int, ph_0 j = ph_1 j) (hE_0_35_1 : ∀ j : Int, alive_0 j = alive_1 j) (hE_0_36_1 : ∀ j : Int, rotMany_0 j = rotMany_1 j) (hE_0_37_1 : ∀ j : Int, rot_0 j = rot_1 j) (hE_0_54_1 : ∀ j : Int, roundOf_0 j = roundOf_1 j) (hE_0_56_1 : ∀ j : Int, roundBegin_0 j = roundBegin_1 j) (hE_0_57_1 : ∀ j : Int, roundDart_0 j = roundDart_1 j) (kz_0_31 : 0 ≤ pn_0 ∧ pn_0 ≤ 25) (kz_0_32 : 0 ≤ pm_0 ∧ pm_0 ≤ 80) (kz_0_53 : 0 ≤ rounds_0 ∧ rounds_0 ≤ 160) : GOI (pm_0) (rounds_0) (pt_0) (ph_0) (alive_0) (rotMany_0) (rot_0) (roundOf_0) (roundBegin_0) (roundDart_0) (x2) (x9) := by
  subst fe_0_31_1
  subst fe_0_32_1
  have e_hE_0_33_1 := funext hE_0_33_1; subst e_hE_0_33_1
  have e_hE_0_34_1 := funext hE_0_34_1; subst e_hE_0_34_1
  have e_hE_0_35_1 := funext hE_0_35_1; subst e_hE_0_35_1
  have e_hE_0_36_1 := funext hE_0_36_1; subst e_hE_0_36_1
  have e_hE_0_37_1 := funext hE_0_37_1; subst e_hE_0_37_1
  have e_hE_0_54_1 := funext hE_0_54_1; subst e_hE_0_54_1
  have e_hE_0_56_1 := funext hE_0_56_1; subst e_hE_0_56_1
  have e_hE_0_57_1 := funext hE_0_57_1; subst e_hE_0_57_1
  first
    | exact goi_start ‹RO0 _ _› (by omega) (by omega) (by omega) (by omega)
    | exact goi_skip ‹GOI _ _ _ _ _ _ _ _ _ _ _ _› (by omega) (Or.inl (by rw [← (by omega : x10 = x3 / 2)]; omega))
    | exact goi_skip ‹GOI _ _ _ _ _ _ _ _ _ _ _ _› (by omega) (Or.inr (by omega))
    | exact git_end ‹GIT _ _ _ _ _ _ _ _ _ _ _ _ _› (by omega) (by omega) (by omega)
def o_Mo_goRound_12 : or_T := (34, 10, [(0, (2, 0, 0, [165])), (2, (0, 1, 160, [])), (3, (0, 0, 159, [])), (4, (0, 0, 159, [])), (5, (0, 0, 159, [])), (8, (0, 1, 160, [])), (9, (0, 1, 160, []))], [(6, [9, 3], [1]), (24, [0, 1], []), (101, [1, 8], [53]), (9, [5, 1], [53]), (7, [4, 3], [0]), (20, [1, 2, 3, 4], [60, 2, 8, 196, 32, 53, 33, 34, 35, 36, 37, 54, 56, 57])], [], [], [(20, [1, 2, 9], [60, 2, 8, 192, 32, 53, 33, 34, 35, 36, 37, 54, 56, 57])], [], [(8, 5, 1, 1)])
theorem oo_Mo_goRound_12 {kA : Nat → ClassId} : or_ok PRD kA GG o_Mo_goRound_12 := by
  refine or_mk fun A ta ws vs hD hth hl => ?_
  intro t0 r0 t2 k2 t3 k3 t4 k4 t5 k5 t8 k8 t9 k9 d1 f0 f4 ta1 w1 le1 s1 f7 f8 f11
  replace f0 := shm_4 f0
  replace f4 := shm_5 f4
  have s1 : (∀ b j, w_el ws b j = w_el w1 b j) ∧ ∀ b j, w_fd ws b j = if b = v_ad (n_v vs 1) ∧ j = 53 then n_v vs 8 else w_fd w1 b j := s1.2
  replace f7 := shm_1101 f7
  replace f8 := shm_37 f8
  replace f11 := shm_1109 f11
  have q1 : n_v vs 1 = n_v vs 0 := f4.symm
  rw [q1] at s1
  simp only [q1] at f7 f11
  have ar_0_33_1 : w_ar w1 (n_v vs 0) 33 = w_ar ws (n_v vs 0) 33 := by show v_ad (w_fd w1 _ _) = v_ad (w_fd ws _ _); rw [s1.2, if_neg (fun e => absurd e.2 (by decide))]
  have ar_0_34_1 : w_ar w1 (n_v vs 0) 34 = w_ar ws (n_v vs 0) 34 := by show v_ad (w_fd w1 _ _) = v_ad (w_fd ws _ _); rw [s1.2, if_neg (fun e => absurd e.2 (by decide))]
  have ar_0_35_1 : w_ar w1 (n_v vs 0) 35 = w_ar ws (n_v vs 0) 35 := by show v_ad (w_fd w1 _ _) = v_ad (w_fd ws _ _); rw [s1.2, if_neg (fun e => absurd e.2 (by decide))]
  have ar_0_36_1 : w_ar w1 (n_v vs 0) 36 = w_ar ws (n_v vs 0) 36 := by show v_ad (w_fd w1 _ _) = v_ad (w_fd ws _ _); rw [s1.2, if_neg (fun e => absurd e.2 (by decide))]
  have ar_0_37_1 : w_ar w1 (n_v vs 0) 37 = w_ar ws (n_v vs 0) 37 := by show v_ad (w_fd w1 _ _) = v_ad (w_fd ws _ _); rw [s1.2, if_neg (fun e => absurd e.2 (by decide))]
  have ar_0_54_1 : w_ar w1 (n_v vs 0) 54 = w_ar ws (n_v vs 0) 54 := by show v_ad (w_fd w1 _ _) = v_ad (w_fd ws _ _); rw [s1.2, if_neg (fun e => absurd e.2 (by decide))]
  have ar_0_56_1 : w_ar w1 (n_v vs 0) 56 = w_ar ws (n_v vs 0) 56 := by show v_ad (w_fd w1 _ _) = v_ad (w_fd ws _ _); rw [s1.2, if_neg (fun e => absurd e.2 (by decide))]
  have ar_0_57_1 : w_ar w1 (n_v vs 0) 57 = w_ar ws (n_v vs 0) 57 := by show v_ad (w_fd w1 _ _) = v_ad (w_fd ws _ _); rw [s1.2, if_neg (fun e => absurd e.2 (by decide))]
  have g7 : v_iv (n_v vs 5) = w_fi w1 (n_v vs 0) 53 := congrArg v_iv f7
  simp only [ar_0_33_1, ar_0_34_1, ar_0_35_1, ar_0_36_1, ar_0_37_1, ar_0_54_1, ar_0_56_1, ar_0_57_1] at f11
  have fe_0_31_1 : w_fi ws (n_v vs 0) 31 = w_fi w1 (n_v vs 0) 31 := by show v_iv (w_fd _ _ _) = v_iv (w_fd _ _ _); rw [s1.2, if_neg (fun e => absurd e.2 (by decide))]
  have fe_0_32_1 : w_fi ws (n_v vs 0) 32 = w_fi w1 (n_v vs 0) 32 := by show v_iv (w_fd _ _ _) = v_iv (w_fd _ _ _); rw [s1.2, if_neg (fun e => absurd e.2 (by decide))]
  have fe_0_53_1 : w_fi ws (n_v vs 0) 53 = v_iv (n_v vs 8) := by show v_iv (w_fd _ _ _) = _; rw [s1.2, if_pos ⟨rfl, rfl⟩]
  have hE_0_33_1 : ∀ j : Int, w_ei ws (w_ar ws (n_v vs 0) 33) j = w_ei w1 (w_ar ws (n_v vs 0) 33) j := fun j => s1.1 _ _
  have hE_0_34_1 : ∀ j : Int, w_ei ws (w_ar ws (n_v vs 0) 34) j = w_ei w1 (w_ar ws (n_v vs 0) 34) j := fun j => s1.1 _ _
  have hE_0_35_1 : ∀ j : Int, w_ei ws (w_ar ws (n_v vs 0) 35) j = w_ei w1 (w_ar ws (n_v vs 0) 35) j := fun j => s1.1 _ _
  have hE_0_36_1 : ∀ j : Int, w_ei ws (w_ar ws (n_v vs 0) 36) j = w_ei w1 (w_ar ws (n_v vs 0) 36) j := fun j => s1.1 _ _
  have hE_0_37_1 : ∀ j : Int, w_ei ws (w_ar ws (n_v vs 0) 37) j = w_ei w1 (w_ar ws (n_v vs 0) 37) j := fun j => s1.1 _ _
  have hE_0_54_1 : ∀ j : Int, w_ei ws (w_ar ws (n_v vs 0) 54) j = w_ei w1 (w_ar ws (n_v vs 0) 54) j := fun j => s1.1 _ _
  have hE_0_56_1 : ∀ j : Int, w_ei ws (w_ar ws (n_v vs 0) 56) j = w_ei w1 (w_ar ws (n_v vs 0) 56) j := fun j => s1.1 _ _
  have hE_0_57_1 : ∀ j : Int, w_ei ws (w_ar ws (n_v vs 0) 57) j = w_ei w1 (w_ar ws (n_v vs 0) 57) j := fun j => s1.1 _ _
  have kz_0_31 := fdq_144 hD hth r0
  have kz_0_32 := fdq_139 hD hth r0
  have kz_0_53 := fdq_267 hD hth r0
  have nf0 : fc_1 PRD (20, [1, 2, 9], [60, 2, 8, 192, 32, 53, 33, 34, 35, 36, 37, 54, 56, 57]) ws (vs) := by
    refine ⟨nf_in hl rfl, sgq_1100 ?_⟩
    · show GOI (w_fi ws (n_v vs 1) 32) (w_fi ws (n_v vs 1) 53) (w_ei ws (w_ar ws (n_v vs 1) 33)) (w_ei ws (w_ar ws (n_v vs 1) 34)) (w_ei ws (w_ar ws (n_v vs 1) 35)) (w_ei ws (w_ar ws (n_v vs 1) 36)) (w_ei ws (w_ar ws (n_v vs 1) 37)) (w_ei ws (w_ar ws (n_v vs 1) 54)) (w_ei ws (w_ar ws (n_v vs 1) 56)) (w_ei ws (w_ar ws (n_v vs 1) 57)) (v_iv (n_v vs 2)) (v_iv (n_v vs 9))
      rw [q1]
      exact vc_Mo_goRound_12_0 (v_iv (n_v vs 2)) (v_iv (n_v vs 3)) (v_iv (n_v vs 4)) (v_iv (n_v vs 5)) (v_iv (n_v vs 8)) (v_iv (n_v vs 9)) (w_ei ws (w_ar ws (n_v vs 0) 33)) (w_ei ws (w_ar ws (n_v vs 0) 34)) (w_fi ws (n_v vs 0) 31) (w_fi ws (n_v vs 0) 32) (w_ei ws (w_ar ws (n_v vs 0) 35)) (w_ei ws (w_ar ws (n_v vs 0) 36)) (w_ei ws (w_ar ws (n_v vs 0) 37)) (w_fi w1 (n_v vs 0) 53) (w_ei w1 (w_ar ws (n_v vs 0) 33)) (w_ei w1 (w_ar ws (n_v vs 0) 34)) (w_fi w1 (n_v vs 0) 31) (w_fi w1 (n_v vs 0) 32) (w_ei w1 (w_ar ws (n_v vs 0) 35)) (w_ei w1 (w_ar ws (n_v vs 0) 36)) (w_ei w1 (w_ar ws (n_v vs 0) 37)) (w_ei w1 (w_ar ws (n_v vs 0) 54)) (w_ei w1 (w_ar ws (n_v vs 0) 56)) (w_ei w1 (w_ar ws (n_v vs 0) 57)) (w_fi ws (n_v vs 0) 53) (w_ei ws (w_ar ws (n_v vs 0) 54)) (w_ei ws (w_ar ws (n_v vs 0) 56)) (w_ei ws (w_ar ws (n_v vs 0) 57)) k2 k3 k4 k5 k8 k9 d1 f0 g7 f8 f11 fe_0_31_1 fe_0_32_1 fe_0_53_1 hE_0_33_1 hE_0_34_1 hE_0_35_1 hE_0_36_1 hE_0_37_1 hE_0_54_1 hE_0_56_1 hE_0_57_1 kz_0_31 kz_0_32 kz_0_53
  refine ⟨(fun _ h => (by cases h)), [], trivial, ?_, (fun _ h => (by cases h))⟩
  rw [List.append_nil]
  exact List.forall_mem_cons.mpr ⟨⟨show (20 : Nat) < 100 from by decide, nf0⟩, (fun _ h => (by cases h))⟩
def n_Mo_goRound_an : List an_T := [(9, [(0, (2, 0, 0, [165])), (1, (0, 0, 0, [])), (2, (0, 0, 160, []))], [], (0, 0), [(0, 0, 99991), (1, 3, 160), (0, 0, 100000), (0, 0, 0), (0, 0, 0)], [], [], [(2, 0, 0, [165])], 0, [], [(20, [1], [60, 2, 2, 75, 31, 32, 33, 34]), (20, [1], [60, 2, 5, 187, 31, 32, 33, 34, 35, 36, 37]), (20, [1, 3], [60, 0, 1, 191, 54]), (20, [1], [50, 1, 0, 53, 1, 3, 2, 0, 53, 0, 0]), (20, [2], [50, 0, 0, 1, 2, 1, 0, 0, 0]), (24, [0, 1], [])]), (34, [(0, (2, 0, 0, [165])), (1, (0, 0, 160, [])), (2, (0, 0, 160, []))], [], (0, 0), [(0, 0, 99966), (1, 3, 160), (0, 0, 100000), (0, 0, 0), (0, 0, 0)], [], [((0, 53), (0, 0, 160, []))], [(2, 0, 0, [165])], 0, [], [(20, [1], [60, 2, 2, 75, 31, 32, 33, 34]), (20, [1], [60, 2, 5, 187, 31, 32, 33, 34, 35, 36, 37]), (20, [1, 2, 3], [60, 2, 8, 192, 32, 53, 33, 34, 35, 36, 37, 54, 56, 57]), (24, [0, 1], [])]), (79, [(0, (2, 0, 0, [165])), (1, (0, 0, 160, [])), (2, (0, 0, 255, [])), (3, (0, 0, 159, []))], [], (0, 0), [(0, 0, 99966), (1, 3, 160), (0, 0, 99921), (2, 5, (Int.negSucc 1)), (0, 0, 100000)], [], [], [(2, 0, 0, [165])], 0, [(0, (Int.negSucc 1), 161, [])], [(20, [1], [60, 2, 2, 75, 31, 32, 33, 34]), (20, [1], [60, 2, 5, 187, 31, 32, 33, 34, 35, 36, 37]), (20, [1, 2, 3, 4], [60, 2, 8, 194, 32, 53, 33, 34, 35, 36, 37, 54, 56, 57]), (20, [2, 5], [30, (Int.negSucc 159), (Int.negSucc 0), 0, 0, (Int.negSucc 0), 0, 0]), (24, [0, 1], [])]), (105, [(0, (2, 0, 0, [165])), (1, (0, 1, 160, [])), (2, (0, 0, 255, [])), (3, (0, 0, 159, []))], [], (0, 0), [(0, 0, 99966), (1, 3, 160), (0, 0, 99921), (2, 6, (Int.negSucc 1)), (0, 0, 99895)], [], [((0, 53), (0, 0, 159, []))], [(2, 0, 0, [165])], 0, [(0, (Int.negSucc 1), 161, [])], [(20, [1], [60, 2, 2, 75, 31, 32, 33, 34]), (20, [1], [60, 2, 5, 187, 31, 32, 33, 34, 35, 36, 37]), (20, [1, 2, 3, 4], [60, 2, 8, 196, 32, 53, 33, 34, 35, 36, 37, 54, 56, 57]), (20, [2, 6], [30, (Int.negSucc 160), (Int.negSucc 0), 0, 0, (Int.negSucc 0), 0, 0]), (24, [0, 1], [])])]
def t_Mo_goRound_ct : ct_L := [(1, 686, e_Mo_nextDart)]
set_option maxRecDepth 100000 in
theorem c_Mo_goRound {l : Launch} {D : va_G} {kA : Nat → ClassId} (h_Mo_nextDart : ct_ok PRD l D kA GG y_Mo_nextDart z_Mo_nextDart e_Mo_nextDart) : ct_ok PRD l D kA GG y_Mo_goRound z_Mo_goRound e_Mo_goRound := chk_all_ok (FT := [(63, 13, 35), (105, 13, 54), (111, 13, 56), (114, 13, 57), (597, 13, 32), (683, 13, 53)]) (PT := [(683, 13, 53, .int)]) (CT := t_Mo_goRound_ct) (KT := []) (NT := []) (AN := n_Mo_goRound_an) (OT := [o_Mo_goRound_0, o_Mo_goRound_1, o_Mo_goRound_2, o_Mo_goRound_3, o_Mo_goRound_4, o_Mo_goRound_5, o_Mo_goRound_6, o_Mo_goRound_7, o_Mo_goRound_8, o_Mo_goRound_9, o_Mo_goRound_10, o_Mo_goRound_11, o_Mo_goRound_12]) 5 348 (List.forall_mem_cons.mpr ⟨oo_Mo_goRound_0, List.forall_mem_cons.mpr ⟨oo_Mo_goRound_1, List.forall_mem_cons.mpr ⟨oo_Mo_goRound_2, List.forall_mem_cons.mpr ⟨oo_Mo_goRound_3, List.forall_mem_cons.mpr ⟨oo_Mo_goRound_4, List.forall_mem_cons.mpr ⟨oo_Mo_goRound_5, List.forall_mem_cons.mpr ⟨oo_Mo_goRound_6, List.forall_mem_cons.mpr ⟨oo_Mo_goRound_7, List.forall_mem_cons.mpr ⟨oo_Mo_goRound_8, List.forall_mem_cons.mpr ⟨oo_Mo_goRound_9, List.forall_mem_cons.mpr ⟨oo_Mo_goRound_10, List.forall_mem_cons.mpr ⟨oo_Mo_goRound_11, List.forall_mem_cons.mpr ⟨oo_Mo_goRound_12, List.forall_mem_nil _⟩⟩⟩⟩⟩⟩⟩⟩⟩⟩⟩⟩⟩) (by decide +kernel) ⟨List.forall_mem_cons.mpr ⟨gf_Mo_63, List.forall_mem_cons.mpr ⟨gf_Mo_105, List.forall_mem_cons.mpr ⟨gf_Mo_111, List.forall_mem_cons.mpr ⟨gf_Mo_114, List.forall_mem_cons.mpr ⟨gf_Mo_597, List.forall_mem_cons.mpr ⟨gf_Mo_683, List.forall_mem_nil _⟩⟩⟩⟩⟩⟩, List.forall_mem_cons.mpr ⟨pf_Mo_683, List.forall_mem_nil _⟩, List.forall_mem_cons.mpr ⟨cl_virtual (y := y_Mo_nextDart) (ci := 13) rfl rfl ⟨_, _, rfl⟩ (by decide +kernel) h_Mo_nextDart wm_3259 wm_9 wm_3256 wm_3258 wv_16_7 ⟨by decide, by decide, by decide +kernel⟩ (by decide), List.forall_mem_nil _⟩, List.forall_mem_nil _, List.forall_mem_nil _, GG_pl⟩ (by decide +kernel)
set_option maxHeartbeats 4000000 in
theorem vc_Mo_halfOf_0_0 (x3 : Int) (k3 : 0 ≤ x3 ∧ x3 ≤ 0) : (0 ≤ x3) ∧ (x3 ≤ 100) := by
  omega
def o_Mo_halfOf_0 : or_T := (19, 4, [(3, (0, 0, 0, []))], [], [], [], [(20, [3], [50, 0, 0, 2, 6, 0, 2, 0, 0, 1, 0, 0, 2, 1, 0, 0, 100])], [], [])
theorem oo_Mo_halfOf_0 {kA : Nat → ClassId} : or_ok PRD kA GG o_Mo_halfOf_0 := by
  refine or_mk fun A ta ws vs hD hth hl => ?_
  intro t3 k3
  have nf0 : fc_1 PRD (20, [3], [50, 0, 0, 2, 6, 0, 2, 0, 0, 1, 0, 0, 2, 1, 0, 0, 100]) ws (vs) := ⟨nf_in hl rfl, sgq_1111 (vc_Mo_halfOf_0_0 (v_iv (n_v vs 3)) k3)⟩
  refine ⟨(fun _ h => (by cases h)), [], trivial, ?_, (fun _ h => (by cases h))⟩
  rw [List.append_nil]
  exact List.forall_mem_cons.mpr ⟨⟨show (20 : Nat) < 100 from by decide, nf0⟩, (fun _ h => (by cases h))⟩
set_option maxHeartbeats 4000000 in
theorem vc_Mo_halfOf_1_0 (x5 : Int) (k5 : 1 ≤ x5 ∧ x5 ≤ 9) : (0 ≤ x5) ∧ (x5 ≤ 100) := by
  omega
def o_Mo_halfOf_1 : or_T := (19, 6, [(5, (0, 1, 9, []))], [], [], [], [(20, [5], [50, 0, 0, 2, 6, 0, 2, 0, 0, 1, 0, 0, 2, 1, 0, 0, 100])], [], [])
theorem oo_Mo_halfOf_1 {kA : Nat → ClassId} : or_ok PRD kA GG o_Mo_halfOf_1 := by
  refine or_mk fun A ta ws vs hD hth hl => ?_
  intro t5 k5
  have nf0 : fc_1 PRD (20, [5], [50, 0, 0, 2, 6, 0, 2, 0, 0, 1, 0, 0, 2, 1, 0, 0, 100]) ws (vs) := ⟨nf_in hl rfl, sgq_1111 (vc_Mo_halfOf_1_0 (v_iv (n_v vs 5)) k5)⟩
  refine ⟨(fun _ h => (by cases h)), [], trivial, ?_, (fun _ h => (by cases h))⟩
  rw [List.append_nil]
  exact List.forall_mem_cons.mpr ⟨⟨show (20 : Nat) < 100 from by decide, nf0⟩, (fun _ h => (by cases h))⟩
def n_Mo_halfOf_an : List an_T := []
def t_Mo_halfOf_ct : ct_L := [(1, 475, e_Mo_nodes), (1, 478, e_Mo_longOf)]
set_option maxRecDepth 100000 in
theorem c_Mo_halfOf {l : Launch} {D : va_G} {kA : Nat → ClassId} (h_Mo_longOf : ct_ok PRD l D kA GG y_Mo_longOf z_Mo_longOf e_Mo_longOf) (h_Mo_nodes : ct_ok PRD l D kA GG y_Mo_nodes z_Mo_nodes e_Mo_nodes) : ct_ok PRD l D kA GG y_Mo_halfOf z_Mo_halfOf e_Mo_halfOf := chk_all_ok (FT := []) (PT := []) (CT := t_Mo_halfOf_ct) (KT := []) (NT := []) (AN := n_Mo_halfOf_an) (OT := [o_Mo_halfOf_0, o_Mo_halfOf_1]) 0 200 (List.forall_mem_cons.mpr ⟨oo_Mo_halfOf_0, List.forall_mem_cons.mpr ⟨oo_Mo_halfOf_1, List.forall_mem_nil _⟩⟩) (by decide +kernel) ⟨List.forall_mem_nil _, List.forall_mem_nil _, List.forall_mem_cons.mpr ⟨cl_virtual (y := y_Mo_nodes) (ci := 13) rfl rfl ⟨_, _, rfl⟩ (by decide +kernel) h_Mo_nodes wm_3025 wm_9 wm_3022 wm_3024 wv_13_3 ⟨by decide, by decide, by decide +kernel⟩ (by decide), List.forall_mem_cons.mpr ⟨cl_virtual (y := y_Mo_longOf) (ci := 13) rfl rfl ⟨_, _, rfl⟩ (by decide +kernel) h_Mo_longOf wm_3029 wm_9 wm_3026 wm_3028 wv_13_4 ⟨by decide, by decide, by decide +kernel⟩ (by decide), List.forall_mem_nil _⟩⟩, List.forall_mem_nil _, List.forall_mem_nil _, GG_pl⟩ (by decide +kernel)
set_option maxHeartbeats 4000000 in
theorem vc_Mo_has_0_0 (x1 : Int) (x2 : Int) (x3 : Int) (x4 : Int) (all_0 : Int → Int) (r_0 : Int) (k1 : 0 ≤ x1 ∧ x1 ≤ 47) (k2 : 0 ≤ x2 ∧ x2 ≤ 23) (k3 : 0 ≤ x3 ∧ x3 ≤ 23) (k4 : 1 ≤ x4 ∧ x4 ≤ 1) (d0 : x2 + 0 ≤ x3 ∧ x3 ≤ x2 + 0) (f1 : x3 = all_0 (((r_0 + 267) + x1))) : HSP (r_0) (all_0) (x1) (x2) (x4) := by
  unfold HSP inc
  first
    | exact ⟨fun _ => Or.inl (by omega), fun _ => by omega⟩
    | exact ⟨fun _ => Or.inr (by omega), fun _ => by omega⟩
    | exact ⟨fun z => by exfalso; omega, fun z => by exfalso; rcases z with z | z <;> omega⟩
def o_Mo_has_0 : or_T := (23, 5, [(1, (0, 0, 47, [])), (2, (0, 0, 23, [])), (3, (0, 0, 23, [])), (4, (0, 1, 1, []))], [(20, [3, 0, 1], [50, 1, 1, 1005, 1002, 1, 2, 1, 0, 3, 1, 2, 4, 7, 4, 3, 2, 1, 5, 0, 267, 1, 2])], [], [], [(20, [0, 1, 2, 4], [60, 1, 1, 204, 5, 2])], [], [(3, 2, 0, 0)])
theorem oo_Mo_has_0 {kA : Nat → ClassId} : or_ok PRD kA GG o_Mo_has_0 := by
  refine or_mk fun A ta ws vs hD hth hl => ?_
  intro t1 k1 t2 k2 t3 k3 t4 k4 d0 f1
  have nf0 : fc_1 PRD (20, [0, 1, 2, 4], [60, 1, 1, 204, 5, 2]) ws (vs) := ⟨nf_in hl rfl, sgq_1112 (vc_Mo_has_0_0 (v_iv (n_v vs 1)) (v_iv (n_v vs 2)) (v_iv (n_v vs 3)) (v_iv (n_v vs 4)) (w_ei ws (w_ar ws (n_v vs 0) 2)) (w_fi ws (n_v vs 0) 5) k1 k2 k3 k4 d0 (shm_735 f1))⟩
  refine ⟨(fun _ h => (by cases h)), [], trivial, ?_, (fun _ h => (by cases h))⟩
  rw [List.append_nil]
  exact List.forall_mem_cons.mpr ⟨⟨show (20 : Nat) < 100 from by decide, nf0⟩, (fun _ h => (by cases h))⟩
set_option maxHeartbeats 4000000 in
theorem vc_Mo_has_1_0 (x1 : Int) (x2 : Int) (x3 : Int) (x4 : Int) (x5 : Int) (all_0 : Int → Int) (r_0 : Int) (k1 : 0 ≤ x1 ∧ x1 ≤ 47) (k2 : 0 ≤ x2 ∧ x2 ≤ 75) (k3 : 0 ≤ x3 ∧ x3 ≤ 23) (k4 : 0 ≤ x4 ∧ x4 ≤ 23) (k5 : 0 ≤ x5 ∧ x5 ≤ 0) (f0 : x4 ≠ x2) (f1 : x4 = all_0 (((r_0 + 315) + x1))) (f2 : x3 ≠ x2) (f3 : x3 = all_0 (((r_0 + 267) + x1))) : HSP (r_0) (all_0) (x1) (x2) (x5) := by
  unfold HSP inc
  first
    | exact ⟨fun _ => Or.inl (by omega), fun _ => by omega⟩
    | exact ⟨fun _ => Or.inr (by omega), fun _ => by omega⟩
    | exact ⟨fun z => by exfalso; omega, fun z => by exfalso; rcases z with z | z <;> omega⟩
def o_Mo_has_1 : or_T := (23, 6, [(0, (2, 0, 0, [165])), (1, (0, 0, 47, [])), (2, (0, 0, 75, [])), (3, (0, 0, 23, [])), (4, (0, 0, 23, [])), (5, (0, 0, 0, []))], [(7, [4, 2], [1]), (20, [4, 0, 1], [50, 1, 1, 1005, 1002, 1, 2, 1, 0, 3, 1, 2, 4, 7, 4, 3, 2, 1, 5, 0, 315, 1, 2]), (7, [3, 2], [1]), (20, [3, 0, 1], [50, 1, 1, 1005, 1002, 1, 2, 1, 0, 3, 1, 2, 4, 7, 4, 3, 2, 1, 5, 0, 267, 1, 2])], [], [], [(20, [0, 1, 2, 5], [60, 1, 1, 204, 5, 2])], [], [])
theorem oo_Mo_has_1 {kA : Nat → ClassId} : or_ok PRD kA GG o_Mo_has_1 := by
  refine or_mk fun A ta ws vs hD hth hl => ?_
  intro t0 r0 t1 k1 t2 k2 t3 k3 t4 k4 t5 k5 f0 f1 f2 f3
  have nf0 : fc_1 PRD (20, [0, 1, 2, 5], [60, 1, 1, 204, 5, 2]) ws (vs) := ⟨nf_in hl rfl, sgq_1112 (vc_Mo_has_1_0 (v_iv (n_v vs 1)) (v_iv (n_v vs 2)) (v_iv (n_v vs 3)) (v_iv (n_v vs 4)) (v_iv (n_v vs 5)) (w_ei ws (w_ar ws (n_v vs 0) 2)) (w_fi ws (n_v vs 0) 5) k1 k2 k3 k4 k5 (shm_40 f0) (shm_591 f1) (shm_40 f2) (shm_735 f3))⟩
  refine ⟨(fun _ h => (by cases h)), [], trivial, ?_, (fun _ h => (by cases h))⟩
  rw [List.append_nil]
  exact List.forall_mem_cons.mpr ⟨⟨show (20 : Nat) < 100 from by decide, nf0⟩, (fun _ h => (by cases h))⟩
set_option maxHeartbeats 4000000 in
theorem vc_Mo_has_2_0 (x1 : Int) (x2 : Int) (x4 : Int) (x5 : Int) (all_0 : Int → Int) (r_0 : Int) (k1 : 0 ≤ x1 ∧ x1 ≤ 47) (k2 : 0 ≤ x2 ∧ x2 ≤ 23) (k4 : 0 ≤ x4 ∧ x4 ≤ 23) (k5 : 1 ≤ x5 ∧ x5 ≤ 1) (d0 : x2 + 0 ≤ x4 ∧ x4 ≤ x2 + 0) (f1 : x4 = all_0 (((r_0 + 315) + x1))) : HSP (r_0) (all_0) (x1) (x2) (x5) := by
  unfold HSP inc
  first
    | exact ⟨fun _ => Or.inl (by omega), fun _ => by omega⟩
    | exact ⟨fun _ => Or.inr (by omega), fun _ => by omega⟩
    | exact ⟨fun z => by exfalso; omega, fun z => by exfalso; rcases z with z | z <;> omega⟩
def o_Mo_has_2 : or_T := (23, 6, [(0, (2, 0, 0, [165])), (1, (0, 0, 47, [])), (2, (0, 0, 23, [])), (3, (0, 0, 23, [])), (4, (0, 0, 23, [])), (5, (0, 1, 1, []))], [(7, [4, 2], [0]), (20, [4, 0, 1], [50, 1, 1, 1005, 1002, 1, 2, 1, 0, 3, 1, 2, 4, 7, 4, 3, 2, 1, 5, 0, 315, 1, 2]), (7, [3, 2], [1]), (20, [3, 0, 1], [50, 1, 1, 1005, 1002, 1, 2, 1, 0, 3, 1, 2, 4, 7, 4, 3, 2, 1, 5, 0, 267, 1, 2])], [], [], [(20, [0, 1, 2, 5], [60, 1, 1, 204, 5, 2])], [], [(4, 2, 0, 0)])
theorem oo_Mo_has_2 {kA : Nat → ClassId} : or_ok PRD kA GG o_Mo_has_2 := by
  refine or_mk fun A ta ws vs hD hth hl => ?_
  intro t0 r0 t1 k1 t2 k2 t3 k3 t4 k4 t5 k5 d0 f0 f1 f2 f3
  have nf0 : fc_1 PRD (20, [0, 1, 2, 5], [60, 1, 1, 204, 5, 2]) ws (vs) := ⟨nf_in hl rfl, sgq_1112 (vc_Mo_has_2_0 (v_iv (n_v vs 1)) (v_iv (n_v vs 2)) (v_iv (n_v vs 4)) (v_iv (n_v vs 5)) (w_ei ws (w_ar ws (n_v vs 0) 2)) (w_fi ws (n_v vs 0) 5) k1 k2 k4 k5 d0 (shm_591 f1))⟩
  refine ⟨(fun _ h => (by cases h)), [], trivial, ?_, (fun _ h => (by cases h))⟩
  rw [List.append_nil]
  exact List.forall_mem_cons.mpr ⟨⟨show (20 : Nat) < 100 from by decide, nf0⟩, (fun _ h => (by cases h))⟩
def n_Mo_has_an : List an_T := []
def t_Mo_has_ct : ct_L := [(1, 394, e_Mo_tail), (1, 398, e_Mo_head)]
set_option maxRecDepth 100000 in
theorem c_Mo_has {l : Launch} {D : va_G} {kA : Nat → ClassId} (h_Mo_head : ct_ok PRD l D kA GG y_Mo_head z_Mo_head e_Mo_head) (h_Mo_tail : ct_ok PRD l D kA GG y_Mo_tail z_Mo_tail e_Mo_tail) : ct_ok PRD l D kA GG y_Mo_has z_Mo_has e_Mo_has := chk_all_ok (FT := []) (PT := []) (CT := t_Mo_has_ct) (KT := []) (NT := []) (AN := n_Mo_has_an) (OT := [o_Mo_has_0, o_Mo_has_1, o_Mo_has_2]) 0 200 (List.forall_mem_cons.mpr ⟨oo_Mo_has_0, List.forall_mem_cons.mpr ⟨oo_Mo_has_1, List.forall_mem_cons.mpr ⟨oo_Mo_has_2, List.forall_mem_nil _⟩⟩⟩) (by decide +kernel) ⟨List.forall_mem_nil _, List.forall_mem_nil _, List.forall_mem_cons.mpr ⟨cl_virtual (y := y_Mo_tail) (ci := 13) rfl rfl ⟨_, _, rfl⟩ (by decide +kernel) h_Mo_tail wm_3045 wm_9 wm_3042 wm_3044 wv_13_8 ⟨by decide, by decide, by decide +kernel⟩ (by decide), List.forall_mem_cons.mpr ⟨cl_virtual (y := y_Mo_head) (ci := 13) rfl rfl ⟨_, _, rfl⟩ (by decide +kernel) h_Mo_head wm_3049 wm_9 wm_3046 wm_3048 wv_13_9 ⟨by decide, by decide, by decide +kernel⟩ (by decide), List.forall_mem_nil _⟩⟩, List.forall_mem_nil _, List.forall_mem_nil _, GG_pl⟩ (by decide +kernel)
set_option maxHeartbeats 4000000 in
theorem vc_Mo_mayLeave_0_0 (x1 : Int) (x4 : Int) (upperNode_0 : Int → Int) (pt_0 : Int → Int) (ph_0 : Int → Int) (pm_0 : Int) (alive_0 : Int → Int) (k1 : 1 ≤ x1 ∧ x1 ≤ 28) (k4 : 0 ≤ x4 ∧ x4 ≤ 0) (kz_0_32 : 0 ≤ pm_0 ∧ pm_0 ≤ 80) : ML1 (pm_0) (pt_0) (ph_0) (alive_0) (upperNode_0) (x1) (x4) := by
  first
    | (intro t a b; exfalso; omega)
    | exact ml1_next (x := 0) (y := 0) (r := 0) ‹ML1 _ _ _ _ _ _ _› (by omega) (Or.inl (by omega))
    | exact ml1_next (x := 0) (y := 0) (r := 0) ‹ML1 _ _ _ _ _ _ _› (by omega) (Or.inr (Or.inl (by omega)))
    | exact ml1_next (x := 0) (y := 0) (r := 0) ‹ML1 _ _ _ _ _ _ _› (by omega) (Or.inr (Or.inr (Or.inl (by omega))))
    | exact ml1_next ‹ML1 _ _ _ _ _ _ _› (by omega) (Or.inr (Or.inr (Or.inr ⟨‹EOF _ _ _ _ _ _ _›, by omega, by omega, by omega⟩)))
set_option maxHeartbeats 4000000 in
theorem vc_Mo_mayLeave_0_1 (x1 : Int) (x3 : Int) (upperNode_0 : Int → Int) (k1 : 1 ≤ x1 ∧ x1 ≤ 28) (k3 : 0 ≤ x3 ∧ x3 ≤ 24) (h0 : x3 = upperNode_0 (x1)) : x3 = upperNode_0 (x1) := by
  omega
def o_Mo_mayLeave_0 : or_T := (9, 5, [(0, (2, 0, 0, [165])), (1, (0, 1, 28, [])), (3, (0, 0, 24, [])), (4, (0, 0, 0, []))], [(10, [3, 2, 1], []), (9, [2, 0], [122])], [], [], [(20, [0, 1, 4], [60, 1, 4, 288, 32, 33, 34, 35, 122]), (20, [3, 0, 1], [50, 0, 1, 1122, 1, 2, 1, 0, 3, 1, 122, 1, 2]), (24, [0, 0], []), (24, [1, 1], [])], [], [])
theorem oo_Mo_mayLeave_0 {kA : Nat → ClassId} : or_ok PRD kA GG o_Mo_mayLeave_0 := by
  refine or_mk fun A ta ws vs hD hth hl => ?_
  intro t0 r0 t1 k1 t3 k3 t4 k4 f0 f1
  replace f0 := shm_106 f0
  replace f1 := shm_989 f1
  have ad_2 : v_ad (n_v vs 2) = w_ar ws (n_v vs 0) 122 := congrArg v_ad f1
  simp only [ad_2] at f0
  have h0 : v_iv (n_v vs 3) = w_ei ws (w_ar ws (n_v vs 0) 122) (v_iv (n_v vs 1)) := f0
  have kz_0_32 := fdq_139 hD hth r0
  have nf0 : fc_1 PRD (20, [0, 1, 4], [60, 1, 4, 288, 32, 33, 34, 35, 122]) ws (vs) := ⟨nf_in hl rfl, sgq_1114 (vc_Mo_mayLeave_0_0 (v_iv (n_v vs 1)) (v_iv (n_v vs 4)) (w_ei ws (w_ar ws (n_v vs 0) 122)) (w_ei ws (w_ar ws (n_v vs 0) 33)) (w_ei ws (w_ar ws (n_v vs 0) 34)) (w_fi ws (n_v vs 0) 32) (w_ei ws (w_ar ws (n_v vs 0) 35)) k1 k4 kz_0_32)⟩
  have nf1 : fc_1 PRD (20, [3, 0, 1], [50, 0, 1, 1122, 1, 2, 1, 0, 3, 1, 122, 1, 2]) ws (vs) := ⟨nf_in hl rfl, sgq_1115 (vc_Mo_mayLeave_0_1 (v_iv (n_v vs 1)) (v_iv (n_v vs 3)) (w_ei ws (w_ar ws (n_v vs 0) 122)) k1 k3 h0)⟩
  have nf2 : fc_1 PRD (24, [0, 0], []) ws (vs) := by
    refine ⟨nf_in hl rfl, sgq_1 ?_⟩
    · show n_v vs 0 = n_v vs 0
      first | rfl | simp only [true_and]
  have nf3 : fc_1 PRD (24, [1, 1], []) ws (vs) := by
    refine ⟨nf_in hl rfl, sgq_1 ?_⟩
    · show n_v vs 1 = n_v vs 1
      first | rfl | simp only [true_and]
  refine ⟨(fun _ h => (by cases h)), [], trivial, ?_, (fun _ h => (by cases h))⟩
  rw [List.append_nil]
  exact List.forall_mem_cons.mpr ⟨⟨show (20 : Nat) < 100 from by decide, nf0⟩, List.forall_mem_cons.mpr ⟨⟨show (20 : Nat) < 100 from by decide, nf1⟩, List.forall_mem_cons.mpr ⟨⟨show (24 : Nat) < 100 from by decide, nf2⟩, List.forall_mem_cons.mpr ⟨⟨show (24 : Nat) < 100 from by decide, nf3⟩, (fun _ h => (by cases h))⟩⟩⟩⟩
set_option maxHeartbeats 4000000 in
theorem vc_Mo_mayLeave_1_0 (x1 : Int) (x5 : Int) (x6 : Int) (x7 : Int) (upper_0 : Int) (pt_0 : Int → Int) (ph_0 : Int → Int) (pm_0 : Int) (alive_0 : Int → Int) (upperNode_0 : Int → Int) (k1 : 1 ≤ x1 ∧ x1 ≤ 28) (k5 : 0 ≤ x5 ∧ x5 ≤ 30) (k6 : 0 ≤ x6 ∧ x6 ≤ 30) (k7 : 1 ≤ x7 ∧ x7 ≤ 1) (d0 : x6 + 0 ≤ x5 ∧ x5 ≤ x6 + 4294967296) (g1 : x6 = upper_0) (f4 : ML1 (pm_0) (pt_0) (ph_0) (alive_0) (upperNode_0) (x1) (x5)) (kz_0_32 : 0 ≤ pm_0 ∧ pm_0 ≤ 80) (kz_0_121 : 0 ≤ upper_0 ∧ upper_0 ≤ 30) : MLV (pm_0) (upper_0) (pt_0) (ph_0) (alive_0) (upperNode_0) (x1) (x7) := by
  exact ⟨fun _ q a b => ‹ML1 _ _ _ _ _ _ _› q a (by omega), fun _ => by omega⟩
def o_Mo_mayLeave_1 : or_T := (59, 8, [(0, (2, 0, 0, [165])), (1, (0, 1, 28, [])), (5, (0, 0, 30, [])), (6, (0, 0, 30, [])), (7, (0, 1, 1, []))], [(9, [6, 2], [121]), (20, [2, 3, 5], [60, 1, 4, 288, 32, 33, 34, 35, 122]), (24, [0, 2], []), (24, [1, 3], [])], [], [], [(20, [0, 1, 7], [60, 2, 4, 287, 32, 121, 33, 34, 35, 122])], [], [(5, 6, 0, 4294967296)])
theorem oo_Mo_mayLeave_1 {kA : Nat → ClassId} : or_ok PRD kA GG o_Mo_mayLeave_1 := by
  refine or_mk fun A ta ws vs hD hth hl => ?_
  intro t0 r0 t1 k1 t5 k5 t6 k6 t7 k7 d0 f1 f4 f6 f7
  replace f1 := shm_994 f1
  replace f4 := shm_1114 f4
  replace f6 := shm_5 f6
  replace f7 := shm_5 f7
  have q2 : n_v vs 2 = n_v vs 0 := f6.symm
  have q3 : n_v vs 3 = n_v vs 1 := f7.symm
  simp only [q2, q3] at f1 f4
  have g1 : v_iv (n_v vs 6) = w_fi ws (n_v vs 0) 121 := congrArg v_iv f1
  have kz_0_32 := fdq_139 hD hth r0
  have kz_0_121 := fdq_234 hD hth r0
  have nf0 : fc_1 PRD (20, [0, 1, 7], [60, 2, 4, 287, 32, 121, 33, 34, 35, 122]) ws (vs) := ⟨nf_in hl rfl, sgq_1116 (vc_Mo_mayLeave_1_0 (v_iv (n_v vs 1)) (v_iv (n_v vs 5)) (v_iv (n_v vs 6)) (v_iv (n_v vs 7)) (w_fi ws (n_v vs 0) 121) (w_ei ws (w_ar ws (n_v vs 0) 33)) (w_ei ws (w_ar ws (n_v vs 0) 34)) (w_fi ws (n_v vs 0) 32) (w_ei ws (w_ar ws (n_v vs 0) 35)) (w_ei ws (w_ar ws (n_v vs 0) 122)) k1 k5 k6 k7 d0 g1 f4 kz_0_32 kz_0_121)⟩
  refine ⟨(fun _ h => (by cases h)), [], trivial, ?_, (fun _ h => (by cases h))⟩
  rw [List.append_nil]
  exact List.forall_mem_cons.mpr ⟨⟨show (20 : Nat) < 100 from by decide, nf0⟩, (fun _ h => (by cases h))⟩
set_option maxHeartbeats 4000000 in
theorem vc_Mo_mayLeave_2_0 (x1 : Int) (x5 : Int) (x7 : Int) (pt_0 : Int → Int) (ph_0 : Int → Int) (pm_0 : Int) (alive_0 : Int → Int) (upperNode_0 : Int → Int) (k1 : 1 ≤ x1 ∧ x1 ≤ 28) (k5 : 1 ≤ x5 ∧ x5 ≤ 28) (k7 : 2 ≤ x7 ∧ x7 ≤ 29) (f0 : x7 = x5 + 1) (f1 : x5 = x1) (f6 : ML1 (pm_0) (pt_0) (ph_0) (alive_0) (upperNode_0) (x1) (x5)) (kz_0_32 : 0 ≤ pm_0 ∧ pm_0 ≤ 80) : ML1 (pm_0) (pt_0) (ph_0) (alive_0) (upperNode_0) (x1) (x7) := by
  first
    | (intro t a b; exfalso; omega)
    | exact ml1_next (x := 0) (y := 0) (r := 0) ‹ML1 _ _ _ _ _ _ _› (by omega) (Or.inl (by omega))
    | exact ml1_next (x := 0) (y := 0) (r := 0) ‹ML1 _ _ _ _ _ _ _› (by omega) (Or.inr (Or.inl (by omega)))
    | exact ml1_next (x := 0) (y := 0) (r := 0) ‹ML1 _ _ _ _ _ _ _› (by omega) (Or.inr (Or.inr (Or.inl (by omega))))
    | exact ml1_next ‹ML1 _ _ _ _ _ _ _› (by omega) (Or.inr (Or.inr (Or.inr ⟨‹EOF _ _ _ _ _ _ _›, by omega, by omega, by omega⟩)))
def o_Mo_mayLeave_2 : or_T := (9, 8, [(0, (2, 0, 0, [165])), (1, (0, 1, 28, [])), (5, (0, 1, 28, [])), (7, (0, 2, 29, []))], [(6, [7, 5], [1]), (7, [5, 3], [0]), (20, [2, 3, 5], [60, 1, 4, 288, 32, 33, 34, 35, 122]), (24, [0, 2], []), (24, [1, 3], [])], [], [], [(20, [2, 3, 7], [60, 1, 4, 288, 32, 33, 34, 35, 122])], [], [])
theorem oo_Mo_mayLeave_2 {kA : Nat → ClassId} : or_ok PRD kA GG o_Mo_mayLeave_2 := by
  refine or_mk fun A ta ws vs hD hth hl => ?_
  intro t0 r0 t1 k1 t5 k5 t7 k7 f0 f1 f6 f8 f9
  replace f0 := shm_4 f0
  replace f1 := shm_37 f1
  replace f6 := shm_1114 f6
  replace f8 := shm_5 f8
  replace f9 := shm_5 f9
  have q2 : n_v vs 2 = n_v vs 0 := f8.symm
  have q3 : n_v vs 3 = n_v vs 1 := f9.symm
  simp only [q3, q2] at f1 f6
  have kz_0_32 := fdq_139 hD hth r0
  have nf0 : fc_1 PRD (20, [2, 3, 7], [60, 1, 4, 288, 32, 33, 34, 35, 122]) ws (vs) := by
    refine ⟨nf_in hl rfl, sgq_1114 ?_⟩
    · show ML1 (w_fi ws (n_v vs 2) 32) (w_ei ws (w_ar ws (n_v vs 2) 33)) (w_ei ws (w_ar ws (n_v vs 2) 34)) (w_ei ws (w_ar ws (n_v vs 2) 35)) (w_ei ws (w_ar ws (n_v vs 2) 122)) (v_iv (n_v vs 3)) (v_iv (n_v vs 7))
      simp only [q2, q3]
      exact vc_Mo_mayLeave_2_0 (v_iv (n_v vs 1)) (v_iv (n_v vs 5)) (v_iv (n_v vs 7)) (w_ei ws (w_ar ws (n_v vs 0) 33)) (w_ei ws (w_ar ws (n_v vs 0) 34)) (w_fi ws (n_v vs 0) 32) (w_ei ws (w_ar ws (n_v vs 0) 35)) (w_ei ws (w_ar ws (n_v vs 0) 122)) k1 k5 k7 f0 f1 f6 kz_0_32
  refine ⟨(fun _ h => (by cases h)), [], trivial, ?_, (fun _ h => (by cases h))⟩
  rw [List.append_nil]
  exact List.forall_mem_cons.mpr ⟨⟨show (20 : Nat) < 100 from by decide, nf0⟩, (fun _ h => (by cases h))⟩
set_option maxHeartbeats 4000000 in
theorem vc_Mo_mayLeave_3_0 (x1 : Int) (x3 : Int) (x5 : Int) (x8 : Int) (x9 : Int) (pt_0 : Int → Int) (ph_0 : Int → Int) (pm_0 : Int) (alive_0 : Int → Int) (upperNode_0 : Int → Int) (k1 : 1 ≤ x1 ∧ x1 ≤ 28) (k3 : 1 ≤ x3 ∧ x3 ≤ 28) (k5 : 0 ≤ x5 ∧ x5 ≤ 27) (k8 : 0 ≤ x8 ∧ x8 ≤ 27) (k9 : 1 ≤ x9 ∧ x9 ≤ 28) (d0 : x5 + 1 ≤ x9 ∧ x9 ≤ x5 + 1) (d1 : x8 + 1 ≤ x9 ∧ x9 ≤ x8 + 1) (d4 : x3 + (-1) ≤ x8 ∧ x8 ≤ x3 + (-1)) (d5 : x1 + (-4294967296) ≤ x8 ∧ x8 ≤ x1 + (-1)) (d7 : x3 + (-4294967296) ≤ x1 ∧ x1 ≤ x3 + 0) (f0 : x9 = x5 + 1) (f8 : ML1 (pm_0) (pt_0) (ph_0) (alive_0) (upperNode_0) (x1) (x5)) (kz_0_32 : 0 ≤ pm_0 ∧ pm_0 ≤ 80) : ML1 (pm_0) (pt_0) (ph_0) (alive_0) (upperNode_0) (x1) (x9) := by
  first
    | (intro t a b; exfalso; omega)
    | exact ml1_next (x := 0) (y := 0) (r := 0) ‹ML1 _ _ _ _ _ _ _› (by omega) (Or.inl (by omega))
    | exact ml1_next (x := 0) (y := 0) (r := 0) ‹ML1 _ _ _ _ _ _ _› (by omega) (Or.inr (Or.inl (by omega)))
    | exact ml1_next (x := 0) (y := 0) (r := 0) ‹ML1 _ _ _ _ _ _ _› (by omega) (Or.inr (Or.inr (Or.inl (by omega))))
    | exact ml1_next ‹ML1 _ _ _ _ _ _ _› (by omega) (Or.inr (Or.inr (Or.inr ⟨‹EOF _ _ _ _ _ _ _›, by omega, by omega, by omega⟩)))
def o_Mo_mayLeave_3 : or_T := (9, 10, [(0, (2, 0, 0, [165])), (1, (0, 1, 28, [])), (3, (0, 1, 28, [])), (5, (0, 0, 27, [])), (8, (0, 0, 27, [])), (9, (0, 1, 28, []))], [(6, [9, 5], [1]), (20, [2, 3, 5], [60, 1, 4, 288, 32, 33, 34, 35, 122]), (24, [0, 2], []), (24, [1, 3], [])], [], [], [(20, [2, 3, 9], [60, 1, 4, 288, 32, 33, 34, 35, 122])], [], [(9, 5, 1, 1), (9, 8, 1, 1), (8, 3, -1, -1), (8, 1, -4294967296, -1), (1, 3, -4294967296, 0)])
theorem oo_Mo_mayLeave_3 {kA : Nat → ClassId} : or_ok PRD kA GG o_Mo_mayLeave_3 := by
  refine or_mk fun A ta ws vs hD hth hl => ?_
  intro t0 r0 t1 k1 t3 k3 t5 k5 t8 k8 t9 k9 d0 d1 d4 d5 d7 f0 f8 f10 f11
  replace f0 := shm_4 f0
  replace f8 := shm_1114 f8
  replace f10 := shm_5 f10
  replace f11 := shm_5 f11
  have q2 : n_v vs 2 = n_v vs 0 := f10.symm
  have q3 : n_v vs 3 = n_v vs 1 := f11.symm
  simp only [q3, q2] at f8
  have kz_0_32 := fdq_139 hD hth r0
  have nf0 : fc_1 PRD (20, [2, 3, 9], [60, 1, 4, 288, 32, 33, 34, 35, 122]) ws (vs) := by
    refine ⟨nf_in hl rfl, sgq_1114 ?_⟩
    · show ML1 (w_fi ws (n_v vs 2) 32) (w_ei ws (w_ar ws (n_v vs 2) 33)) (w_ei ws (w_ar ws (n_v vs 2) 34)) (w_ei ws (w_ar ws (n_v vs 2) 35)) (w_ei ws (w_ar ws (n_v vs 2) 122)) (v_iv (n_v vs 3)) (v_iv (n_v vs 9))
      simp only [q2, q3]
      exact vc_Mo_mayLeave_3_0 (v_iv (n_v vs 1)) (v_iv (n_v vs 3)) (v_iv (n_v vs 5)) (v_iv (n_v vs 8)) (v_iv (n_v vs 9)) (w_ei ws (w_ar ws (n_v vs 0) 33)) (w_ei ws (w_ar ws (n_v vs 0) 34)) (w_fi ws (n_v vs 0) 32) (w_ei ws (w_ar ws (n_v vs 0) 35)) (w_ei ws (w_ar ws (n_v vs 0) 122)) k1 k3 k5 k8 k9 d0 d1 d4 d5 d7 f0 f8 kz_0_32
  refine ⟨(fun _ h => (by cases h)), [], trivial, ?_, (fun _ h => (by cases h))⟩
  rw [List.append_nil]
  exact List.forall_mem_cons.mpr ⟨⟨show (20 : Nat) < 100 from by decide, nf0⟩, (fun _ h => (by cases h))⟩
set_option maxHeartbeats 4000000 in
theorem vc_Mo_mayLeave_4_0 (x1 : Int) (x3 : Int) (x5 : Int) (x8 : Int) (x10 : Int) (x11 : Int) (pt_0 : Int → Int) (ph_0 : Int → Int) (pm_0 : Int) (alive_0 : Int → Int) (upperNode_0 : Int → Int) (k1 : 1 ≤ x1 ∧ x1 ≤ 28) (k3 : 1 ≤ x3 ∧ x3 ≤ 28) (k5 : 2 ≤ x5 ∧ x5 ≤ 29) (k8 : 0 ≤ x8 ∧ x8 ≤ 27) (k10 : 2 ≤ x10 ∧ x10 ≤ 29) (k11 : 3 ≤ x11 ∧ x11 ≤ 30) (d0 : x5 + 1 ≤ x11 ∧ x11 ≤ x5 + 1) (d1 : x10 + 1 ≤ x11 ∧ x11 ≤ x10 + 1) (d4 : x3 + 1 ≤ x10 ∧ x10 ≤ x3 + 1) (d5 : x1 + (-4294967296) ≤ x10 ∧ x10 ≤ x1 + 1) (d6 : x3 + (-1) ≤ x8 ∧ x8 ≤ x3 + (-1)) (d7 : x1 + (-4294967296) ≤ x8 ∧ x8 ≤ x1 + (-1)) (d9 : x3 + (-4294967296) ≤ x1 ∧ x1 ≤ x3 + 0) (f0 : x11 = x5 + 1) (f10 : ML1 (pm_0) (pt_0) (ph_0) (alive_0) (upperNode_0) (x1) (x5)) (kz_0_32 : 0 ≤ pm_0 ∧ pm_0 ≤ 80) : ML1 (pm_0) (pt_0) (ph_0) (alive_0) (upperNode_0) (x1) (x11) := by
  first
    | (intro t a b; exfalso; omega)
    | exact ml1_next (x := 0) (y := 0) (r := 0) ‹ML1 _ _ _ _ _ _ _› (by omega) (Or.inl (by omega))
    | exact ml1_next (x := 0) (y := 0) (r := 0) ‹ML1 _ _ _ _ _ _ _› (by omega) (Or.inr (Or.inl (by omega)))
    | exact ml1_next (x := 0) (y := 0) (r := 0) ‹ML1 _ _ _ _ _ _ _› (by omega) (Or.inr (Or.inr (Or.inl (by omega))))
    | exact ml1_next ‹ML1 _ _ _ _ _ _ _› (by omega) (Or.inr (Or.inr (Or.inr ⟨‹EOF _ _ _ _ _ _ _›, by omega, by omega, by omega⟩)))
def o_Mo_mayLeave_4 : or_T := (9, 12, [(0, (2, 0, 0, [165])), (1, (0, 1, 28, [])), (3, (0, 1, 28, [])), (5, (0, 2, 29, [])), (8, (0, 0, 27, [])), (10, (0, 2, 29, [])), (11, (0, 3, 30, []))], [(6, [11, 5], [1]), (20, [2, 3, 5], [60, 1, 4, 288, 32, 33, 34, 35, 122]), (24, [0, 2], []), (24, [1, 3], [])], [], [], [(20, [2, 3, 11], [60, 1, 4, 288, 32, 33, 34, 35, 122])], [], [(11, 5, 1, 1), (11, 10, 1, 1), (10, 3, 1, 1), (10, 1, -4294967296, 1), (8, 3, -1, -1), (8, 1, -4294967296, -1), (1, 3, -4294967296, 0)])
theorem oo_Mo_mayLeave_4 {kA : Nat → ClassId} : or_ok PRD kA GG o_Mo_mayLeave_4 := by
  refine or_mk fun A ta ws vs hD hth hl => ?_
  intro t0 r0 t1 k1 t3 k3 t5 k5 t8 k8 t10 k10 t11 k11 d0 d1 d4 d5 d6 d7 d9 f0 f10 f12 f13
  replace f0 := shm_4 f0
  replace f10 := shm_1114 f10
  replace f12 := shm_5 f12
  replace f13 := shm_5 f13
  have q2 : n_v vs 2 = n_v vs 0 := f12.symm
  have q3 : n_v vs 3 = n_v vs 1 := f13.symm
  simp only [q3, q2] at f10
  have kz_0_32 := fdq_139 hD hth r0
  have nf0 : fc_1 PRD (20, [2, 3, 11], [60, 1, 4, 288, 32, 33, 34, 35, 122]) ws (vs) := by
    refine ⟨nf_in hl rfl, sgq_1114 ?_⟩
    · show ML1 (w_fi ws (n_v vs 2) 32) (w_ei ws (w_ar ws (n_v vs 2) 33)) (w_ei ws (w_ar ws (n_v vs 2) 34)) (w_ei ws (w_ar ws (n_v vs 2) 35)) (w_ei ws (w_ar ws (n_v vs 2) 122)) (v_iv (n_v vs 3)) (v_iv (n_v vs 11))
      simp only [q2, q3]
      exact vc_Mo_mayLeave_4_0 (v_iv (n_v vs 1)) (v_iv (n_v vs 3)) (v_iv (n_v vs 5)) (v_iv (n_v vs 8)) (v_iv (n_v vs 10)) (v_iv (n_v vs 11)) (w_ei ws (w_ar ws (n_v vs 0) 33)) (w_ei ws (w_ar ws (n_v vs 0) 34)) (w_fi ws (n_v vs 0) 32) (w_ei ws (w_ar ws (n_v vs 0) 35)) (w_ei ws (w_ar ws (n_v vs 0) 122)) k1 k3 k5 k8 k10 k11 d0 d1 d4 d5 d6 d7 d9 f0 f10 kz_0_32
  refine ⟨(fun _ h => (by cases h)), [], trivial, ?_, (fun _ h => (by cases h))⟩
  rw [List.append_nil]
  exact List.forall_mem_cons.mpr ⟨⟨show (20 : Nat) < 100 from by decide, nf0⟩, (fun _ h => (by cases h))⟩
set_option maxHeartbeats 4000000 in
theorem vc_Mo_mayLeave_5_0 (x1 : Int) (x4 : Int) (x5 : Int) (x12 : Int) (x13 : Int) (x14 : Int) (pt_0 : Int → Int) (ph_0 : Int → Int) (alive_0 : Int → Int) (pm_0 : Int) (upperNode_0 : Int → Int) (k1 : 1 ≤ x1 ∧ x1 ≤ 28) (k4 : 0 ≤ x4 ∧ x4 ≤ 24) (k5 : 0 ≤ x5 ∧ x5 ≤ 29) (k12 : 0 ≤ x12 ∧ x12 ≤ 24) (k13 : (-1) ≤ x13 ∧ x13 ≤ (-1)) (k14 : 1 ≤ x14 ∧ x14 ≤ 30) (f0 : x14 = x5 + 1) (f1 : x13 < 0) (f2 : EOF (pm_0) (pt_0) (ph_0) (alive_0) (x4) (x12) (x13)) (h3 : x12 = upperNode_0 (x5)) (f14 : ML1 (pm_0) (pt_0) (ph_0) (alive_0) (upperNode_0) (x1) (x5)) (f15 : x4 = upperNode_0 (x1)) (kz_0_32 : 0 ≤ pm_0 ∧ pm_0 ≤ 80) : ML1 (pm_0) (pt_0) (ph_0) (alive_0) (upperNode_0) (x1) (x14) := by
  first
    | (intro t a b; exfalso; omega)
    | exact ml1_next (x := 0) (y := 0) (r := 0) ‹ML1 _ _ _ _ _ _ _› (by omega) (Or.inl (by omega))
    | exact ml1_next (x := 0) (y := 0) (r := 0) ‹ML1 _ _ _ _ _ _ _› (by omega) (Or.inr (Or.inl (by omega)))
    | exact ml1_next (x := 0) (y := 0) (r := 0) ‹ML1 _ _ _ _ _ _ _› (by omega) (Or.inr (Or.inr (Or.inl (by omega))))
    | exact ml1_next ‹ML1 _ _ _ _ _ _ _› (by omega) (Or.inr (Or.inr (Or.inr ⟨‹EOF _ _ _ _ _ _ _›, by omega, by omega, by omega⟩)))
def o_Mo_mayLeave_5 : or_T := (9, 15, [(0, (2, 0, 0, [165])), (1, (0, 1, 28, [])), (4, (0, 0, 24, [])), (5, (0, 0, 29, [])), (12, (0, 0, 24, [])), (13, (0, -1, -1, [])), (14, (0, 1, 30, []))], [(6, [14, 5], [1]), (8, [13], [2]), (20, [2, 4, 12, 13], [60, 1, 3, 85, 32, 33, 34, 35]), (10, [12, 11, 5], []), (9, [11, 2], [122]), (20, [2, 3, 5], [60, 1, 4, 288, 32, 33, 34, 35, 122]), (20, [4, 2, 3], [50, 0, 1, 1122, 1, 2, 1, 0, 3, 1, 122, 1, 2]), (24, [0, 2], []), (24, [1, 3], [])], [], [], [(20, [2, 3, 14], [60, 1, 4, 288, 32, 33, 34, 35, 122])], [], [])
theorem oo_Mo_mayLeave_5 {kA : Nat → ClassId} : or_ok PRD kA GG o_Mo_mayLeave_5 := by
  refine or_mk fun A ta ws vs hD hth hl => ?_
  intro t0 r0 t1 k1 t4 k4 t5 k5 t12 k12 t13 k13 t14 k14 f0 f1 f2 f3 f4 f14 f15 f16 f17
  replace f0 := shm_4 f0
  replace f1 := shm_39 f1
  replace f2 := shm_962 f2
  replace f3 := shm_106 f3
  replace f4 := shm_989 f4
  replace f14 := shm_1114 f14
  replace f15 := shm_1115 f15
  replace f16 := shm_5 f16
  replace f17 := shm_5 f17
  have q2 : n_v vs 2 = n_v vs 0 := f16.symm
  have q3 : n_v vs 3 = n_v vs 1 := f17.symm
  simp only [q2, q3] at f2 f4 f14 f15
  have ad_11 : v_ad (n_v vs 11) = w_ar ws (n_v vs 0) 122 := congrArg v_ad f4
  simp only [ad_11] at f3
  have h3 : v_iv (n_v vs 12) = w_ei ws (w_ar ws (n_v vs 0) 122) (v_iv (n_v vs 5)) := f3
  have kz_0_32 := fdq_139 hD hth r0
  have nf0 : fc_1 PRD (20, [2, 3, 14], [60, 1, 4, 288, 32, 33, 34, 35, 122]) ws (vs) := by
    refine ⟨nf_in hl rfl, sgq_1114 ?_⟩
    · show ML1 (w_fi ws (n_v vs 2) 32) (w_ei ws (w_ar ws (n_v vs 2) 33)) (w_ei ws (w_ar ws (n_v vs 2) 34)) (w_ei ws (w_ar ws (n_v vs 2) 35)) (w_ei ws (w_ar ws (n_v vs 2) 122)) (v_iv (n_v vs 3)) (v_iv (n_v vs 14))
      simp only [q2, q3]
      exact vc_Mo_mayLeave_5_0 (v_iv (n_v vs 1)) (v_iv (n_v vs 4)) (v_iv (n_v vs 5)) (v_iv (n_v vs 12)) (v_iv (n_v vs 13)) (v_iv (n_v vs 14)) (w_ei ws (w_ar ws (n_v vs 0) 33)) (w_ei ws (w_ar ws (n_v vs 0) 34)) (w_ei ws (w_ar ws (n_v vs 0) 35)) (w_fi ws (n_v vs 0) 32) (w_ei ws (w_ar ws (n_v vs 0) 122)) k1 k4 k5 k12 k13 k14 f0 f1 f2 h3 f14 f15 kz_0_32
  refine ⟨(fun _ h => (by cases h)), [], trivial, ?_, (fun _ h => (by cases h))⟩
  rw [List.append_nil]
  exact List.forall_mem_cons.mpr ⟨⟨show (20 : Nat) < 100 from by decide, nf0⟩, (fun _ h => (by cases h))⟩
set_option maxHeartbeats 4000000 in
theorem vc_Mo_mayLeave_6_0 (x1 : Int) (x3 : Int) (x4 : Int) (x5 : Int) (x6 : Int) (x8 : Int) (x10 : Int) (x12 : Int) (x13 : Int) (x14 : Int) (pt_0 : Int → Int) (ph_0 : Int → Int) (alive_0 : Int → Int) (pm_0 : Int) (upperNode_0 : Int → Int) (upper_0 : Int) (k1 : 1 ≤ x1 ∧ x1 ≤ 28) (k3 : 1 ≤ x3 ∧ x3 ≤ 28) (k4 : 0 ≤ x4 ∧ x4 ≤ 24) (k5 : 0 ≤ x5 ∧ x5 ≤ 29) (k6 : 1 ≤ x6 ∧ x6 ≤ 30) (k8 : 0 ≤ x8 ∧ x8 ≤ 27) (k10 : 2 ≤ x10 ∧ x10 ≤ 29) (k12 : 0 ≤ x12 ∧ x12 ≤ 24) (k13 : 0 ≤ x13 ∧ x13 ≤ 79) (k14 : 0 ≤ x14 ∧ x14 ≤ 0) (d0 : x3 + 1 ≤ x10 ∧ x10 ≤ x3 + 1) (d1 : x1 + (-4294967296) ≤ x10 ∧ x10 ≤ x1 + 1) (d2 : x3 + (-1) ≤ x8 ∧ x8 ≤ x3 + (-1)) (d3 : x1 + (-4294967296) ≤ x8 ∧ x8 ≤ x1 + (-1)) (d4 : x6 + (-4294967296) ≤ x5 ∧ x5 ≤ x6 + (-1)) (d5 : x3 + (-4294967296) ≤ x1 ∧ x1 ≤ x3 + 0) (f0 : 0 ≤ x13) (f1 : EOF (pm_0) (pt_0) (ph_0) (alive_0) (x4) (x12) (x13)) (h2 : x12 = upperNode_0 (x5)) (f4 : x5 ≠ x10) (f6 : x5 ≠ x8) (f8 : x5 ≠ x1) (g10 : x6 = upper_0) (f14 : x4 = upperNode_0 (x1)) (kz_0_32 : 0 ≤ pm_0 ∧ pm_0 ≤ 80) (kz_0_121 : 0 ≤ upper_0 ∧ upper_0 ≤ 30) : MLV (pm_0) (upper_0) (pt_0) (ph_0) (alive_0) (upperNode_0) (x1) (x14) := by
  exact mlv_no (q := x5) (by omega) (by omega) (by omega) (by omega) (by omega) ‹EOF _ _ _ _ _ _ _› (by omega) (by omega) (by omega) (by omega)
def o_Mo_mayLeave_6 : or_T := (51, 15, [(0, (2, 0, 0, [165])), (1, (0, 1, 28, [])), (3, (0, 1, 28, [])), (4, (0, 0, 24, [])), (5, (0, 0, 29, [])), (6, (0, 1, 30, [])), (8, (0, 0, 27, [])), (10, (0, 2, 29, [])), (12, (0, 0, 24, [])), (13, (0, 0, 79, [])), (14, (0, 0, 0, []))], [(8, [13], [3]), (20, [2, 4, 12, 13], [60, 1, 3, 85, 32, 33, 34, 35]), (10, [12, 11, 5], []), (9, [11, 2], [122]), (7, [5, 10], [1]), (7, [5, 8], [1]), (7, [5, 3], [1]), (9, [6, 2], [121]), (20, [4, 2, 3], [50, 0, 1, 1122, 1, 2, 1, 0, 3, 1, 122, 1, 2]), (24, [0, 2], []), (24, [1, 3], [])], [], [], [(20, [0, 1, 14], [60, 2, 4, 287, 32, 121, 33, 34, 35, 122])], [], [(10, 3, 1, 1), (10, 1, -4294967296, 1), (8, 3, -1, -1), (8, 1, -4294967296, -1), (5, 6, -4294967296, -1), (1, 3, -4294967296, 0)])
theorem oo_Mo_mayLeave_6 {kA : Nat → ClassId} : or_ok PRD kA GG o_Mo_mayLeave_6 := by
  refine or_mk fun A ta ws vs hD hth hl => ?_
  intro t0 r0 t1 k1 t3 k3 t4 k4 t5 k5 t6 k6 t8 k8 t10 k10 t12 k12 t13 k13 t14 k14 d0 d1 d2 d3 d4 d5 f0 f1 f2 f3 f4 f6 f8 f10 f14 f15 f16
  replace f1 := shm_962 f1
  replace f2 := shm_106 f2
  replace f3 := shm_989 f3
  replace f8 := shm_40 f8
  replace f10 := shm_994 f10
  replace f14 := shm_1115 f14
  replace f15 := shm_5 f15
  replace f16 := shm_5 f16
  have q2 : n_v vs 2 = n_v vs 0 := f15.symm
  have q3 : n_v vs 3 = n_v vs 1 := f16.symm
  simp only [q2, q3] at f1 f3 f8 f10 f14
  have ad_11 : v_ad (n_v vs 11) = w_ar ws (n_v vs 0) 122 := congrArg v_ad f3
  simp only [ad_11] at f2
  have h2 : v_iv (n_v vs 12) = w_ei ws (w_ar ws (n_v vs 0) 122) (v_iv (n_v vs 5)) := f2
  have g10 : v_iv (n_v vs 6) = w_fi ws (n_v vs 0) 121 := congrArg v_iv f10
  have kz_0_32 := fdq_139 hD hth r0
  have kz_0_121 := fdq_234 hD hth r0
  have nf0 : fc_1 PRD (20, [0, 1, 14], [60, 2, 4, 287, 32, 121, 33, 34, 35, 122]) ws (vs) := ⟨nf_in hl rfl, sgq_1116 (vc_Mo_mayLeave_6_0 (v_iv (n_v vs 1)) (v_iv (n_v vs 3)) (v_iv (n_v vs 4)) (v_iv (n_v vs 5)) (v_iv (n_v vs 6)) (v_iv (n_v vs 8)) (v_iv (n_v vs 10)) (v_iv (n_v vs 12)) (v_iv (n_v vs 13)) (v_iv (n_v vs 14)) (w_ei ws (w_ar ws (n_v vs 0) 33)) (w_ei ws (w_ar ws (n_v vs 0) 34)) (w_ei ws (w_ar ws (n_v vs 0) 35)) (w_fi ws (n_v vs 0) 32) (w_ei ws (w_ar ws (n_v vs 0) 122)) (w_fi ws (n_v vs 0) 121) k1 k3 k4 k5 k6 k8 k10 k12 k13 k14 d0 d1 d2 d3 d4 d5 (shm_32 f0) f1 h2 (shm_40 f4) (shm_40 f6) f8 g10 f14 kz_0_32 kz_0_121)⟩
  refine ⟨(fun _ h => (by cases h)), [], trivial, ?_, (fun _ h => (by cases h))⟩
  rw [List.append_nil]
  exact List.forall_mem_cons.mpr ⟨⟨show (20 : Nat) < 100 from by decide, nf0⟩, (fun _ h => (by cases h))⟩
def n_Mo_mayLeave_an : List an_T := [(9, [(0, (2, 0, 0, [165])), (1, (0, 1, 28, [])), (2, (0, 0, 24, [])), (3, (0, 0, 30, []))], [], (0, 0), [(0, 0, 99991), (1, 5, 30), (0, 0, 100000)], [(1, 3, (Int.negSucc 999999999999), 0), (3, 1, (Int.negSucc 999999999999), 0)], [], [(2, 0, 0, [165]), (0, 1, 28, [])], 0, [], [(20, [2], [60, 2, 2, 75, 31, 32, 33, 34]), (20, [3, 2], [30, (Int.negSucc 0), 1, 0, 0, (Int.negSucc 0), 1, 121]), (20, [2, 3, 5], [60, 1, 4, 288, 32, 33, 34, 35, 122]), (20, [4, 2, 3], [50, 0, 1, 1122, 1, 2, 1, 0, 3, 1, 122, 1, 2]), (24, [0, 2], []), (24, [1, 3], [])])]
def t_Mo_mayLeave_ct : ct_L := [(1, 646, e_Mo_edgeOf)]
set_option maxRecDepth 100000 in
theorem c_Mo_mayLeave {l : Launch} {D : va_G} {kA : Nat → ClassId} (h_Mo_edgeOf : ct_ok PRD l D kA GG y_Mo_edgeOf z_Mo_edgeOf e_Mo_edgeOf) : ct_ok PRD l D kA GG y_Mo_mayLeave z_Mo_mayLeave e_Mo_mayLeave := chk_all_ok (FT := [(278, 13, 122), (904, 13, 121)]) (PT := []) (CT := t_Mo_mayLeave_ct) (KT := []) (NT := []) (AN := n_Mo_mayLeave_an) (OT := [o_Mo_mayLeave_0, o_Mo_mayLeave_1, o_Mo_mayLeave_2, o_Mo_mayLeave_3, o_Mo_mayLeave_4, o_Mo_mayLeave_5, o_Mo_mayLeave_6]) 3 200 (List.forall_mem_cons.mpr ⟨oo_Mo_mayLeave_0, List.forall_mem_cons.mpr ⟨oo_Mo_mayLeave_1, List.forall_mem_cons.mpr ⟨oo_Mo_mayLeave_2, List.forall_mem_cons.mpr ⟨oo_Mo_mayLeave_3, List.forall_mem_cons.mpr ⟨oo_Mo_mayLeave_4, List.forall_mem_cons.mpr ⟨oo_Mo_mayLeave_5, List.forall_mem_cons.mpr ⟨oo_Mo_mayLeave_6, List.forall_mem_nil _⟩⟩⟩⟩⟩⟩⟩) (by decide +kernel) ⟨List.forall_mem_cons.mpr ⟨gf_Mo_278, List.forall_mem_cons.mpr ⟨gf_Mo_904, List.forall_mem_nil _⟩⟩, List.forall_mem_nil _, List.forall_mem_cons.mpr ⟨cl_virtual (y := y_Mo_edgeOf) (ci := 13) rfl rfl ⟨_, _, rfl⟩ (by decide +kernel) h_Mo_edgeOf wm_3195 wm_9 wm_3192 wm_3194 wv_15_7 ⟨by decide, by decide, by decide +kernel⟩ (by decide), List.forall_mem_nil _⟩, List.forall_mem_nil _, List.forall_mem_nil _, GG_pl⟩ (by decide +kernel)

set_option maxHeartbeats 4000000 in
theorem vc_Mo_pieces_0_0 (x1 : Int) (drawnEdge_0 : Int → Int) (pieceOf_0 : Int → Int) (k1 : 0 ≤ x1 ∧ x1 ≤ 0) : PC0 (drawnEdge_0) (pieceOf_0) (x1) := by
  first
    | (intro e a b; exfalso; omega)
    | (have h := ‹PC0 _ _ _›
       intro e a b
       by_cases q : e = x2
       · have v := (hE_0_44_1 x2 (by omega)).1 rfl
         rw [q]
         exact ⟨fun z => by omega, fun z => by omega⟩
       · rw [(hE_0_44_1 e a).2 q]; exact h e a (by omega))
def o_Mo_pieces_0 : or_T := (2, 2, [(1, (0, 0, 0, []))], [], [], [], [(20, [0, 1], [60, 0, 2, 99, 43, 44]), (24, [0, 0], [])], [], [])
theorem oo_Mo_pieces_0 {kA : Nat → ClassId} : or_ok PRD kA GG o_Mo_pieces_0 := by
  refine or_mk fun A ta ws vs hD hth hl => ?_
  intro t1 k1
  have nf0 : fc_1 PRD (20, [0, 1], [60, 0, 2, 99, 43, 44]) ws (vs) := ⟨nf_in hl rfl, sgq_1117 (vc_Mo_pieces_0_0 (v_iv (n_v vs 1)) (w_ei ws (w_ar ws (n_v vs 0) 43)) (w_ei ws (w_ar ws (n_v vs 0) 44)) k1)⟩
  have nf1 : fc_1 PRD (24, [0, 0], []) ws (vs) := by
    refine ⟨nf_in hl rfl, sgq_1 ?_⟩
    · show n_v vs 0 = n_v vs 0
      first | rfl | simp only [true_and]
  refine ⟨(fun _ h => (by cases h)), [], trivial, ?_, (fun _ h => (by cases h))⟩
  rw [List.append_nil]
  exact List.forall_mem_cons.mpr ⟨⟨show (20 : Nat) < 100 from by decide, nf0⟩, List.forall_mem_cons.mpr ⟨⟨show (24 : Nat) < 100 from by decide, nf1⟩, (fun _ h => (by cases h))⟩⟩
set_option maxHeartbeats 4000000 in
theorem vc_Mo_pieces_1_0 (x2 : Int) (x3 : Int) (pm_0 : Int) (drawnEdge_0 : Int → Int) (pieceOf_0 : Int → Int) (pt_0 : Int → Int) (ph_0 : Int → Int) (drawnNode_0 : Int → Int) (k2 : 0 ≤ x2 ∧ x2 ≤ 80) (k3 : 0 ≤ x3 ∧ x3 ≤ 80) (d0 : x3 + 0 ≤ x2 ∧ x2 ≤ x3 + 4294967296) (g1 : x3 = pm_0) (f2 : PC0 (drawnEdge_0) (pieceOf_0) (x2)) (kz_0_32 : 0 ≤ pm_0 ∧ pm_0 ≤ 80) : PCI (pm_0) (pt_0) (ph_0) (drawnEdge_0) (drawnNode_0) (pieceOf_0) := by
  first
    | assumption
    | exact pc_start ‹PC0 _ _ _› (by omega)
set_option maxHeartbeats 4000000 in
theorem vc_Mo_pieces_1_1 (x2 : Int) (x3 : Int) (x4 : Int) (pm_0 : Int) (drawnEdge_0 : Int → Int) (pieceOf_0 : Int → Int) (pt_0 : Int → Int) (ph_0 : Int → Int) (drawnNode_0 : Int → Int) (k2 : 0 ≤ x2 ∧ x2 ≤ 80) (k3 : 0 ≤ x3 ∧ x3 ≤ 80) (k4 : 1 ≤ x4 ∧ x4 ≤ 1) (f0 : x3 ≤ x2) (kz_0_32 : 0 ≤ pm_0 ∧ pm_0 ≤ 80) : PC3 (pm_0) (pt_0) (ph_0) (drawnEdge_0) (drawnNode_0) (pieceOf_0) (x4) := by
  first
    | (intro h; exfalso; omega)
    | (have h := ‹PC4 _ _ _ _ _ _ _›
       intro h0 e_zq f_zq f0 hfe hlt
       exact h h0 e_zq f_zq f0 hfe (by omega))
set_option maxHeartbeats 4000000 in
theorem vc_Mo_pieces_1_2 (x2 : Int) (x3 : Int) (x4 : Int) (pm_0 : Int) (drawnEdge_0 : Int → Int) (pieceOf_0 : Int → Int) (gx : Int) (k2 : 0 ≤ x2 ∧ x2 ≤ 80) (k3 : 0 ≤ x3 ∧ x3 ≤ 80) (k4 : 1 ≤ x4 ∧ x4 ≤ 1) (d0 : x3 + 0 ≤ x2 ∧ x2 ≤ x3 + 4294967296) (g1 : x3 = pm_0) (f2 : PC0 (drawnEdge_0) (pieceOf_0) (x2)) (kz_0_32 : 0 ≤ pm_0 ∧ pm_0 ≤ 80) (ex2 : gx = 6500) : PCM (pm_0) (pieceOf_0) (x4) (gx) := by
  first
    | (have := pc_sm0 (m := pm_0) ‹PC0 _ _ _› (by omega) (by omega) (by omega); unfold PCM; omega)
    | (have h := ‹PCN _ _ _ _›; unfold PCM; unfold PCN at h; omega)
def o_Mo_pieces_1 : or_T := (38, 5, [(0, (2, 0, 0, [165])), (1, (2, 0, 0, [165])), (2, (0, 0, 80, [])), (3, (0, 0, 80, [])), (4, (0, 1, 1, []))], [(7, [2, 3], [3]), (9, [3, 1], [32]), (20, [1, 2], [60, 0, 2, 99, 43, 44]), (24, [0, 1], [])], [], [(0, -200, 6500, [])], [(20, [1], [60, 1, 5, 100, 32, 33, 34, 43, 42, 44]), (20, [1, 4], [60, 1, 5, 102, 32, 33, 34, 43, 42, 44]), (20, [1, 4, 5], [60, 1, 1, 104, 32, 44]), (24, [0, 1], [])], [], [(2, 3, 0, 4294967296)])
theorem oo_Mo_pieces_1 {kA : Nat → ClassId} : or_ok PRD kA GG o_Mo_pieces_1 := by
  refine or_mk fun A ta ws vs hD hth hl => ?_
  intro t0 r0 t1 r1 t2 k2 t3 k3 t4 k4 d0 f0 f1 f2 f3
  replace f0 := shm_2 f0
  replace f1 := shm_519 f1
  replace f2 := shm_1117 f2
  replace f3 := shm_5 f3
  have q1 : n_v vs 1 = n_v vs 0 := f3.symm
  simp only [q1] at f1 f2
  have cr_0_33 := fdq_116 hD hth r0
  have cr_0_34 := fdq_117 hD hth r0
  have cr_0_42 := fdq_135 hD hth r0
  have cr_0_43 := fdq_136 hD hth r0
  have cr_0_44 := fdq_137 hD hth r0
  have g1 : v_iv (n_v vs 3) = w_fi ws (n_v vs 0) 32 := congrArg v_iv f1
  have hK_0_33 := elq_57 hD hth cr_0_33
  have hK_0_34 := elq_58 hD hth cr_0_34
  have hK_0_42 := elq_72 hD hth cr_0_42
  have hK_0_43 := elq_73 hD hth cr_0_43
  have hK_0_44 := elq_74 hD hth cr_0_44
  have kz_0_32 := fdq_139 hD hth r0
  first | have hN := pcn_pos ‹PCN _ _ _ _› (by omega) ‹PCI _ _ _ _ _ _› (by omega) (by omega) | skip
  obtain ⟨x, ex, hx⟩ := iv_ex (ta := ta) (lo := (-200)) (hi := 6500) (z := 6500) (by omega) (by omega) (by omega) (by omega)
  have ex2 : v_iv (Value.int x) = 6500 := ex
  have ex3 : (-200) ≤ v_iv (Value.int x) ∧ v_iv (Value.int x) ≤ 6500 := tv_rng hx
  have e_0 : n_v (vs ++ [Value.int x]) 0 = n_v vs 0 := n_v_old (by rw [hl]; decide)
  have e_1 : n_v (vs ++ [Value.int x]) 1 = n_v vs 1 := n_v_old (by rw [hl]; decide)
  have e_4 : n_v (vs ++ [Value.int x]) 4 = n_v vs 4 := n_v_old (by rw [hl]; decide)
  have e_5 : n_v (vs ++ [Value.int x]) 5 = Value.int x := n_v_new hl
  have nf0 : fc_1 PRD (20, [1], [60, 1, 5, 100, 32, 33, 34, 43, 42, 44]) ws (vs ++ [Value.int x]) := by
    refine ⟨nf_inA hl rfl, sgq_1118 ?_⟩
    · show PCI (w_fi ws (n_v (vs ++ [Value.int x]) 1) 32) (w_ei ws (w_ar ws (n_v (vs ++ [Value.int x]) 1) 33)) (w_ei ws (w_ar ws (n_v (vs ++ [Value.int x]) 1) 34)) (w_ei ws (w_ar ws (n_v (vs ++ [Value.int x]) 1) 43)) (w_ei ws (w_ar ws (n_v (vs ++ [Value.int x]) 1) 42)) (w_ei ws (w_ar ws (n_v (vs ++ [Value.int x]) 1) 44))
      simp only [e_1, q1]
      exact vc_Mo_pieces_1_0 (v_iv (n_v vs 2)) (v_iv (n_v vs 3)) (w_fi ws (n_v vs 0) 32) (w_ei ws (w_ar ws (n_v vs 0) 43)) (w_ei ws (w_ar ws (n_v vs 0) 44)) (w_ei ws (w_ar ws (n_v vs 0) 33)) (w_ei ws (w_ar ws (n_v vs 0) 34)) (w_ei ws (w_ar ws (n_v vs 0) 42)) k2 k3 d0 g1 f2 kz_0_32
  have nf1 : fc_1 PRD (20, [1, 4], [60, 1, 5, 102, 32, 33, 34, 43, 42, 44]) ws (vs ++ [Value.int x]) := by
    refine ⟨nf_inA hl rfl, sgq_1119 ?_⟩
    · show PC3 (w_fi ws (n_v (vs ++ [Value.int x]) 1) 32) (w_ei ws (w_ar ws (n_v (vs ++ [Value.int x]) 1) 33)) (w_ei ws (w_ar ws (n_v (vs ++ [Value.int x]) 1) 34)) (w_ei ws (w_ar ws (n_v (vs ++ [Value.int x]) 1) 43)) (w_ei ws (w_ar ws (n_v (vs ++ [Value.int x]) 1) 42)) (w_ei ws (w_ar ws (n_v (vs ++ [Value.int x]) 1) 44)) (v_iv (n_v (vs ++ [Value.int x]) 4))
      simp only [e_1, e_4, q1]
      exact vc_Mo_pieces_1_1 (v_iv (n_v vs 2)) (v_iv (n_v vs 3)) (v_iv (n_v vs 4)) (w_fi ws (n_v vs 0) 32) (w_ei ws (w_ar ws (n_v vs 0) 43)) (w_ei ws (w_ar ws (n_v vs 0) 44)) (w_ei ws (w_ar ws (n_v vs 0) 33)) (w_ei ws (w_ar ws (n_v vs 0) 34)) (w_ei ws (w_ar ws (n_v vs 0) 42)) k2 k3 k4 f0 kz_0_32
  have nf2 : fc_1 PRD (20, [1, 4, 5], [60, 1, 1, 104, 32, 44]) ws (vs ++ [Value.int x]) := by
    refine ⟨nf_inA hl rfl, sgq_1120 ?_⟩
    · show PCM (w_fi ws (n_v (vs ++ [Value.int x]) 1) 32) (w_ei ws (w_ar ws (n_v (vs ++ [Value.int x]) 1) 44)) (v_iv (n_v (vs ++ [Value.int x]) 4)) (v_iv (n_v (vs ++ [Value.int x]) 5))
      simp only [e_1, e_4, e_5, q1]
      exact vc_Mo_pieces_1_2 (v_iv (n_v vs 2)) (v_iv (n_v vs 3)) (v_iv (n_v vs 4)) (w_fi ws (n_v vs 0) 32) (w_ei ws (w_ar ws (n_v vs 0) 43)) (w_ei ws (w_ar ws (n_v vs 0) 44)) (v_iv (Value.int x)) k2 k3 k4 d0 g1 f2 kz_0_32 ex2
  have nf3 : fc_1 PRD (24, [0, 1], []) ws (vs ++ [Value.int x]) := by
    refine ⟨nf_inA hl rfl, sgq_5 ?_⟩
    · show n_v (vs ++ [Value.int x]) 0 = n_v (vs ++ [Value.int x]) 1
      first | rfl | simp only [e_0, e_1, q1]
  exact ⟨(fun _ h => (by cases h)), [Value.int x], ag_one hx, List.forall_mem_cons.mpr ⟨⟨show (20 : Nat) < 100 from by decide, nf0⟩, List.forall_mem_cons.mpr ⟨⟨show (20 : Nat) < 100 from by decide, nf1⟩, List.forall_mem_cons.mpr ⟨⟨show (20 : Nat) < 100 from by decide, nf2⟩, List.forall_mem_cons.mpr ⟨⟨show (24 : Nat) < 100 from by decide, nf3⟩, (fun _ h => (by cases h))⟩⟩⟩⟩, (fun _ h => (by cases h))⟩
set_option maxHeartbeats 4000000 in
theorem vc_Mo_pieces_2_0 (x2 : Int) (x6 : Int) (x7 : Int) (drawnEdge_1 : Int → Int) (pm_1 : Int) (pieceOf_1 : Int → Int) (pm_0 : Int) (drawnEdge_0 : Int → Int) (pieceOf_0 : Int → Int) (k2 : 0 ≤ x2 ∧ x2 ≤ 79) (k6 : 0 ≤ x6 ∧ x6 ≤ 0) (k7 : 1 ≤ x7 ∧ x7 ≤ 80) (d0 : x2 + 1 ≤ x7 ∧ x7 ≤ x2 + 1) (h4 : x6 = drawnEdge_1 (x2)) (f9 : PC0 (drawnEdge_1) (pieceOf_1) (x2)) (fe_0_32_1 : pm_0 = pm_1) (hE_0_43_1 : ∀ j : Int, drawnEdge_0 j = drawnEdge_1 j) (hE_0_44_1 : ∀ j : Int, 0 ≤ j → (j = x2 → pieceOf_0 j = x2) ∧ (j ≠ x2 → pieceOf_0 j = pieceOf_1 j)) (kz_0_32 : 0 ≤ pm_0 ∧ pm_0 ≤ 80) : PC0 (drawnEdge_0) (pieceOf_0) (x7) := by
  subst fe_0_32_1
  have e_hE_0_43_1 := funext hE_0_43_1; subst e_hE_0_43_1
  first
    | (intro e a b; exfalso; omega)
    | (have h := ‹PC0 _ _ _›
       intro e a b
       by_cases q : e = x2
       · have v := (hE_0_44_1 x2 (by omega)).1 rfl
         rw [q]
         exact ⟨fun z => by omega, fun z => by omega⟩
       · rw [(hE_0_44_1 e a).2 q]; exact h e a (by omega))
def o_Mo_pieces_2 : or_T := (2, 8, [(0, (2, 0, 0, [165])), (2, (0, 0, 79, [])), (4, (2, 0, 0, [190])), (6, (0, 0, 0, [])), (7, (0, 1, 80, []))], [(24, [0, 1], []), (100, [4, 2, 2], []), (10, [6, 5, 2], []), (9, [5, 1], [43]), (9, [4, 1], [44]), (20, [1, 2], [60, 0, 2, 99, 43, 44])], [], [], [(20, [1, 7], [60, 0, 2, 99, 43, 44])], [], [(7, 2, 1, 1), (2, 3, -4294967296, -1)])
theorem oo_Mo_pieces_2 {kA : Nat → ClassId} : or_ok PRD kA GG o_Mo_pieces_2 := by
  refine or_mk fun A ta ws vs hD hth hl => ?_
  intro t0 r0 t2 k2 t4 r4 t6 k6 t7 k7 d0 d2 f1 ta1 w1 le1 s1 f4 f5 f6 f9
  replace f1 := shm_5 f1
  have s1 : (∀ b j, w_el ws b j = if b = v_ad (n_v vs 4) ∧ j = (v_iv (n_v vs 2)).toNat then v_iv (n_v vs 2) else w_el w1 b j) ∧ ∀ b k, w_fd ws b k = w_fd w1 b k := s1.2
  replace f4 := shm_106 f4
  replace f5 := shm_526 f5
  replace f6 := shm_527 f6
  replace f9 := shm_1117 f9
  have q1 : n_v vs 1 = n_v vs 0 := f1.symm
  simp only [q1] at f5 f6 f9
  have ar_0_43_1 : w_ar w1 (n_v vs 0) 43 = w_ar ws (n_v vs 0) 43 := congrArg v_ad (s1.2 _ _).symm
  have cr_0_43 := fdq_136 hD hth r0
  have ar_0_44_1 : w_ar w1 (n_v vs 0) 44 = w_ar ws (n_v vs 0) 44 := congrArg v_ad (s1.2 _ _).symm
  have ad_5 : v_ad (n_v vs 5) = w_ar ws (n_v vs 0) 43 := (congrArg v_ad f5).trans ar_0_43_1
  have ad_4 : v_ad (n_v vs 4) = w_ar ws (n_v vs 0) 44 := (congrArg v_ad f6).trans ar_0_44_1
  simp only [ad_5] at f4
  have h4 : v_iv (n_v vs 6) = w_ei w1 (w_ar ws (n_v vs 0) 43) (v_iv (n_v vs 2)) := f4
  simp only [ar_0_43_1, ar_0_44_1] at f9
  have fe_0_32_1 : w_fi ws (n_v vs 0) 32 = w_fi w1 (n_v vs 0) 32 := congrArg v_iv (s1.2 _ _)
  have hE_0_43_1 : ∀ j : Int, w_ei ws (w_ar ws (n_v vs 0) 43) j = w_ei w1 (w_ar ws (n_v vs 0) 43) j := el_kp s1.1 r4 cr_0_43 (by decide)
  have hE_0_44_1 : ∀ j : Int, 0 ≤ j → (j = v_iv (n_v vs 2) → w_ei ws (w_ar ws (n_v vs 0) 44) j = v_iv (n_v vs 2)) ∧ (j ≠ v_iv (n_v vs 2) → w_ei ws (w_ar ws (n_v vs 0) 44) j = w_ei w1 (w_ar ws (n_v vs 0) 44) j) := fun j hj => ⟨fun h => by unfold w_ei; rw [s1.1, if_pos ⟨ad_4.symm, by rw [h]⟩], fun h => by unfold w_ei; rw [s1.1, if_neg (fun e => h (by have := e.2; omega))]⟩
  have kz_0_32 := fdq_139 hD hth r0
  have nf0 : fc_1 PRD (20, [1, 7], [60, 0, 2, 99, 43, 44]) ws (vs) := by
    refine ⟨nf_in hl rfl, sgq_1117 ?_⟩
    · show PC0 (w_ei ws (w_ar ws (n_v vs 1) 43)) (w_ei ws (w_ar ws (n_v vs 1) 44)) (v_iv (n_v vs 7))
      rw [q1]
      exact vc_Mo_pieces_2_0 (v_iv (n_v vs 2)) (v_iv (n_v vs 6)) (v_iv (n_v vs 7)) (w_ei w1 (w_ar ws (n_v vs 0) 43)) (w_fi w1 (n_v vs 0) 32) (w_ei w1 (w_ar ws (n_v vs 0) 44)) (w_fi ws (n_v vs 0) 32) (w_ei ws (w_ar ws (n_v vs 0) 43)) (w_ei ws (w_ar ws (n_v vs 0) 44)) k2 k6 k7 d0 h4 f9 fe_0_32_1 hE_0_43_1 hE_0_44_1 kz_0_32
  refine ⟨(fun _ h => (by cases h)), [], trivial, ?_, (fun _ h => (by cases h))⟩
  rw [List.append_nil]
  exact List.forall_mem_cons.mpr ⟨⟨show (20 : Nat) < 100 from by decide, nf0⟩, (fun _ h => (by cases h))⟩
set_option maxHeartbeats 4000000 in
theorem vc_Mo_pieces_3_0 (x2 : Int) (x6 : Int) (x7 : Int) (x8 : Int) (drawnEdge_1 : Int → Int) (pm_1 : Int) (pieceOf_1 : Int → Int) (pm_0 : Int) (drawnEdge_0 : Int → Int) (pieceOf_0 : Int → Int) (k2 : 0 ≤ x2 ∧ x2 ≤ 79) (k6 : 1 ≤ x6 ∧ x6 ≤ 1) (k7 : (-1) ≤ x7 ∧ x7 ≤ (-1)) (k8 : 1 ≤ x8 ∧ x8 ≤ 80) (d0 : x2 + 1 ≤ x8 ∧ x8 ≤ x2 + 1) (h4 : x6 = drawnEdge_1 (x2)) (f9 : PC0 (drawnEdge_1) (pieceOf_1) (x2)) (fe_0_32_1 : pm_0 = pm_1) (hE_0_43_1 : ∀ j : Int, drawnEdge_0 j = drawnEdge_1 j) (hE_0_44_1 : ∀ j : Int, 0 ≤ j → (j = x2 → pieceOf_0 j = x7) ∧ (j ≠ x2 → pieceOf_0 j = pieceOf_1 j)) (kz_0_32 : 0 ≤ pm_0 ∧ pm_0 ≤ 80) : PC0 (drawnEdge_0) (pieceOf_0) (x8) := by
  subst fe_0_32_1
  have e_hE_0_43_1 := funext hE_0_43_1; subst e_hE_0_43_1
  first
    | (intro e a b; exfalso; omega)
    | (have h := ‹PC0 _ _ _›
       intro e a b
       by_cases q : e = x2
       · have v := (hE_0_44_1 x2 (by omega)).1 rfl
         rw [q]
         exact ⟨fun z => by omega, fun z => by omega⟩
       · rw [(hE_0_44_1 e a).2 q]; exact h e a (by omega))
def o_Mo_pieces_3 : or_T := (2, 9, [(0, (2, 0, 0, [165])), (2, (0, 0, 79, [])), (4, (2, 0, 0, [190])), (6, (0, 1, 1, [])), (7, (0, -1, -1, [])), (8, (0, 1, 80, []))], [(24, [0, 1], []), (100, [4, 2, 7], []), (10, [6, 5, 2], []), (9, [5, 1], [43]), (9, [4, 1], [44]), (20, [1, 2], [60, 0, 2, 99, 43, 44])], [], [], [(20, [1, 8], [60, 0, 2, 99, 43, 44])], [], [(8, 2, 1, 1), (2, 3, -4294967296, -1)])
theorem oo_Mo_pieces_3 {kA : Nat → ClassId} : or_ok PRD kA GG o_Mo_pieces_3 := by
  refine or_mk fun A ta ws vs hD hth hl => ?_
  intro t0 r0 t2 k2 t4 r4 t6 k6 t7 k7 t8 k8 d0 d2 f1 ta1 w1 le1 s1 f4 f5 f6 f9
  replace f1 := shm_5 f1
  have s1 : (∀ b j, w_el ws b j = if b = v_ad (n_v vs 4) ∧ j = (v_iv (n_v vs 2)).toNat then v_iv (n_v vs 7) else w_el w1 b j) ∧ ∀ b k, w_fd ws b k = w_fd w1 b k := s1.2
  replace f4 := shm_106 f4
  replace f5 := shm_526 f5
  replace f6 := shm_527 f6
  replace f9 := shm_1117 f9
  have q1 : n_v vs 1 = n_v vs 0 := f1.symm
  simp only [q1] at f5 f6 f9
  have ar_0_43_1 : w_ar w1 (n_v vs 0) 43 = w_ar ws (n_v vs 0) 43 := congrArg v_ad (s1.2 _ _).symm
  have cr_0_43 := fdq_136 hD hth r0
  have ar_0_44_1 : w_ar w1 (n_v vs 0) 44 = w_ar ws (n_v vs 0) 44 := congrArg v_ad (s1.2 _ _).symm
  have ad_5 : v_ad (n_v vs 5) = w_ar ws (n_v vs 0) 43 := (congrArg v_ad f5).trans ar_0_43_1
  have ad_4 : v_ad (n_v vs 4) = w_ar ws (n_v vs 0) 44 := (congrArg v_ad f6).trans ar_0_44_1
  simp only [ad_5] at f4
  have h4 : v_iv (n_v vs 6) = w_ei w1 (w_ar ws (n_v vs 0) 43) (v_iv (n_v vs 2)) := f4
  simp only [ar_0_43_1, ar_0_44_1] at f9
  have fe_0_32_1 : w_fi ws (n_v vs 0) 32 = w_fi w1 (n_v vs 0) 32 := congrArg v_iv (s1.2 _ _)
  have hE_0_43_1 : ∀ j : Int, w_ei ws (w_ar ws (n_v vs 0) 43) j = w_ei w1 (w_ar ws (n_v vs 0) 43) j := el_kp s1.1 r4 cr_0_43 (by decide)
  have hE_0_44_1 : ∀ j : Int, 0 ≤ j → (j = v_iv (n_v vs 2) → w_ei ws (w_ar ws (n_v vs 0) 44) j = v_iv (n_v vs 7)) ∧ (j ≠ v_iv (n_v vs 2) → w_ei ws (w_ar ws (n_v vs 0) 44) j = w_ei w1 (w_ar ws (n_v vs 0) 44) j) := fun j hj => ⟨fun h => by unfold w_ei; rw [s1.1, if_pos ⟨ad_4.symm, by rw [h]⟩], fun h => by unfold w_ei; rw [s1.1, if_neg (fun e => h (by have := e.2; omega))]⟩
  have kz_0_32 := fdq_139 hD hth r0
  have nf0 : fc_1 PRD (20, [1, 8], [60, 0, 2, 99, 43, 44]) ws (vs) := by
    refine ⟨nf_in hl rfl, sgq_1117 ?_⟩
    · show PC0 (w_ei ws (w_ar ws (n_v vs 1) 43)) (w_ei ws (w_ar ws (n_v vs 1) 44)) (v_iv (n_v vs 8))
      rw [q1]
      exact vc_Mo_pieces_3_0 (v_iv (n_v vs 2)) (v_iv (n_v vs 6)) (v_iv (n_v vs 7)) (v_iv (n_v vs 8)) (w_ei w1 (w_ar ws (n_v vs 0) 43)) (w_fi w1 (n_v vs 0) 32) (w_ei w1 (w_ar ws (n_v vs 0) 44)) (w_fi ws (n_v vs 0) 32) (w_ei ws (w_ar ws (n_v vs 0) 43)) (w_ei ws (w_ar ws (n_v vs 0) 44)) k2 k6 k7 k8 d0 h4 f9 fe_0_32_1 hE_0_43_1 hE_0_44_1 kz_0_32
  refine ⟨(fun _ h => (by cases h)), [], trivial, ?_, (fun _ h => (by cases h))⟩
  rw [List.append_nil]
  exact List.forall_mem_cons.mpr ⟨⟨show (20 : Nat) < 100 from by decide, nf0⟩, (fun _ h => (by cases h))⟩
set_option maxHeartbeats 4000000 in
theorem vc_Mo_pieces_4_0 (x2 : Int) (pt_0 : Int → Int) (ph_0 : Int → Int) (drawnEdge_0 : Int → Int) (drawnNode_0 : Int → Int) (pieceOf_0 : Int → Int) (pm_0 : Int) (k2 : 0 ≤ x2 ∧ x2 ≤ 0) (f0 : x2 = 0) (f1 : PCI (pm_0) (pt_0) (ph_0) (drawnEdge_0) (drawnNode_0) (pieceOf_0)) (f2 : PC3 (pm_0) (pt_0) (ph_0) (drawnEdge_0) (drawnNode_0) (pieceOf_0) (x2)) (kz_0_32 : 0 ≤ pm_0 ∧ pm_0 ≤ 80) : PCS (pm_0) (pt_0) (ph_0) (drawnEdge_0) (drawnNode_0) (pieceOf_0) := by
  exact pc_end ‹PCI _ _ _ _ _ _› (by have h := ‹PC3 _ _ _ _ _ _ _›; rw [show x2 = 0 by omega] at h; exact h)
def o_Mo_pieces_4 : or_T := (156, 4, [(0, (2, 0, 0, [165])), (2, (0, 0, 0, []))], [(8, [2], [0]), (20, [1], [60, 1, 5, 100, 32, 33, 34, 43, 42, 44]), (20, [1, 2], [60, 1, 5, 102, 32, 33, 34, 43, 42, 44]), (24, [0, 1], [])], [], [], [(20, [0], [60, 1, 5, 106, 32, 33, 34, 43, 42, 44])], [], [])
theorem oo_Mo_pieces_4 {kA : Nat → ClassId} : or_ok PRD kA GG o_Mo_pieces_4 := by
  refine or_mk fun A ta ws vs hD hth hl => ?_
  intro t0 r0 t2 k2 f0 f1 f2 f4
  replace f1 := shm_1118 f1
  replace f2 := shm_1119 f2
  replace f4 := shm_5 f4
  have q1 : n_v vs 1 = n_v vs 0 := f4.symm
  simp only [q1] at f1 f2
  have kz_0_32 := fdq_139 hD hth r0
  have nf0 : fc_1 PRD (20, [0], [60, 1, 5, 106, 32, 33, 34, 43, 42, 44]) ws (vs) := ⟨nf_in hl rfl, sgq_517 (vc_Mo_pieces_4_0 (v_iv (n_v vs 2)) (w_ei ws (w_ar ws (n_v vs 0) 33)) (w_ei ws (w_ar ws (n_v vs 0) 34)) (w_ei ws (w_ar ws (n_v vs 0) 43)) (w_ei ws (w_ar ws (n_v vs 0) 42)) (w_ei ws (w_ar ws (n_v vs 0) 44)) (w_fi ws (n_v vs 0) 32) k2 (shm_210 f0) f1 f2 kz_0_32)⟩
  refine ⟨(fun _ h => (by cases h)), [], trivial, ?_, (fun _ h => (by cases h))⟩
  rw [List.append_nil]
  exact List.forall_mem_cons.mpr ⟨⟨show (20 : Nat) < 100 from by decide, nf0⟩, (fun _ h => (by cases h))⟩
set_option maxHeartbeats 4000000 in
theorem vc_Mo_pieces_5_0 (pt_0 : Int → Int) (ph_0 : Int → Int) (drawnEdge_0 : Int → Int) (drawnNode_0 : Int → Int) (pieceOf_0 : Int → Int) (pm_0 : Int) (f1 : PCI (pm_0) (pt_0) (ph_0) (drawnEdge_0) (drawnNode_0) (pieceOf_0)) (kz_0_32 : 0 ≤ pm_0 ∧ pm_0 ≤ 80) : PCI (pm_0) (pt_0) (ph_0) (drawnEdge_0) (drawnNode_0) (pieceOf_0) := by
  first | assumption
set_option maxHeartbeats 4000000 in
theorem vc_Mo_pieces_5_1 (x2 : Int) (x3 : Int) (x4 : Int) (x5 : Int) (pt_0 : Int → Int) (ph_0 : Int → Int) (drawnEdge_0 : Int → Int) (drawnNode_0 : Int → Int) (pieceOf_0 : Int → Int) (k2 : 1 ≤ x2 ∧ x2 ≤ 1) (k4 : 0 ≤ x4 ∧ x4 ≤ 0) (k5 : 0 ≤ x5 ∧ x5 ≤ 0) (f0 : x2 ≠ 0) : PC4 (pt_0) (ph_0) (drawnEdge_0) (drawnNode_0) (pieceOf_0) (x5) (x4) := by
  first
    | (intro h0 e_zq f_zq f0 hfe hlt; exfalso; omega)
    | (have h := ‹PC2 _ _ _ _ _ _ _ _›
       first | rw [show x6 = x3 + 1 by omega] | rw [show x7 = x3 + 1 by omega]
       exact pc2_up h (by omega))
set_option maxHeartbeats 4000000 in
theorem vc_Mo_pieces_5_2 (x2 : Int) (x3 : Int) (x4 : Int) (pieceOf_0 : Int → Int) (pm_0 : Int) (gx : Int) (k2 : 1 ≤ x2 ∧ x2 ≤ 1) (k3 : (-200) ≤ x3 ∧ x3 ≤ 6500) (k4 : 0 ≤ x4 ∧ x4 ≤ 0) (f3 : PCM (pm_0) (pieceOf_0) (x2) (x3)) (kz_0_32 : 0 ≤ pm_0 ∧ pm_0 ≤ 80) (ex2 : gx = 0 + (1 * x3 + 0)) : PCN (pm_0) (pieceOf_0) (x4) (gx) := by
  first
    | (have h := ‹PCM _ _ _ _›; unfold PCN; unfold PCM at h; omega)
    | (have h := ‹PCN _ _ _ _›; unfold PCN; unfold PCN at h; omega)
def o_Mo_pieces_5 : or_T := (46, 6, [(0, (2, 0, 0, [165])), (1, (2, 0, 0, [165])), (2, (0, 1, 1, [])), (3, (0, -200, 6500, [])), (4, (0, 0, 0, [])), (5, (0, 0, 0, []))], [(8, [2], [1]), (20, [1], [60, 1, 5, 100, 32, 33, 34, 43, 42, 44]), (20, [1, 2], [60, 1, 5, 102, 32, 33, 34, 43, 42, 44]), (20, [1, 2, 3], [60, 1, 1, 104, 32, 44]), (24, [0, 1], [])], [], [(0, -200, 6500, [])], [(20, [1], [60, 1, 5, 100, 32, 33, 34, 43, 42, 44]), (20, [1, 5, 4], [60, 0, 5, 103, 33, 34, 43, 42, 44]), (20, [1, 4, 6], [60, 1, 1, 105, 32, 44]), (24, [0, 1], [])], [(6, 3, 0, 0)], [])
theorem oo_Mo_pieces_5 {kA : Nat → ClassId} : or_ok PRD kA GG o_Mo_pieces_5 := by
  refine or_mk fun A ta ws vs hD hth hl => ?_
  intro t0 r0 t1 r1 t2 k2 t3 k3 t4 k4 t5 k5 f0 f1 f2 f3 f4
  replace f0 := shm_154 f0
  replace f1 := shm_1118 f1
  replace f2 := shm_1119 f2
  replace f3 := shm_1120 f3
  replace f4 := shm_5 f4
  have q1 : n_v vs 1 = n_v vs 0 := f4.symm
  simp only [q1] at f1 f2 f3
  have cr_0_33 := fdq_116 hD hth r0
  have cr_0_34 := fdq_117 hD hth r0
  have cr_0_42 := fdq_135 hD hth r0
  have cr_0_43 := fdq_136 hD hth r0
  have cr_0_44 := fdq_137 hD hth r0
  have hK_0_33 := elq_57 hD hth cr_0_33
  have hK_0_34 := elq_58 hD hth cr_0_34
  have hK_0_42 := elq_72 hD hth cr_0_42
  have hK_0_43 := elq_73 hD hth cr_0_43
  have hK_0_44 := elq_74 hD hth cr_0_44
  have kz_0_32 := fdq_139 hD hth r0
  obtain ⟨x, ex, hx⟩ := iv_ex (ta := ta) (lo := (-200)) (hi := 6500) (z := 0 + (1 * v_iv (n_v vs 3) + 0)) (by omega) (by omega) (by omega) (by omega)
  have ex2 : v_iv (Value.int x) = 0 + (1 * v_iv (n_v vs 3) + 0) := ex
  have ex3 : (-200) ≤ v_iv (Value.int x) ∧ v_iv (Value.int x) ≤ 6500 := tv_rng hx
  have e_0 : n_v (vs ++ [Value.int x]) 0 = n_v vs 0 := n_v_old (by rw [hl]; decide)
  have e_1 : n_v (vs ++ [Value.int x]) 1 = n_v vs 1 := n_v_old (by rw [hl]; decide)
  have e_4 : n_v (vs ++ [Value.int x]) 4 = n_v vs 4 := n_v_old (by rw [hl]; decide)
  have e_5 : n_v (vs ++ [Value.int x]) 5 = n_v vs 5 := n_v_old (by rw [hl]; decide)
  have e_6 : n_v (vs ++ [Value.int x]) 6 = Value.int x := n_v_new hl
  have nf0 : fc_1 PRD (20, [1], [60, 1, 5, 100, 32, 33, 34, 43, 42, 44]) ws (vs ++ [Value.int x]) := by
    refine ⟨nf_inA hl rfl, sgq_1118 ?_⟩
    · show PCI (w_fi ws (n_v (vs ++ [Value.int x]) 1) 32) (w_ei ws (w_ar ws (n_v (vs ++ [Value.int x]) 1) 33)) (w_ei ws (w_ar ws (n_v (vs ++ [Value.int x]) 1) 34)) (w_ei ws (w_ar ws (n_v (vs ++ [Value.int x]) 1) 43)) (w_ei ws (w_ar ws (n_v (vs ++ [Value.int x]) 1) 42)) (w_ei ws (w_ar ws (n_v (vs ++ [Value.int x]) 1) 44))
      simp only [e_1, q1]
      exact vc_Mo_pieces_5_0 (w_ei ws (w_ar ws (n_v vs 0) 33)) (w_ei ws (w_ar ws (n_v vs 0) 34)) (w_ei ws (w_ar ws (n_v vs 0) 43)) (w_ei ws (w_ar ws (n_v vs 0) 42)) (w_ei ws (w_ar ws (n_v vs 0) 44)) (w_fi ws (n_v vs 0) 32) f1 kz_0_32
  have nf1 : fc_1 PRD (20, [1, 5, 4], [60, 0, 5, 103, 33, 34, 43, 42, 44]) ws (vs ++ [Value.int x]) := by
    refine ⟨nf_inA hl rfl, sgq_1121 ?_⟩
    · show PC4 (w_ei ws (w_ar ws (n_v (vs ++ [Value.int x]) 1) 33)) (w_ei ws (w_ar ws (n_v (vs ++ [Value.int x]) 1) 34)) (w_ei ws (w_ar ws (n_v (vs ++ [Value.int x]) 1) 43)) (w_ei ws (w_ar ws (n_v (vs ++ [Value.int x]) 1) 42)) (w_ei ws (w_ar ws (n_v (vs ++ [Value.int x]) 1) 44)) (v_iv (n_v (vs ++ [Value.int x]) 5)) (v_iv (n_v (vs ++ [Value.int x]) 4))
      simp only [e_1, e_4, e_5, q1]
      exact vc_Mo_pieces_5_1 (v_iv (n_v vs 2)) (v_iv (n_v vs 3)) (v_iv (n_v vs 4)) (v_iv (n_v vs 5)) (w_ei ws (w_ar ws (n_v vs 0) 33)) (w_ei ws (w_ar ws (n_v vs 0) 34)) (w_ei ws (w_ar ws (n_v vs 0) 43)) (w_ei ws (w_ar ws (n_v vs 0) 42)) (w_ei ws (w_ar ws (n_v vs 0) 44)) k2 k4 k5 f0
  have nf2 : fc_1 PRD (20, [1, 4, 6], [60, 1, 1, 105, 32, 44]) ws (vs ++ [Value.int x]) := by
    refine ⟨nf_inA hl rfl, sgq_1122 ?_⟩
    · show PCN (w_fi ws (n_v (vs ++ [Value.int x]) 1) 32) (w_ei ws (w_ar ws (n_v (vs ++ [Value.int x]) 1) 44)) (v_iv (n_v (vs ++ [Value.int x]) 4)) (v_iv (n_v (vs ++ [Value.int x]) 6))
      simp only [e_1, e_4, e_6, q1]
      exact vc_Mo_pieces_5_2 (v_iv (n_v vs 2)) (v_iv (n_v vs 3)) (v_iv (n_v vs 4)) (w_ei ws (w_ar ws (n_v vs 0) 44)) (w_fi ws (n_v vs 0) 32) (v_iv (Value.int x)) k2 k3 k4 f3 kz_0_32 ex2
  have nf3 : fc_1 PRD (24, [0, 1], []) ws (vs ++ [Value.int x]) := by
    refine ⟨nf_inA hl rfl, sgq_5 ?_⟩
    · show n_v (vs ++ [Value.int x]) 0 = n_v (vs ++ [Value.int x]) 1
      first | rfl | simp only [e_0, e_1, q1]
  obtain ⟨x0, e0, _, _⟩ := tv_int t3 rfl
  have e1 : v_iv (n_v vs 3) = x0.toInt := by rw [e0]; rfl
  have ho : sy_ofs (vs ++ [Value.int x]) (6, 3, 0, 0) := by
    refine ⟨x, x0, by rw [List.getElem?_append_right (by rw [hl]; decide), hl]; rfl, ?_, ?_, ?_⟩
    · rw [List.getElem?_append_left (by rw [hl]; decide)]; exact n_v_some (by rw [hl]; decide) e0
    · show x0.toInt + 0 ≤ x.toInt; omega
    · show x.toInt ≤ x0.toInt + 0; omega
  exact ⟨(fun _ h => (by cases h)), [Value.int x], ag_one hx, List.forall_mem_cons.mpr ⟨⟨show (20 : Nat) < 100 from by decide, nf0⟩, List.forall_mem_cons.mpr ⟨⟨show (20 : Nat) < 100 from by decide, nf1⟩, List.forall_mem_cons.mpr ⟨⟨show (20 : Nat) < 100 from by decide, nf2⟩, List.forall_mem_cons.mpr ⟨⟨show (24 : Nat) < 100 from by decide, nf3⟩, (fun _ h => (by cases h))⟩⟩⟩⟩, List.forall_mem_cons.mpr ⟨ho, (fun _ h => (by cases h))⟩⟩
set_option maxHeartbeats 4000000 in
theorem vc_Mo_pieces_6_0 (pm_0 : Int) (pt_0 : Int → Int) (ph_0 : Int → Int) (drawnEdge_0 : Int → Int) (drawnNode_0 : Int → Int) (pieceOf_0 : Int → Int) (f2 : PCI (pm_0) (pt_0) (ph_0) (drawnEdge_0) (drawnNode_0) (pieceOf_0)) (kz_0_32 : 0 ≤ pm_0 ∧ pm_0 ≤ 80) : PCI (pm_0) (pt_0) (ph_0) (drawnEdge_0) (drawnNode_0) (pieceOf_0) := by
  first
    | assumption
    | exact pc_start ‹PC0 _ _ _› (by omega)
set_option maxHeartbeats 4000000 in
theorem vc_Mo_pieces_6_1 (x2 : Int) (x3 : Int) (x5 : Int) (pm_0 : Int) (pt_0 : Int → Int) (ph_0 : Int → Int) (drawnEdge_0 : Int → Int) (drawnNode_0 : Int → Int) (pieceOf_0 : Int → Int) (k2 : 0 ≤ x2 ∧ x2 ≤ 1) (k3 : 0 ≤ x3 ∧ x3 ≤ 80) (k5 : 0 ≤ x5 ∧ x5 ≤ 80) (d0 : x5 + 0 ≤ x3 ∧ x3 ≤ x5 + 4294967296) (f0 : x5 ≤ x3) (g1 : x5 = pm_0) (f3 : PC4 (pt_0) (ph_0) (drawnEdge_0) (drawnNode_0) (pieceOf_0) (x3) (x2)) (kz_0_32 : 0 ≤ pm_0 ∧ pm_0 ≤ 80) : PC3 (pm_0) (pt_0) (ph_0) (drawnEdge_0) (drawnNode_0) (pieceOf_0) (x2) := by
  first
    | (intro h; exfalso; omega)
    | (have h := ‹PC4 _ _ _ _ _ _ _›
       intro h0 e_zq f_zq f0 hfe hlt
       exact h h0 e_zq f_zq f0 hfe (by omega))
set_option maxHeartbeats 4000000 in
theorem vc_Mo_pieces_6_2 (x2 : Int) (x4 : Int) (pm_0 : Int) (pieceOf_0 : Int → Int) (gx : Int) (k2 : 0 ≤ x2 ∧ x2 ≤ 1) (k4 : (-200) ≤ x4 ∧ x4 ≤ 6500) (f4 : PCN (pm_0) (pieceOf_0) (x2) (x4)) (kz_0_32 : 0 ≤ pm_0 ∧ pm_0 ≤ 80) (ex2 : gx = (-1) + (1 * x4 + 0)) : PCM (pm_0) (pieceOf_0) (x2) (gx) := by
  first
    | (have := pc_sm0 (m := pm_0) ‹PC0 _ _ _› (by omega) (by omega) (by omega); unfold PCM; omega)
    | (have h := ‹PCN _ _ _ _›; unfold PCM; unfold PCN at h; omega)
def o_Mo_pieces_6 : or_T := (38, 6, [(0, (2, 0, 0, [165])), (1, (2, 0, 0, [165])), (2, (0, 0, 1, [])), (3, (0, 0, 80, [])), (4, (0, -200, 6500, [])), (5, (0, 0, 80, []))], [(7, [3, 5], [3]), (9, [5, 1], [32]), (20, [1], [60, 1, 5, 100, 32, 33, 34, 43, 42, 44]), (20, [1, 3, 2], [60, 0, 5, 103, 33, 34, 43, 42, 44]), (20, [1, 2, 4], [60, 1, 1, 105, 32, 44]), (24, [0, 1], [])], [], [(0, -200, 6500, [])], [(20, [1], [60, 1, 5, 100, 32, 33, 34, 43, 42, 44]), (20, [1, 2], [60, 1, 5, 102, 32, 33, 34, 43, 42, 44]), (20, [1, 2, 6], [60, 1, 1, 104, 32, 44]), (24, [0, 1], [])], [(6, 4, -1000000000000, -1)], [(3, 5, 0, 4294967296), (2, 3, -4294967296, 0)])
theorem oo_Mo_pieces_6 {kA : Nat → ClassId} : or_ok PRD kA GG o_Mo_pieces_6 := by
  refine or_mk fun A ta ws vs hD hth hl => ?_
  intro t0 r0 t1 r1 t2 k2 t3 k3 t4 k4 t5 k5 d0 d1 f0 f1 f2 f3 f4 f5
  replace f0 := shm_2 f0
  replace f1 := shm_519 f1
  replace f2 := shm_1118 f2
  replace f3 := shm_1121 f3
  replace f4 := shm_1122 f4
  replace f5 := shm_5 f5
  have q1 : n_v vs 1 = n_v vs 0 := f5.symm
  simp only [q1] at f1 f2 f3 f4
  have cr_0_33 := fdq_116 hD hth r0
  have cr_0_34 := fdq_117 hD hth r0
  have cr_0_42 := fdq_135 hD hth r0
  have cr_0_43 := fdq_136 hD hth r0
  have cr_0_44 := fdq_137 hD hth r0
  have g1 : v_iv (n_v vs 5) = w_fi ws (n_v vs 0) 32 := congrArg v_iv f1
  have hK_0_33 := elq_57 hD hth cr_0_33
  have hK_0_34 := elq_58 hD hth cr_0_34
  have hK_0_42 := elq_72 hD hth cr_0_42
  have hK_0_43 := elq_73 hD hth cr_0_43
  have hK_0_44 := elq_74 hD hth cr_0_44
  have kz_0_32 := fdq_139 hD hth r0
  first | have hN := pcn_pos ‹PCN _ _ _ _› (by omega) ‹PCI _ _ _ _ _ _› (by omega) (by omega) | skip
  obtain ⟨x, ex, hx⟩ := iv_ex (ta := ta) (lo := (-200)) (hi := 6500) (z := (-1) + (1 * v_iv (n_v vs 4) + 0)) (by omega) (by omega) (by omega) (by omega)
  have ex2 : v_iv (Value.int x) = (-1) + (1 * v_iv (n_v vs 4) + 0) := ex
  have ex3 : (-200) ≤ v_iv (Value.int x) ∧ v_iv (Value.int x) ≤ 6500 := tv_rng hx
  have e_0 : n_v (vs ++ [Value.int x]) 0 = n_v vs 0 := n_v_old (by rw [hl]; decide)
  have e_1 : n_v (vs ++ [Value.int x]) 1 = n_v vs 1 := n_v_old (by rw [hl]; decide)
  have e_2 : n_v (vs ++ [Value.int x]) 2 = n_v vs 2 := n_v_old (by rw [hl]; decide)
  have e_6 : n_v (vs ++ [Value.int x]) 6 = Value.int x := n_v_new hl
  have nf0 : fc_1 PRD (20, [1], [60, 1, 5, 100, 32, 33, 34, 43, 42, 44]) ws (vs ++ [Value.int x]) := by
    refine ⟨nf_inA hl rfl, sgq_1118 ?_⟩
    · show PCI (w_fi ws (n_v (vs ++ [Value.int x]) 1) 32) (w_ei ws (w_ar ws (n_v (vs ++ [Value.int x]) 1) 33)) (w_ei ws (w_ar ws (n_v (vs ++ [Value.int x]) 1) 34)) (w_ei ws (w_ar ws (n_v (vs ++ [Value.int x]) 1) 43)) (w_ei ws (w_ar ws (n_v (vs ++ [Value.int x]) 1) 42)) (w_ei ws (w_ar ws (n_v (vs ++ [Value.int x]) 1) 44))
      simp only [e_1, q1]
      exact vc_Mo_pieces_6_0 (w_fi ws (n_v vs 0) 32) (w_ei ws (w_ar ws (n_v vs 0) 33)) (w_ei ws (w_ar ws (n_v vs 0) 34)) (w_ei ws (w_ar ws (n_v vs 0) 43)) (w_ei ws (w_ar ws (n_v vs 0) 42)) (w_ei ws (w_ar ws (n_v vs 0) 44)) f2 kz_0_32
  have nf1 : fc_1 PRD (20, [1, 2], [60, 1, 5, 102, 32, 33, 34, 43, 42, 44]) ws (vs ++ [Value.int x]) := by
    refine ⟨nf_inA hl rfl, sgq_1119 ?_⟩
    · show PC3 (w_fi ws (n_v (vs ++ [Value.int x]) 1) 32) (w_ei ws (w_ar ws (n_v (vs ++ [Value.int x]) 1) 33)) (w_ei ws (w_ar ws (n_v (vs ++ [Value.int x]) 1) 34)) (w_ei ws (w_ar ws (n_v (vs ++ [Value.int x]) 1) 43)) (w_ei ws (w_ar ws (n_v (vs ++ [Value.int x]) 1) 42)) (w_ei ws (w_ar ws (n_v (vs ++ [Value.int x]) 1) 44)) (v_iv (n_v (vs ++ [Value.int x]) 2))
      simp only [e_1, e_2, q1]
      exact vc_Mo_pieces_6_1 (v_iv (n_v vs 2)) (v_iv (n_v vs 3)) (v_iv (n_v vs 5)) (w_fi ws (n_v vs 0) 32) (w_ei ws (w_ar ws (n_v vs 0) 33)) (w_ei ws (w_ar ws (n_v vs 0) 34)) (w_ei ws (w_ar ws (n_v vs 0) 43)) (w_ei ws (w_ar ws (n_v vs 0) 42)) (w_ei ws (w_ar ws (n_v vs 0) 44)) k2 k3 k5 d0 f0 g1 f3 kz_0_32
  have nf2 : fc_1 PRD (20, [1, 2, 6], [60, 1, 1, 104, 32, 44]) ws (vs ++ [Value.int x]) := by
    refine ⟨nf_inA hl rfl, sgq_1120 ?_⟩
    · show PCM (w_fi ws (n_v (vs ++ [Value.int x]) 1) 32) (w_ei ws (w_ar ws (n_v (vs ++ [Value.int x]) 1) 44)) (v_iv (n_v (vs ++ [Value.int x]) 2)) (v_iv (n_v (vs ++ [Value.int x]) 6))
      simp only [e_1, e_2, e_6, q1]
      exact vc_Mo_pieces_6_2 (v_iv (n_v vs 2)) (v_iv (n_v vs 4)) (w_fi ws (n_v vs 0) 32) (w_ei ws (w_ar ws (n_v vs 0) 44)) (v_iv (Value.int x)) k2 k4 f4 kz_0_32 ex2
  have nf3 : fc_1 PRD (24, [0, 1], []) ws (vs ++ [Value.int x]) := by
    refine ⟨nf_inA hl rfl, sgq_5 ?_⟩
    · show n_v (vs ++ [Value.int x]) 0 = n_v (vs ++ [Value.int x]) 1
      first | rfl | simp only [e_0, e_1, q1]
  obtain ⟨x0, e0, _, _⟩ := tv_int t4 rfl
  have e1 : v_iv (n_v vs 4) = x0.toInt := by rw [e0]; rfl
  have ho : sy_ofs (vs ++ [Value.int x]) (6, 4, -1000000000000, -1) := by
    refine ⟨x, x0, by rw [List.getElem?_append_right (by rw [hl]; decide), hl]; rfl, ?_, ?_, ?_⟩
    · rw [List.getElem?_append_left (by rw [hl]; decide)]; exact n_v_some (by rw [hl]; decide) e0
    · show x0.toInt + (-1000000000000) ≤ x.toInt; omega
    · show x.toInt ≤ x0.toInt + (-1); omega
  exact ⟨(fun _ h => (by cases h)), [Value.int x], ag_one hx, List.forall_mem_cons.mpr ⟨⟨show (20 : Nat) < 100 from by decide, nf0⟩, List.forall_mem_cons.mpr ⟨⟨show (20 : Nat) < 100 from by decide, nf1⟩, List.forall_mem_cons.mpr ⟨⟨show (20 : Nat) < 100 from by decide, nf2⟩, List.forall_mem_cons.mpr ⟨⟨show (24 : Nat) < 100 from by decide, nf3⟩, (fun _ h => (by cases h))⟩⟩⟩⟩, List.forall_mem_cons.mpr ⟨ho, (fun _ h => (by cases h))⟩⟩
set_option maxHeartbeats 4000000 in
theorem vc_Mo_pieces_7_0 (x3 : Int) (x4 : Int) (pm_0 : Int) (pt_0 : Int → Int) (ph_0 : Int → Int) (drawnEdge_0 : Int → Int) (drawnNode_0 : Int → Int) (pieceOf_0 : Int → Int) (f2 : PCI (pm_0) (pt_0) (ph_0) (drawnEdge_0) (drawnNode_0) (pieceOf_0)) (kz_0_32 : 0 ≤ pm_0 ∧ pm_0 ≤ 80) : PCI (pm_0) (pt_0) (ph_0) (drawnEdge_0) (drawnNode_0) (pieceOf_0) := by
  first
    | assumption
    | (have v := (hE_0_44_1 x4 (by omega)).1 rfl
       have v2 := (hE_0_44_1 x3 (by omega)).2 (by omega)
       have v3 := (hE_0_44_2 x3 (by omega)).1 rfl
       exact pc_step (e := x3) (f := x4) (p := pieceOf_0 x4) ‹PCI _ _ _ _ _ _› (by omega) (by omega) (by omega) (by omega) (by omega) (by omega) (by omega) (‹SHN _ _ _ _ _ _›.mp (by omega)) (by first | exact Or.inl ⟨by omega, by omega⟩ | exact Or.inr ⟨by omega, by omega⟩) (fun j a b c => by rw [(hE_0_44_1 j a).2 c, (hE_0_44_2 j a).2 b]) (by omega) rfl)
set_option maxHeartbeats 4000000 in
theorem vc_Mo_pieces_7_1 (x2 : Int) (x3 : Int) (x4 : Int) (x6 : Int) (pt_0 : Int → Int) (ph_0 : Int → Int) (drawnEdge_0 : Int → Int) (drawnNode_0 : Int → Int) (pieceOf_0 : Int → Int) (k2 : 0 ≤ x2 ∧ x2 ≤ 1) (k3 : 0 ≤ x3 ∧ x3 ≤ 79) (k6 : 0 ≤ x6 ∧ x6 ≤ 0) (f3 : PC4 (pt_0) (ph_0) (drawnEdge_0) (drawnNode_0) (pieceOf_0) (x3) (x2)) : PC2 (pt_0) (ph_0) (drawnEdge_0) (drawnNode_0) (pieceOf_0) (x3) (x6) (x2) := by
  first
    | (have h := ‹PC4 _ _ _ _ _ _ _›; rw [show x6 = 0 by omega]; exact h)
    | (intro h0; exfalso; omega)
    | (have h := ‹PC2 _ _ _ _ _ _ _ _›
       first | rw [show x8 = x4 + 1 by omega] | rw [show x9 = x4 + 1 by omega] | rw [show x12 = x4 + 1 by omega] | rw [show x13 = x4 + 1 by omega]
       refine pc2_next h (fun _ de df hs => ?_)
       first
         | (exfalso; omega)
         | omega
         | exact absurd (‹SHN _ _ _ _ _ _›.mpr hs) (by omega))
set_option maxHeartbeats 4000000 in
theorem vc_Mo_pieces_7_2 (x2 : Int) (x3 : Int) (x4 : Int) (pm_0 : Int) (drawnEdge_0 : Int → Int) (pieceOf_0 : Int → Int) (gx : Int) (k2 : 0 ≤ x2 ∧ x2 ≤ 1) (k4 : (-200) ≤ x4 ∧ x4 ≤ 6500) (f4 : PCN (pm_0) (pieceOf_0) (x2) (x4)) (kz_0_32 : 0 ≤ pm_0 ∧ pm_0 ≤ 80) (ex2 : gx = 0 + (1 * x4 + 0)) : PCN (pm_0) (pieceOf_0) (x2) (gx) := by
  first
    | assumption
    | (have h := ‹PCN _ _ _ _›
       have hs := pc_sum (m := pm_0) (po := pieceOf_2) (po_zq := pieceOf_0) (e := x3) (f := x4) (p := pieceOf_0 x4) (dE := drawnEdge_0) (by omega) (by omega) (by omega) (by omega) (by omega) ?_ ?_ ?_ rfl
       · unfold PCN; unfold PCN at h; omega
       · have v := (hE_0_44_1 x4 (by omega)).1 rfl
         first
           | exact Or.inl ⟨by omega, by omega⟩
           | exact Or.inr ⟨by omega, by omega⟩
       · intro j a b c; rw [(hE_0_44_1 j a).2 c, (hE_0_44_2 j a).2 b]
       · have v := (hE_0_44_1 x4 (by omega)).1 rfl
         have v2 := (hE_0_44_1 x3 (by omega)).2 (by omega)
         have v3 := (hE_0_44_2 x3 (by omega)).1 rfl
         omega)
    | (have h := ‹PCN _ _ _ _›; unfold PCN; unfold PCN at h; omega)
def o_Mo_pieces_7 : or_T := (56, 7, [(0, (2, 0, 0, [165])), (1, (2, 0, 0, [165])), (2, (0, 0, 1, [])), (3, (0, 0, 79, [])), (4, (0, -200, 6500, [])), (5, (0, 1, 80, [])), (6, (0, 0, 0, []))], [(7, [3, 5], [2]), (9, [5, 1], [32]), (20, [1], [60, 1, 5, 100, 32, 33, 34, 43, 42, 44]), (20, [1, 3, 2], [60, 0, 5, 103, 33, 34, 43, 42, 44]), (20, [1, 2, 4], [60, 1, 1, 105, 32, 44]), (24, [0, 1], [])], [], [(0, -200, 6500, [])], [(20, [1], [60, 1, 5, 100, 32, 33, 34, 43, 42, 44]), (20, [1, 3, 6, 2], [60, 0, 5, 101, 33, 34, 43, 42, 44]), (20, [1, 2, 7], [60, 1, 1, 105, 32, 44]), (20, [3, 1], [30, -1, 1, 0, 0, -1, 1, 32]), (24, [0, 1], [])], [(7, 4, 0, 0)], [(3, 5, -4294967296, -1), (2, 3, -4294967296, 0)])
theorem oo_Mo_pieces_7 {kA : Nat → ClassId} : or_ok PRD kA GG o_Mo_pieces_7 := by
  refine or_mk fun A ta ws vs hD hth hl => ?_
  intro t0 r0 t1 r1 t2 k2 t3 k3 t4 k4 t5 k5 t6 k6 d0 d1 f0 f1 f2 f3 f4 f5
  replace f0 := shm_6 f0
  replace f1 := shm_519 f1
  replace f2 := shm_1118 f2
  replace f3 := shm_1121 f3
  replace f4 := shm_1122 f4
  replace f5 := shm_5 f5
  have q1 : n_v vs 1 = n_v vs 0 := f5.symm
  simp only [q1] at f1 f2 f3 f4
  have cr_0_33 := fdq_116 hD hth r0
  have cr_0_34 := fdq_117 hD hth r0
  have cr_0_42 := fdq_135 hD hth r0
  have cr_0_43 := fdq_136 hD hth r0
  have cr_0_44 := fdq_137 hD hth r0
  have g1 : v_iv (n_v vs 5) = w_fi ws (n_v vs 0) 32 := congrArg v_iv f1
  have hK_0_33 := elq_57 hD hth cr_0_33
  have hK_0_34 := elq_58 hD hth cr_0_34
  have hK_0_42 := elq_72 hD hth cr_0_42
  have hK_0_43 := elq_73 hD hth cr_0_43
  have hK_0_44 := elq_74 hD hth cr_0_44
  have kz_0_32 := fdq_139 hD hth r0
  obtain ⟨x, ex, hx⟩ := iv_ex (ta := ta) (lo := (-200)) (hi := 6500) (z := 0 + (1 * v_iv (n_v vs 4) + 0)) (by omega) (by omega) (by omega) (by omega)
  have ex2 : v_iv (Value.int x) = 0 + (1 * v_iv (n_v vs 4) + 0) := ex
  have ex3 : (-200) ≤ v_iv (Value.int x) ∧ v_iv (Value.int x) ≤ 6500 := tv_rng hx
  have e_0 : n_v (vs ++ [Value.int x]) 0 = n_v vs 0 := n_v_old (by rw [hl]; decide)
  have e_1 : n_v (vs ++ [Value.int x]) 1 = n_v vs 1 := n_v_old (by rw [hl]; decide)
  have e_2 : n_v (vs ++ [Value.int x]) 2 = n_v vs 2 := n_v_old (by rw [hl]; decide)
  have e_3 : n_v (vs ++ [Value.int x]) 3 = n_v vs 3 := n_v_old (by rw [hl]; decide)
  have e_6 : n_v (vs ++ [Value.int x]) 6 = n_v vs 6 := n_v_old (by rw [hl]; decide)
  have e_7 : n_v (vs ++ [Value.int x]) 7 = Value.int x := n_v_new hl
  have nf0 : fc_1 PRD (20, [1], [60, 1, 5, 100, 32, 33, 34, 43, 42, 44]) ws (vs ++ [Value.int x]) := by
    refine ⟨nf_inA hl rfl, sgq_1118 ?_⟩
    · show PCI (w_fi ws (n_v (vs ++ [Value.int x]) 1) 32) (w_ei ws (w_ar ws (n_v (vs ++ [Value.int x]) 1) 33)) (w_ei ws (w_ar ws (n_v (vs ++ [Value.int x]) 1) 34)) (w_ei ws (w_ar ws (n_v (vs ++ [Value.int x]) 1) 43)) (w_ei ws (w_ar ws (n_v (vs ++ [Value.int x]) 1) 42)) (w_ei ws (w_ar ws (n_v (vs ++ [Value.int x]) 1) 44))
      simp only [e_1, q1]
      exact vc_Mo_pieces_7_0 (v_iv (n_v vs 3)) (v_iv (n_v vs 4)) (w_fi ws (n_v vs 0) 32) (w_ei ws (w_ar ws (n_v vs 0) 33)) (w_ei ws (w_ar ws (n_v vs 0) 34)) (w_ei ws (w_ar ws (n_v vs 0) 43)) (w_ei ws (w_ar ws (n_v vs 0) 42)) (w_ei ws (w_ar ws (n_v vs 0) 44)) f2 kz_0_32
  have nf1 : fc_1 PRD (20, [1, 3, 6, 2], [60, 0, 5, 101, 33, 34, 43, 42, 44]) ws (vs ++ [Value.int x]) := by
    refine ⟨nf_inA hl rfl, sgq_1123 ?_⟩
    · show PC2 (w_ei ws (w_ar ws (n_v (vs ++ [Value.int x]) 1) 33)) (w_ei ws (w_ar ws (n_v (vs ++ [Value.int x]) 1) 34)) (w_ei ws (w_ar ws (n_v (vs ++ [Value.int x]) 1) 43)) (w_ei ws (w_ar ws (n_v (vs ++ [Value.int x]) 1) 42)) (w_ei ws (w_ar ws (n_v (vs ++ [Value.int x]) 1) 44)) (v_iv (n_v (vs ++ [Value.int x]) 3)) (v_iv (n_v (vs ++ [Value.int x]) 6)) (v_iv (n_v (vs ++ [Value.int x]) 2))
      simp only [e_1, e_2, e_3, e_6, q1]
      exact vc_Mo_pieces_7_1 (v_iv (n_v vs 2)) (v_iv (n_v vs 3)) (v_iv (n_v vs 4)) (v_iv (n_v vs 6)) (w_ei ws (w_ar ws (n_v vs 0) 33)) (w_ei ws (w_ar ws (n_v vs 0) 34)) (w_ei ws (w_ar ws (n_v vs 0) 43)) (w_ei ws (w_ar ws (n_v vs 0) 42)) (w_ei ws (w_ar ws (n_v vs 0) 44)) k2 k3 k6 f3
  have nf2 : fc_1 PRD (20, [1, 2, 7], [60, 1, 1, 105, 32, 44]) ws (vs ++ [Value.int x]) := by
    refine ⟨nf_inA hl rfl, sgq_1122 ?_⟩
    · show PCN (w_fi ws (n_v (vs ++ [Value.int x]) 1) 32) (w_ei ws (w_ar ws (n_v (vs ++ [Value.int x]) 1) 44)) (v_iv (n_v (vs ++ [Value.int x]) 2)) (v_iv (n_v (vs ++ [Value.int x]) 7))
      simp only [e_1, e_2, e_7, q1]
      exact vc_Mo_pieces_7_2 (v_iv (n_v vs 2)) (v_iv (n_v vs 3)) (v_iv (n_v vs 4)) (w_fi ws (n_v vs 0) 32) (w_ei ws (w_ar ws (n_v vs 0) 43)) (w_ei ws (w_ar ws (n_v vs 0) 44)) (v_iv (Value.int x)) k2 k4 f4 kz_0_32 ex2
  have nf3 : fc_1 PRD (20, [3, 1], [30, -1, 1, 0, 0, -1, 1, 32]) ws (vs ++ [Value.int x]) := by
    refine ⟨nf_inA hl rfl, sgq_947 ?_⟩
    · show 1 * v_iv (n_v (vs ++ [Value.int x]) 3) + ((-1) * w_fi ws (n_v (vs ++ [Value.int x]) 1) 32 + 0) ≤ (-1)
      simp only [e_1, e_3, q1]
      omega
  have nf4 : fc_1 PRD (24, [0, 1], []) ws (vs ++ [Value.int x]) := by
    refine ⟨nf_inA hl rfl, sgq_5 ?_⟩
    · show n_v (vs ++ [Value.int x]) 0 = n_v (vs ++ [Value.int x]) 1
      first | rfl | simp only [e_0, e_1, q1]
  obtain ⟨x0, e0, _, _⟩ := tv_int t4 rfl
  have e1 : v_iv (n_v vs 4) = x0.toInt := by rw [e0]; rfl
  have ho : sy_ofs (vs ++ [Value.int x]) (7, 4, 0, 0) := by
    refine ⟨x, x0, by rw [List.getElem?_append_right (by rw [hl]; decide), hl]; rfl, ?_, ?_, ?_⟩
    · rw [List.getElem?_append_left (by rw [hl]; decide)]; exact n_v_some (by rw [hl]; decide) e0
    · show x0.toInt + 0 ≤ x.toInt; omega
    · show x.toInt ≤ x0.toInt + 0; omega
  exact ⟨(fun _ h => (by cases h)), [Value.int x], ag_one hx, List.forall_mem_cons.mpr ⟨⟨show (20 : Nat) < 100 from by decide, nf0⟩, List.forall_mem_cons.mpr ⟨⟨show (20 : Nat) < 100 from by decide, nf1⟩, List.forall_mem_cons.mpr ⟨⟨show (20 : Nat) < 100 from by decide, nf2⟩, List.forall_mem_cons.mpr ⟨⟨show (20 : Nat) < 100 from by decide, nf3⟩, List.forall_mem_cons.mpr ⟨⟨show (24 : Nat) < 100 from by decide, nf4⟩, (fun _ h => (by cases h))⟩⟩⟩⟩⟩, List.forall_mem_cons.mpr ⟨ho, (fun _ h => (by cases h))⟩⟩
set_option maxHeartbeats 4000000 in
theorem vc_Mo_pieces_8_0 (pt_0 : Int → Int) (ph_0 : Int → Int) (drawnEdge_0 : Int → Int) (drawnNode_0 : Int → Int) (pieceOf_0 : Int → Int) (pm_0 : Int) (f2 : PCI (pm_0) (pt_0) (ph_0) (drawnEdge_0) (drawnNode_0) (pieceOf_0)) (kz_0_32 : 0 ≤ pm_0 ∧ pm_0 ≤ 80) : PCI (pm_0) (pt_0) (ph_0) (drawnEdge_0) (drawnNode_0) (pieceOf_0) := by
  first | assumption
set_option maxHeartbeats 4000000 in
theorem vc_Mo_pieces_8_1 (x2 : Int) (x3 : Int) (x4 : Int) (x6 : Int) (pt_0 : Int → Int) (ph_0 : Int → Int) (drawnEdge_0 : Int → Int) (drawnNode_0 : Int → Int) (pieceOf_0 : Int → Int) (k2 : 0 ≤ x2 ∧ x2 ≤ 1) (k3 : 0 ≤ x3 ∧ x3 ≤ 79) (k4 : 0 ≤ x4 ∧ x4 ≤ 79) (k6 : 1 ≤ x6 ∧ x6 ≤ 80) (f0 : x6 = x3 + 1) (f1 : x3 ≤ x4) (f3 : PC2 (pt_0) (ph_0) (drawnEdge_0) (drawnNode_0) (pieceOf_0) (x3) (x4) (x2)) : PC4 (pt_0) (ph_0) (drawnEdge_0) (drawnNode_0) (pieceOf_0) (x6) (x2) := by
  first
    | (intro h0 e_zq f_zq f0 hfe hlt; exfalso; omega)
    | (have h := ‹PC2 _ _ _ _ _ _ _ _›
       first | rw [show x6 = x3 + 1 by omega] | rw [show x7 = x3 + 1 by omega]
       exact pc2_up h (by omega))
set_option maxHeartbeats 4000000 in
theorem vc_Mo_pieces_8_2 (x2 : Int) (x5 : Int) (pieceOf_0 : Int → Int) (pm_0 : Int) (gx : Int) (k2 : 0 ≤ x2 ∧ x2 ≤ 1) (k5 : (-200) ≤ x5 ∧ x5 ≤ 6500) (f4 : PCN (pm_0) (pieceOf_0) (x2) (x5)) (kz_0_32 : 0 ≤ pm_0 ∧ pm_0 ≤ 80) (ex2 : gx = 0 + (1 * x5 + 0)) : PCN (pm_0) (pieceOf_0) (x2) (gx) := by
  first
    | (have h := ‹PCM _ _ _ _›; unfold PCN; unfold PCM at h; omega)
    | (have h := ‹PCN _ _ _ _›; unfold PCN; unfold PCN at h; omega)
def o_Mo_pieces_8 : or_T := (46, 7, [(0, (2, 0, 0, [165])), (1, (2, 0, 0, [165])), (2, (0, 0, 1, [])), (3, (0, 0, 79, [])), (4, (0, 0, 79, [])), (5, (0, -200, 6500, [])), (6, (0, 1, 80, []))], [(6, [6, 3], [1]), (7, [4, 3], [3]), (20, [1], [60, 1, 5, 100, 32, 33, 34, 43, 42, 44]), (20, [1, 3, 4, 2], [60, 0, 5, 101, 33, 34, 43, 42, 44]), (20, [1, 2, 5], [60, 1, 1, 105, 32, 44]), (20, [3, 1], [30, -1, 1, 0, 0, -1, 1, 32]), (24, [0, 1], [])], [], [(0, -200, 6500, [])], [(20, [1], [60, 1, 5, 100, 32, 33, 34, 43, 42, 44]), (20, [1, 6, 2], [60, 0, 5, 103, 33, 34, 43, 42, 44]), (20, [1, 2, 7], [60, 1, 1, 105, 32, 44]), (24, [0, 1], [])], [(7, 5, 0, 0)], [(6, 3, 1, 1), (4, 3, 0, 4294967296), (2, 3, -4294967296, 0), (4, 3, -4294967296, 0)])
theorem oo_Mo_pieces_8 {kA : Nat → ClassId} : or_ok PRD kA GG o_Mo_pieces_8 := by
  refine or_mk fun A ta ws vs hD hth hl => ?_
  intro t0 r0 t1 r1 t2 k2 t3 k3 t4 k4 t5 k5 t6 k6 d0 d1 d2 d3 f0 f1 f2 f3 f4 f5 f6
  replace f0 := shm_4 f0
  replace f1 := shm_2 f1
  replace f2 := shm_1118 f2
  replace f3 := shm_1123 f3
  replace f4 := shm_1122 f4
  replace f5 := shm_947 f5
  replace f6 := shm_5 f6
  have q1 : n_v vs 1 = n_v vs 0 := f6.symm
  simp only [q1] at f2 f3 f4 f5
  have cr_0_33 := fdq_116 hD hth r0
  have cr_0_34 := fdq_117 hD hth r0
  have cr_0_42 := fdq_135 hD hth r0
  have cr_0_43 := fdq_136 hD hth r0
  have cr_0_44 := fdq_137 hD hth r0
  have hK_0_33 := elq_57 hD hth cr_0_33
  have hK_0_34 := elq_58 hD hth cr_0_34
  have hK_0_42 := elq_72 hD hth cr_0_42
  have hK_0_43 := elq_73 hD hth cr_0_43
  have hK_0_44 := elq_74 hD hth cr_0_44
  have kz_0_32 := fdq_139 hD hth r0
  obtain ⟨x, ex, hx⟩ := iv_ex (ta := ta) (lo := (-200)) (hi := 6500) (z := 0 + (1 * v_iv (n_v vs 5) + 0)) (by omega) (by omega) (by omega) (by omega)
  have ex2 : v_iv (Value.int x) = 0 + (1 * v_iv (n_v vs 5) + 0) := ex
  have ex3 : (-200) ≤ v_iv (Value.int x) ∧ v_iv (Value.int x) ≤ 6500 := tv_rng hx
  have e_0 : n_v (vs ++ [Value.int x]) 0 = n_v vs 0 := n_v_old (by rw [hl]; decide)
  have e_1 : n_v (vs ++ [Value.int x]) 1 = n_v vs 1 := n_v_old (by rw [hl]; decide)
  have e_2 : n_v (vs ++ [Value.int x]) 2 = n_v vs 2 := n_v_old (by rw [hl]; decide)
  have e_6 : n_v (vs ++ [Value.int x]) 6 = n_v vs 6 := n_v_old (by rw [hl]; decide)
  have e_7 : n_v (vs ++ [Value.int x]) 7 = Value.int x := n_v_new hl
  have nf0 : fc_1 PRD (20, [1], [60, 1, 5, 100, 32, 33, 34, 43, 42, 44]) ws (vs ++ [Value.int x]) := by
    refine ⟨nf_inA hl rfl, sgq_1118 ?_⟩
    · show PCI (w_fi ws (n_v (vs ++ [Value.int x]) 1) 32) (w_ei ws (w_ar ws (n_v (vs ++ [Value.int x]) 1) 33)) (w_ei ws (w_ar ws (n_v (vs ++ [Value.int x]) 1) 34)) (w_ei ws (w_ar ws (n_v (vs ++ [Value.int x]) 1) 43)) (w_ei ws (w_ar ws (n_v (vs ++ [Value.int x]) 1) 42)) (w_ei ws (w_ar ws (n_v (vs ++ [Value.int x]) 1) 44))
      simp only [e_1, q1]
      exact vc_Mo_pieces_8_0 (w_ei ws (w_ar ws (n_v vs 0) 33)) (w_ei ws (w_ar ws (n_v vs 0) 34)) (w_ei ws (w_ar ws (n_v vs 0) 43)) (w_ei ws (w_ar ws (n_v vs 0) 42)) (w_ei ws (w_ar ws (n_v vs 0) 44)) (w_fi ws (n_v vs 0) 32) f2 kz_0_32
  have nf1 : fc_1 PRD (20, [1, 6, 2], [60, 0, 5, 103, 33, 34, 43, 42, 44]) ws (vs ++ [Value.int x]) := by
    refine ⟨nf_inA hl rfl, sgq_1121 ?_⟩
    · show PC4 (w_ei ws (w_ar ws (n_v (vs ++ [Value.int x]) 1) 33)) (w_ei ws (w_ar ws (n_v (vs ++ [Value.int x]) 1) 34)) (w_ei ws (w_ar ws (n_v (vs ++ [Value.int x]) 1) 43)) (w_ei ws (w_ar ws (n_v (vs ++ [Value.int x]) 1) 42)) (w_ei ws (w_ar ws (n_v (vs ++ [Value.int x]) 1) 44)) (v_iv (n_v (vs ++ [Value.int x]) 6)) (v_iv (n_v (vs ++ [Value.int x]) 2))
      simp only [e_1, e_2, e_6, q1]
      exact vc_Mo_pieces_8_1 (v_iv (n_v vs 2)) (v_iv (n_v vs 3)) (v_iv (n_v vs 4)) (v_iv (n_v vs 6)) (w_ei ws (w_ar ws (n_v vs 0) 33)) (w_ei ws (w_ar ws (n_v vs 0) 34)) (w_ei ws (w_ar ws (n_v vs 0) 43)) (w_ei ws (w_ar ws (n_v vs 0) 42)) (w_ei ws (w_ar ws (n_v vs 0) 44)) k2 k3 k4 k6 f0 f1 f3
  have nf2 : fc_1 PRD (20, [1, 2, 7], [60, 1, 1, 105, 32, 44]) ws (vs ++ [Value.int x]) := by
    refine ⟨nf_inA hl rfl, sgq_1122 ?_⟩
    · show PCN (w_fi ws (n_v (vs ++ [Value.int x]) 1) 32) (w_ei ws (w_ar ws (n_v (vs ++ [Value.int x]) 1) 44)) (v_iv (n_v (vs ++ [Value.int x]) 2)) (v_iv (n_v (vs ++ [Value.int x]) 7))
      simp only [e_1, e_2, e_7, q1]
      exact vc_Mo_pieces_8_2 (v_iv (n_v vs 2)) (v_iv (n_v vs 5)) (w_ei ws (w_ar ws (n_v vs 0) 44)) (w_fi ws (n_v vs 0) 32) (v_iv (Value.int x)) k2 k5 f4 kz_0_32 ex2
  have nf3 : fc_1 PRD (24, [0, 1], []) ws (vs ++ [Value.int x]) := by
    refine ⟨nf_inA hl rfl, sgq_5 ?_⟩
    · show n_v (vs ++ [Value.int x]) 0 = n_v (vs ++ [Value.int x]) 1
      first | rfl | simp only [e_0, e_1, q1]
  obtain ⟨x0, e0, _, _⟩ := tv_int t5 rfl
  have e1 : v_iv (n_v vs 5) = x0.toInt := by rw [e0]; rfl
  have ho : sy_ofs (vs ++ [Value.int x]) (7, 5, 0, 0) := by
    refine ⟨x, x0, by rw [List.getElem?_append_right (by rw [hl]; decide), hl]; rfl, ?_, ?_, ?_⟩
    · rw [List.getElem?_append_left (by rw [hl]; decide)]; exact n_v_some (by rw [hl]; decide) e0
    · show x0.toInt + 0 ≤ x.toInt; omega
    · show x.toInt ≤ x0.toInt + 0; omega
  exact ⟨(fun _ h => (by cases h)), [Value.int x], ag_one hx, List.forall_mem_cons.mpr ⟨⟨show (20 : Nat) < 100 from by decide, nf0⟩, List.forall_mem_cons.mpr ⟨⟨show (20 : Nat) < 100 from by decide, nf1⟩, List.forall_mem_cons.mpr ⟨⟨show (20 : Nat) < 100 from by decide, nf2⟩, List.forall_mem_cons.mpr ⟨⟨show (24 : Nat) < 100 from by decide, nf3⟩, (fun _ h => (by cases h))⟩⟩⟩⟩, List.forall_mem_cons.mpr ⟨ho, (fun _ h => (by cases h))⟩⟩
set_option maxHeartbeats 4000000 in
theorem vc_Mo_pieces_9_0 (x2 : Int) (x3 : Int) (x4 : Int) (x7 : Int) (x8 : Int) (drawnEdge_0 : Int → Int) (pt_0 : Int → Int) (ph_0 : Int → Int) (drawnNode_0 : Int → Int) (pieceOf_0 : Int → Int) (k2 : 0 ≤ x2 ∧ x2 ≤ 1) (k3 : 1 ≤ x3 ∧ x3 ≤ 79) (k4 : 0 ≤ x4 ∧ x4 ≤ 78) (k7 : 1 ≤ x7 ∧ x7 ≤ 1) (k8 : 1 ≤ x8 ∧ x8 ≤ 79) (f0 : x8 = x4 + 1) (h2 : x7 = drawnEdge_0 (x3)) (f6 : PC2 (pt_0) (ph_0) (drawnEdge_0) (drawnNode_0) (pieceOf_0) (x3) (x4) (x2)) : PC2 (pt_0) (ph_0) (drawnEdge_0) (drawnNode_0) (pieceOf_0) (x3) (x8) (x2) := by
  first
    | (have h := ‹PC4 _ _ _ _ _ _ _›; rw [show x6 = 0 by omega]; exact h)
    | (intro h0; exfalso; omega)
    | (have h := ‹PC2 _ _ _ _ _ _ _ _›
       first | rw [show x8 = x4 + 1 by omega] | rw [show x9 = x4 + 1 by omega] | rw [show x12 = x4 + 1 by omega] | rw [show x13 = x4 + 1 by omega]
       refine pc2_next h (fun _ de df hs => ?_)
       first
         | (exfalso; omega)
         | omega
         | exact absurd (‹SHN _ _ _ _ _ _›.mpr hs) (by omega))
def o_Mo_pieces_9 : or_T := (56, 9, [(2, (0, 0, 1, [])), (3, (0, 1, 79, [])), (4, (0, 0, 78, [])), (7, (0, 1, 1, [])), (8, (0, 1, 79, []))], [(6, [8, 4], [1]), (10, [7, 6, 3], []), (9, [6, 1], [43]), (20, [1, 3, 4, 2], [60, 0, 5, 101, 33, 34, 43, 42, 44]), (24, [0, 1], [])], [], [], [(20, [1, 3, 8, 2], [60, 0, 5, 101, 33, 34, 43, 42, 44])], [], [])
theorem oo_Mo_pieces_9 {kA : Nat → ClassId} : or_ok PRD kA GG o_Mo_pieces_9 := by
  refine or_mk fun A ta ws vs hD hth hl => ?_
  intro t2 k2 t3 k3 t4 k4 t7 k7 t8 k8 f0 f2 f3 f6 f9
  replace f0 := shm_4 f0
  replace f2 := shm_106 f2
  replace f3 := shm_526 f3
  replace f6 := shm_1123 f6
  replace f9 := shm_5 f9
  have q1 : n_v vs 1 = n_v vs 0 := f9.symm
  simp only [q1] at f3 f6
  have ad_6 : v_ad (n_v vs 6) = w_ar ws (n_v vs 0) 43 := congrArg v_ad f3
  simp only [ad_6] at f2
  have h2 : v_iv (n_v vs 7) = w_ei ws (w_ar ws (n_v vs 0) 43) (v_iv (n_v vs 3)) := f2
  have nf0 : fc_1 PRD (20, [1, 3, 8, 2], [60, 0, 5, 101, 33, 34, 43, 42, 44]) ws (vs) := by
    refine ⟨nf_in hl rfl, sgq_1123 ?_⟩
    · show PC2 (w_ei ws (w_ar ws (n_v vs 1) 33)) (w_ei ws (w_ar ws (n_v vs 1) 34)) (w_ei ws (w_ar ws (n_v vs 1) 43)) (w_ei ws (w_ar ws (n_v vs 1) 42)) (w_ei ws (w_ar ws (n_v vs 1) 44)) (v_iv (n_v vs 3)) (v_iv (n_v vs 8)) (v_iv (n_v vs 2))
      rw [q1]
      exact vc_Mo_pieces_9_0 (v_iv (n_v vs 2)) (v_iv (n_v vs 3)) (v_iv (n_v vs 4)) (v_iv (n_v vs 7)) (v_iv (n_v vs 8)) (w_ei ws (w_ar ws (n_v vs 0) 43)) (w_ei ws (w_ar ws (n_v vs 0) 33)) (w_ei ws (w_ar ws (n_v vs 0) 34)) (w_ei ws (w_ar ws (n_v vs 0) 42)) (w_ei ws (w_ar ws (n_v vs 0) 44)) k2 k3 k4 k7 k8 f0 h2 f6
  refine ⟨(fun _ h => (by cases h)), [], trivial, ?_, (fun _ h => (by cases h))⟩
  rw [List.append_nil]
  exact List.forall_mem_cons.mpr ⟨⟨show (20 : Nat) < 100 from by decide, nf0⟩, (fun _ h => (by cases h))⟩
set_option maxHeartbeats 4000000 in
theorem vc_Mo_pieces_10_0 (x2 : Int) (x3 : Int) (x4 : Int) (x8 : Int) (x9 : Int) (drawnEdge_0 : Int → Int) (pt_0 : Int → Int) (ph_0 : Int → Int) (drawnNode_0 : Int → Int) (pieceOf_0 : Int → Int) (k2 : 0 ≤ x2 ∧ x2 ≤ 1) (k3 : 1 ≤ x3 ∧ x3 ≤ 79) (k4 : 0 ≤ x4 ∧ x4 ≤ 78) (k8 : 1 ≤ x8 ∧ x8 ≤ 1) (k9 : 1 ≤ x9 ∧ x9 ≤ 79) (f0 : x9 = x4 + 1) (h2 : x8 = drawnEdge_0 (x4)) (f8 : PC2 (pt_0) (ph_0) (drawnEdge_0) (drawnNode_0) (pieceOf_0) (x3) (x4) (x2)) : PC2 (pt_0) (ph_0) (drawnEdge_0) (drawnNode_0) (pieceOf_0) (x3) (x9) (x2) := by
  first
    | (have h := ‹PC4 _ _ _ _ _ _ _›; rw [show x6 = 0 by omega]; exact h)
    | (intro h0; exfalso; omega)
    | (have h := ‹PC2 _ _ _ _ _ _ _ _›
       first | rw [show x8 = x4 + 1 by omega] | rw [show x9 = x4 + 1 by omega] | rw [show x12 = x4 + 1 by omega] | rw [show x13 = x4 + 1 by omega]
       refine pc2_next h (fun _ de df hs => ?_)
       first
         | (exfalso; omega)
         | omega
         | exact absurd (‹SHN _ _ _ _ _ _›.mpr hs) (by omega))
def o_Mo_pieces_10 : or_T := (56, 10, [(2, (0, 0, 1, [])), (3, (0, 1, 79, [])), (4, (0, 0, 78, [])), (8, (0, 1, 1, [])), (9, (0, 1, 79, []))], [(6, [9, 4], [1]), (10, [8, 6, 4], []), (9, [6, 1], [43]), (20, [1, 3, 4, 2], [60, 0, 5, 101, 33, 34, 43, 42, 44]), (24, [0, 1], [])], [], [], [(20, [1, 3, 9, 2], [60, 0, 5, 101, 33, 34, 43, 42, 44])], [], [])
theorem oo_Mo_pieces_10 {kA : Nat → ClassId} : or_ok PRD kA GG o_Mo_pieces_10 := by
  refine or_mk fun A ta ws vs hD hth hl => ?_
  intro t2 k2 t3 k3 t4 k4 t8 k8 t9 k9 f0 f2 f3 f8 f11
  replace f0 := shm_4 f0
  replace f2 := shm_106 f2
  replace f3 := shm_526 f3
  replace f8 := shm_1123 f8
  replace f11 := shm_5 f11
  have q1 : n_v vs 1 = n_v vs 0 := f11.symm
  simp only [q1] at f3 f8
  have ad_6 : v_ad (n_v vs 6) = w_ar ws (n_v vs 0) 43 := congrArg v_ad f3
  simp only [ad_6] at f2
  have h2 : v_iv (n_v vs 8) = w_ei ws (w_ar ws (n_v vs 0) 43) (v_iv (n_v vs 4)) := f2
  have nf0 : fc_1 PRD (20, [1, 3, 9, 2], [60, 0, 5, 101, 33, 34, 43, 42, 44]) ws (vs) := by
    refine ⟨nf_in hl rfl, sgq_1123 ?_⟩
    · show PC2 (w_ei ws (w_ar ws (n_v vs 1) 33)) (w_ei ws (w_ar ws (n_v vs 1) 34)) (w_ei ws (w_ar ws (n_v vs 1) 43)) (w_ei ws (w_ar ws (n_v vs 1) 42)) (w_ei ws (w_ar ws (n_v vs 1) 44)) (v_iv (n_v vs 3)) (v_iv (n_v vs 9)) (v_iv (n_v vs 2))
      rw [q1]
      exact vc_Mo_pieces_10_0 (v_iv (n_v vs 2)) (v_iv (n_v vs 3)) (v_iv (n_v vs 4)) (v_iv (n_v vs 8)) (v_iv (n_v vs 9)) (w_ei ws (w_ar ws (n_v vs 0) 43)) (w_ei ws (w_ar ws (n_v vs 0) 33)) (w_ei ws (w_ar ws (n_v vs 0) 34)) (w_ei ws (w_ar ws (n_v vs 0) 42)) (w_ei ws (w_ar ws (n_v vs 0) 44)) k2 k3 k4 k8 k9 f0 h2 f8
  refine ⟨(fun _ h => (by cases h)), [], trivial, ?_, (fun _ h => (by cases h))⟩
  rw [List.append_nil]
  exact List.forall_mem_cons.mpr ⟨⟨show (20 : Nat) < 100 from by decide, nf0⟩, (fun _ h => (by cases h))⟩
set_option maxHeartbeats 4000000 in
theorem vc_Mo_pieces_11_0 (x2 : Int) (x3 : Int) (x4 : Int) (x8 : Int) (x10 : Int) (x11 : Int) (x12 : Int) (pieceOf_0 : Int → Int) (drawnEdge_0 : Int → Int) (pt_0 : Int → Int) (ph_0 : Int → Int) (drawnNode_0 : Int → Int) (k2 : 0 ≤ x2 ∧ x2 ≤ 1) (k3 : 1 ≤ x3 ∧ x3 ≤ 79) (k4 : 0 ≤ x4 ∧ x4 ≤ 78) (k10 : (-1) ≤ x10 ∧ x10 ≤ 79) (k11 : (-1) ≤ x11 ∧ x11 ≤ 79) (k12 : 1 ≤ x12 ∧ x12 ≤ 79) (d3 : x11 + 0 ≤ x10 ∧ x10 ≤ x11 + 0) (f0 : x12 = x4 + 1) (h2 : x11 = pieceOf_0 (x4)) (h4 : x10 = pieceOf_0 (x3)) (f12 : PC2 (pt_0) (ph_0) (drawnEdge_0) (drawnNode_0) (pieceOf_0) (x3) (x4) (x2)) : PC2 (pt_0) (ph_0) (drawnEdge_0) (drawnNode_0) (pieceOf_0) (x3) (x12) (x2) := by
  first
    | (have h := ‹PC4 _ _ _ _ _ _ _›; rw [show x6 = 0 by omega]; exact h)
    | (intro h0; exfalso; omega)
    | (have h := ‹PC2 _ _ _ _ _ _ _ _›
       first | rw [show x8 = x4 + 1 by omega] | rw [show x9 = x4 + 1 by omega] | rw [show x12 = x4 + 1 by omega] | rw [show x13 = x4 + 1 by omega]
       refine pc2_next h (fun _ de df hs => ?_)
       first
         | (exfalso; omega)
         | omega
         | exact absurd (‹SHN _ _ _ _ _ _›.mpr hs) (by omega))
def o_Mo_pieces_11 : or_T := (56, 13, [(2, (0, 0, 1, [])), (3, (0, 1, 79, [])), (4, (0, 0, 78, [])), (10, (0, -1, 79, [])), (11, (0, -1, 79, [])), (12, (0, 1, 79, []))], [(6, [12, 4], [1]), (10, [11, 9, 4], []), (9, [9, 1], [44]), (10, [10, 9, 3], []), (20, [1, 3, 4, 2], [60, 0, 5, 101, 33, 34, 43, 42, 44]), (24, [0, 1], [])], [], [], [(20, [1, 3, 12, 2], [60, 0, 5, 101, 33, 34, 43, 42, 44])], [], [(10, 11, 0, 0)])
theorem oo_Mo_pieces_11 {kA : Nat → ClassId} : or_ok PRD kA GG o_Mo_pieces_11 := by
  refine or_mk fun A ta ws vs hD hth hl => ?_
  intro t2 k2 t3 k3 t4 k4 t10 k10 t11 k11 t12 k12 d3 f0 f2 f3 f4 f12 f15
  replace f0 := shm_4 f0
  replace f2 := shm_106 f2
  replace f3 := shm_527 f3
  replace f4 := shm_106 f4
  replace f12 := shm_1123 f12
  replace f15 := shm_5 f15
  have q1 : n_v vs 1 = n_v vs 0 := f15.symm
  simp only [q1] at f3 f12
  have ad_9 : v_ad (n_v vs 9) = w_ar ws (n_v vs 0) 44 := congrArg v_ad f3
  simp only [ad_9] at f2
  have h2 : v_iv (n_v vs 11) = w_ei ws (w_ar ws (n_v vs 0) 44) (v_iv (n_v vs 4)) := f2
  simp only [ad_9] at f4
  have h4 : v_iv (n_v vs 10) = w_ei ws (w_ar ws (n_v vs 0) 44) (v_iv (n_v vs 3)) := f4
  have nf0 : fc_1 PRD (20, [1, 3, 12, 2], [60, 0, 5, 101, 33, 34, 43, 42, 44]) ws (vs) := by
    refine ⟨nf_in hl rfl, sgq_1123 ?_⟩
    · show PC2 (w_ei ws (w_ar ws (n_v vs 1) 33)) (w_ei ws (w_ar ws (n_v vs 1) 34)) (w_ei ws (w_ar ws (n_v vs 1) 43)) (w_ei ws (w_ar ws (n_v vs 1) 42)) (w_ei ws (w_ar ws (n_v vs 1) 44)) (v_iv (n_v vs 3)) (v_iv (n_v vs 12)) (v_iv (n_v vs 2))
      rw [q1]
      exact vc_Mo_pieces_11_0 (v_iv (n_v vs 2)) (v_iv (n_v vs 3)) (v_iv (n_v vs 4)) (v_iv (n_v vs 8)) (v_iv (n_v vs 10)) (v_iv (n_v vs 11)) (v_iv (n_v vs 12)) (w_ei ws (w_ar ws (n_v vs 0) 44)) (w_ei ws (w_ar ws (n_v vs 0) 43)) (w_ei ws (w_ar ws (n_v vs 0) 33)) (w_ei ws (w_ar ws (n_v vs 0) 34)) (w_ei ws (w_ar ws (n_v vs 0) 42)) k2 k3 k4 k10 k11 k12 d3 f0 h2 h4 f12
  refine ⟨(fun _ h => (by cases h)), [], trivial, ?_, (fun _ h => (by cases h))⟩
  rw [List.append_nil]
  exact List.forall_mem_cons.mpr ⟨⟨show (20 : Nat) < 100 from by decide, nf0⟩, (fun _ h => (by cases h))⟩
set_option maxHeartbeats 4000000 in
theorem vc_Mo_pieces_12_0 (x3 : Int) (x4 : Int) (x7 : Int) (x8 : Int) (x10 : Int) (x11 : Int) (x12 : Int) (x13 : Int) (x14 : Int) (x16 : Int) (pt_0 : Int → Int) (ph_0 : Int → Int) (drawnNode_0 : Int → Int) (pm_0 : Int) (pt_1 : Int → Int) (ph_1 : Int → Int) (drawnNode_1 : Int → Int) (pm_1 : Int) (pieceOf_2 : Int → Int) (pt_2 : Int → Int) (ph_2 : Int → Int) (drawnNode_2 : Int → Int) (drawnEdge_2 : Int → Int) (pm_2 : Int) (drawnEdge_0 : Int → Int) (drawnEdge_1 : Int → Int) (pieceOf_0 : Int → Int) (pieceOf_1 : Int → Int) (k3 : 1 ≤ x3 ∧ x3 ≤ 79) (k4 : 0 ≤ x4 ∧ x4 ≤ 78) (k7 : 0 ≤ x7 ∧ x7 ≤ 0) (k8 : 0 ≤ x8 ∧ x8 ≤ 0) (k10 : (-1) ≤ x10 ∧ x10 ≤ 79) (k11 : (-1) ≤ x11 ∧ x11 ≤ 79) (k12 : 1 ≤ x12 ∧ x12 ≤ 1) (k13 : (-1) ≤ x13 ∧ x13 ≤ 79) (k14 : (-1) ≤ x14 ∧ x14 ≤ 79) (k16 : 1 ≤ x16 ∧ x16 ≤ 79) (d0 : x4 + 1 ≤ x16 ∧ x16 ≤ x4 + 1) (d1 : x3 + (-4294967296) ≤ x16 ∧ x16 ≤ x3 + 0) (d3 : x14 + 0 ≤ x13 ∧ x13 ≤ x14 + 4294967296) (d4 : x3 + (-4294967296) ≤ x4 ∧ x4 ≤ x3 + (-1)) (f2 : 1 * x3 + ((-1) * pm_0 + 0) ≤ (-1)) (h11 : x14 = pieceOf_2 (x4)) (h12 : x13 = pieceOf_2 (x3)) (f13 : x12 ≠ 0) (f14 : SHN (pt_2) (ph_2) (drawnNode_2) (x3) (x4) (x12)) (f15 : x10 ≠ x11) (h16 : x11 = pieceOf_2 (x4)) (h17 : x10 = pieceOf_2 (x3)) (h19 : x8 = drawnEdge_2 (x4)) (h22 : x7 = drawnEdge_2 (x3)) (f23 : x4 < x3) (f24 : PCI (pm_2) (pt_2) (ph_2) (drawnEdge_2) (drawnNode_2) (pieceOf_2)) (fe_0_32_1 : pm_0 = pm_1) (fe_0_32_2 : pm_1 = pm_2) (hE_0_33_1 : ∀ j : Int, pt_0 j = pt_1 j) (hE_0_33_2 : ∀ j : Int, pt_1 j = pt_2 j) (hE_0_34_1 : ∀ j : Int, ph_0 j = ph_1 j) (hE_0_34_2 : ∀ j : Int, ph_1 j = ph_2 j) (hE_0_42_1 : ∀ j : Int, drawnNode_0 j = drawnNode_1 j) (hE_0_42_2 : ∀ j : Int, drawnNode_1 j = drawnNode_2 j) (hE_0_43_1 : ∀ j : Int, drawnEdge_0 j = drawnEdge_1 j) (hE_0_43_2 : ∀ j : Int, drawnEdge_1 j = drawnEdge_2 j) (hE_0_44_1 : ∀ j : Int, 0 ≤ j → (j = x4 → pieceOf_0 j = x14) ∧ (j ≠ x4 → pieceOf_0 j = pieceOf_1 j)) (hE_0_44_2 : ∀ j : Int, 0 ≤ j → (j = x3 → pieceOf_1 j = x14) ∧ (j ≠ x3 → pieceOf_1 j = pieceOf_2 j)) (kz_0_32 : 0 ≤ pm_0 ∧ pm_0 ≤ 80) : PCI (pm_0) (pt_0) (ph_0) (drawnEdge_0) (drawnNode_0) (pieceOf_0) := by
  subst fe_0_32_1
  subst fe_0_32_2
  have e_hE_0_33_1 := funext hE_0_33_1; subst e_hE_0_33_1
  have e_hE_0_33_2 := funext hE_0_33_2; subst e_hE_0_33_2
  have e_hE_0_34_1 := funext hE_0_34_1; subst e_hE_0_34_1
  have e_hE_0_34_2 := funext hE_0_34_2; subst e_hE_0_34_2
  have e_hE_0_42_1 := funext hE_0_42_1; subst e_hE_0_42_1
  have e_hE_0_42_2 := funext hE_0_42_2; subst e_hE_0_42_2
  have e_hE_0_43_1 := funext hE_0_43_1; subst e_hE_0_43_1
  have e_hE_0_43_2 := funext hE_0_43_2; subst e_hE_0_43_2
  first
    | assumption
    | (have v := (hE_0_44_1 x4 (by omega)).1 rfl
       have v2 := (hE_0_44_1 x3 (by omega)).2 (by omega)
       have v3 := (hE_0_44_2 x3 (by omega)).1 rfl
       exact pc_step (e := x3) (f := x4) (p := pieceOf_0 x4) ‹PCI _ _ _ _ _ _› (by omega) (by omega) (by omega) (by omega) (by omega) (by omega) (by omega) (‹SHN _ _ _ _ _ _›.mp (by omega)) (by first | exact Or.inl ⟨by omega, by omega⟩ | exact Or.inr ⟨by omega, by omega⟩) (fun j a b c => by rw [(hE_0_44_1 j a).2 c, (hE_0_44_2 j a).2 b]) (by omega) rfl)
set_option maxHeartbeats 4000000 in
theorem vc_Mo_pieces_12_1 (x3 : Int) (x4 : Int) (x8 : Int) (x12 : Int) (x13 : Int) (x15 : Int) (x16 : Int) (pt_0 : Int → Int) (ph_0 : Int → Int) (drawnNode_0 : Int → Int) (pm_0 : Int) (pt_1 : Int → Int) (ph_1 : Int → Int) (drawnNode_1 : Int → Int) (pm_1 : Int) (pt_2 : Int → Int) (ph_2 : Int → Int) (drawnNode_2 : Int → Int) (drawnEdge_2 : Int → Int) (pm_2 : Int) (drawnEdge_0 : Int → Int) (drawnEdge_1 : Int → Int) (pieceOf_0 : Int → Int) (k3 : 1 ≤ x3 ∧ x3 ≤ 79) (k15 : 1 ≤ x15 ∧ x15 ≤ 1) (k16 : 1 ≤ x16 ∧ x16 ≤ 79) (fe_0_32_1 : pm_0 = pm_1) (fe_0_32_2 : pm_1 = pm_2) (hE_0_33_1 : ∀ j : Int, pt_0 j = pt_1 j) (hE_0_33_2 : ∀ j : Int, pt_1 j = pt_2 j) (hE_0_34_1 : ∀ j : Int, ph_0 j = ph_1 j) (hE_0_34_2 : ∀ j : Int, ph_1 j = ph_2 j) (hE_0_42_1 : ∀ j : Int, drawnNode_0 j = drawnNode_1 j) (hE_0_42_2 : ∀ j : Int, drawnNode_1 j = drawnNode_2 j) (hE_0_43_1 : ∀ j : Int, drawnEdge_0 j = drawnEdge_1 j) (hE_0_43_2 : ∀ j : Int, drawnEdge_1 j = drawnEdge_2 j) (kz_0_32 : 0 ≤ pm_0 ∧ pm_0 ≤ 80) : PC2 (pt_0) (ph_0) (drawnEdge_0) (drawnNode_0) (pieceOf_0) (x3) (x16) (x15) := by
  subst fe_0_32_1
  subst fe_0_32_2
  have e_hE_0_33_1 := funext hE_0_33_1; subst e_hE_0_33_1
  have e_hE_0_33_2 := funext hE_0_33_2; subst e_hE_0_33_2
  have e_hE_0_34_1 := funext hE_0_34_1; subst e_hE_0_34_1
  have e_hE_0_34_2 := funext hE_0_34_2; subst e_hE_0_34_2
  have e_hE_0_42_1 := funext hE_0_42_1; subst e_hE_0_42_1
  have e_hE_0_42_2 := funext hE_0_42_2; subst e_hE_0_42_2
  have e_hE_0_43_1 := funext hE_0_43_1; subst e_hE_0_43_1
  have e_hE_0_43_2 := funext hE_0_43_2; subst e_hE_0_43_2
  first
    | (have h := ‹PC4 _ _ _ _ _ _ _›; rw [show x6 = 0 by omega]; exact h)
    | (intro h0; exfalso; omega)
    | (have h := ‹PC2 _ _ _ _ _ _ _ _›
       first | rw [show x8 = x4 + 1 by omega] | rw [show x9 = x4 + 1 by omega] | rw [show x12 = x4 + 1 by omega] | rw [show x13 = x4 + 1 by omega]
       refine pc2_next h (fun _ de df hs => ?_)
       first
         | (exfalso; omega)
         | omega
         | exact absurd (‹SHN _ _ _ _ _ _›.mpr hs) (by omega))
set_option maxHeartbeats 4000000 in
theorem vc_Mo_pieces_12_2 (x2 : Int) (x3 : Int) (x4 : Int) (x5 : Int) (x10 : Int) (x11 : Int) (x13 : Int) (x14 : Int) (x15 : Int) (x16 : Int) (pt_0 : Int → Int) (ph_0 : Int → Int) (drawnNode_0 : Int → Int) (pm_0 : Int) (pt_1 : Int → Int) (ph_1 : Int → Int) (drawnNode_1 : Int → Int) (pm_1 : Int) (pieceOf_2 : Int → Int) (pt_2 : Int → Int) (ph_2 : Int → Int) (drawnNode_2 : Int → Int) (drawnEdge_2 : Int → Int) (pm_2 : Int) (drawnEdge_0 : Int → Int) (drawnEdge_1 : Int → Int) (pieceOf_0 : Int → Int) (pieceOf_1 : Int → Int) (k2 : 0 ≤ x2 ∧ x2 ≤ 1) (k3 : 1 ≤ x3 ∧ x3 ≤ 79) (k4 : 0 ≤ x4 ∧ x4 ≤ 78) (k5 : (-200) ≤ x5 ∧ x5 ≤ 6500) (k10 : (-1) ≤ x10 ∧ x10 ≤ 79) (k11 : (-1) ≤ x11 ∧ x11 ≤ 79) (k13 : (-1) ≤ x13 ∧ x13 ≤ 79) (k14 : (-1) ≤ x14 ∧ x14 ≤ 79) (k15 : 1 ≤ x15 ∧ x15 ≤ 1) (k16 : 1 ≤ x16 ∧ x16 ≤ 79) (d0 : x4 + 1 ≤ x16 ∧ x16 ≤ x4 + 1) (d1 : x3 + (-4294967296) ≤ x16 ∧ x16 ≤ x3 + 0) (d3 : x14 + 0 ≤ x13 ∧ x13 ≤ x14 + 4294967296) (d4 : x3 + (-4294967296) ≤ x4 ∧ x4 ≤ x3 + (-1)) (f2 : 1 * x3 + ((-1) * pm_0 + 0) ≤ (-1)) (h11 : x14 = pieceOf_2 (x4)) (h12 : x13 = pieceOf_2 (x3)) (f15 : x10 ≠ x11) (h16 : x11 = pieceOf_2 (x4)) (h17 : x10 = pieceOf_2 (x3)) (f23 : x4 < x3) (f26 : PCN (pm_2) (pieceOf_2) (x2) (x5)) (fe_0_32_1 : pm_0 = pm_1) (fe_0_32_2 : pm_1 = pm_2) (hE_0_33_1 : ∀ j : Int, pt_0 j = pt_1 j) (hE_0_33_2 : ∀ j : Int, pt_1 j = pt_2 j) (hE_0_34_1 : ∀ j : Int, ph_0 j = ph_1 j) (hE_0_34_2 : ∀ j : Int, ph_1 j = ph_2 j) (hE_0_42_1 : ∀ j : Int, drawnNode_0 j = drawnNode_1 j) (hE_0_42_2 : ∀ j : Int, drawnNode_1 j = drawnNode_2 j) (hE_0_43_1 : ∀ j : Int, drawnEdge_0 j = drawnEdge_1 j) (hE_0_43_2 : ∀ j : Int, drawnEdge_1 j = drawnEdge_2 j) (hE_0_44_1 : ∀ j : Int, 0 ≤ j → (j = x4 → pieceOf_0 j = x14) ∧ (j ≠ x4 → pieceOf_0 j = pieceOf_1 j)) (hE_0_44_2 : ∀ j : Int, 0 ≤ j → (j = x3 → pieceOf_1 j = x14) ∧ (j ≠ x3 → pieceOf_1 j = pieceOf_2 j)) (kz_0_32 : 0 ≤ pm_0 ∧ pm_0 ≤ 80) : PCN (pm_0) (pieceOf_0) (x15) (x5) := by
  subst fe_0_32_1
  subst fe_0_32_2
  have e_hE_0_33_1 := funext hE_0_33_1; subst e_hE_0_33_1
  have e_hE_0_33_2 := funext hE_0_33_2; subst e_hE_0_33_2
  have e_hE_0_34_1 := funext hE_0_34_1; subst e_hE_0_34_1
  have e_hE_0_34_2 := funext hE_0_34_2; subst e_hE_0_34_2
  have e_hE_0_42_1 := funext hE_0_42_1; subst e_hE_0_42_1
  have e_hE_0_42_2 := funext hE_0_42_2; subst e_hE_0_42_2
  have e_hE_0_43_1 := funext hE_0_43_1; subst e_hE_0_43_1
  have e_hE_0_43_2 := funext hE_0_43_2; subst e_hE_0_43_2
  first
    | assumption
    | (have h := ‹PCN _ _ _ _›
       have hs := pc_sum (m := pm_0) (po := pieceOf_2) (po_zq := pieceOf_0) (e := x3) (f := x4) (p := pieceOf_0 x4) (dE := drawnEdge_0) (by omega) (by omega) (by omega) (by omega) (by omega) ?_ ?_ ?_ rfl
       · unfold PCN; unfold PCN at h; omega
       · have v := (hE_0_44_1 x4 (by omega)).1 rfl
         first
           | exact Or.inl ⟨by omega, by omega⟩
           | exact Or.inr ⟨by omega, by omega⟩
       · intro j a b c; rw [(hE_0_44_1 j a).2 c, (hE_0_44_2 j a).2 b]
       · have v := (hE_0_44_1 x4 (by omega)).1 rfl
         have v2 := (hE_0_44_1 x3 (by omega)).2 (by omega)
         have v3 := (hE_0_44_2 x3 (by omega)).1 rfl
         omega)
    | (have h := ‹PCN _ _ _ _›; unfold PCN; unfold PCN at h; omega)
def o_Mo_pieces_12 : or_T := (56, 17, [(0, (2, 0, 0, [165])), (1, (2, 0, 0, [165])), (2, (0, 0, 1, [])), (3, (0, 1, 79, [])), (4, (0, 0, 78, [])), (5, (0, -200, 6500, [])), (6, (2, 0, 0, [189])), (7, (0, 0, 0, [])), (8, (0, 0, 0, [])), (9, (2, 0, 0, [190])), (10, (0, -1, 79, [])), (11, (0, -1, 79, [])), (12, (0, 1, 1, [])), (13, (0, -1, 79, [])), (14, (0, -1, 79, [])), (15, (0, 1, 1, [])), (16, (0, 1, 79, []))], [(6, [16, 4], [1]), (20, [1, 3, 4, 12], [60, 0, 3, 98, 33, 34, 42]), (20, [3, 1], [30, -1, 1, 0, 0, -1, 1, 32]), (24, [0, 1], []), (100, [9, 4, 14], []), (9, [9, 1], [44]), (20, [1, 3, 4, 12], [60, 0, 3, 98, 33, 34, 42]), (20, [3, 1], [30, -1, 1, 0, 0, -1, 1, 32]), (100, [9, 3, 14], []), (7, [14, 13], [5]), (7, [14, 14], [5]), (10, [14, 9, 4], []), (10, [13, 9, 3], []), (8, [12], [1]), (20, [1, 3, 4, 12], [60, 0, 3, 98, 33, 34, 42]), (7, [10, 11], [1]), (10, [11, 9, 4], []), (10, [10, 9, 3], []), (8, [8], [0]), (10, [8, 6, 4], []), (9, [6, 1], [43]), (8, [7], [0]), (10, [7, 6, 3], []), (7, [4, 3], [2]), (20, [1], [60, 1, 5, 100, 32, 33, 34, 43, 42, 44]), (20, [1, 3, 4, 2], [60, 0, 5, 101, 33, 34, 43, 42, 44]), (20, [1, 2, 5], [60, 1, 1, 105, 32, 44]), (20, [3, 1], [30, -1, 1, 0, 0, -1, 1, 32])], [], [], [(20, [1], [60, 1, 5, 100, 32, 33, 34, 43, 42, 44]), (20, [1, 3, 16, 15], [60, 0, 5, 101, 33, 34, 43, 42, 44]), (20, [1, 15, 5], [60, 1, 1, 105, 32, 44])], [], [(16, 4, 1, 1), (16, 3, -4294967296, 0), (16, 3, -4294967296, 1), (13, 14, 0, 4294967296), (4, 3, -4294967296, -1), (4, 3, -4294967296, 0)])
theorem oo_Mo_pieces_12 {kA : Nat → ClassId} : or_ok PRD kA GG o_Mo_pieces_12 := by
  refine or_mk fun A ta ws vs hD hth hl => ?_
  intro t0 r0 t1 r1 t2 k2 t3 k3 t4 k4 t5 k5 t6 r6 t7 k7 t8 k8 t9 r9 t10 k10 t11 k11 t12 k12 t13 k13 t14 k14 t15 k15 t16 k16 d0 d1 d2 d3 d4 d5 f0 f1 f2 f3 ta1 w1 le1 s1 f5 f6 f7 ta2 w2 le2 s2 f9 f10 f11 f12 f13 f14 f15 f16 f17 f18 f19 f20 f21 f22 f23 f24 f25 f26 f27
  replace f2 := shm_947 f2
  replace f3 := shm_5 f3
  have s1 : (∀ b j, w_el ws b j = if b = v_ad (n_v vs 9) ∧ j = (v_iv (n_v vs 4)).toNat then v_iv (n_v vs 14) else w_el w1 b j) ∧ ∀ b k, w_fd ws b k = w_fd w1 b k := s1.2
  replace f5 := shm_527 f5
  have s2 : (∀ b j, w_el w1 b j = if b = v_ad (n_v vs 9) ∧ j = (v_iv (n_v vs 3)).toNat then v_iv (n_v vs 14) else w_el w2 b j) ∧ ∀ b k, w_fd w1 b k = w_fd w2 b k := s2.2
  replace f11 := shm_106 f11
  replace f12 := shm_106 f12
  replace f13 := shm_154 f13
  replace f14 := shm_716 f14
  replace f15 := shm_40 f15
  replace f16 := shm_106 f16
  replace f17 := shm_106 f17
  replace f19 := shm_106 f19
  replace f20 := shm_526 f20
  replace f22 := shm_106 f22
  replace f23 := shm_6 f23
  replace f24 := shm_1118 f24
  replace f26 := shm_1122 f26
  have q1 : n_v vs 1 = n_v vs 0 := f3.symm
  simp only [q1] at f2 f5 f14 f20 f24 f26
  have ar_0_33_1 : w_ar w1 (n_v vs 0) 33 = w_ar ws (n_v vs 0) 33 := congrArg v_ad (s1.2 _ _).symm
  have ar_0_33_2 : w_ar w2 (n_v vs 0) 33 = w_ar ws (n_v vs 0) 33 := by rw [← ar_0_33_1]; show v_ad (w_fd w2 _ _) = v_ad (w_fd w1 _ _); rw [s2.2]
  have cr_0_33 := fdq_116 hD hth r0
  have ar_0_34_1 : w_ar w1 (n_v vs 0) 34 = w_ar ws (n_v vs 0) 34 := congrArg v_ad (s1.2 _ _).symm
  have ar_0_34_2 : w_ar w2 (n_v vs 0) 34 = w_ar ws (n_v vs 0) 34 := by rw [← ar_0_34_1]; show v_ad (w_fd w2 _ _) = v_ad (w_fd w1 _ _); rw [s2.2]
  have cr_0_34 := fdq_117 hD hth r0
  have ar_0_42_1 : w_ar w1 (n_v vs 0) 42 = w_ar ws (n_v vs 0) 42 := congrArg v_ad (s1.2 _ _).symm
  have ar_0_42_2 : w_ar w2 (n_v vs 0) 42 = w_ar ws (n_v vs 0) 42 := by rw [← ar_0_42_1]; show v_ad (w_fd w2 _ _) = v_ad (w_fd w1 _ _); rw [s2.2]
  have cr_0_42 := fdq_135 hD hth r0
  have ar_0_43_1 : w_ar w1 (n_v vs 0) 43 = w_ar ws (n_v vs 0) 43 := congrArg v_ad (s1.2 _ _).symm
  have ar_0_43_2 : w_ar w2 (n_v vs 0) 43 = w_ar ws (n_v vs 0) 43 := by rw [← ar_0_43_1]; show v_ad (w_fd w2 _ _) = v_ad (w_fd w1 _ _); rw [s2.2]
  have cr_0_43 := fdq_136 hD hth r0
  have ar_0_44_1 : w_ar w1 (n_v vs 0) 44 = w_ar ws (n_v vs 0) 44 := congrArg v_ad (s1.2 _ _).symm
  have ar_0_44_2 : w_ar w2 (n_v vs 0) 44 = w_ar ws (n_v vs 0) 44 := by rw [← ar_0_44_1]; show v_ad (w_fd w2 _ _) = v_ad (w_fd w1 _ _); rw [s2.2]
  have ad_9 : v_ad (n_v vs 9) = w_ar ws (n_v vs 0) 44 := (congrArg v_ad f5).trans ar_0_44_1
  have ad_6 : v_ad (n_v vs 6) = w_ar ws (n_v vs 0) 43 := (congrArg v_ad f20).trans ar_0_43_2
  simp only [ar_0_33_1, ar_0_34_1, ar_0_42_1, ad_9] at f11
  have h11 : v_iv (n_v vs 14) = w_ei w2 (w_ar ws (n_v vs 0) 44) (v_iv (n_v vs 4)) := f11
  simp only [ad_9] at f12
  have h12 : v_iv (n_v vs 13) = w_ei w2 (w_ar ws (n_v vs 0) 44) (v_iv (n_v vs 3)) := f12
  simp only [ar_0_33_2, ar_0_34_2, ar_0_42_2, ad_9] at f14 f16
  have h16 : v_iv (n_v vs 11) = w_ei w2 (w_ar ws (n_v vs 0) 44) (v_iv (n_v vs 4)) := f16
  simp only [ad_9] at f17
  have h17 : v_iv (n_v vs 10) = w_ei w2 (w_ar ws (n_v vs 0) 44) (v_iv (n_v vs 3)) := f17
  simp only [ad_6] at f19
  have h19 : v_iv (n_v vs 8) = w_ei w2 (w_ar ws (n_v vs 0) 43) (v_iv (n_v vs 4)) := f19
  simp only [ad_6] at f22
  have h22 : v_iv (n_v vs 7) = w_ei w2 (w_ar ws (n_v vs 0) 43) (v_iv (n_v vs 3)) := f22
  simp only [ar_0_33_2, ar_0_34_2, ar_0_42_2, ar_0_43_2, ar_0_44_2] at f24 f26
  have fe_0_32_1 : w_fi ws (n_v vs 0) 32 = w_fi w1 (n_v vs 0) 32 := congrArg v_iv (s1.2 _ _)
  have fe_0_32_2 : w_fi w1 (n_v vs 0) 32 = w_fi w2 (n_v vs 0) 32 := congrArg v_iv (s2.2 _ _)
  have hE_0_33_1 : ∀ j : Int, w_ei ws (w_ar ws (n_v vs 0) 33) j = w_ei w1 (w_ar ws (n_v vs 0) 33) j := el_kp s1.1 r9 cr_0_33 (by decide)
  have hE_0_33_2 : ∀ j : Int, w_ei w1 (w_ar ws (n_v vs 0) 33) j = w_ei w2 (w_ar ws (n_v vs 0) 33) j := el_kp s2.1 r9 cr_0_33 (by decide)
  have hE_0_34_1 : ∀ j : Int, w_ei ws (w_ar ws (n_v vs 0) 34) j = w_ei w1 (w_ar ws (n_v vs 0) 34) j := el_kp s1.1 r9 cr_0_34 (by decide)
  have hE_0_34_2 : ∀ j : Int, w_ei w1 (w_ar ws (n_v vs 0) 34) j = w_ei w2 (w_ar ws (n_v vs 0) 34) j := el_kp s2.1 r9 cr_0_34 (by decide)
  have hE_0_42_1 : ∀ j : Int, w_ei ws (w_ar ws (n_v vs 0) 42) j = w_ei w1 (w_ar ws (n_v vs 0) 42) j := el_kp s1.1 r9 cr_0_42 (by decide)
  have hE_0_42_2 : ∀ j : Int, w_ei w1 (w_ar ws (n_v vs 0) 42) j = w_ei w2 (w_ar ws (n_v vs 0) 42) j := el_kp s2.1 r9 cr_0_42 (by decide)
  have hE_0_43_1 : ∀ j : Int, w_ei ws (w_ar ws (n_v vs 0) 43) j = w_ei w1 (w_ar ws (n_v vs 0) 43) j := el_kp s1.1 r9 cr_0_43 (by decide)
  have hE_0_43_2 : ∀ j : Int, w_ei w1 (w_ar ws (n_v vs 0) 43) j = w_ei w2 (w_ar ws (n_v vs 0) 43) j := el_kp s2.1 r9 cr_0_43 (by decide)
  have hE_0_44_1 : ∀ j : Int, 0 ≤ j → (j = v_iv (n_v vs 4) → w_ei ws (w_ar ws (n_v vs 0) 44) j = v_iv (n_v vs 14)) ∧ (j ≠ v_iv (n_v vs 4) → w_ei ws (w_ar ws (n_v vs 0) 44) j = w_ei w1 (w_ar ws (n_v vs 0) 44) j) := fun j hj => ⟨fun h => by unfold w_ei; rw [s1.1, if_pos ⟨ad_9.symm, by rw [h]⟩], fun h => by unfold w_ei; rw [s1.1, if_neg (fun e => h (by have := e.2; omega))]⟩
  have hE_0_44_2 : ∀ j : Int, 0 ≤ j → (j = v_iv (n_v vs 3) → w_ei w1 (w_ar ws (n_v vs 0) 44) j = v_iv (n_v vs 14)) ∧ (j ≠ v_iv (n_v vs 3) → w_ei w1 (w_ar ws (n_v vs 0) 44) j = w_ei w2 (w_ar ws (n_v vs 0) 44) j) := fun j hj => ⟨fun h => by unfold w_ei; rw [s2.1, if_pos ⟨ad_9.symm, by rw [h]⟩], fun h => by unfold w_ei; rw [s2.1, if_neg (fun e => h (by have := e.2; omega))]⟩
  have kz_0_32 := fdq_139 hD hth r0
  have nf0 : fc_1 PRD (20, [1], [60, 1, 5, 100, 32, 33, 34, 43, 42, 44]) ws (vs) := by
    refine ⟨nf_in hl rfl, sgq_1118 ?_⟩
    · show PCI (w_fi ws (n_v vs 1) 32) (w_ei ws (w_ar ws (n_v vs 1) 33)) (w_ei ws (w_ar ws (n_v vs 1) 34)) (w_ei ws (w_ar ws (n_v vs 1) 43)) (w_ei ws (w_ar ws (n_v vs 1) 42)) (w_ei ws (w_ar ws (n_v vs 1) 44))
      rw [q1]
      exact vc_Mo_pieces_12_0 (v_iv (n_v vs 3)) (v_iv (n_v vs 4)) (v_iv (n_v vs 7)) (v_iv (n_v vs 8)) (v_iv (n_v vs 10)) (v_iv (n_v vs 11)) (v_iv (n_v vs 12)) (v_iv (n_v vs 13)) (v_iv (n_v vs 14)) (v_iv (n_v vs 16)) (w_ei ws (w_ar ws (n_v vs 0) 33)) (w_ei ws (w_ar ws (n_v vs 0) 34)) (w_ei ws (w_ar ws (n_v vs 0) 42)) (w_fi ws (n_v vs 0) 32) (w_ei w1 (w_ar ws (n_v vs 0) 33)) (w_ei w1 (w_ar ws (n_v vs 0) 34)) (w_ei w1 (w_ar ws (n_v vs 0) 42)) (w_fi w1 (n_v vs 0) 32) (w_ei w2 (w_ar ws (n_v vs 0) 44)) (w_ei w2 (w_ar ws (n_v vs 0) 33)) (w_ei w2 (w_ar ws (n_v vs 0) 34)) (w_ei w2 (w_ar ws (n_v vs 0) 42)) (w_ei w2 (w_ar ws (n_v vs 0) 43)) (w_fi w2 (n_v vs 0) 32) (w_ei ws (w_ar ws (n_v vs 0) 43)) (w_ei w1 (w_ar ws (n_v vs 0) 43)) (w_ei ws (w_ar ws (n_v vs 0) 44)) (w_ei w1 (w_ar ws (n_v vs 0) 44)) k3 k4 k7 k8 k10 k11 k12 k13 k14 k16 d0 d1 d3 d4 f2 h11 h12 f13 f14 f15 h16 h17 h19 h22 f23 f24 fe_0_32_1 fe_0_32_2 hE_0_33_1 hE_0_33_2 hE_0_34_1 hE_0_34_2 hE_0_42_1 hE_0_42_2 hE_0_43_1 hE_0_43_2 hE_0_44_1 hE_0_44_2 kz_0_32
  have nf1 : fc_1 PRD (20, [1, 3, 16, 15], [60, 0, 5, 101, 33, 34, 43, 42, 44]) ws (vs) := by
    refine ⟨nf_in hl rfl, sgq_1123 ?_⟩
    · show PC2 (w_ei ws (w_ar ws (n_v vs 1) 33)) (w_ei ws (w_ar ws (n_v vs 1) 34)) (w_ei ws (w_ar ws (n_v vs 1) 43)) (w_ei ws (w_ar ws (n_v vs 1) 42)) (w_ei ws (w_ar ws (n_v vs 1) 44)) (v_iv (n_v vs 3)) (v_iv (n_v vs 16)) (v_iv (n_v vs 15))
      rw [q1]
      exact vc_Mo_pieces_12_1 (v_iv (n_v vs 3)) (v_iv (n_v vs 4)) (v_iv (n_v vs 8)) (v_iv (n_v vs 12)) (v_iv (n_v vs 13)) (v_iv (n_v vs 15)) (v_iv (n_v vs 16)) (w_ei ws (w_ar ws (n_v vs 0) 33)) (w_ei ws (w_ar ws (n_v vs 0) 34)) (w_ei ws (w_ar ws (n_v vs 0) 42)) (w_fi ws (n_v vs 0) 32) (w_ei w1 (w_ar ws (n_v vs 0) 33)) (w_ei w1 (w_ar ws (n_v vs 0) 34)) (w_ei w1 (w_ar ws (n_v vs 0) 42)) (w_fi w1 (n_v vs 0) 32) (w_ei w2 (w_ar ws (n_v vs 0) 33)) (w_ei w2 (w_ar ws (n_v vs 0) 34)) (w_ei w2 (w_ar ws (n_v vs 0) 42)) (w_ei w2 (w_ar ws (n_v vs 0) 43)) (w_fi w2 (n_v vs 0) 32) (w_ei ws (w_ar ws (n_v vs 0) 43)) (w_ei w1 (w_ar ws (n_v vs 0) 43)) (w_ei ws (w_ar ws (n_v vs 0) 44)) k3 k15 k16 fe_0_32_1 fe_0_32_2 hE_0_33_1 hE_0_33_2 hE_0_34_1 hE_0_34_2 hE_0_42_1 hE_0_42_2 hE_0_43_1 hE_0_43_2 kz_0_32
  have nf2 : fc_1 PRD (20, [1, 15, 5], [60, 1, 1, 105, 32, 44]) ws (vs) := by
    refine ⟨nf_in hl rfl, sgq_1122 ?_⟩
    · show PCN (w_fi ws (n_v vs 1) 32) (w_ei ws (w_ar ws (n_v vs 1) 44)) (v_iv (n_v vs 15)) (v_iv (n_v vs 5))
      rw [q1]
      exact vc_Mo_pieces_12_2 (v_iv (n_v vs 2)) (v_iv (n_v vs 3)) (v_iv (n_v vs 4)) (v_iv (n_v vs 5)) (v_iv (n_v vs 10)) (v_iv (n_v vs 11)) (v_iv (n_v vs 13)) (v_iv (n_v vs 14)) (v_iv (n_v vs 15)) (v_iv (n_v vs 16)) (w_ei ws (w_ar ws (n_v vs 0) 33)) (w_ei ws (w_ar ws (n_v vs 0) 34)) (w_ei ws (w_ar ws (n_v vs 0) 42)) (w_fi ws (n_v vs 0) 32) (w_ei w1 (w_ar ws (n_v vs 0) 33)) (w_ei w1 (w_ar ws (n_v vs 0) 34)) (w_ei w1 (w_ar ws (n_v vs 0) 42)) (w_fi w1 (n_v vs 0) 32) (w_ei w2 (w_ar ws (n_v vs 0) 44)) (w_ei w2 (w_ar ws (n_v vs 0) 33)) (w_ei w2 (w_ar ws (n_v vs 0) 34)) (w_ei w2 (w_ar ws (n_v vs 0) 42)) (w_ei w2 (w_ar ws (n_v vs 0) 43)) (w_fi w2 (n_v vs 0) 32) (w_ei ws (w_ar ws (n_v vs 0) 43)) (w_ei w1 (w_ar ws (n_v vs 0) 43)) (w_ei ws (w_ar ws (n_v vs 0) 44)) (w_ei w1 (w_ar ws (n_v vs 0) 44)) k2 k3 k4 k5 k10 k11 k13 k14 k15 k16 d0 d1 d3 d4 f2 h11 h12 f15 h16 h17 f23 f26 fe_0_32_1 fe_0_32_2 hE_0_33_1 hE_0_33_2 hE_0_34_1 hE_0_34_2 hE_0_42_1 hE_0_42_2 hE_0_43_1 hE_0_43_2 hE_0_44_1 hE_0_44_2 kz_0_32
  refine ⟨(fun _ h => (by cases h)), [], trivial, ?_, (fun _ h => (by cases h))⟩
  rw [List.append_nil]
  exact List.forall_mem_cons.mpr ⟨⟨show (20 : Nat) < 100 from by decide, nf0⟩, List.forall_mem_cons.mpr ⟨⟨show (20 : Nat) < 100 from by decide, nf1⟩, List.forall_mem_cons.mpr ⟨⟨show (20 : Nat) < 100 from by decide, nf2⟩, (fun _ h => (by cases h))⟩⟩⟩
set_option maxHeartbeats 4000000 in
theorem vc_Mo_pieces_13_0 (x3 : Int) (x4 : Int) (x7 : Int) (x8 : Int) (x12 : Int) (x13 : Int) (x14 : Int) (x16 : Int) (pt_0 : Int → Int) (ph_0 : Int → Int) (drawnNode_0 : Int → Int) (pm_0 : Int) (pt_1 : Int → Int) (ph_1 : Int → Int) (drawnNode_1 : Int → Int) (pm_1 : Int) (pieceOf_2 : Int → Int) (pt_2 : Int → Int) (ph_2 : Int → Int) (drawnNode_2 : Int → Int) (drawnEdge_2 : Int → Int) (pm_2 : Int) (drawnEdge_0 : Int → Int) (drawnEdge_1 : Int → Int) (pieceOf_0 : Int → Int) (pieceOf_1 : Int → Int) (k3 : 1 ≤ x3 ∧ x3 ≤ 79) (k4 : 0 ≤ x4 ∧ x4 ≤ 78) (k7 : 0 ≤ x7 ∧ x7 ≤ 0) (k8 : 0 ≤ x8 ∧ x8 ≤ 0) (k12 : 1 ≤ x12 ∧ x12 ≤ 1) (k13 : (-1) ≤ x13 ∧ x13 ≤ 78) (k14 : 0 ≤ x14 ∧ x14 ≤ 79) (k16 : 1 ≤ x16 ∧ x16 ≤ 79) (d0 : x4 + 1 ≤ x16 ∧ x16 ≤ x4 + 1) (d1 : x3 + (-4294967296) ≤ x16 ∧ x16 ≤ x3 + 0) (d3 : x14 + (-4294967296) ≤ x13 ∧ x13 ≤ x14 + (-1)) (d4 : x3 + (-4294967296) ≤ x4 ∧ x4 ≤ x3 + (-1)) (f2 : 1 * x3 + ((-1) * pm_0 + 0) ≤ (-1)) (h11 : x14 = pieceOf_2 (x4)) (h12 : x13 = pieceOf_2 (x3)) (f13 : x12 ≠ 0) (f14 : SHN (pt_2) (ph_2) (drawnNode_2) (x3) (x4) (x12)) (h19 : x8 = drawnEdge_2 (x4)) (h22 : x7 = drawnEdge_2 (x3)) (f23 : x4 < x3) (f24 : PCI (pm_2) (pt_2) (ph_2) (drawnEdge_2) (drawnNode_2) (pieceOf_2)) (fe_0_32_1 : pm_0 = pm_1) (fe_0_32_2 : pm_1 = pm_2) (hE_0_33_1 : ∀ j : Int, pt_0 j = pt_1 j) (hE_0_33_2 : ∀ j : Int, pt_1 j = pt_2 j) (hE_0_34_1 : ∀ j : Int, ph_0 j = ph_1 j) (hE_0_34_2 : ∀ j : Int, ph_1 j = ph_2 j) (hE_0_42_1 : ∀ j : Int, drawnNode_0 j = drawnNode_1 j) (hE_0_42_2 : ∀ j : Int, drawnNode_1 j = drawnNode_2 j) (hE_0_43_1 : ∀ j : Int, drawnEdge_0 j = drawnEdge_1 j) (hE_0_43_2 : ∀ j : Int, drawnEdge_1 j = drawnEdge_2 j) (hE_0_44_1 : ∀ j : Int, 0 ≤ j → (j = x4 → pieceOf_0 j = x13) ∧ (j ≠ x4 → pieceOf_0 j = pieceOf_1 j)) (hE_0_44_2 : ∀ j : Int, 0 ≤ j → (j = x3 → pieceOf_1 j = x13) ∧ (j ≠ x3 → pieceOf_1 j = pieceOf_2 j)) (kz_0_32 : 0 ≤ pm_0 ∧ pm_0 ≤ 80) : PCI (pm_0) (pt_0) (ph_0) (drawnEdge_0) (drawnNode_0) (pieceOf_0) := by
  subst fe_0_32_1
  subst fe_0_32_2
  have e_hE_0_33_1 := funext hE_0_33_1; subst e_hE_0_33_1
  have e_hE_0_33_2 := funext hE_0_33_2; subst e_hE_0_33_2
  have e_hE_0_34_1 := funext hE_0_34_1; subst e_hE_0_34_1
  have e_hE_0_34_2 := funext hE_0_34_2; subst e_hE_0_34_2
  have e_hE_0_42_1 := funext hE_0_42_1; subst e_hE_0_42_1
  have e_hE_0_42_2 := funext hE_0_42_2; subst e_hE_0_42_2
  have e_hE_0_43_1 := funext hE_0_43_1; subst e_hE_0_43_1
  have e_hE_0_43_2 := funext hE_0_43_2; subst e_hE_0_43_2
  first
    | assumption
    | (have v := (hE_0_44_1 x4 (by omega)).1 rfl
       have v2 := (hE_0_44_1 x3 (by omega)).2 (by omega)
       have v3 := (hE_0_44_2 x3 (by omega)).1 rfl
       exact pc_step (e := x3) (f := x4) (p := pieceOf_0 x4) ‹PCI _ _ _ _ _ _› (by omega) (by omega) (by omega) (by omega) (by omega) (by omega) (by omega) (‹SHN _ _ _ _ _ _›.mp (by omega)) (by first | exact Or.inl ⟨by omega, by omega⟩ | exact Or.inr ⟨by omega, by omega⟩) (fun j a b c => by rw [(hE_0_44_1 j a).2 c, (hE_0_44_2 j a).2 b]) (by omega) rfl)
set_option maxHeartbeats 4000000 in
theorem vc_Mo_pieces_13_1 (x3 : Int) (x4 : Int) (x8 : Int) (x12 : Int) (x13 : Int) (x15 : Int) (x16 : Int) (pt_0 : Int → Int) (ph_0 : Int → Int) (drawnNode_0 : Int → Int) (pm_0 : Int) (pt_1 : Int → Int) (ph_1 : Int → Int) (drawnNode_1 : Int → Int) (pm_1 : Int) (pt_2 : Int → Int) (ph_2 : Int → Int) (drawnNode_2 : Int → Int) (drawnEdge_2 : Int → Int) (pm_2 : Int) (drawnEdge_0 : Int → Int) (drawnEdge_1 : Int → Int) (pieceOf_0 : Int → Int) (k3 : 1 ≤ x3 ∧ x3 ≤ 79) (k15 : 1 ≤ x15 ∧ x15 ≤ 1) (k16 : 1 ≤ x16 ∧ x16 ≤ 79) (fe_0_32_1 : pm_0 = pm_1) (fe_0_32_2 : pm_1 = pm_2) (hE_0_33_1 : ∀ j : Int, pt_0 j = pt_1 j) (hE_0_33_2 : ∀ j : Int, pt_1 j = pt_2 j) (hE_0_34_1 : ∀ j : Int, ph_0 j = ph_1 j) (hE_0_34_2 : ∀ j : Int, ph_1 j = ph_2 j) (hE_0_42_1 : ∀ j : Int, drawnNode_0 j = drawnNode_1 j) (hE_0_42_2 : ∀ j : Int, drawnNode_1 j = drawnNode_2 j) (hE_0_43_1 : ∀ j : Int, drawnEdge_0 j = drawnEdge_1 j) (hE_0_43_2 : ∀ j : Int, drawnEdge_1 j = drawnEdge_2 j) (kz_0_32 : 0 ≤ pm_0 ∧ pm_0 ≤ 80) : PC2 (pt_0) (ph_0) (drawnEdge_0) (drawnNode_0) (pieceOf_0) (x3) (x16) (x15) := by
  subst fe_0_32_1
  subst fe_0_32_2
  have e_hE_0_33_1 := funext hE_0_33_1; subst e_hE_0_33_1
  have e_hE_0_33_2 := funext hE_0_33_2; subst e_hE_0_33_2
  have e_hE_0_34_1 := funext hE_0_34_1; subst e_hE_0_34_1
  have e_hE_0_34_2 := funext hE_0_34_2; subst e_hE_0_34_2
  have e_hE_0_42_1 := funext hE_0_42_1; subst e_hE_0_42_1
  have e_hE_0_42_2 := funext hE_0_42_2; subst e_hE_0_42_2
  have e_hE_0_43_1 := funext hE_0_43_1; subst e_hE_0_43_1
  have e_hE_0_43_2 := funext hE_0_43_2; subst e_hE_0_43_2
  first
    | (have h := ‹PC4 _ _ _ _ _ _ _›; rw [show x6 = 0 by omega]; exact h)
    | (intro h0; exfalso; omega)
    | (have h := ‹PC2 _ _ _ _ _ _ _ _›
       first | rw [show x8 = x4 + 1 by omega] | rw [show x9 = x4 + 1 by omega] | rw [show x12 = x4 + 1 by omega] | rw [show x13 = x4 + 1 by omega]
       refine pc2_next h (fun _ de df hs => ?_)
       first
         | (exfalso; omega)
         | omega
         | exact absurd (‹SHN _ _ _ _ _ _›.mpr hs) (by omega))
set_option maxHeartbeats 4000000 in
theorem vc_Mo_pieces_13_2 (x2 : Int) (x3 : Int) (x4 : Int) (x5 : Int) (x13 : Int) (x14 : Int) (x15 : Int) (x16 : Int) (pt_0 : Int → Int) (ph_0 : Int → Int) (drawnNode_0 : Int → Int) (pm_0 : Int) (pt_1 : Int → Int) (ph_1 : Int → Int) (drawnNode_1 : Int → Int) (pm_1 : Int) (pieceOf_2 : Int → Int) (pt_2 : Int → Int) (ph_2 : Int → Int) (drawnNode_2 : Int → Int) (drawnEdge_2 : Int → Int) (pm_2 : Int) (drawnEdge_0 : Int → Int) (drawnEdge_1 : Int → Int) (pieceOf_0 : Int → Int) (pieceOf_1 : Int → Int) (k2 : 0 ≤ x2 ∧ x2 ≤ 1) (k3 : 1 ≤ x3 ∧ x3 ≤ 79) (k4 : 0 ≤ x4 ∧ x4 ≤ 78) (k5 : (-200) ≤ x5 ∧ x5 ≤ 6500) (k13 : (-1) ≤ x13 ∧ x13 ≤ 78) (k14 : 0 ≤ x14 ∧ x14 ≤ 79) (k15 : 1 ≤ x15 ∧ x15 ≤ 1) (k16 : 1 ≤ x16 ∧ x16 ≤ 79) (d0 : x4 + 1 ≤ x16 ∧ x16 ≤ x4 + 1) (d1 : x3 + (-4294967296) ≤ x16 ∧ x16 ≤ x3 + 0) (d3 : x14 + (-4294967296) ≤ x13 ∧ x13 ≤ x14 + (-1)) (d4 : x3 + (-4294967296) ≤ x4 ∧ x4 ≤ x3 + (-1)) (f2 : 1 * x3 + ((-1) * pm_0 + 0) ≤ (-1)) (h11 : x14 = pieceOf_2 (x4)) (h12 : x13 = pieceOf_2 (x3)) (f23 : x4 < x3) (f26 : PCN (pm_2) (pieceOf_2) (x2) (x5)) (fe_0_32_1 : pm_0 = pm_1) (fe_0_32_2 : pm_1 = pm_2) (hE_0_33_1 : ∀ j : Int, pt_0 j = pt_1 j) (hE_0_33_2 : ∀ j : Int, pt_1 j = pt_2 j) (hE_0_34_1 : ∀ j : Int, ph_0 j = ph_1 j) (hE_0_34_2 : ∀ j : Int, ph_1 j = ph_2 j) (hE_0_42_1 : ∀ j : Int, drawnNode_0 j = drawnNode_1 j) (hE_0_42_2 : ∀ j : Int, drawnNode_1 j = drawnNode_2 j) (hE_0_43_1 : ∀ j : Int, drawnEdge_0 j = drawnEdge_1 j) (hE_0_43_2 : ∀ j : Int, drawnEdge_1 j = drawnEdge_2 j) (hE_0_44_1 : ∀ j : Int, 0 ≤ j → (j = x4 → pieceOf_0 j = x13) ∧ (j ≠ x4 → pieceOf_0 j = pieceOf_1 j)) (hE_0_44_2 : ∀ j : Int, 0 ≤ j → (j = x3 → pieceOf_1 j = x13) ∧ (j ≠ x3 → pieceOf_1 j = pieceOf_2 j)) (kz_0_32 : 0 ≤ pm_0 ∧ pm_0 ≤ 80) : PCN (pm_0) (pieceOf_0) (x15) (x5) := by
  subst fe_0_32_1
  subst fe_0_32_2
  have e_hE_0_33_1 := funext hE_0_33_1; subst e_hE_0_33_1
  have e_hE_0_33_2 := funext hE_0_33_2; subst e_hE_0_33_2
  have e_hE_0_34_1 := funext hE_0_34_1; subst e_hE_0_34_1
  have e_hE_0_34_2 := funext hE_0_34_2; subst e_hE_0_34_2
  have e_hE_0_42_1 := funext hE_0_42_1; subst e_hE_0_42_1
  have e_hE_0_42_2 := funext hE_0_42_2; subst e_hE_0_42_2
  have e_hE_0_43_1 := funext hE_0_43_1; subst e_hE_0_43_1
  have e_hE_0_43_2 := funext hE_0_43_2; subst e_hE_0_43_2
  first
    | assumption
    | (have h := ‹PCN _ _ _ _›
       have hs := pc_sum (m := pm_0) (po := pieceOf_2) (po_zq := pieceOf_0) (e := x3) (f := x4) (p := pieceOf_0 x4) (dE := drawnEdge_0) (by omega) (by omega) (by omega) (by omega) (by omega) ?_ ?_ ?_ rfl
       · unfold PCN; unfold PCN at h; omega
       · have v := (hE_0_44_1 x4 (by omega)).1 rfl
         first
           | exact Or.inl ⟨by omega, by omega⟩
           | exact Or.inr ⟨by omega, by omega⟩
       · intro j a b c; rw [(hE_0_44_1 j a).2 c, (hE_0_44_2 j a).2 b]
       · have v := (hE_0_44_1 x4 (by omega)).1 rfl
         have v2 := (hE_0_44_1 x3 (by omega)).2 (by omega)
         have v3 := (hE_0_44_2 x3 (by omega)).1 rfl
         omega)
    | (have h := ‹PCN _ _ _ _›; unfold PCN; unfold PCN at h; omega)
def o_Mo_pieces_13 : or_T := (56, 17, [(0, (2, 0, 0, [165])), (1, (2, 0, 0, [165])), (2, (0, 0, 1, [])), (3, (0, 1, 79, [])), (4, (0, 0, 78, [])), (5, (0, -200, 6500, [])), (6, (2, 0, 0, [189])), (7, (0, 0, 0, [])), (8, (0, 0, 0, [])), (9, (2, 0, 0, [190])), (10, (0, -1, 79, [])), (11, (0, -1, 79, [])), (12, (0, 1, 1, [])), (13, (0, -1, 78, [])), (14, (0, 0, 79, [])), (15, (0, 1, 1, [])), (16, (0, 1, 79, []))], [(6, [16, 4], [1]), (20, [1, 3, 4, 12], [60, 0, 3, 98, 33, 34, 42]), (20, [3, 1], [30, -1, 1, 0, 0, -1, 1, 32]), (24, [0, 1], []), (100, [9, 4, 13], []), (9, [9, 1], [44]), (20, [1, 3, 4, 12], [60, 0, 3, 98, 33, 34, 42]), (20, [3, 1], [30, -1, 1, 0, 0, -1, 1, 32]), (100, [9, 3, 13], []), (7, [13, 13], [5]), (7, [13, 14], [5]), (10, [14, 9, 4], []), (10, [13, 9, 3], []), (8, [12], [1]), (20, [1, 3, 4, 12], [60, 0, 3, 98, 33, 34, 42]), (7, [10, 11], [1]), (10, [11, 9, 4], []), (10, [10, 9, 3], []), (8, [8], [0]), (10, [8, 6, 4], []), (9, [6, 1], [43]), (8, [7], [0]), (10, [7, 6, 3], []), (7, [4, 3], [2]), (20, [1], [60, 1, 5, 100, 32, 33, 34, 43, 42, 44]), (20, [1, 3, 4, 2], [60, 0, 5, 101, 33, 34, 43, 42, 44]), (20, [1, 2, 5], [60, 1, 1, 105, 32, 44]), (20, [3, 1], [30, -1, 1, 0, 0, -1, 1, 32])], [], [], [(20, [1], [60, 1, 5, 100, 32, 33, 34, 43, 42, 44]), (20, [1, 3, 16, 15], [60, 0, 5, 101, 33, 34, 43, 42, 44]), (20, [1, 15, 5], [60, 1, 1, 105, 32, 44])], [], [(16, 4, 1, 1), (16, 3, -4294967296, 0), (16, 3, -4294967296, 1), (13, 14, -4294967296, -1), (4, 3, -4294967296, -1), (4, 3, -4294967296, 0)])
theorem oo_Mo_pieces_13 {kA : Nat → ClassId} : or_ok PRD kA GG o_Mo_pieces_13 := by
  refine or_mk fun A ta ws vs hD hth hl => ?_
  intro t0 r0 t1 r1 t2 k2 t3 k3 t4 k4 t5 k5 t6 r6 t7 k7 t8 k8 t9 r9 t10 k10 t11 k11 t12 k12 t13 k13 t14 k14 t15 k15 t16 k16 d0 d1 d2 d3 d4 d5 f0 f1 f2 f3 ta1 w1 le1 s1 f5 f6 f7 ta2 w2 le2 s2 f9 f10 f11 f12 f13 f14 f15 f16 f17 f18 f19 f20 f21 f22 f23 f24 f25 f26 f27
  replace f2 := shm_947 f2
  replace f3 := shm_5 f3
  have s1 : (∀ b j, w_el ws b j = if b = v_ad (n_v vs 9) ∧ j = (v_iv (n_v vs 4)).toNat then v_iv (n_v vs 13) else w_el w1 b j) ∧ ∀ b k, w_fd ws b k = w_fd w1 b k := s1.2
  replace f5 := shm_527 f5
  have s2 : (∀ b j, w_el w1 b j = if b = v_ad (n_v vs 9) ∧ j = (v_iv (n_v vs 3)).toNat then v_iv (n_v vs 13) else w_el w2 b j) ∧ ∀ b k, w_fd w1 b k = w_fd w2 b k := s2.2
  replace f11 := shm_106 f11
  replace f12 := shm_106 f12
  replace f13 := shm_154 f13
  replace f14 := shm_716 f14
  replace f19 := shm_106 f19
  replace f20 := shm_526 f20
  replace f22 := shm_106 f22
  replace f23 := shm_6 f23
  replace f24 := shm_1118 f24
  replace f26 := shm_1122 f26
  have q1 : n_v vs 1 = n_v vs 0 := f3.symm
  simp only [q1] at f2 f5 f14 f20 f24 f26
  have ar_0_33_1 : w_ar w1 (n_v vs 0) 33 = w_ar ws (n_v vs 0) 33 := congrArg v_ad (s1.2 _ _).symm
  have ar_0_33_2 : w_ar w2 (n_v vs 0) 33 = w_ar ws (n_v vs 0) 33 := by rw [← ar_0_33_1]; show v_ad (w_fd w2 _ _) = v_ad (w_fd w1 _ _); rw [s2.2]
  have cr_0_33 := fdq_116 hD hth r0
  have ar_0_34_1 : w_ar w1 (n_v vs 0) 34 = w_ar ws (n_v vs 0) 34 := congrArg v_ad (s1.2 _ _).symm
  have ar_0_34_2 : w_ar w2 (n_v vs 0) 34 = w_ar ws (n_v vs 0) 34 := by rw [← ar_0_34_1]; show v_ad (w_fd w2 _ _) = v_ad (w_fd w1 _ _); rw [s2.2]
  have cr_0_34 := fdq_117 hD hth r0
  have ar_0_42_1 : w_ar w1 (n_v vs 0) 42 = w_ar ws (n_v vs 0) 42 := congrArg v_ad (s1.2 _ _).symm
  have ar_0_42_2 : w_ar w2 (n_v vs 0) 42 = w_ar ws (n_v vs 0) 42 := by rw [← ar_0_42_1]; show v_ad (w_fd w2 _ _) = v_ad (w_fd w1 _ _); rw [s2.2]
  have cr_0_42 := fdq_135 hD hth r0
  have ar_0_43_1 : w_ar w1 (n_v vs 0) 43 = w_ar ws (n_v vs 0) 43 := congrArg v_ad (s1.2 _ _).symm
  have ar_0_43_2 : w_ar w2 (n_v vs 0) 43 = w_ar ws (n_v vs 0) 43 := by rw [← ar_0_43_1]; show v_ad (w_fd w2 _ _) = v_ad (w_fd w1 _ _); rw [s2.2]
  have cr_0_43 := fdq_136 hD hth r0
  have ar_0_44_1 : w_ar w1 (n_v vs 0) 44 = w_ar ws (n_v vs 0) 44 := congrArg v_ad (s1.2 _ _).symm
  have ar_0_44_2 : w_ar w2 (n_v vs 0) 44 = w_ar ws (n_v vs 0) 44 := by rw [← ar_0_44_1]; show v_ad (w_fd w2 _ _) = v_ad (w_fd w1 _ _); rw [s2.2]
  have ad_9 : v_ad (n_v vs 9) = w_ar ws (n_v vs 0) 44 := (congrArg v_ad f5).trans ar_0_44_1
  have ad_6 : v_ad (n_v vs 6) = w_ar ws (n_v vs 0) 43 := (congrArg v_ad f20).trans ar_0_43_2
  simp only [ar_0_33_1, ar_0_34_1, ar_0_42_1, ad_9] at f11
  have h11 : v_iv (n_v vs 14) = w_ei w2 (w_ar ws (n_v vs 0) 44) (v_iv (n_v vs 4)) := f11
  simp only [ad_9] at f12
  have h12 : v_iv (n_v vs 13) = w_ei w2 (w_ar ws (n_v vs 0) 44) (v_iv (n_v vs 3)) := f12
  simp only [ar_0_33_2, ar_0_34_2, ar_0_42_2, ad_9] at f14
  simp only [ad_6] at f19
  have h19 : v_iv (n_v vs 8) = w_ei w2 (w_ar ws (n_v vs 0) 43) (v_iv (n_v vs 4)) := f19
  simp only [ad_6] at f22
  have h22 : v_iv (n_v vs 7) = w_ei w2 (w_ar ws (n_v vs 0) 43) (v_iv (n_v vs 3)) := f22
  simp only [ar_0_33_2, ar_0_34_2, ar_0_42_2, ar_0_43_2, ar_0_44_2] at f24 f26
  have fe_0_32_1 : w_fi ws (n_v vs 0) 32 = w_fi w1 (n_v vs 0) 32 := congrArg v_iv (s1.2 _ _)
  have fe_0_32_2 : w_fi w1 (n_v vs 0) 32 = w_fi w2 (n_v vs 0) 32 := congrArg v_iv (s2.2 _ _)
  have hE_0_33_1 : ∀ j : Int, w_ei ws (w_ar ws (n_v vs 0) 33) j = w_ei w1 (w_ar ws (n_v vs 0) 33) j := el_kp s1.1 r9 cr_0_33 (by decide)
  have hE_0_33_2 : ∀ j : Int, w_ei w1 (w_ar ws (n_v vs 0) 33) j = w_ei w2 (w_ar ws (n_v vs 0) 33) j := el_kp s2.1 r9 cr_0_33 (by decide)
  have hE_0_34_1 : ∀ j : Int, w_ei ws (w_ar ws (n_v vs 0) 34) j = w_ei w1 (w_ar ws (n_v vs 0) 34) j := el_kp s1.1 r9 cr_0_34 (by decide)
  have hE_0_34_2 : ∀ j : Int, w_ei w1 (w_ar ws (n_v vs 0) 34) j = w_ei w2 (w_ar ws (n_v vs 0) 34) j := el_kp s2.1 r9 cr_0_34 (by decide)
  have hE_0_42_1 : ∀ j : Int, w_ei ws (w_ar ws (n_v vs 0) 42) j = w_ei w1 (w_ar ws (n_v vs 0) 42) j := el_kp s1.1 r9 cr_0_42 (by decide)
  have hE_0_42_2 : ∀ j : Int, w_ei w1 (w_ar ws (n_v vs 0) 42) j = w_ei w2 (w_ar ws (n_v vs 0) 42) j := el_kp s2.1 r9 cr_0_42 (by decide)
  have hE_0_43_1 : ∀ j : Int, w_ei ws (w_ar ws (n_v vs 0) 43) j = w_ei w1 (w_ar ws (n_v vs 0) 43) j := el_kp s1.1 r9 cr_0_43 (by decide)
  have hE_0_43_2 : ∀ j : Int, w_ei w1 (w_ar ws (n_v vs 0) 43) j = w_ei w2 (w_ar ws (n_v vs 0) 43) j := el_kp s2.1 r9 cr_0_43 (by decide)
  have hE_0_44_1 : ∀ j : Int, 0 ≤ j → (j = v_iv (n_v vs 4) → w_ei ws (w_ar ws (n_v vs 0) 44) j = v_iv (n_v vs 13)) ∧ (j ≠ v_iv (n_v vs 4) → w_ei ws (w_ar ws (n_v vs 0) 44) j = w_ei w1 (w_ar ws (n_v vs 0) 44) j) := fun j hj => ⟨fun h => by unfold w_ei; rw [s1.1, if_pos ⟨ad_9.symm, by rw [h]⟩], fun h => by unfold w_ei; rw [s1.1, if_neg (fun e => h (by have := e.2; omega))]⟩
  have hE_0_44_2 : ∀ j : Int, 0 ≤ j → (j = v_iv (n_v vs 3) → w_ei w1 (w_ar ws (n_v vs 0) 44) j = v_iv (n_v vs 13)) ∧ (j ≠ v_iv (n_v vs 3) → w_ei w1 (w_ar ws (n_v vs 0) 44) j = w_ei w2 (w_ar ws (n_v vs 0) 44) j) := fun j hj => ⟨fun h => by unfold w_ei; rw [s2.1, if_pos ⟨ad_9.symm, by rw [h]⟩], fun h => by unfold w_ei; rw [s2.1, if_neg (fun e => h (by have := e.2; omega))]⟩
  have kz_0_32 := fdq_139 hD hth r0
  have nf0 : fc_1 PRD (20, [1], [60, 1, 5, 100, 32, 33, 34, 43, 42, 44]) ws (vs) := by
    refine ⟨nf_in hl rfl, sgq_1118 ?_⟩
    · show PCI (w_fi ws (n_v vs 1) 32) (w_ei ws (w_ar ws (n_v vs 1) 33)) (w_ei ws (w_ar ws (n_v vs 1) 34)) (w_ei ws (w_ar ws (n_v vs 1) 43)) (w_ei ws (w_ar ws (n_v vs 1) 42)) (w_ei ws (w_ar ws (n_v vs 1) 44))
      rw [q1]
      exact vc_Mo_pieces_13_0 (v_iv (n_v vs 3)) (v_iv (n_v vs 4)) (v_iv (n_v vs 7)) (v_iv (n_v vs 8)) (v_iv (n_v vs 12)) (v_iv (n_v vs 13)) (v_iv (n_v vs 14)) (v_iv (n_v vs 16)) (w_ei ws (w_ar ws (n_v vs 0) 33)) (w_ei ws (w_ar ws (n_v vs 0) 34)) (w_ei ws (w_ar ws (n_v vs 0) 42)) (w_fi ws (n_v vs 0) 32) (w_ei w1 (w_ar ws (n_v vs 0) 33)) (w_ei w1 (w_ar ws (n_v vs 0) 34)) (w_ei w1 (w_ar ws (n_v vs 0) 42)) (w_fi w1 (n_v vs 0) 32) (w_ei w2 (w_ar ws (n_v vs 0) 44)) (w_ei w2 (w_ar ws (n_v vs 0) 33)) (w_ei w2 (w_ar ws (n_v vs 0) 34)) (w_ei w2 (w_ar ws (n_v vs 0) 42)) (w_ei w2 (w_ar ws (n_v vs 0) 43)) (w_fi w2 (n_v vs 0) 32) (w_ei ws (w_ar ws (n_v vs 0) 43)) (w_ei w1 (w_ar ws (n_v vs 0) 43)) (w_ei ws (w_ar ws (n_v vs 0) 44)) (w_ei w1 (w_ar ws (n_v vs 0) 44)) k3 k4 k7 k8 k12 k13 k14 k16 d0 d1 d3 d4 f2 h11 h12 f13 f14 h19 h22 f23 f24 fe_0_32_1 fe_0_32_2 hE_0_33_1 hE_0_33_2 hE_0_34_1 hE_0_34_2 hE_0_42_1 hE_0_42_2 hE_0_43_1 hE_0_43_2 hE_0_44_1 hE_0_44_2 kz_0_32
  have nf1 : fc_1 PRD (20, [1, 3, 16, 15], [60, 0, 5, 101, 33, 34, 43, 42, 44]) ws (vs) := by
    refine ⟨nf_in hl rfl, sgq_1123 ?_⟩
    · show PC2 (w_ei ws (w_ar ws (n_v vs 1) 33)) (w_ei ws (w_ar ws (n_v vs 1) 34)) (w_ei ws (w_ar ws (n_v vs 1) 43)) (w_ei ws (w_ar ws (n_v vs 1) 42)) (w_ei ws (w_ar ws (n_v vs 1) 44)) (v_iv (n_v vs 3)) (v_iv (n_v vs 16)) (v_iv (n_v vs 15))
      rw [q1]
      exact vc_Mo_pieces_13_1 (v_iv (n_v vs 3)) (v_iv (n_v vs 4)) (v_iv (n_v vs 8)) (v_iv (n_v vs 12)) (v_iv (n_v vs 13)) (v_iv (n_v vs 15)) (v_iv (n_v vs 16)) (w_ei ws (w_ar ws (n_v vs 0) 33)) (w_ei ws (w_ar ws (n_v vs 0) 34)) (w_ei ws (w_ar ws (n_v vs 0) 42)) (w_fi ws (n_v vs 0) 32) (w_ei w1 (w_ar ws (n_v vs 0) 33)) (w_ei w1 (w_ar ws (n_v vs 0) 34)) (w_ei w1 (w_ar ws (n_v vs 0) 42)) (w_fi w1 (n_v vs 0) 32) (w_ei w2 (w_ar ws (n_v vs 0) 33)) (w_ei w2 (w_ar ws (n_v vs 0) 34)) (w_ei w2 (w_ar ws (n_v vs 0) 42)) (w_ei w2 (w_ar ws (n_v vs 0) 43)) (w_fi w2 (n_v vs 0) 32) (w_ei ws (w_ar ws (n_v vs 0) 43)) (w_ei w1 (w_ar ws (n_v vs 0) 43)) (w_ei ws (w_ar ws (n_v vs 0) 44)) k3 k15 k16 fe_0_32_1 fe_0_32_2 hE_0_33_1 hE_0_33_2 hE_0_34_1 hE_0_34_2 hE_0_42_1 hE_0_42_2 hE_0_43_1 hE_0_43_2 kz_0_32
  have nf2 : fc_1 PRD (20, [1, 15, 5], [60, 1, 1, 105, 32, 44]) ws (vs) := by
    refine ⟨nf_in hl rfl, sgq_1122 ?_⟩
    · show PCN (w_fi ws (n_v vs 1) 32) (w_ei ws (w_ar ws (n_v vs 1) 44)) (v_iv (n_v vs 15)) (v_iv (n_v vs 5))
      rw [q1]
      exact vc_Mo_pieces_13_2 (v_iv (n_v vs 2)) (v_iv (n_v vs 3)) (v_iv (n_v vs 4)) (v_iv (n_v vs 5)) (v_iv (n_v vs 13)) (v_iv (n_v vs 14)) (v_iv (n_v vs 15)) (v_iv (n_v vs 16)) (w_ei ws (w_ar ws (n_v vs 0) 33)) (w_ei ws (w_ar ws (n_v vs 0) 34)) (w_ei ws (w_ar ws (n_v vs 0) 42)) (w_fi ws (n_v vs 0) 32) (w_ei w1 (w_ar ws (n_v vs 0) 33)) (w_ei w1 (w_ar ws (n_v vs 0) 34)) (w_ei w1 (w_ar ws (n_v vs 0) 42)) (w_fi w1 (n_v vs 0) 32) (w_ei w2 (w_ar ws (n_v vs 0) 44)) (w_ei w2 (w_ar ws (n_v vs 0) 33)) (w_ei w2 (w_ar ws (n_v vs 0) 34)) (w_ei w2 (w_ar ws (n_v vs 0) 42)) (w_ei w2 (w_ar ws (n_v vs 0) 43)) (w_fi w2 (n_v vs 0) 32) (w_ei ws (w_ar ws (n_v vs 0) 43)) (w_ei w1 (w_ar ws (n_v vs 0) 43)) (w_ei ws (w_ar ws (n_v vs 0) 44)) (w_ei w1 (w_ar ws (n_v vs 0) 44)) k2 k3 k4 k5 k13 k14 k15 k16 d0 d1 d3 d4 f2 h11 h12 f23 f26 fe_0_32_1 fe_0_32_2 hE_0_33_1 hE_0_33_2 hE_0_34_1 hE_0_34_2 hE_0_42_1 hE_0_42_2 hE_0_43_1 hE_0_43_2 hE_0_44_1 hE_0_44_2 kz_0_32
  refine ⟨(fun _ h => (by cases h)), [], trivial, ?_, (fun _ h => (by cases h))⟩
  rw [List.append_nil]
  exact List.forall_mem_cons.mpr ⟨⟨show (20 : Nat) < 100 from by decide, nf0⟩, List.forall_mem_cons.mpr ⟨⟨show (20 : Nat) < 100 from by decide, nf1⟩, List.forall_mem_cons.mpr ⟨⟨show (20 : Nat) < 100 from by decide, nf2⟩, (fun _ h => (by cases h))⟩⟩⟩
set_option maxHeartbeats 4000000 in
theorem vc_Mo_pieces_14_0 (x2 : Int) (x3 : Int) (x4 : Int) (x8 : Int) (x12 : Int) (x13 : Int) (pt_0 : Int → Int) (ph_0 : Int → Int) (drawnNode_0 : Int → Int) (pieceOf_0 : Int → Int) (drawnEdge_0 : Int → Int) (k2 : 0 ≤ x2 ∧ x2 ≤ 1) (k3 : 1 ≤ x3 ∧ x3 ≤ 79) (k4 : 0 ≤ x4 ∧ x4 ≤ 78) (k12 : 0 ≤ x12 ∧ x12 ≤ 0) (k13 : 1 ≤ x13 ∧ x13 ≤ 79) (f0 : x13 = x4 + 1) (f2 : SHN (pt_0) (ph_0) (drawnNode_0) (x3) (x4) (x12)) (f14 : PC2 (pt_0) (ph_0) (drawnEdge_0) (drawnNode_0) (pieceOf_0) (x3) (x4) (x2)) : PC2 (pt_0) (ph_0) (drawnEdge_0) (drawnNode_0) (pieceOf_0) (x3) (x13) (x2) := by
  first
    | (have h := ‹PC4 _ _ _ _ _ _ _›; rw [show x6 = 0 by omega]; exact h)
    | (intro h0; exfalso; omega)
    | (have h := ‹PC2 _ _ _ _ _ _ _ _›
       first | rw [show x8 = x4 + 1 by omega] | rw [show x9 = x4 + 1 by omega] | rw [show x12 = x4 + 1 by omega] | rw [show x13 = x4 + 1 by omega]
       refine pc2_next h (fun _ de df hs => ?_)
       first
         | (exfalso; omega)
         | omega
         | exact absurd (‹SHN _ _ _ _ _ _›.mpr hs) (by omega))
def o_Mo_pieces_14 : or_T := (56, 14, [(2, (0, 0, 1, [])), (3, (0, 1, 79, [])), (4, (0, 0, 78, [])), (12, (0, 0, 0, [])), (13, (0, 1, 79, []))], [(6, [13, 4], [1]), (20, [1, 3, 4, 12], [60, 0, 3, 98, 33, 34, 42]), (20, [1, 3, 4, 2], [60, 0, 5, 101, 33, 34, 43, 42, 44]), (24, [0, 1], [])], [], [], [(20, [1, 3, 13, 2], [60, 0, 5, 101, 33, 34, 43, 42, 44])], [], [])
theorem oo_Mo_pieces_14 {kA : Nat → ClassId} : or_ok PRD kA GG o_Mo_pieces_14 := by
  refine or_mk fun A ta ws vs hD hth hl => ?_
  intro t2 k2 t3 k3 t4 k4 t12 k12 t13 k13 f0 f2 f14 f17
  replace f0 := shm_4 f0
  replace f2 := shm_716 f2
  replace f14 := shm_1123 f14
  replace f17 := shm_5 f17
  have q1 : n_v vs 1 = n_v vs 0 := f17.symm
  simp only [q1] at f2 f14
  have nf0 : fc_1 PRD (20, [1, 3, 13, 2], [60, 0, 5, 101, 33, 34, 43, 42, 44]) ws (vs) := by
    refine ⟨nf_in hl rfl, sgq_1123 ?_⟩
    · show PC2 (w_ei ws (w_ar ws (n_v vs 1) 33)) (w_ei ws (w_ar ws (n_v vs 1) 34)) (w_ei ws (w_ar ws (n_v vs 1) 43)) (w_ei ws (w_ar ws (n_v vs 1) 42)) (w_ei ws (w_ar ws (n_v vs 1) 44)) (v_iv (n_v vs 3)) (v_iv (n_v vs 13)) (v_iv (n_v vs 2))
      rw [q1]
      exact vc_Mo_pieces_14_0 (v_iv (n_v vs 2)) (v_iv (n_v vs 3)) (v_iv (n_v vs 4)) (v_iv (n_v vs 8)) (v_iv (n_v vs 12)) (v_iv (n_v vs 13)) (w_ei ws (w_ar ws (n_v vs 0) 33)) (w_ei ws (w_ar ws (n_v vs 0) 34)) (w_ei ws (w_ar ws (n_v vs 0) 42)) (w_ei ws (w_ar ws (n_v vs 0) 44)) (w_ei ws (w_ar ws (n_v vs 0) 43)) k2 k3 k4 k12 k13 f0 f2 f14
  refine ⟨(fun _ h => (by cases h)), [], trivial, ?_, (fun _ h => (by cases h))⟩
  rw [List.append_nil]
  exact List.forall_mem_cons.mpr ⟨⟨show (20 : Nat) < 100 from by decide, nf0⟩, (fun _ h => (by cases h))⟩
def n_Mo_pieces_an : List an_T := [(2, [(0, (2, 0, 0, [165])), (1, (0, 0, 80, []))], [], (0, 0), [(0, 0, 99998), (1, 2, 80), (0, 0, 100000), (0, 0, 0), (0, 0, 0), (0, 0, 0), (0, 0, 0)], [], [], [(2, 0, 0, [165])], 0, [], [(20, [1, 2], [60, 0, 2, 99, 43, 44]), (24, [0, 1], [])]), (38, [(0, (2, 0, 0, [165])), (1, (0, 0, 1, []))], [], (0, 0), [(0, 0, 99962), (2, 3, (Int.negSucc 199)), (0, 0, 100000), (0, 0, 0), (0, 0, 0), (0, 0, 0), (0, 0, 0)], [], [], [(2, 0, 0, [165])], 0, [(0, (Int.negSucc 199), 6500, [])], [(20, [1], [60, 1, 5, 100, 32, 33, 34, 43, 42, 44]), (20, [1, 2], [60, 1, 5, 102, 32, 33, 34, 43, 42, 44]), (20, [1, 2, 3], [60, 1, 1, 104, 32, 44]), (24, [0, 1], [])]), (46, [(0, (2, 0, 0, [165])), (1, (0, 0, 1, [])), (2, (0, 0, 80, []))], [], (0, 0), [(0, 0, 99962), (2, 4, (Int.negSucc 199)), (0, 0, 99954), (1, 3, 80), (0, 0, 100000), (0, 0, 0), (0, 0, 0)], [(2, 3, (Int.negSucc 999999999999), 0)], [], [(2, 0, 0, [165])], 0, [(0, (Int.negSucc 199), 6500, [])], [(20, [1], [60, 1, 5, 100, 32, 33, 34, 43, 42, 44]), (20, [1, 3, 2], [60, 0, 5, 103, 33, 34, 43, 42, 44]), (20, [1, 2, 4], [60, 1, 1, 105, 32, 44]), (24, [0, 1], [])]), (56, [(0, (2, 0, 0, [165])), (1, (0, 0, 1, [])), (2, (0, 0, 79, [])), (3, (0, 0, 79, []))], [], (0, 0), [(0, 0, 99962), (2, 5, (Int.negSucc 199)), (0, 0, 99954), (1, 3, 80), (0, 0, 99944), (1, 4, 79), (0, 0, 100000)], [(2, 3, (Int.negSucc 999999999999), 0), (4, 3, (Int.negSucc 999999999999), 0)], [], [(2, 0, 0, [165])], 0, [(0, (Int.negSucc 199), 6500, [])], [(20, [1], [60, 1, 5, 100, 32, 33, 34, 43, 42, 44]), (20, [1, 3, 4, 2], [60, 0, 5, 101, 33, 34, 43, 42, 44]), (20, [1, 2, 5], [60, 1, 1, 105, 32, 44]), (20, [3, 1], [30, (Int.negSucc 0), 1, 0, 0, (Int.negSucc 0), 1, 32]), (24, [0, 1], [])])]
def t_Mo_pieces_ct : ct_L := [(0, 547, e_Mo_min), (1, 659, e_Mo_shareNew)]
set_option maxRecDepth 100000 in
theorem c_Mo_pieces {l : Launch} {D : va_G} {kA : Nat → ClassId} (h_Mo_min : ct_ok PRD l D kA GG y_Mo_min z_Mo_min e_Mo_min) (h_Mo_shareNew : ct_ok PRD l D kA GG y_Mo_shareNew z_Mo_shareNew e_Mo_shareNew) : ct_ok PRD l D kA GG y_Mo_pieces z_Mo_pieces e_Mo_pieces := chk_all_ok (FT := [(84, 13, 43), (87, 13, 44), (597, 13, 32)]) (PT := []) (CT := t_Mo_pieces_ct) (KT := []) (NT := []) (AN := n_Mo_pieces_an) (OT := [o_Mo_pieces_0, o_Mo_pieces_1, o_Mo_pieces_2, o_Mo_pieces_3, o_Mo_pieces_4, o_Mo_pieces_5, o_Mo_pieces_6, o_Mo_pieces_7, o_Mo_pieces_8, o_Mo_pieces_9, o_Mo_pieces_10, o_Mo_pieces_11, o_Mo_pieces_12, o_Mo_pieces_13, o_Mo_pieces_14]) 7 464 (List.forall_mem_cons.mpr ⟨oo_Mo_pieces_0, List.forall_mem_cons.mpr ⟨oo_Mo_pieces_1, List.forall_mem_cons.mpr ⟨oo_Mo_pieces_2, List.forall_mem_cons.mpr ⟨oo_Mo_pieces_3, List.forall_mem_cons.mpr ⟨oo_Mo_pieces_4, List.forall_mem_cons.mpr ⟨oo_Mo_pieces_5, List.forall_mem_cons.mpr ⟨oo_Mo_pieces_6, List.forall_mem_cons.mpr ⟨oo_Mo_pieces_7, List.forall_mem_cons.mpr ⟨oo_Mo_pieces_8, List.forall_mem_cons.mpr ⟨oo_Mo_pieces_9, List.forall_mem_cons.mpr ⟨oo_Mo_pieces_10, List.forall_mem_cons.mpr ⟨oo_Mo_pieces_11, List.forall_mem_cons.mpr ⟨oo_Mo_pieces_12, List.forall_mem_cons.mpr ⟨oo_Mo_pieces_13, List.forall_mem_cons.mpr ⟨oo_Mo_pieces_14, List.forall_mem_nil _⟩⟩⟩⟩⟩⟩⟩⟩⟩⟩⟩⟩⟩⟩⟩) (by decide +kernel) ⟨List.forall_mem_cons.mpr ⟨gf_Mo_84, List.forall_mem_cons.mpr ⟨gf_Mo_87, List.forall_mem_cons.mpr ⟨gf_Mo_597, List.forall_mem_nil _⟩⟩⟩, List.forall_mem_nil _, List.forall_mem_cons.mpr ⟨cl_static (y := y_Mo_min) h_Mo_min wm_3174 wm_9 wm_3172 wm_3173 ⟨by decide, by decide, by decide +kernel⟩ (by decide), List.forall_mem_cons.mpr ⟨cl_virtual (y := y_Mo_shareNew) (ci := 13) rfl rfl ⟨_, _, rfl⟩ (by decide +kernel) h_Mo_shareNew wm_3211 wm_9 wm_3208 wm_3210 wv_15_11 ⟨by decide, by decide, by decide +kernel⟩ (by decide), List.forall_mem_nil _⟩⟩, List.forall_mem_nil _, List.forall_mem_nil _, GG_pl⟩ (by decide +kernel)
set_option maxHeartbeats 4000000 in
theorem vc_Mo_styleNeed_0_0 (x2 : Int) (x3 : Int) (x4 : Int) (fault_0 : Int) (tokenKind_0 : Int → Int) (cur_0 : Int) (tokens_0 : Int) (gx : Int) (k2 : 0 ≤ x2 ∧ x2 ≤ 2009) (k3 : 0 ≤ x3 ∧ x3 ≤ 5) (k4 : 0 ≤ x4 ∧ x4 ≤ 0) (f0 : x4 ≤ 0) (g1 : x4 = fault_0) (f2 : ((cur_0 + 1) ≤ tokens_0) ∧ ((tokens_0 ≤ 2010) ∧ ((tokenKind_0 ((tokens_0 - 1)) = 0) ∨ (tokenKind_0 ((tokens_0 - 1)) = 4)))) (f3 : 1 * cur_0 + ((-1) * x2 + 0) ≤ 0) (f4 : (-1) * cur_0 + (1 * x2 + 0) ≤ 0) (f5 : fault_0 = x3) (hK_0_160 : ∀ j : Int, 0 ≤ j → j < 2010 → 0 ≤ tokenKind_0 j ∧ tokenKind_0 j ≤ 4) (kz_0_8 : 0 ≤ fault_0 ∧ fault_0 ≤ 5) (kz_0_157 : 0 ≤ tokens_0 ∧ tokens_0 ≤ 2010) (kz_0_158 : 0 ≤ cur_0 ∧ cur_0 ≤ 2009) (ex2 : gx = fault_0) (ex3 : 0 ≤ gx ∧ gx ≤ 5) : fault_0 = gx := by
  first | assumption | (clear f2 hK_0_160; omega) | (clear hK_0_160; grind) | omega | grind
set_option maxHeartbeats 4000000 in
theorem vc_Mo_styleNeed_0_1 (x2 : Int) (x3 : Int) (x4 : Int) (fault_0 : Int) (tokenKind_0 : Int → Int) (cur_0 : Int) (tokens_0 : Int) (gx : Int) (k2 : 0 ≤ x2 ∧ x2 ≤ 2009) (k3 : 0 ≤ x3 ∧ x3 ≤ 5) (k4 : 0 ≤ x4 ∧ x4 ≤ 0) (f0 : x4 ≤ 0) (g1 : x4 = fault_0) (f2 : ((cur_0 + 1) ≤ tokens_0) ∧ ((tokens_0 ≤ 2010) ∧ ((tokenKind_0 ((tokens_0 - 1)) = 0) ∨ (tokenKind_0 ((tokens_0 - 1)) = 4)))) (f3 : 1 * cur_0 + ((-1) * x2 + 0) ≤ 0) (f4 : (-1) * cur_0 + (1 * x2 + 0) ≤ 0) (f5 : fault_0 = x3) (hK_0_160 : ∀ j : Int, 0 ≤ j → j < 2010 → 0 ≤ tokenKind_0 j ∧ tokenKind_0 j ≤ 4) (kz_0_8 : 0 ≤ fault_0 ∧ fault_0 ≤ 5) (kz_0_157 : 0 ≤ tokens_0 ∧ tokens_0 ≤ 2010) (kz_0_158 : 0 ≤ cur_0 ∧ cur_0 ≤ 2009) (ex2 : gx = fault_0) (ex3 : 0 ≤ gx ∧ gx ≤ 5) : gx = 0 := by
  first | assumption | (clear f2 hK_0_160; omega) | (clear hK_0_160; grind) | omega | grind
def o_Mo_styleNeed_0 : or_T := (10, 5, [(0, (2, 0, 0, [165])), (2, (0, 0, 2009, [])), (3, (0, 0, 5, [])), (4, (0, 0, 0, []))], [(8, [4], [5]), (9, [4, 0], [8]), (20, [0], [50, 2, 1, 158, 157, 160, 2, 12, 0, 7, 4, 3, 2, 0, 158, 0, 1, 2, 0, 157, 2, 7, 0, 3, 2, 0, 157, 0, 2010, 3, 14, 1, 10, 3, 0, 160, 5, 3, 2, 0, 157, 0, 1, 0, 0, 1, 10, 3, 0, 160, 5, 3, 2, 0, 157, 0, 1, 0, 4]), (20, [0, 2], [30, 0, 1, 1, 158, -1, 0, 0]), (20, [0, 2], [30, 0, -1, 1, 158, 1, 0, 0]), (20, [0, 3], [50, 1, 0, 8, 1, 3, 2, 0, 8, 1, 1])], [], [(0, 0, 5, [])], [(20, [0, 5], [50, 1, 0, 8, 1, 3, 2, 0, 8, 1, 1]), (20, [5], [50, 0, 0, 1, 2, 1, 0, 0, 0])], [], [])
theorem oo_Mo_styleNeed_0 {kA : Nat → ClassId} : or_ok PRD kA GG o_Mo_styleNeed_0 := by
  refine or_mk fun A ta ws vs hD hth hl => ?_
  intro t0 r0 t2 k2 t3 k3 t4 k4 f0 f1 f2 f3 f4 f5
  replace f0 := shm_142 f0
  replace f1 := shm_143 f1
  replace f2 := shm_296 f2
  replace f3 := shm_297 f3
  replace f4 := shm_298 f4
  replace f5 := shm_302 f5
  have cr_0_160 := fdq_41 hD hth r0
  have g1 : v_iv (n_v vs 4) = w_fi ws (n_v vs 0) 8 := congrArg v_iv f1
  have hK_0_160 := elq_5 hD hth cr_0_160
  have kz_0_8 := fdq_14 hD hth r0
  have kz_0_157 := fdq_42 hD hth r0
  have kz_0_158 := fdq_43 hD hth r0
  obtain ⟨x, ex, hx⟩ := iv_ex (ta := ta) (lo := 0) (hi := 5) (z := w_fi ws (n_v vs 0) 8) (by omega) (by omega) (by omega) (by omega)
  have ex2 : v_iv (Value.int x) = w_fi ws (n_v vs 0) 8 := ex
  have ex3 : 0 ≤ v_iv (Value.int x) ∧ v_iv (Value.int x) ≤ 5 := tv_rng hx
  have e_0 : n_v (vs ++ [Value.int x]) 0 = n_v vs 0 := n_v_old (by rw [hl]; decide)
  have e_5 : n_v (vs ++ [Value.int x]) 5 = Value.int x := n_v_new hl
  have nf0 : fc_1 PRD (20, [0, 5], [50, 1, 0, 8, 1, 3, 2, 0, 8, 1, 1]) ws (vs ++ [Value.int x]) := by
    refine ⟨nf_inA hl rfl, sgq_302 ?_⟩
    · show w_fi ws (n_v (vs ++ [Value.int x]) 0) 8 = v_iv (n_v (vs ++ [Value.int x]) 5)
      simp only [e_0, e_5]
      exact vc_Mo_styleNeed_0_0 (v_iv (n_v vs 2)) (v_iv (n_v vs 3)) (v_iv (n_v vs 4)) (w_fi ws (n_v vs 0) 8) (w_ei ws (w_ar ws (n_v vs 0) 160)) (w_fi ws (n_v vs 0) 158) (w_fi ws (n_v vs 0) 157) (v_iv (Value.int x)) k2 k3 k4 f0 g1 f2 f3 f4 f5 hK_0_160 kz_0_8 kz_0_157 kz_0_158 ex2 ex3
  have nf1 : fc_1 PRD (20, [5], [50, 0, 0, 1, 2, 1, 0, 0, 0]) ws (vs ++ [Value.int x]) := by
    refine ⟨nf_inA hl rfl, sgq_636 ?_⟩
    · show v_iv (n_v (vs ++ [Value.int x]) 5) = 0
      rw [e_5]
      exact vc_Mo_styleNeed_0_1 (v_iv (n_v vs 2)) (v_iv (n_v vs 3)) (v_iv (n_v vs 4)) (w_fi ws (n_v vs 0) 8) (w_ei ws (w_ar ws (n_v vs 0) 160)) (w_fi ws (n_v vs 0) 158) (w_fi ws (n_v vs 0) 157) (v_iv (Value.int x)) k2 k3 k4 f0 g1 f2 f3 f4 f5 hK_0_160 kz_0_8 kz_0_157 kz_0_158 ex2 ex3
  exact ⟨(fun _ h => (by cases h)), [Value.int x], ag_one hx, List.forall_mem_cons.mpr ⟨⟨show (20 : Nat) < 100 from by decide, nf0⟩, List.forall_mem_cons.mpr ⟨⟨show (20 : Nat) < 100 from by decide, nf1⟩, (fun _ h => (by cases h))⟩⟩, (fun _ h => (by cases h))⟩
set_option maxHeartbeats 4000000 in
theorem vc_Mo_styleNeed_1_0 (x1 : Int) (x2 : Int) (x3 : Int) (x5 : Int) (x6 : Int) (x9 : Int) (cur_0 : Int) (tokenKind_0 : Int → Int) (tokenValue_0 : Int → Int) (tokens_0 : Int) (fault_0 : Int) (k1 : 41 ≤ x1 ∧ x1 ≤ 125) (k2 : 0 ≤ x2 ∧ x2 ≤ 2009) (k3 : 0 ≤ x3 ∧ x3 ≤ 5) (k5 : 0 ≤ x5 ∧ x5 ≤ 5) (k6 : 0 ≤ x6 ∧ x6 ≤ 0) (k9 : 0 ≤ x9 ∧ x9 ≤ 2009) (g0 : x9 = cur_0) (f1 : (x6 = 1) → (tokenKind_0 (cur_0) = 3)) (f2 : SGN (cur_0) (tokenKind_0) (tokenValue_0) (x1) (x6) (x5)) (f3 : x5 = 0) (f4 : ((cur_0 + 1) ≤ tokens_0) ∧ ((tokens_0 ≤ 2010) ∧ ((tokenKind_0 ((tokens_0 - 1)) = 0) ∨ (tokenKind_0 ((tokens_0 - 1)) = 4)))) (f5 : 1 * cur_0 + ((-1) * x2 + 0) ≤ 0) (f6 : (-1) * cur_0 + (1 * x2 + 0) ≤ 0) (f7 : (-1) * fault_0 + 0 ≤ (-1)) (f9 : x6 = 0) (hK_0_160 : ∀ j : Int, 0 ≤ j → j < 2010 → 0 ≤ tokenKind_0 j ∧ tokenKind_0 j ≤ 4) (kz_0_8 : 0 ≤ fault_0 ∧ fault_0 ≤ 5) (kz_0_157 : 0 ≤ tokens_0 ∧ tokens_0 ≤ 2010) (kz_0_158 : 0 ≤ cur_0 ∧ cur_0 ≤ 2009) : 1 * x2 + ((-1) * cur_0 + 0) ≤ 0 := by
  first | assumption | (clear f1 f4 hK_0_160; omega) | (clear hK_0_160; grind) | omega | grind
set_option maxHeartbeats 4000000 in
theorem vc_Mo_styleNeed_1_1 (x1 : Int) (x2 : Int) (x3 : Int) (x5 : Int) (x6 : Int) (cur_0 : Int) (tokenKind_0 : Int → Int) (tokenValue_0 : Int → Int) (fault_0 : Int) (k1 : 41 ≤ x1 ∧ x1 ≤ 125) (k2 : 0 ≤ x2 ∧ x2 ≤ 2009) (k3 : 0 ≤ x3 ∧ x3 ≤ 5) (k5 : 0 ≤ x5 ∧ x5 ≤ 5) (k6 : 0 ≤ x6 ∧ x6 ≤ 0) (f2 : SGN (cur_0) (tokenKind_0) (tokenValue_0) (x1) (x6) (x5)) (f3 : x5 = 0) (f5 : 1 * cur_0 + ((-1) * x2 + 0) ≤ 0) (f6 : (-1) * cur_0 + (1 * x2 + 0) ≤ 0) (f7 : (-1) * fault_0 + 0 ≤ (-1)) (kz_0_8 : 0 ≤ fault_0 ∧ fault_0 ≤ 5) (kz_0_158 : 0 ≤ cur_0 ∧ cur_0 ≤ 2009) : SND (fault_0) (cur_0) (tokenKind_0) (tokenValue_0) (x1) (x2) (x3) := by
  first
    | exact snd_fault (by omega) (by omega)
    | (have h := (‹SGN _ _ _ _ _ _›)
       have e : x2 = cur_0 := by omega
       rw [e]
       exact snd_no (fun z => by have := h.mpr ⟨by omega, z⟩; omega) (by omega))
    | (have h := (‹SGN _ _ _ _ _ _›)
       have e : x2 = cur_1 := by omega
       rw [e]
       exact snd_yes (h.mp (by omega)).2 (by omega) (by omega) (by omega))
  
def o_Mo_styleNeed_1 : or_T := (43, 11, [(0, (2, 0, 0, [165])), (1, (0, 41, 125, [])), (2, (0, 0, 2009, [])), (3, (0, 0, 5, [])), (5, (0, 0, 5, [])), (6, (0, 0, 0, [])), (9, (0, 0, 2009, []))], [(9, [9, 0], [158]), (20, [6, 0], [50, 1, 1, 1158, 1160, 4, 6, 1, 2, 1, 0, 0, 1, 1, 6, 3, 1, 160, 2, 1, 158, 0, 3]), (20, [0, 1, 6, 5], [60, 1, 2, 14, 158, 160, 161]), (20, [5], [50, 0, 0, 1, 2, 1, 0, 0, 0]), (20, [0], [50, 2, 1, 158, 157, 160, 2, 12, 0, 7, 4, 3, 2, 0, 158, 0, 1, 2, 0, 157, 2, 7, 0, 3, 2, 0, 157, 0, 2010, 3, 14, 1, 10, 3, 0, 160, 5, 3, 2, 0, 157, 0, 1, 0, 0, 1, 10, 3, 0, 160, 5, 3, 2, 0, 157, 0, 1, 0, 4]), (20, [0, 2], [30, 0, 1, 1, 158, -1, 0, 0]), (20, [0, 2], [30, 0, -1, 1, 158, 1, 0, 0]), (20, [0], [30, -1, -1, 1, 8]), (102, [10], [0, 165008, 165009]), (8, [6], [0])], [], [], [(20, [2, 0], [30, 0, 1, 0, 0, -1, 1, 158]), (20, [0, 1, 2, 3], [60, 2, 2, 15, 8, 158, 160, 161])], [], [])
theorem oo_Mo_styleNeed_1 {kA : Nat → ClassId} : or_ok PRD kA GG o_Mo_styleNeed_1 := by
  refine or_mk fun A ta ws vs hD hth hl => ?_
  intro t0 r0 t1 k1 t2 k2 t3 k3 t5 k5 t6 k6 t9 k9 f0 f1 f2 f3 f4 f5 f6 f7 ta1 w1 le1 s1 f9
  replace f0 := shm_311 f0
  have cr_0_160 := fdq_41 hD hth r0
  have g0 : v_iv (n_v vs 9) = w_fi ws (n_v vs 0) 158 := congrArg v_iv f0
  have hK_0_160 := elq_5 hD hth cr_0_160
  have kz_0_8 := fdq_14 hD hth r0
  have kz_0_157 := fdq_42 hD hth r0
  have kz_0_158 := fdq_43 hD hth r0
  have nf0 : fc_1 PRD (20, [2, 0], [30, 0, 1, 0, 0, -1, 1, 158]) ws (vs) := ⟨nf_in hl rfl, sgq_306 (vc_Mo_styleNeed_1_0 (v_iv (n_v vs 1)) (v_iv (n_v vs 2)) (v_iv (n_v vs 3)) (v_iv (n_v vs 5)) (v_iv (n_v vs 6)) (v_iv (n_v vs 9)) (w_fi ws (n_v vs 0) 158) (w_ei ws (w_ar ws (n_v vs 0) 160)) (w_ei ws (w_ar ws (n_v vs 0) 161)) (w_fi ws (n_v vs 0) 157) (w_fi ws (n_v vs 0) 8) k1 k2 k3 k5 k6 k9 g0 (shm_319 f1) (shm_320 f2) (shm_636 f3) (shm_296 f4) (shm_297 f5) (shm_298 f6) (shm_144 f7) (shm_210 f9) hK_0_160 kz_0_8 kz_0_157 kz_0_158)⟩
  have nf1 : fc_1 PRD (20, [0, 1, 2, 3], [60, 2, 2, 15, 8, 158, 160, 161]) ws (vs) := ⟨nf_in hl rfl, sgq_336 (vc_Mo_styleNeed_1_1 (v_iv (n_v vs 1)) (v_iv (n_v vs 2)) (v_iv (n_v vs 3)) (v_iv (n_v vs 5)) (v_iv (n_v vs 6)) (w_fi ws (n_v vs 0) 158) (w_ei ws (w_ar ws (n_v vs 0) 160)) (w_ei ws (w_ar ws (n_v vs 0) 161)) (w_fi ws (n_v vs 0) 8) k1 k2 k3 k5 k6 (shm_320 f2) (shm_636 f3) (shm_297 f5) (shm_298 f6) (shm_144 f7) kz_0_8 kz_0_158)⟩
  refine ⟨(fun _ h => (by cases h)), [], trivial, ?_, (fun _ h => (by cases h))⟩
  rw [List.append_nil]
  exact List.forall_mem_cons.mpr ⟨⟨show (20 : Nat) < 100 from by decide, nf0⟩, List.forall_mem_cons.mpr ⟨⟨show (20 : Nat) < 100 from by decide, nf1⟩, (fun _ h => (by cases h))⟩⟩
set_option maxHeartbeats 4000000 in
theorem vc_Mo_styleNeed_2_r0 (x1 : Int) (x2 : Int) (x3 : Int) (x4 : Int) (x5 : Int) (x6 : Int) (x7 : Int) (x8 : Int) (x9 : Int) (cur_0 : Int) (tokenKind_0 : Int → Int) (tokenValue_0 : Int → Int) (fault_0 : Int) (tokens_0 : Int) (k1 : 41 ≤ x1 ∧ x1 ≤ 125) (k2 : 0 ≤ x2 ∧ x2 ≤ 2009) (k3 : 0 ≤ x3 ∧ x3 ≤ 5) (k4 : 0 ≤ x4 ∧ x4 ≤ 0) (k5 : 0 ≤ x5 ∧ x5 ≤ 5) (k6 : 1 ≤ x6 ∧ x6 ≤ 1) (k7 : 0 ≤ x7 ∧ x7 ≤ 2009) (k8 : 1 ≤ x8 ∧ x8 ≤ 1) (k9 : 1 ≤ x9 ∧ x9 ≤ 2010) (d0 : x7 + 1 ≤ x9 ∧ x9 ≤ x7 + 1) (f0 : x9 = x7 + x8) (g1 : x7 = cur_0) (f2 : x6 ≠ 0) (f3 : (x6 = 1) → (tokenKind_0 (cur_0) = 3)) (f4 : SGN (cur_0) (tokenKind_0) (tokenValue_0) (x1) (x6) (x5)) (f5 : fault_0 = x5) (f6 : x5 = 0) (f7 : x4 ≤ 0) (g8 : x4 = fault_0) (f9 : ((cur_0 + 1) ≤ tokens_0) ∧ ((tokens_0 ≤ 2010) ∧ ((tokenKind_0 ((tokens_0 - 1)) = 0) ∨ (tokenKind_0 ((tokens_0 - 1)) = 4)))) (f10 : 1 * cur_0 + ((-1) * x2 + 0) ≤ 0) (f11 : (-1) * cur_0 + (1 * x2 + 0) ≤ 0) (f12 : fault_0 = x3) (hK_0_160 : ∀ j : Int, 0 ≤ j → j < 2010 → 0 ≤ tokenKind_0 j ∧ tokenKind_0 j ≤ 4) (kz_0_8 : 0 ≤ fault_0 ∧ fault_0 ≤ 5) (kz_0_157 : 0 ≤ tokens_0 ∧ tokens_0 ≤ 2010) (kz_0_158 : 0 ≤ cur_0 ∧ cur_0 ≤ 2009) : 1 ≤ x9 ∧ x9 ≤ 2009 := by
  first | assumption | (clear f3 f9 hK_0_160; omega) | (clear hK_0_160; grind) | omega | grind
def o_Mo_styleNeed_2 : or_T := (23, 10, [(0, (2, 0, 0, [165])), (1, (0, 41, 125, [])), (2, (0, 0, 2009, [])), (3, (0, 0, 5, [])), (4, (0, 0, 0, [])), (5, (0, 0, 5, [])), (6, (0, 1, 1, [])), (7, (0, 0, 2009, [])), (8, (0, 1, 1, [])), (9, (0, 1, 2010, []))], [(1, [9, 7, 8], []), (9, [7, 0], [158]), (8, [6], [1]), (20, [6, 0], [50, 1, 1, 1158, 1160, 4, 6, 1, 2, 1, 0, 0, 1, 1, 6, 3, 1, 160, 2, 1, 158, 0, 3]), (20, [0, 1, 6, 5], [60, 1, 2, 14, 158, 160, 161]), (20, [0, 5], [50, 1, 0, 8, 1, 3, 2, 0, 8, 1, 1]), (20, [5], [50, 0, 0, 1, 2, 1, 0, 0, 0]), (8, [4], [5]), (9, [4, 0], [8]), (20, [0], [50, 2, 1, 158, 157, 160, 2, 12, 0, 7, 4, 3, 2, 0, 158, 0, 1, 2, 0, 157, 2, 7, 0, 3, 2, 0, 157, 0, 2010, 3, 14, 1, 10, 3, 0, 160, 5, 3, 2, 0, 157, 0, 1, 0, 0, 1, 10, 3, 0, 160, 5, 3, 2, 0, 157, 0, 1, 0, 4]), (20, [0, 2], [30, 0, 1, 1, 158, -1, 0, 0]), (20, [0, 2], [30, 0, -1, 1, 158, 1, 0, 0]), (20, [0, 3], [50, 1, 0, 8, 1, 3, 2, 0, 8, 1, 1])], [(9, (0, 1, 2009, []))], [], [], [], [(9, 7, 1, 1)])
theorem oo_Mo_styleNeed_2 {kA : Nat → ClassId} : or_ok PRD kA GG o_Mo_styleNeed_2 := by
  refine or_mk fun A ta ws vs hD hth hl => ?_
  intro t0 r0 t1 k1 t2 k2 t3 k3 t4 k4 t5 k5 t6 k6 t7 k7 t8 k8 t9 k9 d0 f0 f1 f2 f3 f4 f5 f6 f7 f8 f9 f10 f11 f12
  replace f1 := shm_311 f1
  replace f8 := shm_143 f8
  have cr_0_160 := fdq_41 hD hth r0
  have g1 : v_iv (n_v vs 7) = w_fi ws (n_v vs 0) 158 := congrArg v_iv f1
  have g8 : v_iv (n_v vs 4) = w_fi ws (n_v vs 0) 8 := congrArg v_iv f8
  have hK_0_160 := elq_5 hD hth cr_0_160
  have kz_0_8 := fdq_14 hD hth r0
  have kz_0_157 := fdq_42 hD hth r0
  have kz_0_158 := fdq_43 hD hth r0
  have hrf0 : 1 ≤ v_iv (n_v vs 9) ∧ v_iv (n_v vs 9) ≤ 2009 := vc_Mo_styleNeed_2_r0 (v_iv (n_v vs 1)) (v_iv (n_v vs 2)) (v_iv (n_v vs 3)) (v_iv (n_v vs 4)) (v_iv (n_v vs 5)) (v_iv (n_v vs 6)) (v_iv (n_v vs 7)) (v_iv (n_v vs 8)) (v_iv (n_v vs 9)) (w_fi ws (n_v vs 0) 158) (w_ei ws (w_ar ws (n_v vs 0) 160)) (w_ei ws (w_ar ws (n_v vs 0) 161)) (w_fi ws (n_v vs 0) 8) (w_fi ws (n_v vs 0) 157) k1 k2 k3 k4 k5 k6 k7 k8 k9 d0 (shm_12 f0) g1 (shm_154 f2) (shm_319 f3) (shm_320 f4) (shm_302 f5) (shm_636 f6) (shm_142 f7) g8 (shm_296 f9) (shm_297 f10) (shm_298 f11) (shm_302 f12) hK_0_160 kz_0_8 kz_0_157 kz_0_158
  have rf9 : tv_ok ta (0, 1, 2009, []) (n_v vs 9) := tv_in t9 (by first | omega | grind) (by first | omega | grind)
  refine ⟨List.forall_mem_cons.mpr ⟨rf9, (fun _ h => (by cases h))⟩, [], trivial, ?_, (fun _ h => (by cases h))⟩
  rw [List.append_nil]
  exact (fun _ h => (by cases h))
set_option maxHeartbeats 4000000 in
theorem vc_Mo_styleNeed_3_0 (x1 : Int) (x2 : Int) (x3 : Int) (x4 : Int) (x5 : Int) (x6 : Int) (x7 : Int) (x8 : Int) (x9 : Int) (cur_0 : Int) (fault_0 : Int) (cur_1 : Int) (tokenKind_1 : Int → Int) (tokenValue_1 : Int → Int) (fault_1 : Int) (tokens_1 : Int) (tokens_0 : Int) (tokenKind_0 : Int → Int) (tokenValue_0 : Int → Int) (k1 : 41 ≤ x1 ∧ x1 ≤ 125) (k2 : 0 ≤ x2 ∧ x2 ≤ 2009) (k3 : 0 ≤ x3 ∧ x3 ≤ 5) (k4 : 0 ≤ x4 ∧ x4 ≤ 0) (k5 : 0 ≤ x5 ∧ x5 ≤ 5) (k6 : 1 ≤ x6 ∧ x6 ≤ 1) (k7 : 0 ≤ x7 ∧ x7 ≤ 2009) (k8 : 1 ≤ x8 ∧ x8 ≤ 1) (k9 : 1 ≤ x9 ∧ x9 ≤ 2009) (d0 : x7 + 1 ≤ x9 ∧ x9 ≤ x7 + 1) (g0 : x9 = cur_0) (g1 : x4 = fault_0) (f2 : fault_0 = x5) (f3 : x5 = 0) (f4 : fault_0 = x3) (f6 : x9 = x7 + x8) (g7 : x7 = cur_1) (f8 : x6 ≠ 0) (f9 : (x6 = 1) → (tokenKind_1 (cur_1) = 3)) (f10 : SGN (cur_1) (tokenKind_1) (tokenValue_1) (x1) (x6) (x5)) (f11 : fault_1 = x5) (f12 : x5 = 0) (f13 : x4 ≤ 0) (f14 : ((cur_1 + 1) ≤ tokens_1) ∧ ((tokens_1 ≤ 2010) ∧ ((tokenKind_1 ((tokens_1 - 1)) = 0) ∨ (tokenKind_1 ((tokens_1 - 1)) = 4)))) (f15 : 1 * cur_1 + ((-1) * x2 + 0) ≤ 0) (f16 : (-1) * cur_1 + (1 * x2 + 0) ≤ 0) (f17 : fault_1 = x3) (fe_0_8_1 : fault_0 = fault_1) (fe_0_157_1 : tokens_0 = tokens_1) (fe_0_158_1 : cur_0 = x9) (hE_0_160_1 : ∀ j : Int, tokenKind_0 j = tokenKind_1 j) (hK_0_160 : ∀ j : Int, 0 ≤ j → j < 2010 → 0 ≤ tokenKind_0 j ∧ tokenKind_0 j ≤ 4) (hE_0_161_1 : ∀ j : Int, tokenValue_0 j = tokenValue_1 j) (kz_0_8 : 0 ≤ fault_0 ∧ fault_0 ≤ 5) (kz_0_157 : 0 ≤ tokens_0 ∧ tokens_0 ≤ 2010) (kz_0_158 : 0 ≤ cur_0 ∧ cur_0 ≤ 2009) : ((cur_0 + 1) ≤ tokens_0) ∧ ((tokens_0 ≤ 2010) ∧ ((tokenKind_0 ((tokens_0 - 1)) = 0) ∨ (tokenKind_0 ((tokens_0 - 1)) = 4))) := by
  subst fe_0_8_1
  subst fe_0_157_1
  have e_hE_0_160_1 := funext hE_0_160_1; subst e_hE_0_160_1
  have e_hE_0_161_1 := funext hE_0_161_1; subst e_hE_0_161_1
  first | assumption | (clear f9 f14 hE_0_160_1 hK_0_160 hE_0_161_1; omega) | (clear hE_0_160_1 hK_0_160 hE_0_161_1; grind) | omega | grind
set_option maxHeartbeats 4000000 in
theorem vc_Mo_styleNeed_3_1 (x1 : Int) (x2 : Int) (x3 : Int) (x4 : Int) (x5 : Int) (x6 : Int) (x7 : Int) (x8 : Int) (x9 : Int) (cur_0 : Int) (fault_0 : Int) (cur_1 : Int) (tokenKind_1 : Int → Int) (tokenValue_1 : Int → Int) (fault_1 : Int) (tokens_1 : Int) (tokens_0 : Int) (tokenKind_0 : Int → Int) (tokenValue_0 : Int → Int) (k1 : 41 ≤ x1 ∧ x1 ≤ 125) (k2 : 0 ≤ x2 ∧ x2 ≤ 2009) (k3 : 0 ≤ x3 ∧ x3 ≤ 5) (k4 : 0 ≤ x4 ∧ x4 ≤ 0) (k5 : 0 ≤ x5 ∧ x5 ≤ 5) (k6 : 1 ≤ x6 ∧ x6 ≤ 1) (k7 : 0 ≤ x7 ∧ x7 ≤ 2009) (k8 : 1 ≤ x8 ∧ x8 ≤ 1) (k9 : 1 ≤ x9 ∧ x9 ≤ 2009) (d0 : x7 + 1 ≤ x9 ∧ x9 ≤ x7 + 1) (g0 : x9 = cur_0) (g1 : x4 = fault_0) (f2 : fault_0 = x5) (f3 : x5 = 0) (f4 : fault_0 = x3) (f6 : x9 = x7 + x8) (g7 : x7 = cur_1) (f8 : x6 ≠ 0) (f9 : (x6 = 1) → (tokenKind_1 (cur_1) = 3)) (f10 : SGN (cur_1) (tokenKind_1) (tokenValue_1) (x1) (x6) (x5)) (f11 : fault_1 = x5) (f12 : x5 = 0) (f13 : x4 ≤ 0) (f14 : ((cur_1 + 1) ≤ tokens_1) ∧ ((tokens_1 ≤ 2010) ∧ ((tokenKind_1 ((tokens_1 - 1)) = 0) ∨ (tokenKind_1 ((tokens_1 - 1)) = 4)))) (f15 : 1 * cur_1 + ((-1) * x2 + 0) ≤ 0) (f16 : (-1) * cur_1 + (1 * x2 + 0) ≤ 0) (f17 : fault_1 = x3) (fe_0_8_1 : fault_0 = fault_1) (fe_0_157_1 : tokens_0 = tokens_1) (fe_0_158_1 : cur_0 = x9) (hE_0_160_1 : ∀ j : Int, tokenKind_0 j = tokenKind_1 j) (hK_0_160 : ∀ j : Int, 0 ≤ j → j < 2010 → 0 ≤ tokenKind_0 j ∧ tokenKind_0 j ≤ 4) (hE_0_161_1 : ∀ j : Int, tokenValue_0 j = tokenValue_1 j) (kz_0_8 : 0 ≤ fault_0 ∧ fault_0 ≤ 5) (kz_0_157 : 0 ≤ tokens_0 ∧ tokens_0 ≤ 2010) (kz_0_158 : 0 ≤ cur_0 ∧ cur_0 ≤ 2009) : 1 * x2 + ((-1) * cur_0 + 0) ≤ 0 := by
  subst fe_0_8_1
  subst fe_0_157_1
  have e_hE_0_160_1 := funext hE_0_160_1; subst e_hE_0_160_1
  have e_hE_0_161_1 := funext hE_0_161_1; subst e_hE_0_161_1
  first | assumption | (clear f9 f14 hE_0_160_1 hK_0_160 hE_0_161_1; omega) | (clear hE_0_160_1 hK_0_160 hE_0_161_1; grind) | omega | grind
set_option maxHeartbeats 4000000 in
theorem vc_Mo_styleNeed_3_2 (x1 : Int) (x2 : Int) (x3 : Int) (x4 : Int) (x5 : Int) (x6 : Int) (x7 : Int) (x9 : Int) (cur_0 : Int) (fault_0 : Int) (cur_1 : Int) (tokenKind_1 : Int → Int) (tokenValue_1 : Int → Int) (fault_1 : Int) (tokens_1 : Int) (tokens_0 : Int) (tokenKind_0 : Int → Int) (tokenValue_0 : Int → Int) (k1 : 41 ≤ x1 ∧ x1 ≤ 125) (k2 : 0 ≤ x2 ∧ x2 ≤ 2009) (k3 : 0 ≤ x3 ∧ x3 ≤ 5) (k4 : 0 ≤ x4 ∧ x4 ≤ 0) (k5 : 0 ≤ x5 ∧ x5 ≤ 5) (k6 : 1 ≤ x6 ∧ x6 ≤ 1) (k7 : 0 ≤ x7 ∧ x7 ≤ 2009) (k9 : 1 ≤ x9 ∧ x9 ≤ 2009) (d0 : x7 + 1 ≤ x9 ∧ x9 ≤ x7 + 1) (g0 : x9 = cur_0) (g1 : x4 = fault_0) (f4 : fault_0 = x3) (g7 : x7 = cur_1) (f10 : SGN (cur_1) (tokenKind_1) (tokenValue_1) (x1) (x6) (x5)) (f15 : 1 * cur_1 + ((-1) * x2 + 0) ≤ 0) (f16 : (-1) * cur_1 + (1 * x2 + 0) ≤ 0) (fe_0_8_1 : fault_0 = fault_1) (fe_0_157_1 : tokens_0 = tokens_1) (hE_0_160_1 : ∀ j : Int, tokenKind_0 j = tokenKind_1 j) (hE_0_161_1 : ∀ j : Int, tokenValue_0 j = tokenValue_1 j) (kz_0_8 : 0 ≤ fault_0 ∧ fault_0 ≤ 5) (kz_0_157 : 0 ≤ tokens_0 ∧ tokens_0 ≤ 2010) (kz_0_158 : 0 ≤ cur_0 ∧ cur_0 ≤ 2009) : SND (fault_0) (cur_0) (tokenKind_0) (tokenValue_0) (x1) (x2) (x3) := by
  subst fe_0_8_1
  subst fe_0_157_1
  have e_hE_0_160_1 := funext hE_0_160_1; subst e_hE_0_160_1
  have e_hE_0_161_1 := funext hE_0_161_1; subst e_hE_0_161_1
  first
    | exact snd_fault (by omega) (by omega)
    | (have h := (‹SGN _ _ _ _ _ _›)
       have e : x2 = cur_0 := by omega
       rw [e]
       exact snd_no (fun z => by have := h.mpr ⟨by omega, z⟩; omega) (by omega))
    | (have h := (‹SGN _ _ _ _ _ _›)
       have e : x2 = cur_1 := by omega
       rw [e]
       exact snd_yes (h.mp (by omega)).2 (by omega) (by omega) (by omega))
  
def o_Mo_styleNeed_3 : or_T := (43, 10, [(0, (2, 0, 0, [165])), (1, (0, 41, 125, [])), (2, (0, 0, 2009, [])), (3, (0, 0, 5, [])), (4, (0, 0, 0, [])), (5, (0, 0, 5, [])), (6, (0, 1, 1, [])), (7, (0, 0, 2009, [])), (8, (0, 1, 1, [])), (9, (0, 1, 2009, []))], [(9, [9, 0], [158]), (9, [4, 0], [8]), (20, [0, 5], [50, 1, 0, 8, 1, 3, 2, 0, 8, 1, 1]), (20, [5], [50, 0, 0, 1, 2, 1, 0, 0, 0]), (20, [0, 3], [50, 1, 0, 8, 1, 3, 2, 0, 8, 1, 1]), (101, [0, 9], [158]), (1, [9, 7, 8], []), (9, [7, 0], [158]), (8, [6], [1]), (20, [6, 0], [50, 1, 1, 1158, 1160, 4, 6, 1, 2, 1, 0, 0, 1, 1, 6, 3, 1, 160, 2, 1, 158, 0, 3]), (20, [0, 1, 6, 5], [60, 1, 2, 14, 158, 160, 161]), (20, [0, 5], [50, 1, 0, 8, 1, 3, 2, 0, 8, 1, 1]), (20, [5], [50, 0, 0, 1, 2, 1, 0, 0, 0]), (8, [4], [5]), (20, [0], [50, 2, 1, 158, 157, 160, 2, 12, 0, 7, 4, 3, 2, 0, 158, 0, 1, 2, 0, 157, 2, 7, 0, 3, 2, 0, 157, 0, 2010, 3, 14, 1, 10, 3, 0, 160, 5, 3, 2, 0, 157, 0, 1, 0, 0, 1, 10, 3, 0, 160, 5, 3, 2, 0, 157, 0, 1, 0, 4]), (20, [0, 2], [30, 0, 1, 1, 158, -1, 0, 0]), (20, [0, 2], [30, 0, -1, 1, 158, 1, 0, 0]), (20, [0, 3], [50, 1, 0, 8, 1, 3, 2, 0, 8, 1, 1])], [], [], [(20, [0], [50, 2, 1, 158, 157, 160, 2, 12, 0, 7, 4, 3, 2, 0, 158, 0, 1, 2, 0, 157, 2, 7, 0, 3, 2, 0, 157, 0, 2010, 3, 14, 1, 10, 3, 0, 160, 5, 3, 2, 0, 157, 0, 1, 0, 0, 1, 10, 3, 0, 160, 5, 3, 2, 0, 157, 0, 1, 0, 4]), (20, [2, 0], [30, 0, 1, 0, 0, -1, 1, 158]), (20, [0, 1, 2, 3], [60, 2, 2, 15, 8, 158, 160, 161])], [], [(9, 7, 1, 1)])
theorem oo_Mo_styleNeed_3 {kA : Nat → ClassId} : or_ok PRD kA GG o_Mo_styleNeed_3 := by
  refine or_mk fun A ta ws vs hD hth hl => ?_
  intro t0 r0 t1 k1 t2 k2 t3 k3 t4 k4 t5 k5 t6 k6 t7 k7 t8 k8 t9 k9 d0 f0 f1 f2 f3 f4 ta1 w1 le1 s1 f6 f7 f8 f9 f10 f11 f12 f13 f14 f15 f16 f17
  replace f0 := shm_311 f0
  replace f1 := shm_143 f1
  have s1 : (∀ b j, w_el ws b j = w_el w1 b j) ∧ ∀ b j, w_fd ws b j = if b = v_ad (n_v vs 0) ∧ j = 158 then n_v vs 9 else w_fd w1 b j := s1.2
  replace f7 := shm_311 f7
  replace f9 := shm_319 f9
  replace f10 := shm_320 f10
  replace f14 := shm_296 f14
  have ar_0_160_1 : w_ar w1 (n_v vs 0) 160 = w_ar ws (n_v vs 0) 160 := by show v_ad (w_fd w1 _ _) = v_ad (w_fd ws _ _); rw [s1.2, if_neg (fun e => absurd e.2 (by decide))]
  have cr_0_160 := fdq_41 hD hth r0
  have ar_0_161_1 : w_ar w1 (n_v vs 0) 161 = w_ar ws (n_v vs 0) 161 := by show v_ad (w_fd w1 _ _) = v_ad (w_fd ws _ _); rw [s1.2, if_neg (fun e => absurd e.2 (by decide))]
  have g0 : v_iv (n_v vs 9) = w_fi ws (n_v vs 0) 158 := congrArg v_iv f0
  have g1 : v_iv (n_v vs 4) = w_fi ws (n_v vs 0) 8 := congrArg v_iv f1
  have g7 : v_iv (n_v vs 7) = w_fi w1 (n_v vs 0) 158 := congrArg v_iv f7
  simp only [ar_0_160_1, ar_0_161_1] at f9 f10 f14
  have fe_0_8_1 : w_fi ws (n_v vs 0) 8 = w_fi w1 (n_v vs 0) 8 := by show v_iv (w_fd _ _ _) = v_iv (w_fd _ _ _); rw [s1.2, if_neg (fun e => absurd e.2 (by decide))]
  have fe_0_157_1 : w_fi ws (n_v vs 0) 157 = w_fi w1 (n_v vs 0) 157 := by show v_iv (w_fd _ _ _) = v_iv (w_fd _ _ _); rw [s1.2, if_neg (fun e => absurd e.2 (by decide))]
  have fe_0_158_1 : w_fi ws (n_v vs 0) 158 = v_iv (n_v vs 9) := by show v_iv (w_fd _ _ _) = _; rw [s1.2, if_pos ⟨rfl, rfl⟩]
  have hE_0_160_1 : ∀ j : Int, w_ei ws (w_ar ws (n_v vs 0) 160) j = w_ei w1 (w_ar ws (n_v vs 0) 160) j := fun j => s1.1 _ _
  have hK_0_160 := elq_5 hD hth cr_0_160
  have hE_0_161_1 : ∀ j : Int, w_ei ws (w_ar ws (n_v vs 0) 161) j = w_ei w1 (w_ar ws (n_v vs 0) 161) j := fun j => s1.1 _ _
  have kz_0_8 := fdq_14 hD hth r0
  have kz_0_157 := fdq_42 hD hth r0
  have kz_0_158 := fdq_43 hD hth r0
  have nf0 : fc_1 PRD (20, [0], [50, 2, 1, 158, 157, 160, 2, 12, 0, 7, 4, 3, 2, 0, 158, 0, 1, 2, 0, 157, 2, 7, 0, 3, 2, 0, 157, 0, 2010, 3, 14, 1, 10, 3, 0, 160, 5, 3, 2, 0, 157, 0, 1, 0, 0, 1, 10, 3, 0, 160, 5, 3, 2, 0, 157, 0, 1, 0, 4]) ws (vs) := ⟨nf_in hl rfl, sgq_296 (vc_Mo_styleNeed_3_0 (v_iv (n_v vs 1)) (v_iv (n_v vs 2)) (v_iv (n_v vs 3)) (v_iv (n_v vs 4)) (v_iv (n_v vs 5)) (v_iv (n_v vs 6)) (v_iv (n_v vs 7)) (v_iv (n_v vs 8)) (v_iv (n_v vs 9)) (w_fi ws (n_v vs 0) 158) (w_fi ws (n_v vs 0) 8) (w_fi w1 (n_v vs 0) 158) (w_ei w1 (w_ar ws (n_v vs 0) 160)) (w_ei w1 (w_ar ws (n_v vs 0) 161)) (w_fi w1 (n_v vs 0) 8) (w_fi w1 (n_v vs 0) 157) (w_fi ws (n_v vs 0) 157) (w_ei ws (w_ar ws (n_v vs 0) 160)) (w_ei ws (w_ar ws (n_v vs 0) 161)) k1 k2 k3 k4 k5 k6 k7 k8 k9 d0 g0 g1 (shm_302 f2) (shm_636 f3) (shm_302 f4) (shm_12 f6) g7 (shm_154 f8) f9 f10 (shm_302 f11) (shm_636 f12) (shm_142 f13) f14 (shm_297 f15) (shm_298 f16) (shm_302 f17) fe_0_8_1 fe_0_157_1 fe_0_158_1 hE_0_160_1 hK_0_160 hE_0_161_1 kz_0_8 kz_0_157 kz_0_158)⟩
  have nf1 : fc_1 PRD (20, [2, 0], [30, 0, 1, 0, 0, -1, 1, 158]) ws (vs) := ⟨nf_in hl rfl, sgq_306 (vc_Mo_styleNeed_3_1 (v_iv (n_v vs 1)) (v_iv (n_v vs 2)) (v_iv (n_v vs 3)) (v_iv (n_v vs 4)) (v_iv (n_v vs 5)) (v_iv (n_v vs 6)) (v_iv (n_v vs 7)) (v_iv (n_v vs 8)) (v_iv (n_v vs 9)) (w_fi ws (n_v vs 0) 158) (w_fi ws (n_v vs 0) 8) (w_fi w1 (n_v vs 0) 158) (w_ei w1 (w_ar ws (n_v vs 0) 160)) (w_ei w1 (w_ar ws (n_v vs 0) 161)) (w_fi w1 (n_v vs 0) 8) (w_fi w1 (n_v vs 0) 157) (w_fi ws (n_v vs 0) 157) (w_ei ws (w_ar ws (n_v vs 0) 160)) (w_ei ws (w_ar ws (n_v vs 0) 161)) k1 k2 k3 k4 k5 k6 k7 k8 k9 d0 g0 g1 (shm_302 f2) (shm_636 f3) (shm_302 f4) (shm_12 f6) g7 (shm_154 f8) f9 f10 (shm_302 f11) (shm_636 f12) (shm_142 f13) f14 (shm_297 f15) (shm_298 f16) (shm_302 f17) fe_0_8_1 fe_0_157_1 fe_0_158_1 hE_0_160_1 hK_0_160 hE_0_161_1 kz_0_8 kz_0_157 kz_0_158)⟩
  have nf2 : fc_1 PRD (20, [0, 1, 2, 3], [60, 2, 2, 15, 8, 158, 160, 161]) ws (vs) := ⟨nf_in hl rfl, sgq_336 (vc_Mo_styleNeed_3_2 (v_iv (n_v vs 1)) (v_iv (n_v vs 2)) (v_iv (n_v vs 3)) (v_iv (n_v vs 4)) (v_iv (n_v vs 5)) (v_iv (n_v vs 6)) (v_iv (n_v vs 7)) (v_iv (n_v vs 9)) (w_fi ws (n_v vs 0) 158) (w_fi ws (n_v vs 0) 8) (w_fi w1 (n_v vs 0) 158) (w_ei w1 (w_ar ws (n_v vs 0) 160)) (w_ei w1 (w_ar ws (n_v vs 0) 161)) (w_fi w1 (n_v vs 0) 8) (w_fi w1 (n_v vs 0) 157) (w_fi ws (n_v vs 0) 157) (w_ei ws (w_ar ws (n_v vs 0) 160)) (w_ei ws (w_ar ws (n_v vs 0) 161)) k1 k2 k3 k4 k5 k6 k7 k9 d0 g0 g1 (shm_302 f4) g7 f10 (shm_297 f15) (shm_298 f16) fe_0_8_1 fe_0_157_1 hE_0_160_1 hE_0_161_1 kz_0_8 kz_0_157 kz_0_158)⟩
  refine ⟨(fun _ h => (by cases h)), [], trivial, ?_, (fun _ h => (by cases h))⟩
  rw [List.append_nil]
  exact List.forall_mem_cons.mpr ⟨⟨show (20 : Nat) < 100 from by decide, nf0⟩, List.forall_mem_cons.mpr ⟨⟨show (20 : Nat) < 100 from by decide, nf1⟩, List.forall_mem_cons.mpr ⟨⟨show (20 : Nat) < 100 from by decide, nf2⟩, (fun _ h => (by cases h))⟩⟩⟩
set_option maxHeartbeats 4000000 in
theorem vc_Mo_styleNeed_4_0 (x1 : Int) (x2 : Int) (x3 : Int) (x4 : Int) (fault_0 : Int) (tokenKind_0 : Int → Int) (cur_0 : Int) (tokens_0 : Int) (k1 : 41 ≤ x1 ∧ x1 ≤ 125) (k2 : 0 ≤ x2 ∧ x2 ≤ 2009) (k3 : 0 ≤ x3 ∧ x3 ≤ 5) (k4 : 1 ≤ x4 ∧ x4 ≤ 5) (f0 : 0 < x4) (g1 : x4 = fault_0) (f2 : ((cur_0 + 1) ≤ tokens_0) ∧ ((tokens_0 ≤ 2010) ∧ ((tokenKind_0 ((tokens_0 - 1)) = 0) ∨ (tokenKind_0 ((tokens_0 - 1)) = 4)))) (f3 : 1 * cur_0 + ((-1) * x2 + 0) ≤ 0) (f4 : (-1) * cur_0 + (1 * x2 + 0) ≤ 0) (f5 : fault_0 = x3) (hK_0_160 : ∀ j : Int, 0 ≤ j → j < 2010 → 0 ≤ tokenKind_0 j ∧ tokenKind_0 j ≤ 4) (kz_0_8 : 0 ≤ fault_0 ∧ fault_0 ≤ 5) (kz_0_157 : 0 ≤ tokens_0 ∧ tokens_0 ≤ 2010) (kz_0_158 : 0 ≤ cur_0 ∧ cur_0 ≤ 2009) : 1 * x2 + ((-1) * cur_0 + 0) ≤ 0 := by
  first | assumption | (clear f2 hK_0_160; omega) | (clear hK_0_160; grind) | omega | grind
set_option maxHeartbeats 4000000 in
theorem vc_Mo_styleNeed_4_1 (x1 : Int) (x2 : Int) (x3 : Int) (x4 : Int) (fault_0 : Int) (tokenKind_0 : Int → Int) (cur_0 : Int) (tokenValue_0 : Int → Int) (k1 : 41 ≤ x1 ∧ x1 ≤ 125) (k2 : 0 ≤ x2 ∧ x2 ≤ 2009) (k3 : 0 ≤ x3 ∧ x3 ≤ 5) (k4 : 1 ≤ x4 ∧ x4 ≤ 5) (g1 : x4 = fault_0) (f5 : fault_0 = x3) (kz_0_8 : 0 ≤ fault_0 ∧ fault_0 ≤ 5) (kz_0_158 : 0 ≤ cur_0 ∧ cur_0 ≤ 2009) : SND (fault_0) (cur_0) (tokenKind_0) (tokenValue_0) (x1) (x2) (x3) := by
  first
    | exact snd_fault (by omega) (by omega)
    | (have h := (‹SGN _ _ _ _ _ _›)
       have e : x2 = cur_0 := by omega
       rw [e]
       exact snd_no (fun z => by have := h.mpr ⟨by omega, z⟩; omega) (by omega))
    | (have h := (‹SGN _ _ _ _ _ _›)
       have e : x2 = cur_1 := by omega
       rw [e]
       exact snd_yes (h.mp (by omega)).2 (by omega) (by omega) (by omega))
  
def o_Mo_styleNeed_4 : or_T := (7, 5, [(0, (2, 0, 0, [165])), (1, (0, 41, 125, [])), (2, (0, 0, 2009, [])), (3, (0, 0, 5, [])), (4, (0, 1, 5, []))], [(8, [4], [4]), (9, [4, 0], [8]), (20, [0], [50, 2, 1, 158, 157, 160, 2, 12, 0, 7, 4, 3, 2, 0, 158, 0, 1, 2, 0, 157, 2, 7, 0, 3, 2, 0, 157, 0, 2010, 3, 14, 1, 10, 3, 0, 160, 5, 3, 2, 0, 157, 0, 1, 0, 0, 1, 10, 3, 0, 160, 5, 3, 2, 0, 157, 0, 1, 0, 4]), (20, [0, 2], [30, 0, 1, 1, 158, -1, 0, 0]), (20, [0, 2], [30, 0, -1, 1, 158, 1, 0, 0]), (20, [0, 3], [50, 1, 0, 8, 1, 3, 2, 0, 8, 1, 1])], [], [], [(20, [2, 0], [30, 0, 1, 0, 0, -1, 1, 158]), (20, [0, 1, 2, 3], [60, 2, 2, 15, 8, 158, 160, 161])], [], [])
theorem oo_Mo_styleNeed_4 {kA : Nat → ClassId} : or_ok PRD kA GG o_Mo_styleNeed_4 := by
  refine or_mk fun A ta ws vs hD hth hl => ?_
  intro t0 r0 t1 k1 t2 k2 t3 k3 t4 k4 f0 f1 f2 f3 f4 f5
  replace f1 := shm_143 f1
  have cr_0_160 := fdq_41 hD hth r0
  have g1 : v_iv (n_v vs 4) = w_fi ws (n_v vs 0) 8 := congrArg v_iv f1
  have hK_0_160 := elq_5 hD hth cr_0_160
  have kz_0_8 := fdq_14 hD hth r0
  have kz_0_157 := fdq_42 hD hth r0
  have kz_0_158 := fdq_43 hD hth r0
  have nf0 : fc_1 PRD (20, [2, 0], [30, 0, 1, 0, 0, -1, 1, 158]) ws (vs) := ⟨nf_in hl rfl, sgq_306 (vc_Mo_styleNeed_4_0 (v_iv (n_v vs 1)) (v_iv (n_v vs 2)) (v_iv (n_v vs 3)) (v_iv (n_v vs 4)) (w_fi ws (n_v vs 0) 8) (w_ei ws (w_ar ws (n_v vs 0) 160)) (w_fi ws (n_v vs 0) 158) (w_fi ws (n_v vs 0) 157) k1 k2 k3 k4 (shm_145 f0) g1 (shm_296 f2) (shm_297 f3) (shm_298 f4) (shm_302 f5) hK_0_160 kz_0_8 kz_0_157 kz_0_158)⟩
  have nf1 : fc_1 PRD (20, [0, 1, 2, 3], [60, 2, 2, 15, 8, 158, 160, 161]) ws (vs) := ⟨nf_in hl rfl, sgq_336 (vc_Mo_styleNeed_4_1 (v_iv (n_v vs 1)) (v_iv (n_v vs 2)) (v_iv (n_v vs 3)) (v_iv (n_v vs 4)) (w_fi ws (n_v vs 0) 8) (w_ei ws (w_ar ws (n_v vs 0) 160)) (w_fi ws (n_v vs 0) 158) (w_ei ws (w_ar ws (n_v vs 0) 161)) k1 k2 k3 k4 g1 (shm_302 f5) kz_0_8 kz_0_158)⟩
  refine ⟨(fun _ h => (by cases h)), [], trivial, ?_, (fun _ h => (by cases h))⟩
  rw [List.append_nil]
  exact List.forall_mem_cons.mpr ⟨⟨show (20 : Nat) < 100 from by decide, nf0⟩, List.forall_mem_cons.mpr ⟨⟨show (20 : Nat) < 100 from by decide, nf1⟩, (fun _ h => (by cases h))⟩⟩
def n_Mo_styleNeed_an : List an_T := []
def t_Mo_styleNeed_ct : ct_L := [(1, 463, e_Mo_wrong), (1, 1172, e_Mo_styleSign)]
set_option maxRecDepth 100000 in
theorem c_Mo_styleNeed {l : Launch} {D : va_G} {kA : Nat → ClassId} (h_Mo_styleSign : ct_ok PRD l D kA GG y_Mo_styleSign z_Mo_styleSign e_Mo_styleSign) (h_Mo_wrong : ct_ok PRD l D kA GG y_Mo_wrong z_Mo_wrong e_Mo_wrong) : ct_ok PRD l D kA GG y_Mo_styleNeed z_Mo_styleNeed e_Mo_styleNeed := chk_all_ok (FT := [(348, 13, 162), (413, 13, 8), (1169, 13, 158)]) (PT := [(1169, 13, 158, .int)]) (CT := t_Mo_styleNeed_ct) (KT := []) (NT := []) (AN := n_Mo_styleNeed_an) (OT := [o_Mo_styleNeed_0, o_Mo_styleNeed_1, o_Mo_styleNeed_2, o_Mo_styleNeed_3, o_Mo_styleNeed_4]) 0 200 (List.forall_mem_cons.mpr ⟨oo_Mo_styleNeed_0, List.forall_mem_cons.mpr ⟨oo_Mo_styleNeed_1, List.forall_mem_cons.mpr ⟨oo_Mo_styleNeed_2, List.forall_mem_cons.mpr ⟨oo_Mo_styleNeed_3, List.forall_mem_cons.mpr ⟨oo_Mo_styleNeed_4, List.forall_mem_nil _⟩⟩⟩⟩⟩) (by decide +kernel) ⟨List.forall_mem_cons.mpr ⟨gf_Mo_348, List.forall_mem_cons.mpr ⟨gf_Mo_413, List.forall_mem_cons.mpr ⟨gf_Mo_1169, List.forall_mem_nil _⟩⟩⟩, List.forall_mem_cons.mpr ⟨pf_Mo_1169, List.forall_mem_nil _⟩, List.forall_mem_cons.mpr ⟨cl_virtual (y := y_Mo_wrong) (ci := 13) rfl rfl ⟨_, _, rfl⟩ (by decide +kernel) h_Mo_wrong wm_3017 wm_9 wm_3014 wm_3016 wv_13_1 ⟨by decide, by decide, by decide +kernel⟩ (by decide), List.forall_mem_cons.mpr ⟨cl_virtual (y := y_Mo_styleSign) (ci := 13) rfl rfl ⟨_, _, rfl⟩ (by decide +kernel) h_Mo_styleSign wm_3832 wm_9 wm_3829 wm_3831 wv_23_11 ⟨by decide, by decide, by decide +kernel⟩ (by decide), List.forall_mem_nil _⟩⟩, List.forall_mem_nil _, List.forall_mem_nil _, GG_pl⟩ (by decide +kernel)
set_option maxHeartbeats 4000000 in
theorem vc_Mo_to_0_0 (x1 : Int) (x3 : Int) (x4 : Int) (all_0 : Int → Int) (r_0 : Int) (turned_0 : Int → Int) (k1 : 0 ≤ x1 ∧ x1 ≤ 47) (k3 : 0 ≤ x3 ∧ x3 ≤ 0) (k4 : 0 ≤ x4 ∧ x4 ≤ 23) (f0 : x4 = all_0 (((r_0 + 315) + x1))) (h2 : x3 = turned_0 (x1)) : TOO (r_0) (all_0) (turned_0) (x1) (x4) := by
  unfold TOO toT
  first
    | (rw [if_pos (by omega)]; omega)
    | (rw [if_neg (by omega)]; omega)
def o_Mo_to_0 : or_T := (22, 5, [(0, (2, 0, 0, [165])), (1, (0, 0, 47, [])), (2, (2, 0, 0, [231])), (3, (0, 0, 0, [])), (4, (0, 0, 23, []))], [(20, [4, 0, 1], [50, 1, 1, 1005, 1002, 1, 2, 1, 0, 3, 1, 2, 4, 7, 4, 3, 2, 1, 5, 0, 315, 1, 2]), (8, [3], [0]), (10, [3, 2, 1], []), (9, [2, 0], [95])], [], [], [(20, [0, 1, 4], [60, 1, 2, 433, 5, 2, 95])], [], [])
theorem oo_Mo_to_0 {kA : Nat → ClassId} : or_ok PRD kA GG o_Mo_to_0 := by
  refine or_mk fun A ta ws vs hD hth hl => ?_
  intro t0 r0 t1 k1 t2 r2 t3 k3 t4 k4 f0 f1 f2 f3
  replace f2 := shm_106 f2
  replace f3 := shm_1097 f3
  have ad_2 : v_ad (n_v vs 2) = w_ar ws (n_v vs 0) 95 := congrArg v_ad f3
  simp only [ad_2] at f2
  have h2 : v_iv (n_v vs 3) = w_ei ws (w_ar ws (n_v vs 0) 95) (v_iv (n_v vs 1)) := f2
  have nf0 : fc_1 PRD (20, [0, 1, 4], [60, 1, 2, 433, 5, 2, 95]) ws (vs) := ⟨nf_in hl rfl, sgq_503 (vc_Mo_to_0_0 (v_iv (n_v vs 1)) (v_iv (n_v vs 3)) (v_iv (n_v vs 4)) (w_ei ws (w_ar ws (n_v vs 0) 2)) (w_fi ws (n_v vs 0) 5) (w_ei ws (w_ar ws (n_v vs 0) 95)) k1 k3 k4 (shm_591 f0) h2)⟩
  refine ⟨(fun _ h => (by cases h)), [], trivial, ?_, (fun _ h => (by cases h))⟩
  rw [List.append_nil]
  exact List.forall_mem_cons.mpr ⟨⟨show (20 : Nat) < 100 from by decide, nf0⟩, (fun _ h => (by cases h))⟩
set_option maxHeartbeats 4000000 in
theorem vc_Mo_to_1_0 (x1 : Int) (x3 : Int) (x4 : Int) (all_0 : Int → Int) (r_0 : Int) (turned_0 : Int → Int) (k1 : 0 ≤ x1 ∧ x1 ≤ 47) (k3 : 1 ≤ x3 ∧ x3 ≤ 1) (k4 : 0 ≤ x4 ∧ x4 ≤ 23) (f0 : x4 = all_0 (((r_0 + 267) + x1))) (h2 : x3 = turned_0 (x1)) : TOO (r_0) (all_0) (turned_0) (x1) (x4) := by
  unfold TOO toT
  first
    | (rw [if_pos (by omega)]; omega)
    | (rw [if_neg (by omega)]; omega)
def o_Mo_to_1 : or_T := (22, 5, [(0, (2, 0, 0, [165])), (1, (0, 0, 47, [])), (2, (2, 0, 0, [231])), (3, (0, 1, 1, [])), (4, (0, 0, 23, []))], [(20, [4, 0, 1], [50, 1, 1, 1005, 1002, 1, 2, 1, 0, 3, 1, 2, 4, 7, 4, 3, 2, 1, 5, 0, 267, 1, 2]), (8, [3], [1]), (10, [3, 2, 1], []), (9, [2, 0], [95])], [], [], [(20, [0, 1, 4], [60, 1, 2, 433, 5, 2, 95])], [], [])
theorem oo_Mo_to_1 {kA : Nat → ClassId} : or_ok PRD kA GG o_Mo_to_1 := by
  refine or_mk fun A ta ws vs hD hth hl => ?_
  intro t0 r0 t1 k1 t2 r2 t3 k3 t4 k4 f0 f1 f2 f3
  replace f2 := shm_106 f2
  replace f3 := shm_1097 f3
  have ad_2 : v_ad (n_v vs 2) = w_ar ws (n_v vs 0) 95 := congrArg v_ad f3
  simp only [ad_2] at f2
  have h2 : v_iv (n_v vs 3) = w_ei ws (w_ar ws (n_v vs 0) 95) (v_iv (n_v vs 1)) := f2
  have nf0 : fc_1 PRD (20, [0, 1, 4], [60, 1, 2, 433, 5, 2, 95]) ws (vs) := ⟨nf_in hl rfl, sgq_503 (vc_Mo_to_1_0 (v_iv (n_v vs 1)) (v_iv (n_v vs 3)) (v_iv (n_v vs 4)) (w_ei ws (w_ar ws (n_v vs 0) 2)) (w_fi ws (n_v vs 0) 5) (w_ei ws (w_ar ws (n_v vs 0) 95)) k1 k3 k4 (shm_735 f0) h2)⟩
  refine ⟨(fun _ h => (by cases h)), [], trivial, ?_, (fun _ h => (by cases h))⟩
  rw [List.append_nil]
  exact List.forall_mem_cons.mpr ⟨⟨show (20 : Nat) < 100 from by decide, nf0⟩, (fun _ h => (by cases h))⟩
def n_Mo_to_an : List an_T := []
def t_Mo_to_ct : ct_L := [(1, 394, e_Mo_tail), (1, 398, e_Mo_head)]
set_option maxRecDepth 100000 in
theorem c_Mo_to {l : Launch} {D : va_G} {kA : Nat → ClassId} (h_Mo_head : ct_ok PRD l D kA GG y_Mo_head z_Mo_head e_Mo_head) (h_Mo_tail : ct_ok PRD l D kA GG y_Mo_tail z_Mo_tail e_Mo_tail) : ct_ok PRD l D kA GG y_Mo_to z_Mo_to e_Mo_to := chk_all_ok (FT := [(210, 13, 95)]) (PT := []) (CT := t_Mo_to_ct) (KT := []) (NT := []) (AN := n_Mo_to_an) (OT := [o_Mo_to_0, o_Mo_to_1]) 0 200 (List.forall_mem_cons.mpr ⟨oo_Mo_to_0, List.forall_mem_cons.mpr ⟨oo_Mo_to_1, List.forall_mem_nil _⟩⟩) (by decide +kernel) ⟨List.forall_mem_cons.mpr ⟨gf_Mo_210, List.forall_mem_nil _⟩, List.forall_mem_nil _, List.forall_mem_cons.mpr ⟨cl_virtual (y := y_Mo_tail) (ci := 13) rfl rfl ⟨_, _, rfl⟩ (by decide +kernel) h_Mo_tail wm_3045 wm_9 wm_3042 wm_3044 wv_13_8 ⟨by decide, by decide, by decide +kernel⟩ (by decide), List.forall_mem_cons.mpr ⟨cl_virtual (y := y_Mo_head) (ci := 13) rfl rfl ⟨_, _, rfl⟩ (by decide +kernel) h_Mo_head wm_3049 wm_9 wm_3046 wm_3048 wv_13_9 ⟨by decide, by decide, by decide +kernel⟩ (by decide), List.forall_mem_nil _⟩⟩, List.forall_mem_nil _, List.forall_mem_nil _, GG_pl⟩ (by decide +kernel)

set_option maxHeartbeats 4000000 in
theorem vc_Mo_up_0_0 (x1 : Int) (x3 : Int) (x5 : Int) (pointMany_0 : Int) (k1 : 0 ≤ x1 ∧ x1 ≤ 76) (k3 : 2 ≤ x3 ∧ x3 ≤ 78) (k5 : 1 ≤ x5 ∧ x5 ≤ 77) (d0 : x1 + 1 ≤ x5 ∧ x5 ≤ x1 + 1) (d1 : x1 + 2 ≤ x3 ∧ x3 ≤ x1 + 2) (g1 : x1 = pointMany_0) (kz_0_79 : 0 ≤ pointMany_0 ∧ pointMany_0 ≤ 76) : x3 = (pointMany_0 + 2) := by
  omega
set_option maxHeartbeats 4000000 in
theorem vc_Mo_up_0_1 (x1 : Int) (pointMany_0 : Int) (k1 : 0 ≤ x1 ∧ x1 ≤ 76) (g1 : x1 = pointMany_0) (kz_0_79 : 0 ≤ pointMany_0 ∧ pointMany_0 ≤ 76) : x1 = pointMany_0 := by
  omega
set_option maxHeartbeats 4000000 in
theorem vc_Mo_up_0_2 (x1 : Int) (x5 : Int) (pointMany_0 : Int) (k1 : 0 ≤ x1 ∧ x1 ≤ 76) (k5 : 1 ≤ x5 ∧ x5 ≤ 77) (d0 : x1 + 1 ≤ x5 ∧ x5 ≤ x1 + 1) (g1 : x1 = pointMany_0) (kz_0_79 : 0 ≤ pointMany_0 ∧ pointMany_0 ≤ 76) : x5 = (pointMany_0 + 1) := by
  omega
set_option maxHeartbeats 4000000 in
theorem vc_Mo_up_0_3 (x6 : Int) (flow_0 : Int → Int) (k6 : 0 ≤ x6 ∧ x6 ≤ 0) : UZ0 (flow_0) (x6) := by
  first
    | (intro q a b; exfalso; omega)
    | exact uz0_step ‹UZ0 _ _› (by assumption) (by assumption) rfl (by omega)
def o_Mo_up_0 : or_T := (22, 7, [(0, (2, 0, 0, [165])), (1, (0, 0, 76, [])), (3, (0, 2, 78, [])), (5, (0, 1, 77, [])), (6, (0, 0, 0, []))], [(9, [1, 0], [79])], [], [], [(20, [3, 0], [50, 1, 0, 1079, 1, 2, 1, 0, 4, 3, 2, 1, 79, 0, 2]), (20, [1, 0], [50, 1, 0, 1079, 1, 2, 1, 0, 2, 1, 79]), (20, [5, 0], [50, 1, 0, 1079, 1, 2, 1, 0, 4, 3, 2, 1, 79, 0, 1]), (20, [0, 6], [60, 0, 1, 409, 90]), (24, [0, 0], [])], [], [(5, 1, 1, 1), (3, 1, 2, 2)])
theorem oo_Mo_up_0 {kA : Nat → ClassId} : or_ok PRD kA GG o_Mo_up_0 := by
  refine or_mk fun A ta ws vs hD hth hl => ?_
  intro t0 r0 t1 k1 t3 k3 t5 k5 t6 k6 d0 d1 f1
  replace f1 := shm_1124 f1
  have g1 : v_iv (n_v vs 1) = w_fi ws (n_v vs 0) 79 := congrArg v_iv f1
  have kz_0_79 := fdq_146 hD hth r0
  have nf0 : fc_1 PRD (20, [3, 0], [50, 1, 0, 1079, 1, 2, 1, 0, 4, 3, 2, 1, 79, 0, 2]) ws (vs) := ⟨nf_in hl rfl, sgq_914 (vc_Mo_up_0_0 (v_iv (n_v vs 1)) (v_iv (n_v vs 3)) (v_iv (n_v vs 5)) (w_fi ws (n_v vs 0) 79) k1 k3 k5 d0 d1 g1 kz_0_79)⟩
  have nf1 : fc_1 PRD (20, [1, 0], [50, 1, 0, 1079, 1, 2, 1, 0, 2, 1, 79]) ws (vs) := ⟨nf_in hl rfl, sgq_915 (vc_Mo_up_0_1 (v_iv (n_v vs 1)) (w_fi ws (n_v vs 0) 79) k1 g1 kz_0_79)⟩
  have nf2 : fc_1 PRD (20, [5, 0], [50, 1, 0, 1079, 1, 2, 1, 0, 4, 3, 2, 1, 79, 0, 1]) ws (vs) := ⟨nf_in hl rfl, sgq_916 (vc_Mo_up_0_2 (v_iv (n_v vs 1)) (v_iv (n_v vs 5)) (w_fi ws (n_v vs 0) 79) k1 k5 d0 g1 kz_0_79)⟩
  have nf3 : fc_1 PRD (20, [0, 6], [60, 0, 1, 409, 90]) ws (vs) := ⟨nf_in hl rfl, sgq_1126 (vc_Mo_up_0_3 (v_iv (n_v vs 6)) (w_ei ws (w_ar ws (n_v vs 0) 90)) k6)⟩
  have nf4 : fc_1 PRD (24, [0, 0], []) ws (vs) := by
    refine ⟨nf_in hl rfl, sgq_1 ?_⟩
    · show n_v vs 0 = n_v vs 0
      first | rfl | simp only [true_and]
  refine ⟨(fun _ h => (by cases h)), [], trivial, ?_, (fun _ h => (by cases h))⟩
  rw [List.append_nil]
  exact List.forall_mem_cons.mpr ⟨⟨show (20 : Nat) < 100 from by decide, nf0⟩, List.forall_mem_cons.mpr ⟨⟨show (20 : Nat) < 100 from by decide, nf1⟩, List.forall_mem_cons.mpr ⟨⟨show (20 : Nat) < 100 from by decide, nf2⟩, List.forall_mem_cons.mpr ⟨⟨show (20 : Nat) < 100 from by decide, nf3⟩, List.forall_mem_cons.mpr ⟨⟨show (24 : Nat) < 100 from by decide, nf4⟩, (fun _ h => (by cases h))⟩⟩⟩⟩⟩
set_option maxHeartbeats 4000000 in
theorem vc_Mo_up_1_0 (x2 : Int) (x5 : Int) (x6 : Int) (pointMany_0 : Int) (flow_0 : Int → Int) (k2 : 2 ≤ x2 ∧ x2 ≤ 78) (k5 : 4 ≤ x5 ∧ x5 ≤ 6084) (k6 : 4 ≤ x6 ∧ x6 ≤ 6084) (d0 : x6 + 0 ≤ x5 ∧ x5 ≤ x6 + 4294967296) (f1 : x6 = x2 * x2) (f2 : x2 = (pointMany_0 + 2)) (f6 : UZ0 (flow_0) (x5)) (kz_0_79 : 0 ≤ pointMany_0 ∧ pointMany_0 ≤ 76) : UZN (pointMany_0) (flow_0) := by
  first
    | assumption
    | (have h := ‹UZ0 _ _›; have e : x6 = x2 * x2 := by assumption
       intro q a b; refine h q a ?_; rw [← ‹x2 = pointMany_0 + 2›, ← e] at b; omega)
set_option maxHeartbeats 4000000 in
theorem vc_Mo_up_1_1 (x7 : Int) (goes_0 : Int → Int) (k7 : 0 ≤ x7 ∧ x7 ≤ 0) : UZG (goes_0) (x7) := by
  first
    | exact ⟨fun q a b => by exfalso; omega, trivial⟩
    | exact uzg_step ‹UZG _ _› (by assumption) (by assumption) rfl (by omega)
def o_Mo_up_1 : or_T := (47, 8, [(0, (2, 0, 0, [165])), (2, (0, 2, 78, [])), (5, (0, 4, 6084, [])), (6, (0, 4, 6084, [])), (7, (0, 0, 0, []))], [(3, [6, 2, 2], []), (20, [2, 1], [50, 1, 0, 1079, 1, 2, 1, 0, 4, 3, 2, 1, 79, 0, 2]), (20, [1, 5], [60, 0, 1, 409, 90]), (24, [0, 1], [])], [], [], [(20, [1], [60, 1, 1, 410, 79, 90]), (20, [1, 7], [60, 0, 1, 411, 93])], [], [(5, 6, 0, 4294967296)])
theorem oo_Mo_up_1 {kA : Nat → ClassId} : or_ok PRD kA GG o_Mo_up_1 := by
  refine or_mk fun A ta ws vs hD hth hl => ?_
  intro t0 r0 t2 k2 t5 k5 t6 k6 t7 k7 d0 f1 f2 f6 f7
  replace f1 := shm_187 f1
  replace f2 := shm_914 f2
  replace f6 := shm_1126 f6
  replace f7 := shm_5 f7
  have q1 : n_v vs 1 = n_v vs 0 := f7.symm
  simp only [q1] at f2 f6
  have kz_0_79 := fdq_146 hD hth r0
  have nf0 : fc_1 PRD (20, [1], [60, 1, 1, 410, 79, 90]) ws (vs) := by
    refine ⟨nf_in hl rfl, sgq_1127 ?_⟩
    · show UZN (w_fi ws (n_v vs 1) 79) (w_ei ws (w_ar ws (n_v vs 1) 90))
      rw [q1]
      exact vc_Mo_up_1_0 (v_iv (n_v vs 2)) (v_iv (n_v vs 5)) (v_iv (n_v vs 6)) (w_fi ws (n_v vs 0) 79) (w_ei ws (w_ar ws (n_v vs 0) 90)) k2 k5 k6 d0 f1 f2 f6 kz_0_79
  have nf1 : fc_1 PRD (20, [1, 7], [60, 0, 1, 411, 93]) ws (vs) := by
    refine ⟨nf_in hl rfl, sgq_1128 ?_⟩
    · show UZG (w_ei ws (w_ar ws (n_v vs 1) 93)) (v_iv (n_v vs 7))
      rw [q1]
      exact vc_Mo_up_1_1 (v_iv (n_v vs 7)) (w_ei ws (w_ar ws (n_v vs 0) 93)) k7
  refine ⟨(fun _ h => (by cases h)), [], trivial, ?_, (fun _ h => (by cases h))⟩
  rw [List.append_nil]
  exact List.forall_mem_cons.mpr ⟨⟨show (20 : Nat) < 100 from by decide, nf0⟩, List.forall_mem_cons.mpr ⟨⟨show (20 : Nat) < 100 from by decide, nf1⟩, (fun _ h => (by cases h))⟩⟩
set_option maxHeartbeats 4000000 in
theorem vc_Mo_up_2_0 (x5 : Int) (x8 : Int) (x9 : Int) (pointMany_0 : Int) (costA_0 : Int → Int) (costB_0 : Int → Int) (costW_0 : Int → Int) (costPlain_0 : Int → Int) (apartA_0 : Int → Int) (apartB_0 : Int → Int) (apart_0 : Int → Int) (costMany_0 : Int) (apartMany_0 : Int) (pointMany_1 : Int) (costA_1 : Int → Int) (costB_1 : Int → Int) (costW_1 : Int → Int) (costPlain_1 : Int → Int) (apartA_1 : Int → Int) (apartB_1 : Int → Int) (apart_1 : Int → Int) (costMany_1 : Int) (apartMany_1 : Int) (flow_1 : Int → Int) (flow_0 : Int → Int) (k5 : 0 ≤ x5 ∧ x5 ≤ 6083) (k8 : 0 ≤ x8 ∧ x8 ≤ 0) (k9 : 1 ≤ x9 ∧ x9 ≤ 6084) (f0 : x9 = x5 + 1) (f14 : UZ0 (flow_1) (x5)) (fe_0_79_1 : pointMany_0 = pointMany_1) (fe_0_80_1 : costMany_0 = costMany_1) (fe_0_81_1 : apartMany_0 = apartMany_1) (hE_0_83_1 : ∀ j : Int, costA_0 j = costA_1 j) (hE_0_84_1 : ∀ j : Int, costB_0 j = costB_1 j) (hE_0_85_1 : ∀ j : Int, costW_0 j = costW_1 j) (hE_0_86_1 : ∀ j : Int, costPlain_0 j = costPlain_1 j) (hE_0_87_1 : ∀ j : Int, apartA_0 j = apartA_1 j) (hE_0_88_1 : ∀ j : Int, apartB_0 j = apartB_1 j) (hE_0_89_1 : ∀ j : Int, apart_0 j = apart_1 j) (hE_0_90_1 : ∀ j : Int, 0 ≤ j → (j = x5 → flow_0 j = x8) ∧ (j ≠ x5 → flow_0 j = flow_1 j)) (kz_0_79 : 0 ≤ pointMany_0 ∧ pointMany_0 ≤ 76) (kz_0_80 : 0 ≤ costMany_0 ∧ costMany_0 ≤ 200) (kz_0_81 : 0 ≤ apartMany_0 ∧ apartMany_0 ≤ 200) : UZ0 (flow_0) (x9) := by
  subst fe_0_79_1
  subst fe_0_80_1
  subst fe_0_81_1
  have e_hE_0_83_1 := funext hE_0_83_1; subst e_hE_0_83_1
  have e_hE_0_84_1 := funext hE_0_84_1; subst e_hE_0_84_1
  have e_hE_0_85_1 := funext hE_0_85_1; subst e_hE_0_85_1
  have e_hE_0_86_1 := funext hE_0_86_1; subst e_hE_0_86_1
  have e_hE_0_87_1 := funext hE_0_87_1; subst e_hE_0_87_1
  have e_hE_0_88_1 := funext hE_0_88_1; subst e_hE_0_88_1
  have e_hE_0_89_1 := funext hE_0_89_1; subst e_hE_0_89_1
  first
    | (intro q a b; exfalso; omega)
    | exact uz0_step ‹UZ0 _ _› (by assumption) (by assumption) rfl (by omega)
def o_Mo_up_2 : or_T := (22, 10, [(0, (2, 0, 0, [165])), (5, (0, 0, 6083, [])), (7, (2, 0, 0, [227])), (8, (0, 0, 0, [])), (9, (0, 1, 6084, []))], [(6, [9, 5], [1]), (24, [0, 1], []), (100, [7, 5, 8], []), (9, [7, 1], [90]), (20, [1, 5], [60, 0, 1, 409, 90])], [], [], [(20, [1, 9], [60, 0, 1, 409, 90])], [], [(9, 5, 1, 1), (5, 6, -4294967296, -1)])
theorem oo_Mo_up_2 {kA : Nat → ClassId} : or_ok PRD kA GG o_Mo_up_2 := by
  refine or_mk fun A ta ws vs hD hth hl => ?_
  intro t0 r0 t5 k5 t7 r7 t8 k8 t9 k9 d0 d2 f0 f5 ta1 w1 le1 s1 f7 f14
  replace f0 := shm_4 f0
  replace f5 := shm_5 f5
  have s1 : (∀ b j, w_el ws b j = if b = v_ad (n_v vs 7) ∧ j = (v_iv (n_v vs 5)).toNat then v_iv (n_v vs 8) else w_el w1 b j) ∧ ∀ b k, w_fd ws b k = w_fd w1 b k := s1.2
  replace f7 := shm_934 f7
  replace f14 := shm_1126 f14
  have q1 : n_v vs 1 = n_v vs 0 := f5.symm
  simp only [q1] at f7 f14
  have ar_0_83_1 : w_ar w1 (n_v vs 0) 83 = w_ar ws (n_v vs 0) 83 := congrArg v_ad (s1.2 _ _).symm
  have cr_0_83 := fdq_125 hD hth r0
  have ar_0_84_1 : w_ar w1 (n_v vs 0) 84 = w_ar ws (n_v vs 0) 84 := congrArg v_ad (s1.2 _ _).symm
  have cr_0_84 := fdq_126 hD hth r0
  have ar_0_85_1 : w_ar w1 (n_v vs 0) 85 = w_ar ws (n_v vs 0) 85 := congrArg v_ad (s1.2 _ _).symm
  have cr_0_85 := fdq_127 hD hth r0
  have ar_0_86_1 : w_ar w1 (n_v vs 0) 86 = w_ar ws (n_v vs 0) 86 := congrArg v_ad (s1.2 _ _).symm
  have cr_0_86 := fdq_128 hD hth r0
  have ar_0_87_1 : w_ar w1 (n_v vs 0) 87 = w_ar ws (n_v vs 0) 87 := congrArg v_ad (s1.2 _ _).symm
  have cr_0_87 := fdq_118 hD hth r0
  have ar_0_88_1 : w_ar w1 (n_v vs 0) 88 = w_ar ws (n_v vs 0) 88 := congrArg v_ad (s1.2 _ _).symm
  have cr_0_88 := fdq_119 hD hth r0
  have ar_0_89_1 : w_ar w1 (n_v vs 0) 89 = w_ar ws (n_v vs 0) 89 := congrArg v_ad (s1.2 _ _).symm
  have cr_0_89 := fdq_120 hD hth r0
  have ar_0_90_1 : w_ar w1 (n_v vs 0) 90 = w_ar ws (n_v vs 0) 90 := congrArg v_ad (s1.2 _ _).symm
  have ad_7 : v_ad (n_v vs 7) = w_ar ws (n_v vs 0) 90 := (congrArg v_ad f7).trans ar_0_90_1
  simp only [ar_0_83_1, ar_0_84_1, ar_0_85_1, ar_0_86_1, ar_0_87_1, ar_0_88_1, ar_0_89_1, ar_0_90_1] at f14
  have fe_0_79_1 : w_fi ws (n_v vs 0) 79 = w_fi w1 (n_v vs 0) 79 := congrArg v_iv (s1.2 _ _)
  have fe_0_80_1 : w_fi ws (n_v vs 0) 80 = w_fi w1 (n_v vs 0) 80 := congrArg v_iv (s1.2 _ _)
  have fe_0_81_1 : w_fi ws (n_v vs 0) 81 = w_fi w1 (n_v vs 0) 81 := congrArg v_iv (s1.2 _ _)
  have hE_0_83_1 : ∀ j : Int, w_ei ws (w_ar ws (n_v vs 0) 83) j = w_ei w1 (w_ar ws (n_v vs 0) 83) j := el_kp s1.1 r7 cr_0_83 (by decide)
  have hE_0_84_1 : ∀ j : Int, w_ei ws (w_ar ws (n_v vs 0) 84) j = w_ei w1 (w_ar ws (n_v vs 0) 84) j := el_kp s1.1 r7 cr_0_84 (by decide)
  have hE_0_85_1 : ∀ j : Int, w_ei ws (w_ar ws (n_v vs 0) 85) j = w_ei w1 (w_ar ws (n_v vs 0) 85) j := el_kp s1.1 r7 cr_0_85 (by decide)
  have hE_0_86_1 : ∀ j : Int, w_ei ws (w_ar ws (n_v vs 0) 86) j = w_ei w1 (w_ar ws (n_v vs 0) 86) j := el_kp s1.1 r7 cr_0_86 (by decide)
  have hE_0_87_1 : ∀ j : Int, w_ei ws (w_ar ws (n_v vs 0) 87) j = w_ei w1 (w_ar ws (n_v vs 0) 87) j := el_kp s1.1 r7 cr_0_87 (by decide)
  have hE_0_88_1 : ∀ j : Int, w_ei ws (w_ar ws (n_v vs 0) 88) j = w_ei w1 (w_ar ws (n_v vs 0) 88) j := el_kp s1.1 r7 cr_0_88 (by decide)
  have hE_0_89_1 : ∀ j : Int, w_ei ws (w_ar ws (n_v vs 0) 89) j = w_ei w1 (w_ar ws (n_v vs 0) 89) j := el_kp s1.1 r7 cr_0_89 (by decide)
  have hE_0_90_1 : ∀ j : Int, 0 ≤ j → (j = v_iv (n_v vs 5) → w_ei ws (w_ar ws (n_v vs 0) 90) j = v_iv (n_v vs 8)) ∧ (j ≠ v_iv (n_v vs 5) → w_ei ws (w_ar ws (n_v vs 0) 90) j = w_ei w1 (w_ar ws (n_v vs 0) 90) j) := fun j hj => ⟨fun h => by unfold w_ei; rw [s1.1, if_pos ⟨ad_7.symm, by rw [h]⟩], fun h => by unfold w_ei; rw [s1.1, if_neg (fun e => h (by have := e.2; omega))]⟩
  have kz_0_79 := fdq_146 hD hth r0
  have kz_0_80 := fdq_130 hD hth r0
  have kz_0_81 := fdq_123 hD hth r0
  have nf0 : fc_1 PRD (20, [1, 9], [60, 0, 1, 409, 90]) ws (vs) := by
    refine ⟨nf_in hl rfl, sgq_1126 ?_⟩
    · show UZ0 (w_ei ws (w_ar ws (n_v vs 1) 90)) (v_iv (n_v vs 9))
      rw [q1]
      exact vc_Mo_up_2_0 (v_iv (n_v vs 5)) (v_iv (n_v vs 8)) (v_iv (n_v vs 9)) (w_fi ws (n_v vs 0) 79) (w_ei ws (w_ar ws (n_v vs 0) 83)) (w_ei ws (w_ar ws (n_v vs 0) 84)) (w_ei ws (w_ar ws (n_v vs 0) 85)) (w_ei ws (w_ar ws (n_v vs 0) 86)) (w_ei ws (w_ar ws (n_v vs 0) 87)) (w_ei ws (w_ar ws (n_v vs 0) 88)) (w_ei ws (w_ar ws (n_v vs 0) 89)) (w_fi ws (n_v vs 0) 80) (w_fi ws (n_v vs 0) 81) (w_fi w1 (n_v vs 0) 79) (w_ei w1 (w_ar ws (n_v vs 0) 83)) (w_ei w1 (w_ar ws (n_v vs 0) 84)) (w_ei w1 (w_ar ws (n_v vs 0) 85)) (w_ei w1 (w_ar ws (n_v vs 0) 86)) (w_ei w1 (w_ar ws (n_v vs 0) 87)) (w_ei w1 (w_ar ws (n_v vs 0) 88)) (w_ei w1 (w_ar ws (n_v vs 0) 89)) (w_fi w1 (n_v vs 0) 80) (w_fi w1 (n_v vs 0) 81) (w_ei w1 (w_ar ws (n_v vs 0) 90)) (w_ei ws (w_ar ws (n_v vs 0) 90)) k5 k8 k9 f0 f14 fe_0_79_1 fe_0_80_1 fe_0_81_1 hE_0_83_1 hE_0_84_1 hE_0_85_1 hE_0_86_1 hE_0_87_1 hE_0_88_1 hE_0_89_1 hE_0_90_1 kz_0_79 kz_0_80 kz_0_81
  refine ⟨(fun _ h => (by cases h)), [], trivial, ?_, (fun _ h => (by cases h))⟩
  rw [List.append_nil]
  exact List.forall_mem_cons.mpr ⟨⟨show (20 : Nat) < 100 from by decide, nf0⟩, (fun _ h => (by cases h))⟩
set_option maxHeartbeats 4000000 in
theorem vc_Mo_up_3_0 (x5 : Int) (x6 : Int) (x7 : Int) (pointMany_0 : Int) (costA_0 : Int → Int) (costB_0 : Int → Int) (costW_0 : Int → Int) (costPlain_0 : Int → Int) (apartA_0 : Int → Int) (apartB_0 : Int → Int) (apart_0 : Int → Int) (costMany_0 : Int) (apartMany_0 : Int) (flow_0 : Int → Int) (goes_0 : Int → Int) (spot_0 : Int → Int) (k5 : 0 ≤ x5 ∧ x5 ≤ 76) (k6 : 0 ≤ x6 ∧ x6 ≤ 76) (k7 : 0 ≤ x7 ∧ x7 ≤ 0) (d0 : x6 + 0 ≤ x5 ∧ x5 ≤ x6 + 4294967296) (g1 : x6 = pointMany_0) (f5 : PBK (pointMany_0) (costMany_0) (apartMany_0) (costA_0) (costB_0) (costW_0) (costPlain_0) (apartA_0) (apartB_0) (apart_0)) (f6 : UZN (pointMany_0) (flow_0)) (f7 : UZG (goes_0) (x5)) (kz_0_79 : 0 ≤ pointMany_0 ∧ pointMany_0 ≤ 76) (kz_0_80 : 0 ≤ costMany_0 ∧ costMany_0 ≤ 200) (kz_0_81 : 0 ≤ apartMany_0 ∧ apartMany_0 ≤ 200) : UPC (pointMany_0) (costMany_0) (apartMany_0) (flow_0) (goes_0) (spot_0) (costA_0) (costB_0) (costW_0) (costPlain_0) (apartA_0) (apartB_0) (apart_0) (x7) := by
  first
    | exact upc_start ‹PBK _ _ _ _ _ _ _ _ _ _› ‹UZN _ _› (Int.le_refl _) ‹UZG _ _›.1 (by omega) (by omega)
    | exact upc_goP1 (a := x8) (b := x10) (w := x17) (w2 := x20) (pl := x12) (o1 := x15) (o2 := x19) ‹UPC _ _ _ _ _ _ _ _ _ _ _ _ _ _› (by omega) (by omega) (by assumption) (by assumption) (by assumption) (by assumption) (by assumption) (by assumption) (by omega) (by assumption) (by assumption) (by assumption) (by assumption) (by assumption) (by assumption)
    | exact upc_goP2 (a := x8) (b := x10) (w := x20) (w2 := x23) (ya := x14) (yb := x15) (o1 := x18) (o2 := x22) ‹UPC _ _ _ _ _ _ _ _ _ _ _ _ _ _› (by omega) (by omega) (by assumption) (by assumption) (by assumption) (by assumption) (by assumption) (by assumption) (by assumption) (by omega) (by assumption) (by assumption) (by assumption) (by assumption) (by assumption) (by assumption)
    | exact upc_goM2 (a := x8) (b := x10) (w := x22) (w2 := x25) (pl := x12) (ya := x17) (yb := x18) (o1 := x20) (o2 := x24) ‹UPC _ _ _ _ _ _ _ _ _ _ _ _ _ _› (by omega) (by omega) (by assumption) (by assumption) (by assumption) (by assumption) (by assumption) (by assumption) (by omega) (by assumption) (by assumption) (by omega) (by assumption) (by assumption) (by assumption) (by assumption) (by assumption) (by assumption)
    | exact upc_tie3 (a := x8) (b := x10) (w := x24) (w2 := x29) (pl := x12) (ya := x14) (yb := x15) (ya2 := x17) (yb2 := x18) (q1 := x21) (q2 := x27) (r1 := x20) (r2 := x26) (o1 := x22) (o2 := x28) ‹UPC _ _ _ _ _ _ _ _ _ _ _ _ _ _› (by omega) (by omega) (by assumption) (by omega) (by assumption) (by assumption) (by assumption) (by assumption) (by assumption) (by omega) (by assumption) (by assumption) (by omega) (by assumption) (by assumption) (by omega) (by assumption) (by assumption) (by assumption) (by assumption) (by assumption) (by assumption) (by assumption) (by assumption) (by assumption) (by assumption)
  
set_option maxHeartbeats 4000000 in
theorem vc_Mo_up_3_1 (x7 : Int) (costMany_0 : Int) (k7 : 0 ≤ x7 ∧ x7 ≤ 0) (kz_0_80 : 0 ≤ costMany_0 ∧ costMany_0 ≤ 200) : x7 ≤ costMany_0 := by
  omega
def o_Mo_up_3 : or_T := (73, 8, [(0, (2, 0, 0, [165])), (5, (0, 0, 76, [])), (6, (0, 0, 76, [])), (7, (0, 0, 0, []))], [(9, [6, 1], [79]), (20, [1], [60, 3, 7, 395, 79, 80, 81, 83, 84, 85, 86, 87, 88, 89]), (20, [1], [60, 1, 1, 410, 79, 90]), (20, [1, 5], [60, 0, 1, 411, 93]), (24, [0, 1], [])], [], [], [(20, [1, 7], [60, 3, 10, 413, 79, 80, 81, 90, 93, 82, 83, 84, 85, 86, 87, 88, 89]), (20, [7, 1], [50, 1, 0, 1080, 0, 2, 1, 0, 2, 1, 80])], [], [(5, 6, 0, 4294967296)])
theorem oo_Mo_up_3 {kA : Nat → ClassId} : or_ok PRD kA GG o_Mo_up_3 := by
  refine or_mk fun A ta ws vs hD hth hl => ?_
  intro t0 r0 t5 k5 t6 k6 t7 k7 d0 f1 f5 f6 f7 f8
  replace f1 := shm_1124 f1
  replace f5 := shm_1125 f5
  replace f6 := shm_1127 f6
  replace f7 := shm_1128 f7
  replace f8 := shm_5 f8
  have q1 : n_v vs 1 = n_v vs 0 := f8.symm
  simp only [q1] at f1 f5 f6 f7
  have g1 : v_iv (n_v vs 6) = w_fi ws (n_v vs 0) 79 := congrArg v_iv f1
  have kz_0_79 := fdq_146 hD hth r0
  have kz_0_80 := fdq_130 hD hth r0
  have kz_0_81 := fdq_123 hD hth r0
  have nf0 : fc_1 PRD (20, [1, 7], [60, 3, 10, 413, 79, 80, 81, 90, 93, 82, 83, 84, 85, 86, 87, 88, 89]) ws (vs) := by
    refine ⟨nf_in hl rfl, sgq_1129 ?_⟩
    · show UPC (w_fi ws (n_v vs 1) 79) (w_fi ws (n_v vs 1) 80) (w_fi ws (n_v vs 1) 81) (w_ei ws (w_ar ws (n_v vs 1) 90)) (w_ei ws (w_ar ws (n_v vs 1) 93)) (w_ei ws (w_ar ws (n_v vs 1) 82)) (w_ei ws (w_ar ws (n_v vs 1) 83)) (w_ei ws (w_ar ws (n_v vs 1) 84)) (w_ei ws (w_ar ws (n_v vs 1) 85)) (w_ei ws (w_ar ws (n_v vs 1) 86)) (w_ei ws (w_ar ws (n_v vs 1) 87)) (w_ei ws (w_ar ws (n_v vs 1) 88)) (w_ei ws (w_ar ws (n_v vs 1) 89)) (v_iv (n_v vs 7))
      rw [q1]
      exact vc_Mo_up_3_0 (v_iv (n_v vs 5)) (v_iv (n_v vs 6)) (v_iv (n_v vs 7)) (w_fi ws (n_v vs 0) 79) (w_ei ws (w_ar ws (n_v vs 0) 83)) (w_ei ws (w_ar ws (n_v vs 0) 84)) (w_ei ws (w_ar ws (n_v vs 0) 85)) (w_ei ws (w_ar ws (n_v vs 0) 86)) (w_ei ws (w_ar ws (n_v vs 0) 87)) (w_ei ws (w_ar ws (n_v vs 0) 88)) (w_ei ws (w_ar ws (n_v vs 0) 89)) (w_fi ws (n_v vs 0) 80) (w_fi ws (n_v vs 0) 81) (w_ei ws (w_ar ws (n_v vs 0) 90)) (w_ei ws (w_ar ws (n_v vs 0) 93)) (w_ei ws (w_ar ws (n_v vs 0) 82)) k5 k6 k7 d0 g1 f5 f6 f7 kz_0_79 kz_0_80 kz_0_81
  have nf1 : fc_1 PRD (20, [7, 1], [50, 1, 0, 1080, 0, 2, 1, 0, 2, 1, 80]) ws (vs) := by
    refine ⟨nf_in hl rfl, sgq_1130 ?_⟩
    · show v_iv (n_v vs 7) ≤ w_fi ws (n_v vs 1) 80
      rw [q1]
      exact vc_Mo_up_3_1 (v_iv (n_v vs 7)) (w_fi ws (n_v vs 0) 80) k7 kz_0_80
  refine ⟨(fun _ h => (by cases h)), [], trivial, ?_, (fun _ h => (by cases h))⟩
  rw [List.append_nil]
  exact List.forall_mem_cons.mpr ⟨⟨show (20 : Nat) < 100 from by decide, nf0⟩, List.forall_mem_cons.mpr ⟨⟨show (20 : Nat) < 100 from by decide, nf1⟩, (fun _ h => (by cases h))⟩⟩
set_option maxHeartbeats 4000000 in
theorem vc_Mo_up_4_0 (x5 : Int) (x8 : Int) (x9 : Int) (pointMany_0 : Int) (costA_0 : Int → Int) (costB_0 : Int → Int) (costW_0 : Int → Int) (costPlain_0 : Int → Int) (apartA_0 : Int → Int) (apartB_0 : Int → Int) (apart_0 : Int → Int) (costMany_0 : Int) (apartMany_0 : Int) (flow_0 : Int → Int) (pointMany_1 : Int) (costA_1 : Int → Int) (costB_1 : Int → Int) (costW_1 : Int → Int) (costPlain_1 : Int → Int) (apartA_1 : Int → Int) (apartB_1 : Int → Int) (apart_1 : Int → Int) (costMany_1 : Int) (apartMany_1 : Int) (flow_1 : Int → Int) (goes_1 : Int → Int) (goes_0 : Int → Int) (k5 : 0 ≤ x5 ∧ x5 ≤ 75) (k8 : 0 ≤ x8 ∧ x8 ≤ 0) (k9 : 1 ≤ x9 ∧ x9 ≤ 76) (f0 : x9 = x5 + 1) (f16 : UZG (goes_1) (x5)) (fe_0_79_1 : pointMany_0 = pointMany_1) (fe_0_80_1 : costMany_0 = costMany_1) (fe_0_81_1 : apartMany_0 = apartMany_1) (hE_0_83_1 : ∀ j : Int, costA_0 j = costA_1 j) (hE_0_84_1 : ∀ j : Int, costB_0 j = costB_1 j) (hE_0_85_1 : ∀ j : Int, costW_0 j = costW_1 j) (hE_0_86_1 : ∀ j : Int, costPlain_0 j = costPlain_1 j) (hE_0_87_1 : ∀ j : Int, apartA_0 j = apartA_1 j) (hE_0_88_1 : ∀ j : Int, apartB_0 j = apartB_1 j) (hE_0_89_1 : ∀ j : Int, apart_0 j = apart_1 j) (hE_0_90_1 : ∀ j : Int, flow_0 j = flow_1 j) (hE_0_93_1 : ∀ j : Int, 0 ≤ j → (j = x5 → goes_0 j = x8) ∧ (j ≠ x5 → goes_0 j = goes_1 j)) (kz_0_79 : 0 ≤ pointMany_0 ∧ pointMany_0 ≤ 76) (kz_0_80 : 0 ≤ costMany_0 ∧ costMany_0 ≤ 200) (kz_0_81 : 0 ≤ apartMany_0 ∧ apartMany_0 ≤ 200) : UZG (goes_0) (x9) := by
  subst fe_0_79_1
  subst fe_0_80_1
  subst fe_0_81_1
  have e_hE_0_83_1 := funext hE_0_83_1; subst e_hE_0_83_1
  have e_hE_0_84_1 := funext hE_0_84_1; subst e_hE_0_84_1
  have e_hE_0_85_1 := funext hE_0_85_1; subst e_hE_0_85_1
  have e_hE_0_86_1 := funext hE_0_86_1; subst e_hE_0_86_1
  have e_hE_0_87_1 := funext hE_0_87_1; subst e_hE_0_87_1
  have e_hE_0_88_1 := funext hE_0_88_1; subst e_hE_0_88_1
  have e_hE_0_89_1 := funext hE_0_89_1; subst e_hE_0_89_1
  have e_hE_0_90_1 := funext hE_0_90_1; subst e_hE_0_90_1
  first
    | exact ⟨fun q a b => by exfalso; omega, trivial⟩
    | exact uzg_step ‹UZG _ _› (by assumption) (by assumption) rfl (by omega)
def o_Mo_up_4 : or_T := (47, 10, [(0, (2, 0, 0, [165])), (5, (0, 0, 75, [])), (7, (2, 0, 0, [230])), (8, (0, 0, 0, [])), (9, (0, 1, 76, []))], [(6, [9, 5], [1]), (24, [0, 1], []), (100, [7, 5, 8], []), (9, [7, 1], [93]), (20, [1, 5], [60, 0, 1, 411, 93])], [], [], [(20, [1, 9], [60, 0, 1, 411, 93])], [], [(9, 5, 1, 1), (5, 6, -4294967296, -1)])
theorem oo_Mo_up_4 {kA : Nat → ClassId} : or_ok PRD kA GG o_Mo_up_4 := by
  refine or_mk fun A ta ws vs hD hth hl => ?_
  intro t0 r0 t5 k5 t7 r7 t8 k8 t9 k9 d0 d2 f0 f6 ta1 w1 le1 s1 f8 f16
  replace f0 := shm_4 f0
  replace f6 := shm_5 f6
  have s1 : (∀ b j, w_el ws b j = if b = v_ad (n_v vs 7) ∧ j = (v_iv (n_v vs 5)).toNat then v_iv (n_v vs 8) else w_el w1 b j) ∧ ∀ b k, w_fd ws b k = w_fd w1 b k := s1.2
  replace f8 := shm_1131 f8
  replace f16 := shm_1128 f16
  have q1 : n_v vs 1 = n_v vs 0 := f6.symm
  simp only [q1] at f8 f16
  have ar_0_83_1 : w_ar w1 (n_v vs 0) 83 = w_ar ws (n_v vs 0) 83 := congrArg v_ad (s1.2 _ _).symm
  have cr_0_83 := fdq_125 hD hth r0
  have ar_0_84_1 : w_ar w1 (n_v vs 0) 84 = w_ar ws (n_v vs 0) 84 := congrArg v_ad (s1.2 _ _).symm
  have cr_0_84 := fdq_126 hD hth r0
  have ar_0_85_1 : w_ar w1 (n_v vs 0) 85 = w_ar ws (n_v vs 0) 85 := congrArg v_ad (s1.2 _ _).symm
  have cr_0_85 := fdq_127 hD hth r0
  have ar_0_86_1 : w_ar w1 (n_v vs 0) 86 = w_ar ws (n_v vs 0) 86 := congrArg v_ad (s1.2 _ _).symm
  have cr_0_86 := fdq_128 hD hth r0
  have ar_0_87_1 : w_ar w1 (n_v vs 0) 87 = w_ar ws (n_v vs 0) 87 := congrArg v_ad (s1.2 _ _).symm
  have cr_0_87 := fdq_118 hD hth r0
  have ar_0_88_1 : w_ar w1 (n_v vs 0) 88 = w_ar ws (n_v vs 0) 88 := congrArg v_ad (s1.2 _ _).symm
  have cr_0_88 := fdq_119 hD hth r0
  have ar_0_89_1 : w_ar w1 (n_v vs 0) 89 = w_ar ws (n_v vs 0) 89 := congrArg v_ad (s1.2 _ _).symm
  have cr_0_89 := fdq_120 hD hth r0
  have ar_0_90_1 : w_ar w1 (n_v vs 0) 90 = w_ar ws (n_v vs 0) 90 := congrArg v_ad (s1.2 _ _).symm
  have cr_0_90 := fdq_226 hD hth r0
  have ar_0_93_1 : w_ar w1 (n_v vs 0) 93 = w_ar ws (n_v vs 0) 93 := congrArg v_ad (s1.2 _ _).symm
  have ad_7 : v_ad (n_v vs 7) = w_ar ws (n_v vs 0) 93 := (congrArg v_ad f8).trans ar_0_93_1
  simp only [ar_0_83_1, ar_0_84_1, ar_0_85_1, ar_0_86_1, ar_0_87_1, ar_0_88_1, ar_0_89_1, ar_0_90_1, ar_0_93_1] at f16
  have fe_0_79_1 : w_fi ws (n_v vs 0) 79 = w_fi w1 (n_v vs 0) 79 := congrArg v_iv (s1.2 _ _)
  have fe_0_80_1 : w_fi ws (n_v vs 0) 80 = w_fi w1 (n_v vs 0) 80 := congrArg v_iv (s1.2 _ _)
  have fe_0_81_1 : w_fi ws (n_v vs 0) 81 = w_fi w1 (n_v vs 0) 81 := congrArg v_iv (s1.2 _ _)
  have hE_0_83_1 : ∀ j : Int, w_ei ws (w_ar ws (n_v vs 0) 83) j = w_ei w1 (w_ar ws (n_v vs 0) 83) j := el_kp s1.1 r7 cr_0_83 (by decide)
  have hE_0_84_1 : ∀ j : Int, w_ei ws (w_ar ws (n_v vs 0) 84) j = w_ei w1 (w_ar ws (n_v vs 0) 84) j := el_kp s1.1 r7 cr_0_84 (by decide)
  have hE_0_85_1 : ∀ j : Int, w_ei ws (w_ar ws (n_v vs 0) 85) j = w_ei w1 (w_ar ws (n_v vs 0) 85) j := el_kp s1.1 r7 cr_0_85 (by decide)
  have hE_0_86_1 : ∀ j : Int, w_ei ws (w_ar ws (n_v vs 0) 86) j = w_ei w1 (w_ar ws (n_v vs 0) 86) j := el_kp s1.1 r7 cr_0_86 (by decide)
  have hE_0_87_1 : ∀ j : Int, w_ei ws (w_ar ws (n_v vs 0) 87) j = w_ei w1 (w_ar ws (n_v vs 0) 87) j := el_kp s1.1 r7 cr_0_87 (by decide)
  have hE_0_88_1 : ∀ j : Int, w_ei ws (w_ar ws (n_v vs 0) 88) j = w_ei w1 (w_ar ws (n_v vs 0) 88) j := el_kp s1.1 r7 cr_0_88 (by decide)
  have hE_0_89_1 : ∀ j : Int, w_ei ws (w_ar ws (n_v vs 0) 89) j = w_ei w1 (w_ar ws (n_v vs 0) 89) j := el_kp s1.1 r7 cr_0_89 (by decide)
  have hE_0_90_1 : ∀ j : Int, w_ei ws (w_ar ws (n_v vs 0) 90) j = w_ei w1 (w_ar ws (n_v vs 0) 90) j := el_kp s1.1 r7 cr_0_90 (by decide)
  have hE_0_93_1 : ∀ j : Int, 0 ≤ j → (j = v_iv (n_v vs 5) → w_ei ws (w_ar ws (n_v vs 0) 93) j = v_iv (n_v vs 8)) ∧ (j ≠ v_iv (n_v vs 5) → w_ei ws (w_ar ws (n_v vs 0) 93) j = w_ei w1 (w_ar ws (n_v vs 0) 93) j) := fun j hj => ⟨fun h => by unfold w_ei; rw [s1.1, if_pos ⟨ad_7.symm, by rw [h]⟩], fun h => by unfold w_ei; rw [s1.1, if_neg (fun e => h (by have := e.2; omega))]⟩
  have kz_0_79 := fdq_146 hD hth r0
  have kz_0_80 := fdq_130 hD hth r0
  have kz_0_81 := fdq_123 hD hth r0
  have nf0 : fc_1 PRD (20, [1, 9], [60, 0, 1, 411, 93]) ws (vs) := by
    refine ⟨nf_in hl rfl, sgq_1128 ?_⟩
    · show UZG (w_ei ws (w_ar ws (n_v vs 1) 93)) (v_iv (n_v vs 9))
      rw [q1]
      exact vc_Mo_up_4_0 (v_iv (n_v vs 5)) (v_iv (n_v vs 8)) (v_iv (n_v vs 9)) (w_fi ws (n_v vs 0) 79) (w_ei ws (w_ar ws (n_v vs 0) 83)) (w_ei ws (w_ar ws (n_v vs 0) 84)) (w_ei ws (w_ar ws (n_v vs 0) 85)) (w_ei ws (w_ar ws (n_v vs 0) 86)) (w_ei ws (w_ar ws (n_v vs 0) 87)) (w_ei ws (w_ar ws (n_v vs 0) 88)) (w_ei ws (w_ar ws (n_v vs 0) 89)) (w_fi ws (n_v vs 0) 80) (w_fi ws (n_v vs 0) 81) (w_ei ws (w_ar ws (n_v vs 0) 90)) (w_fi w1 (n_v vs 0) 79) (w_ei w1 (w_ar ws (n_v vs 0) 83)) (w_ei w1 (w_ar ws (n_v vs 0) 84)) (w_ei w1 (w_ar ws (n_v vs 0) 85)) (w_ei w1 (w_ar ws (n_v vs 0) 86)) (w_ei w1 (w_ar ws (n_v vs 0) 87)) (w_ei w1 (w_ar ws (n_v vs 0) 88)) (w_ei w1 (w_ar ws (n_v vs 0) 89)) (w_fi w1 (n_v vs 0) 80) (w_fi w1 (n_v vs 0) 81) (w_ei w1 (w_ar ws (n_v vs 0) 90)) (w_ei w1 (w_ar ws (n_v vs 0) 93)) (w_ei ws (w_ar ws (n_v vs 0) 93)) k5 k8 k9 f0 f16 fe_0_79_1 fe_0_80_1 fe_0_81_1 hE_0_83_1 hE_0_84_1 hE_0_85_1 hE_0_86_1 hE_0_87_1 hE_0_88_1 hE_0_89_1 hE_0_90_1 hE_0_93_1 kz_0_79 kz_0_80 kz_0_81
  refine ⟨(fun _ h => (by cases h)), [], trivial, ?_, (fun _ h => (by cases h))⟩
  rw [List.append_nil]
  exact List.forall_mem_cons.mpr ⟨⟨show (20 : Nat) < 100 from by decide, nf0⟩, (fun _ h => (by cases h))⟩
set_option maxHeartbeats 4000000 in
theorem vc_Mo_up_5_0 (x5 : Int) (x6 : Int) (x7 : Int) (costMany_0 : Int) (pointMany_0 : Int) (flow_0 : Int → Int) (goes_0 : Int → Int) (spot_0 : Int → Int) (costA_0 : Int → Int) (costB_0 : Int → Int) (costW_0 : Int → Int) (costPlain_0 : Int → Int) (apartA_0 : Int → Int) (apartB_0 : Int → Int) (apart_0 : Int → Int) (apartMany_0 : Int) (k5 : 0 ≤ x5 ∧ x5 ≤ 200) (k6 : 0 ≤ x6 ∧ x6 ≤ 200) (k7 : 0 ≤ x7 ∧ x7 ≤ 0) (d0 : x6 + 0 ≤ x5 ∧ x5 ≤ x6 + 4294967296) (g1 : x6 = costMany_0) (f5 : UPC (pointMany_0) (costMany_0) (apartMany_0) (flow_0) (goes_0) (spot_0) (costA_0) (costB_0) (costW_0) (costPlain_0) (apartA_0) (apartB_0) (apart_0) (x5)) (f6 : x5 ≤ costMany_0) (kz_0_79 : 0 ≤ pointMany_0 ∧ pointMany_0 ≤ 76) (kz_0_80 : 0 ≤ costMany_0 ∧ costMany_0 ≤ 200) (kz_0_81 : 0 ≤ apartMany_0 ∧ apartMany_0 ≤ 200) : UPI (pointMany_0) (costMany_0) (apartMany_0) (flow_0) (goes_0) (spot_0) (costA_0) (costB_0) (costW_0) (costPlain_0) (apartA_0) (apartB_0) (apart_0) (x7) := by
  first
    | exact upi_start ‹UPC _ _ _ _ _ _ _ _ _ _ _ _ _ _› (by omega) (by omega) (by omega)
    | exact upi_step2 (gi := x8) (g2 := x12) ‹UPI _ _ _ _ _ _ _ _ _ _ _ _ _ _› (by omega) (by omega) (by assumption) (by omega) (by omega) (by omega) (by assumption) (by assumption) (Or.inr ⟨by omega, by assumption, by assumption, rfl⟩) (by assumption)
    | exact upi_step2 (gi := x8) (g2 := x12) (v := x13) ‹UPI _ _ _ _ _ _ _ _ _ _ _ _ _ _› (by omega) (by omega) (by assumption) (by omega) (by omega) (by omega) (by assumption) (by assumption) (Or.inl ⟨by omega, by assumption, by assumption, by omega⟩) (by assumption)
set_option maxHeartbeats 4000000 in
theorem vc_Mo_up_5_1 (x2 : Int) (x3 : Int) (x4 : Int) (x7 : Int) (pointMany_0 : Int) (k2 : 2 ≤ x2 ∧ x2 ≤ 78) (k3 : 0 ≤ x3 ∧ x3 ≤ 76) (k4 : 1 ≤ x4 ∧ x4 ≤ 77) (k7 : 0 ≤ x7 ∧ x7 ≤ 0) (d1 : x3 + (-4294967296) ≤ x2 ∧ x2 ≤ x3 + 2) (d2 : x4 + (-4294967296) ≤ x2 ∧ x2 ≤ x4 + 1) (d3 : x2 + (-4294967296) ≤ x3 ∧ x3 ≤ x2 + (-2)) (d4 : x4 + (-4294967296) ≤ x3 ∧ x3 ≤ x4 + (-1)) (d5 : x2 + (-4294967296) ≤ x4 ∧ x4 ≤ x2 + (-1)) (f2 : x2 = (pointMany_0 + 2)) (kz_0_79 : 0 ≤ pointMany_0 ∧ pointMany_0 ≤ 76) : x7 ≤ pointMany_0 := by
  omega
def o_Mo_up_5 : or_T := (283, 8, [(0, (2, 0, 0, [165])), (2, (0, 2, 78, [])), (3, (0, 0, 76, [])), (4, (0, 1, 77, [])), (5, (0, 0, 200, [])), (6, (0, 0, 200, [])), (7, (0, 0, 0, []))], [(9, [6, 1], [80]), (20, [2, 1], [50, 1, 0, 1079, 1, 2, 1, 0, 4, 3, 2, 1, 79, 0, 2]), (20, [1, 5], [60, 3, 10, 413, 79, 80, 81, 90, 93, 82, 83, 84, 85, 86, 87, 88, 89]), (20, [5, 1], [50, 1, 0, 1080, 0, 2, 1, 0, 2, 1, 80]), (24, [0, 1], [])], [], [], [(20, [1, 7], [60, 3, 10, 414, 79, 80, 81, 90, 93, 82, 83, 84, 85, 86, 87, 88, 89]), (20, [7, 1], [50, 1, 0, 1079, 0, 2, 1, 0, 2, 1, 79])], [], [(5, 6, 0, 4294967296), (2, 3, -4294967296, 2), (2, 4, -4294967296, 1), (3, 2, -4294967296, -2), (3, 4, -4294967296, -1), (4, 2, -4294967296, -1)])
theorem oo_Mo_up_5 {kA : Nat → ClassId} : or_ok PRD kA GG o_Mo_up_5 := by
  refine or_mk fun A ta ws vs hD hth hl => ?_
  intro t0 r0 t2 k2 t3 k3 t4 k4 t5 k5 t6 k6 t7 k7 d0 d1 d2 d3 d4 d5 f1 f2 f5 f6 f7
  replace f1 := shm_547 f1
  replace f2 := shm_914 f2
  replace f5 := shm_1129 f5
  replace f6 := shm_1130 f6
  replace f7 := shm_5 f7
  have q1 : n_v vs 1 = n_v vs 0 := f7.symm
  simp only [q1] at f1 f2 f5 f6
  have g1 : v_iv (n_v vs 6) = w_fi ws (n_v vs 0) 80 := congrArg v_iv f1
  have kz_0_79 := fdq_146 hD hth r0
  have kz_0_80 := fdq_130 hD hth r0
  have kz_0_81 := fdq_123 hD hth r0
  have nf0 : fc_1 PRD (20, [1, 7], [60, 3, 10, 414, 79, 80, 81, 90, 93, 82, 83, 84, 85, 86, 87, 88, 89]) ws (vs) := by
    refine ⟨nf_in hl rfl, sgq_1132 ?_⟩
    · show UPI (w_fi ws (n_v vs 1) 79) (w_fi ws (n_v vs 1) 80) (w_fi ws (n_v vs 1) 81) (w_ei ws (w_ar ws (n_v vs 1) 90)) (w_ei ws (w_ar ws (n_v vs 1) 93)) (w_ei ws (w_ar ws (n_v vs 1) 82)) (w_ei ws (w_ar ws (n_v vs 1) 83)) (w_ei ws (w_ar ws (n_v vs 1) 84)) (w_ei ws (w_ar ws (n_v vs 1) 85)) (w_ei ws (w_ar ws (n_v vs 1) 86)) (w_ei ws (w_ar ws (n_v vs 1) 87)) (w_ei ws (w_ar ws (n_v vs 1) 88)) (w_ei ws (w_ar ws (n_v vs 1) 89)) (v_iv (n_v vs 7))
      rw [q1]
      exact vc_Mo_up_5_0 (v_iv (n_v vs 5)) (v_iv (n_v vs 6)) (v_iv (n_v vs 7)) (w_fi ws (n_v vs 0) 80) (w_fi ws (n_v vs 0) 79) (w_ei ws (w_ar ws (n_v vs 0) 90)) (w_ei ws (w_ar ws (n_v vs 0) 93)) (w_ei ws (w_ar ws (n_v vs 0) 82)) (w_ei ws (w_ar ws (n_v vs 0) 83)) (w_ei ws (w_ar ws (n_v vs 0) 84)) (w_ei ws (w_ar ws (n_v vs 0) 85)) (w_ei ws (w_ar ws (n_v vs 0) 86)) (w_ei ws (w_ar ws (n_v vs 0) 87)) (w_ei ws (w_ar ws (n_v vs 0) 88)) (w_ei ws (w_ar ws (n_v vs 0) 89)) (w_fi ws (n_v vs 0) 81) k5 k6 k7 d0 g1 f5 f6 kz_0_79 kz_0_80 kz_0_81
  have nf1 : fc_1 PRD (20, [7, 1], [50, 1, 0, 1079, 0, 2, 1, 0, 2, 1, 79]) ws (vs) := by
    refine ⟨nf_in hl rfl, sgq_1133 ?_⟩
    · show v_iv (n_v vs 7) ≤ w_fi ws (n_v vs 1) 79
      rw [q1]
      exact vc_Mo_up_5_1 (v_iv (n_v vs 2)) (v_iv (n_v vs 3)) (v_iv (n_v vs 4)) (v_iv (n_v vs 7)) (w_fi ws (n_v vs 0) 79) k2 k3 k4 k7 d1 d2 d3 d4 d5 f2 kz_0_79
  refine ⟨(fun _ h => (by cases h)), [], trivial, ?_, (fun _ h => (by cases h))⟩
  rw [List.append_nil]
  exact List.forall_mem_cons.mpr ⟨⟨show (20 : Nat) < 100 from by decide, nf0⟩, List.forall_mem_cons.mpr ⟨⟨show (20 : Nat) < 100 from by decide, nf1⟩, (fun _ h => (by cases h))⟩⟩
set_option maxHeartbeats 4000000 in
theorem vc_Mo_up_6_r0 (x5 : Int) (x6 : Int) (x8 : Int) (x15 : Int) (x17 : Int) (x18 : Int) (costW_0 : Int → Int) (goes_0 : Int → Int) (costPlain_0 : Int → Int) (costB_0 : Int → Int) (costA_0 : Int → Int) (costMany_0 : Int) (pointMany_0 : Int) (flow_0 : Int → Int) (spot_0 : Int → Int) (apartA_0 : Int → Int) (apartB_0 : Int → Int) (apart_0 : Int → Int) (apartMany_0 : Int) (k5 : 0 ≤ x5 ∧ x5 ≤ 199) (k6 : 1 ≤ x6 ∧ x6 ≤ 200) (k8 : 0 ≤ x8 ∧ x8 ≤ 75) (k15 : (-14400) ≤ x15 ∧ x15 ≤ 14400) (k17 : 0 ≤ x17 ∧ x17 ≤ 72) (k18 : (-14472) ≤ x18 ∧ x18 ≤ 14400) (d1 : x6 + (-4294967296) ≤ x5 ∧ x5 ≤ x6 + (-1)) (f0 : x18 = x15 - x17) (h1 : x17 = costW_0 (x5)) (h3 : x15 = goes_0 (x8)) (h10 : x8 = costA_0 (x5)) (g13 : x6 = costMany_0) (f17 : UPC (pointMany_0) (costMany_0) (apartMany_0) (flow_0) (goes_0) (spot_0) (costA_0) (costB_0) (costW_0) (costPlain_0) (apartA_0) (apartB_0) (apart_0) (x5)) (kz_0_79 : 0 ≤ pointMany_0 ∧ pointMany_0 ≤ 76) (kz_0_80 : 0 ≤ costMany_0 ∧ costMany_0 ≤ 200) (kz_0_81 : 0 ≤ apartMany_0 ∧ apartMany_0 ≤ 200) : (-14400) ≤ x18 ∧ x18 ≤ 14400 := by
  have h := upc_v1 (a := x8) ‹UPC _ _ _ _ _ _ _ _ _ _ _ _ _ _› (by omega) (by omega) (Or.inl (by assumption)) (by assumption) (by assumption)
  omega
def o_Mo_up_6 : or_T := (155, 19, [(0, (2, 0, 0, [165])), (1, (2, 0, 0, [165])), (2, (0, 2, 78, [])), (3, (0, 0, 76, [])), (4, (0, 1, 77, [])), (5, (0, 0, 199, [])), (6, (0, 1, 200, [])), (7, (2, 0, 0, [220])), (8, (0, 0, 75, [])), (9, (2, 0, 0, [221])), (10, (0, 0, 75, [])), (11, (2, 0, 0, [223])), (12, (0, 1, 1, [])), (14, (2, 0, 0, [230])), (15, (0, -14400, 14400, [])), (16, (2, 0, 0, [222])), (17, (0, 0, 72, [])), (18, (0, -14472, 14400, []))], [(2, [18, 15, 17], []), (10, [17, 16, 5], []), (9, [16, 1], [85]), (10, [15, 14, 8], []), (9, [14, 1], [93]), (8, [12], [1]), (10, [12, 11, 5], []), (9, [11, 1], [86]), (10, [10, 9, 5], []), (9, [9, 1], [84]), (10, [8, 7, 5], []), (9, [7, 1], [83]), (7, [5, 6], [2]), (9, [6, 1], [80]), (20, [2, 1], [50, 1, 0, 1079, 1, 2, 1, 0, 4, 3, 2, 1, 79, 0, 2]), (20, [3, 1], [50, 1, 0, 1079, 1, 2, 1, 0, 2, 1, 79]), (20, [4, 1], [50, 1, 0, 1079, 1, 2, 1, 0, 4, 3, 2, 1, 79, 0, 1]), (20, [1, 5], [60, 3, 10, 413, 79, 80, 81, 90, 93, 82, 83, 84, 85, 86, 87, 88, 89]), (20, [5, 1], [50, 1, 0, 1080, 0, 2, 1, 0, 2, 1, 80]), (24, [0, 1], [])], [(18, (0, -14400, 14400, []))], [], [], [], [(18, 15, -72, 0), (5, 6, -4294967296, -1), (2, 3, -4294967296, 2), (2, 4, -4294967296, 1), (3, 2, -4294967296, -2), (3, 4, -4294967296, -1), (4, 2, -4294967296, -1), (4, 3, -4294967296, 1)])
theorem oo_Mo_up_6 {kA : Nat → ClassId} : or_ok PRD kA GG o_Mo_up_6 := by
  refine or_mk fun A ta ws vs hD hth hl => ?_
  intro t0 r0 t1 r1 t2 k2 t3 k3 t4 k4 t5 k5 t6 k6 t7 r7 t8 k8 t9 r9 t10 k10 t11 r11 t12 k12 t14 r14 t15 k15 t16 r16 t17 k17 t18 k18 d0 d1 d2 d3 d4 d5 d6 d7 f0 f1 f2 f3 f4 f5 f6 f7 f8 f9 f10 f11 f12 f13 f14 f15 f16 f17 f18 f19
  replace f1 := shm_106 f1
  replace f2 := shm_553 f2
  replace f3 := shm_106 f3
  replace f4 := shm_1131 f4
  replace f10 := shm_106 f10
  replace f11 := shm_548 f11
  replace f13 := shm_547 f13
  replace f17 := shm_1129 f17
  replace f19 := shm_5 f19
  have q1 : n_v vs 1 = n_v vs 0 := f19.symm
  simp only [q1] at f2 f4 f11 f13 f17
  have ad_16 : v_ad (n_v vs 16) = w_ar ws (n_v vs 0) 85 := congrArg v_ad f2
  have ad_14 : v_ad (n_v vs 14) = w_ar ws (n_v vs 0) 93 := congrArg v_ad f4
  have ad_7 : v_ad (n_v vs 7) = w_ar ws (n_v vs 0) 83 := congrArg v_ad f11
  simp only [ad_16] at f1
  have h1 : v_iv (n_v vs 17) = w_ei ws (w_ar ws (n_v vs 0) 85) (v_iv (n_v vs 5)) := f1
  simp only [ad_14] at f3
  have h3 : v_iv (n_v vs 15) = w_ei ws (w_ar ws (n_v vs 0) 93) (v_iv (n_v vs 8)) := f3
  simp only [ad_7] at f10
  have h10 : v_iv (n_v vs 8) = w_ei ws (w_ar ws (n_v vs 0) 83) (v_iv (n_v vs 5)) := f10
  have g13 : v_iv (n_v vs 6) = w_fi ws (n_v vs 0) 80 := congrArg v_iv f13
  have kz_0_79 := fdq_146 hD hth r0
  have kz_0_80 := fdq_130 hD hth r0
  have kz_0_81 := fdq_123 hD hth r0
  have hrf0 : (-14400) ≤ v_iv (n_v vs 18) ∧ v_iv (n_v vs 18) ≤ 14400 := vc_Mo_up_6_r0 (v_iv (n_v vs 5)) (v_iv (n_v vs 6)) (v_iv (n_v vs 8)) (v_iv (n_v vs 15)) (v_iv (n_v vs 17)) (v_iv (n_v vs 18)) (w_ei ws (w_ar ws (n_v vs 0) 85)) (w_ei ws (w_ar ws (n_v vs 0) 93)) (w_ei ws (w_ar ws (n_v vs 0) 86)) (w_ei ws (w_ar ws (n_v vs 0) 84)) (w_ei ws (w_ar ws (n_v vs 0) 83)) (w_fi ws (n_v vs 0) 80) (w_fi ws (n_v vs 0) 79) (w_ei ws (w_ar ws (n_v vs 0) 90)) (w_ei ws (w_ar ws (n_v vs 0) 82)) (w_ei ws (w_ar ws (n_v vs 0) 87)) (w_ei ws (w_ar ws (n_v vs 0) 88)) (w_ei ws (w_ar ws (n_v vs 0) 89)) (w_fi ws (n_v vs 0) 81) k5 k6 k8 k15 k17 k18 d1 (shm_14 f0) h1 h3 h10 g13 f17 kz_0_79 kz_0_80 kz_0_81
  have rf18 : tv_ok ta (0, -14400, 14400, []) (n_v vs 18) := tv_in t18 (by first | omega | grind) (by first | omega | grind)
  refine ⟨List.forall_mem_cons.mpr ⟨rf18, (fun _ h => (by cases h))⟩, [], trivial, ?_, (fun _ h => (by cases h))⟩
  rw [List.append_nil]
  exact (fun _ h => (by cases h))
set_option maxHeartbeats 4000000 in
theorem vc_Mo_up_7_r0 (x5 : Int) (x6 : Int) (x8 : Int) (x10 : Int) (x15 : Int) (x17 : Int) (x18 : Int) (x19 : Int) (x20 : Int) (x21 : Int) (costW_0 : Int → Int) (goes_0 : Int → Int) (pointMany_0 : Int) (costMany_0 : Int) (costW_1 : Int → Int) (goes_1 : Int → Int) (costPlain_1 : Int → Int) (costB_1 : Int → Int) (costA_1 : Int → Int) (costMany_1 : Int) (pointMany_1 : Int) (flow_1 : Int → Int) (spot_1 : Int → Int) (apartA_1 : Int → Int) (apartB_1 : Int → Int) (apart_1 : Int → Int) (apartMany_1 : Int) (apartMany_0 : Int) (spot_0 : Int → Int) (costA_0 : Int → Int) (costB_0 : Int → Int) (costPlain_0 : Int → Int) (apartA_0 : Int → Int) (apartB_0 : Int → Int) (apart_0 : Int → Int) (flow_0 : Int → Int) (k5 : 0 ≤ x5 ∧ x5 ≤ 199) (k6 : 1 ≤ x6 ∧ x6 ≤ 200) (k8 : 0 ≤ x8 ∧ x8 ≤ 75) (k10 : 0 ≤ x10 ∧ x10 ≤ 75) (k15 : (-14400) ≤ x15 ∧ x15 ≤ 14400) (k17 : 0 ≤ x17 ∧ x17 ≤ 72) (k18 : (-14400) ≤ x18 ∧ x18 ≤ 14400) (k19 : (-14400) ≤ x19 ∧ x19 ≤ 14400) (k20 : 0 ≤ x20 ∧ x20 ≤ 72) (k21 : (-14400) ≤ x21 ∧ x21 ≤ 14472) (d3 : x6 + (-4294967296) ≤ x5 ∧ x5 ≤ x6 + (-1)) (f0 : x21 = x19 + x20) (h1 : x20 = costW_0 (x5)) (h3 : x19 = goes_0 (x10)) (f11 : x18 = x15 - x17) (h12 : x17 = costW_1 (x5)) (h13 : x15 = goes_1 (x8)) (h17 : x10 = costB_1 (x5)) (h19 : x8 = costA_1 (x5)) (g22 : x6 = costMany_1) (f26 : UPC (pointMany_1) (costMany_1) (apartMany_1) (flow_1) (goes_1) (spot_1) (costA_1) (costB_1) (costW_1) (costPlain_1) (apartA_1) (apartB_1) (apart_1) (x5)) (fe_0_79_1 : pointMany_0 = pointMany_1) (fe_0_80_1 : costMany_0 = costMany_1) (fe_0_81_1 : apartMany_0 = apartMany_1) (hE_0_82_1 : ∀ j : Int, spot_0 j = spot_1 j) (hE_0_83_1 : ∀ j : Int, costA_0 j = costA_1 j) (hE_0_84_1 : ∀ j : Int, costB_0 j = costB_1 j) (hE_0_85_1 : ∀ j : Int, costW_0 j = costW_1 j) (hE_0_86_1 : ∀ j : Int, costPlain_0 j = costPlain_1 j) (hE_0_87_1 : ∀ j : Int, apartA_0 j = apartA_1 j) (hE_0_88_1 : ∀ j : Int, apartB_0 j = apartB_1 j) (hE_0_89_1 : ∀ j : Int, apart_0 j = apart_1 j) (hE_0_90_1 : ∀ j : Int, flow_0 j = flow_1 j) (hE_0_93_1 : ∀ j : Int, 0 ≤ j → (j = x8 → goes_0 j = x18) ∧ (j ≠ x8 → goes_0 j = goes_1 j)) (kz_0_79 : 0 ≤ pointMany_0 ∧ pointMany_0 ≤ 76) (kz_0_80 : 0 ≤ costMany_0 ∧ costMany_0 ≤ 200) (kz_0_81 : 0 ≤ apartMany_0 ∧ apartMany_0 ≤ 200) : (-14400) ≤ x21 ∧ x21 ≤ 14400 := by
  subst fe_0_79_1
  subst fe_0_80_1
  subst fe_0_81_1
  have e_hE_0_82_1 := funext hE_0_82_1; subst e_hE_0_82_1
  have e_hE_0_83_1 := funext hE_0_83_1; subst e_hE_0_83_1
  have e_hE_0_84_1 := funext hE_0_84_1; subst e_hE_0_84_1
  have e_hE_0_85_1 := funext hE_0_85_1; subst e_hE_0_85_1
  have e_hE_0_86_1 := funext hE_0_86_1; subst e_hE_0_86_1
  have e_hE_0_87_1 := funext hE_0_87_1; subst e_hE_0_87_1
  have e_hE_0_88_1 := funext hE_0_88_1; subst e_hE_0_88_1
  have e_hE_0_89_1 := funext hE_0_89_1; subst e_hE_0_89_1
  have e_hE_0_90_1 := funext hE_0_90_1; subst e_hE_0_90_1
  first
    | (have h := upc_v2 (a := x8) (b := x10) (w := x17) (w2 := x20) (o := x15) (o2 := x19) (v1 := x18) 1 ‹UPC _ _ _ _ _ _ _ _ _ _ _ _ _ _› (by omega) (by omega) (by assumption) (by assumption) (by assumption) (by assumption) (by assumption) (Or.inl rfl) (by omega) (by assumption) (by assumption); omega)
    | (have h := upc_v2 (a := x8) (b := x10) (w := x20) (w2 := x23) (o := x18) (o2 := x22) (v1 := x21) 1 ‹UPC _ _ _ _ _ _ _ _ _ _ _ _ _ _› (by omega) (by omega) (by assumption) (by assumption) (by assumption) (by assumption) (by assumption) (Or.inl rfl) (by omega) (by assumption) (by assumption); omega)
def o_Mo_up_7 : or_T := (172, 22, [(0, (2, 0, 0, [165])), (1, (2, 0, 0, [165])), (2, (0, 2, 78, [])), (3, (0, 0, 76, [])), (4, (0, 1, 77, [])), (5, (0, 0, 199, [])), (6, (0, 1, 200, [])), (7, (2, 0, 0, [220])), (8, (0, 0, 75, [])), (9, (2, 0, 0, [221])), (10, (0, 0, 75, [])), (11, (2, 0, 0, [223])), (12, (0, 1, 1, [])), (14, (2, 0, 0, [230])), (15, (0, -14400, 14400, [])), (16, (2, 0, 0, [222])), (17, (0, 0, 72, [])), (18, (0, -14400, 14400, [])), (19, (0, -14400, 14400, [])), (20, (0, 0, 72, [])), (21, (0, -14400, 14472, []))], [(1, [21, 19, 20], []), (10, [20, 16, 5], []), (9, [16, 1], [85]), (10, [19, 14, 10], []), (9, [14, 1], [93]), (20, [2, 1], [50, 1, 0, 1079, 1, 2, 1, 0, 4, 3, 2, 1, 79, 0, 2]), (20, [3, 1], [50, 1, 0, 1079, 1, 2, 1, 0, 2, 1, 79]), (20, [4, 1], [50, 1, 0, 1079, 1, 2, 1, 0, 4, 3, 2, 1, 79, 0, 1]), (20, [5, 1], [50, 1, 0, 1080, 0, 2, 1, 0, 2, 1, 80]), (24, [0, 1], []), (100, [14, 8, 18], []), (2, [18, 15, 17], []), (10, [17, 16, 5], []), (10, [15, 14, 8], []), (8, [12], [1]), (10, [12, 11, 5], []), (9, [11, 1], [86]), (10, [10, 9, 5], []), (9, [9, 1], [84]), (10, [8, 7, 5], []), (9, [7, 1], [83]), (7, [5, 6], [2]), (9, [6, 1], [80]), (20, [2, 1], [50, 1, 0, 1079, 1, 2, 1, 0, 4, 3, 2, 1, 79, 0, 2]), (20, [3, 1], [50, 1, 0, 1079, 1, 2, 1, 0, 2, 1, 79]), (20, [4, 1], [50, 1, 0, 1079, 1, 2, 1, 0, 4, 3, 2, 1, 79, 0, 1]), (20, [1, 5], [60, 3, 10, 413, 79, 80, 81, 90, 93, 82, 83, 84, 85, 86, 87, 88, 89]), (20, [5, 1], [50, 1, 0, 1080, 0, 2, 1, 0, 2, 1, 80])], [(21, (0, -14400, 14400, []))], [], [], [], [(21, 20, -14400, 14400), (21, 19, 0, 72), (18, 15, -72, 0), (5, 6, -4294967296, -1), (2, 3, -4294967296, 2), (2, 4, -4294967296, 1), (3, 2, -4294967296, -2), (3, 4, -4294967296, -1), (4, 2, -4294967296, -1), (4, 3, -4294967296, 1)])
theorem oo_Mo_up_7 {kA : Nat → ClassId} : or_ok PRD kA GG o_Mo_up_7 := by
  refine or_mk fun A ta ws vs hD hth hl => ?_
  intro t0 r0 t1 r1 t2 k2 t3 k3 t4 k4 t5 k5 t6 k6 t7 r7 t8 k8 t9 r9 t10 k10 t11 r11 t12 k12 t14 r14 t15 k15 t16 r16 t17 k17 t18 k18 t19 k19 t20 k20 t21 k21 d0 d1 d2 d3 d4 d5 d6 d7 d8 d9 f0 f1 f2 f3 f4 f5 f6 f7 f8 f9 ta1 w1 le1 s1 f11 f12 f13 f14 f15 f16 f17 f18 f19 f20 f21 f22 f23 f24 f25 f26 f27
  replace f1 := shm_106 f1
  replace f2 := shm_553 f2
  replace f3 := shm_106 f3
  replace f4 := shm_1131 f4
  replace f9 := shm_5 f9
  have s1 : (∀ b j, w_el ws b j = if b = v_ad (n_v vs 14) ∧ j = (v_iv (n_v vs 8)).toNat then v_iv (n_v vs 18) else w_el w1 b j) ∧ ∀ b k, w_fd ws b k = w_fd w1 b k := s1.2
  replace f12 := shm_106 f12
  replace f13 := shm_106 f13
  replace f17 := shm_106 f17
  replace f18 := shm_554 f18
  replace f19 := shm_106 f19
  replace f20 := shm_548 f20
  replace f22 := shm_547 f22
  replace f26 := shm_1129 f26
  have q1 : n_v vs 1 = n_v vs 0 := f9.symm
  simp only [q1] at f2 f4 f18 f20 f22 f26
  have ar_0_82_1 : w_ar w1 (n_v vs 0) 82 = w_ar ws (n_v vs 0) 82 := congrArg v_ad (s1.2 _ _).symm
  have cr_0_82 := fdq_225 hD hth r0
  have ar_0_83_1 : w_ar w1 (n_v vs 0) 83 = w_ar ws (n_v vs 0) 83 := congrArg v_ad (s1.2 _ _).symm
  have cr_0_83 := fdq_125 hD hth r0
  have ar_0_84_1 : w_ar w1 (n_v vs 0) 84 = w_ar ws (n_v vs 0) 84 := congrArg v_ad (s1.2 _ _).symm
  have cr_0_84 := fdq_126 hD hth r0
  have ar_0_85_1 : w_ar w1 (n_v vs 0) 85 = w_ar ws (n_v vs 0) 85 := congrArg v_ad (s1.2 _ _).symm
  have cr_0_85 := fdq_127 hD hth r0
  have ar_0_86_1 : w_ar w1 (n_v vs 0) 86 = w_ar ws (n_v vs 0) 86 := congrArg v_ad (s1.2 _ _).symm
  have cr_0_86 := fdq_128 hD hth r0
  have ar_0_87_1 : w_ar w1 (n_v vs 0) 87 = w_ar ws (n_v vs 0) 87 := congrArg v_ad (s1.2 _ _).symm
  have cr_0_87 := fdq_118 hD hth r0
  have ar_0_88_1 : w_ar w1 (n_v vs 0) 88 = w_ar ws (n_v vs 0) 88 := congrArg v_ad (s1.2 _ _).symm
  have cr_0_88 := fdq_119 hD hth r0
  have ar_0_89_1 : w_ar w1 (n_v vs 0) 89 = w_ar ws (n_v vs 0) 89 := congrArg v_ad (s1.2 _ _).symm
  have cr_0_89 := fdq_120 hD hth r0
  have ar_0_90_1 : w_ar w1 (n_v vs 0) 90 = w_ar ws (n_v vs 0) 90 := congrArg v_ad (s1.2 _ _).symm
  have cr_0_90 := fdq_226 hD hth r0
  have ar_0_93_1 : w_ar w1 (n_v vs 0) 93 = w_ar ws (n_v vs 0) 93 := congrArg v_ad (s1.2 _ _).symm
  have ad_16 : v_ad (n_v vs 16) = w_ar ws (n_v vs 0) 85 := congrArg v_ad f2
  have ad_14 : v_ad (n_v vs 14) = w_ar ws (n_v vs 0) 93 := congrArg v_ad f4
  have ad_9 : v_ad (n_v vs 9) = w_ar ws (n_v vs 0) 84 := (congrArg v_ad f18).trans ar_0_84_1
  have ad_7 : v_ad (n_v vs 7) = w_ar ws (n_v vs 0) 83 := (congrArg v_ad f20).trans ar_0_83_1
  simp only [ad_16] at f1
  have h1 : v_iv (n_v vs 20) = w_ei ws (w_ar ws (n_v vs 0) 85) (v_iv (n_v vs 5)) := f1
  simp only [ad_14] at f3
  have h3 : v_iv (n_v vs 19) = w_ei ws (w_ar ws (n_v vs 0) 93) (v_iv (n_v vs 10)) := f3
  simp only [ad_16] at f12
  have h12 : v_iv (n_v vs 17) = w_ei w1 (w_ar ws (n_v vs 0) 85) (v_iv (n_v vs 5)) := f12
  simp only [ad_14] at f13
  have h13 : v_iv (n_v vs 15) = w_ei w1 (w_ar ws (n_v vs 0) 93) (v_iv (n_v vs 8)) := f13
  simp only [ad_9] at f17
  have h17 : v_iv (n_v vs 10) = w_ei w1 (w_ar ws (n_v vs 0) 84) (v_iv (n_v vs 5)) := f17
  simp only [ad_7] at f19
  have h19 : v_iv (n_v vs 8) = w_ei w1 (w_ar ws (n_v vs 0) 83) (v_iv (n_v vs 5)) := f19
  have g22 : v_iv (n_v vs 6) = w_fi w1 (n_v vs 0) 80 := congrArg v_iv f22
  simp only [ar_0_82_1, ar_0_83_1, ar_0_84_1, ar_0_85_1, ar_0_86_1, ar_0_87_1, ar_0_88_1, ar_0_89_1, ar_0_90_1, ar_0_93_1] at f26
  have fe_0_79_1 : w_fi ws (n_v vs 0) 79 = w_fi w1 (n_v vs 0) 79 := congrArg v_iv (s1.2 _ _)
  have fe_0_80_1 : w_fi ws (n_v vs 0) 80 = w_fi w1 (n_v vs 0) 80 := congrArg v_iv (s1.2 _ _)
  have fe_0_81_1 : w_fi ws (n_v vs 0) 81 = w_fi w1 (n_v vs 0) 81 := congrArg v_iv (s1.2 _ _)
  have hE_0_82_1 : ∀ j : Int, w_ei ws (w_ar ws (n_v vs 0) 82) j = w_ei w1 (w_ar ws (n_v vs 0) 82) j := el_kp s1.1 r14 cr_0_82 (by decide)
  have hE_0_83_1 : ∀ j : Int, w_ei ws (w_ar ws (n_v vs 0) 83) j = w_ei w1 (w_ar ws (n_v vs 0) 83) j := el_kp s1.1 r14 cr_0_83 (by decide)
  have hE_0_84_1 : ∀ j : Int, w_ei ws (w_ar ws (n_v vs 0) 84) j = w_ei w1 (w_ar ws (n_v vs 0) 84) j := el_kp s1.1 r14 cr_0_84 (by decide)
  have hE_0_85_1 : ∀ j : Int, w_ei ws (w_ar ws (n_v vs 0) 85) j = w_ei w1 (w_ar ws (n_v vs 0) 85) j := el_kp s1.1 r14 cr_0_85 (by decide)
  have hE_0_86_1 : ∀ j : Int, w_ei ws (w_ar ws (n_v vs 0) 86) j = w_ei w1 (w_ar ws (n_v vs 0) 86) j := el_kp s1.1 r14 cr_0_86 (by decide)
  have hE_0_87_1 : ∀ j : Int, w_ei ws (w_ar ws (n_v vs 0) 87) j = w_ei w1 (w_ar ws (n_v vs 0) 87) j := el_kp s1.1 r14 cr_0_87 (by decide)
  have hE_0_88_1 : ∀ j : Int, w_ei ws (w_ar ws (n_v vs 0) 88) j = w_ei w1 (w_ar ws (n_v vs 0) 88) j := el_kp s1.1 r14 cr_0_88 (by decide)
  have hE_0_89_1 : ∀ j : Int, w_ei ws (w_ar ws (n_v vs 0) 89) j = w_ei w1 (w_ar ws (n_v vs 0) 89) j := el_kp s1.1 r14 cr_0_89 (by decide)
  have hE_0_90_1 : ∀ j : Int, w_ei ws (w_ar ws (n_v vs 0) 90) j = w_ei w1 (w_ar ws (n_v vs 0) 90) j := el_kp s1.1 r14 cr_0_90 (by decide)
  have hE_0_93_1 : ∀ j : Int, 0 ≤ j → (j = v_iv (n_v vs 8) → w_ei ws (w_ar ws (n_v vs 0) 93) j = v_iv (n_v vs 18)) ∧ (j ≠ v_iv (n_v vs 8) → w_ei ws (w_ar ws (n_v vs 0) 93) j = w_ei w1 (w_ar ws (n_v vs 0) 93) j) := fun j hj => ⟨fun h => by unfold w_ei; rw [s1.1, if_pos ⟨ad_14.symm, by rw [h]⟩], fun h => by unfold w_ei; rw [s1.1, if_neg (fun e => h (by have := e.2; omega))]⟩
  have kz_0_79 := fdq_146 hD hth r0
  have kz_0_80 := fdq_130 hD hth r0
  have kz_0_81 := fdq_123 hD hth r0
  have hrf0 : (-14400) ≤ v_iv (n_v vs 21) ∧ v_iv (n_v vs 21) ≤ 14400 := vc_Mo_up_7_r0 (v_iv (n_v vs 5)) (v_iv (n_v vs 6)) (v_iv (n_v vs 8)) (v_iv (n_v vs 10)) (v_iv (n_v vs 15)) (v_iv (n_v vs 17)) (v_iv (n_v vs 18)) (v_iv (n_v vs 19)) (v_iv (n_v vs 20)) (v_iv (n_v vs 21)) (w_ei ws (w_ar ws (n_v vs 0) 85)) (w_ei ws (w_ar ws (n_v vs 0) 93)) (w_fi ws (n_v vs 0) 79) (w_fi ws (n_v vs 0) 80) (w_ei w1 (w_ar ws (n_v vs 0) 85)) (w_ei w1 (w_ar ws (n_v vs 0) 93)) (w_ei w1 (w_ar ws (n_v vs 0) 86)) (w_ei w1 (w_ar ws (n_v vs 0) 84)) (w_ei w1 (w_ar ws (n_v vs 0) 83)) (w_fi w1 (n_v vs 0) 80) (w_fi w1 (n_v vs 0) 79) (w_ei w1 (w_ar ws (n_v vs 0) 90)) (w_ei w1 (w_ar ws (n_v vs 0) 82)) (w_ei w1 (w_ar ws (n_v vs 0) 87)) (w_ei w1 (w_ar ws (n_v vs 0) 88)) (w_ei w1 (w_ar ws (n_v vs 0) 89)) (w_fi w1 (n_v vs 0) 81) (w_fi ws (n_v vs 0) 81) (w_ei ws (w_ar ws (n_v vs 0) 82)) (w_ei ws (w_ar ws (n_v vs 0) 83)) (w_ei ws (w_ar ws (n_v vs 0) 84)) (w_ei ws (w_ar ws (n_v vs 0) 86)) (w_ei ws (w_ar ws (n_v vs 0) 87)) (w_ei ws (w_ar ws (n_v vs 0) 88)) (w_ei ws (w_ar ws (n_v vs 0) 89)) (w_ei ws (w_ar ws (n_v vs 0) 90)) k5 k6 k8 k10 k15 k17 k18 k19 k20 k21 d3 (shm_12 f0) h1 h3 (shm_14 f11) h12 h13 h17 h19 g22 f26 fe_0_79_1 fe_0_80_1 fe_0_81_1 hE_0_82_1 hE_0_83_1 hE_0_84_1 hE_0_85_1 hE_0_86_1 hE_0_87_1 hE_0_88_1 hE_0_89_1 hE_0_90_1 hE_0_93_1 kz_0_79 kz_0_80 kz_0_81
  have rf21 : tv_ok ta (0, -14400, 14400, []) (n_v vs 21) := tv_in t21 (by first | omega | grind) (by first | omega | grind)
  refine ⟨List.forall_mem_cons.mpr ⟨rf21, (fun _ h => (by cases h))⟩, [], trivial, ?_, (fun _ h => (by cases h))⟩
  rw [List.append_nil]
  exact (fun _ h => (by cases h))
set_option maxHeartbeats 4000000 in
theorem vc_Mo_up_8_0 (x5 : Int) (x6 : Int) (x8 : Int) (x10 : Int) (x12 : Int) (x15 : Int) (x17 : Int) (x18 : Int) (x19 : Int) (x20 : Int) (x21 : Int) (x22 : Int) (pointMany_0 : Int) (costMany_0 : Int) (costW_1 : Int → Int) (goes_1 : Int → Int) (pointMany_1 : Int) (costMany_1 : Int) (costW_2 : Int → Int) (goes_2 : Int → Int) (costPlain_2 : Int → Int) (costB_2 : Int → Int) (costA_2 : Int → Int) (costMany_2 : Int) (pointMany_2 : Int) (flow_2 : Int → Int) (spot_2 : Int → Int) (apartA_2 : Int → Int) (apartB_2 : Int → Int) (apart_2 : Int → Int) (apartMany_2 : Int) (apartMany_0 : Int) (apartMany_1 : Int) (spot_0 : Int → Int) (spot_1 : Int → Int) (costA_0 : Int → Int) (costA_1 : Int → Int) (costB_0 : Int → Int) (costB_1 : Int → Int) (costW_0 : Int → Int) (costPlain_0 : Int → Int) (costPlain_1 : Int → Int) (apartA_0 : Int → Int) (apartA_1 : Int → Int) (apartB_0 : Int → Int) (apartB_1 : Int → Int) (apart_0 : Int → Int) (apart_1 : Int → Int) (flow_0 : Int → Int) (flow_1 : Int → Int) (goes_0 : Int → Int) (k5 : 0 ≤ x5 ∧ x5 ≤ 199) (k6 : 1 ≤ x6 ∧ x6 ≤ 200) (k8 : 0 ≤ x8 ∧ x8 ≤ 75) (k10 : 0 ≤ x10 ∧ x10 ≤ 75) (k12 : 1 ≤ x12 ∧ x12 ≤ 1) (k15 : (-14400) ≤ x15 ∧ x15 ≤ 14400) (k17 : 0 ≤ x17 ∧ x17 ≤ 72) (k18 : (-14400) ≤ x18 ∧ x18 ≤ 14400) (k19 : (-14400) ≤ x19 ∧ x19 ≤ 14400) (k20 : 0 ≤ x20 ∧ x20 ≤ 72) (k21 : (-14400) ≤ x21 ∧ x21 ≤ 14400) (k22 : 1 ≤ x22 ∧ x22 ≤ 200) (d0 : x5 + 1 ≤ x22 ∧ x22 ≤ x5 + 1) (d1 : x6 + (-4294967296) ≤ x22 ∧ x22 ≤ x6 + 0) (d5 : x6 + (-4294967296) ≤ x5 ∧ x5 ≤ x6 + (-1)) (f0 : x22 = x5 + 1) (f7 : x21 = x19 + x20) (h8 : x20 = costW_1 (x5)) (h10 : x19 = goes_1 (x10)) (f17 : x18 = x15 - x17) (h18 : x17 = costW_2 (x5)) (h19 : x15 = goes_2 (x8)) (f20 : x12 ≠ 0) (h21 : x12 = costPlain_2 (x5)) (h23 : x10 = costB_2 (x5)) (h25 : x8 = costA_2 (x5)) (g28 : x6 = costMany_2) (f32 : UPC (pointMany_2) (costMany_2) (apartMany_2) (flow_2) (goes_2) (spot_2) (costA_2) (costB_2) (costW_2) (costPlain_2) (apartA_2) (apartB_2) (apart_2) (x5)) (fe_0_79_1 : pointMany_0 = pointMany_1) (fe_0_80_1 : costMany_0 = costMany_1) (fe_0_81_1 : apartMany_0 = apartMany_1) (fe_0_79_2 : pointMany_1 = pointMany_2) (fe_0_80_2 : costMany_1 = costMany_2) (fe_0_81_2 : apartMany_1 = apartMany_2) (hE_0_82_1 : ∀ j : Int, spot_0 j = spot_1 j) (hE_0_82_2 : ∀ j : Int, spot_1 j = spot_2 j) (hE_0_83_1 : ∀ j : Int, costA_0 j = costA_1 j) (hE_0_83_2 : ∀ j : Int, costA_1 j = costA_2 j) (hE_0_84_1 : ∀ j : Int, costB_0 j = costB_1 j) (hE_0_84_2 : ∀ j : Int, costB_1 j = costB_2 j) (hE_0_85_1 : ∀ j : Int, costW_0 j = costW_1 j) (hE_0_85_2 : ∀ j : Int, costW_1 j = costW_2 j) (hE_0_86_1 : ∀ j : Int, costPlain_0 j = costPlain_1 j) (hE_0_86_2 : ∀ j : Int, costPlain_1 j = costPlain_2 j) (hE_0_87_1 : ∀ j : Int, apartA_0 j = apartA_1 j) (hE_0_87_2 : ∀ j : Int, apartA_1 j = apartA_2 j) (hE_0_88_1 : ∀ j : Int, apartB_0 j = apartB_1 j) (hE_0_88_2 : ∀ j : Int, apartB_1 j = apartB_2 j) (hE_0_89_1 : ∀ j : Int, apart_0 j = apart_1 j) (hE_0_89_2 : ∀ j : Int, apart_1 j = apart_2 j) (hE_0_90_1 : ∀ j : Int, flow_0 j = flow_1 j) (hE_0_90_2 : ∀ j : Int, flow_1 j = flow_2 j) (hE_0_93_1 : ∀ j : Int, 0 ≤ j → (j = x10 → goes_0 j = x21) ∧ (j ≠ x10 → goes_0 j = goes_1 j)) (hE_0_93_2 : ∀ j : Int, 0 ≤ j → (j = x8 → goes_1 j = x18) ∧ (j ≠ x8 → goes_1 j = goes_2 j)) (kz_0_79 : 0 ≤ pointMany_0 ∧ pointMany_0 ≤ 76) (kz_0_80 : 0 ≤ costMany_0 ∧ costMany_0 ≤ 200) (kz_0_81 : 0 ≤ apartMany_0 ∧ apartMany_0 ≤ 200) : UPC (pointMany_0) (costMany_0) (apartMany_0) (flow_0) (goes_0) (spot_0) (costA_0) (costB_0) (costW_0) (costPlain_0) (apartA_0) (apartB_0) (apart_0) (x22) := by
  subst fe_0_79_1
  subst fe_0_80_1
  subst fe_0_81_1
  subst fe_0_79_2
  subst fe_0_80_2
  subst fe_0_81_2
  have e_hE_0_82_1 := funext hE_0_82_1; subst e_hE_0_82_1
  have e_hE_0_82_2 := funext hE_0_82_2; subst e_hE_0_82_2
  have e_hE_0_83_1 := funext hE_0_83_1; subst e_hE_0_83_1
  have e_hE_0_83_2 := funext hE_0_83_2; subst e_hE_0_83_2
  have e_hE_0_84_1 := funext hE_0_84_1; subst e_hE_0_84_1
  have e_hE_0_84_2 := funext hE_0_84_2; subst e_hE_0_84_2
  have e_hE_0_85_1 := funext hE_0_85_1; subst e_hE_0_85_1
  have e_hE_0_85_2 := funext hE_0_85_2; subst e_hE_0_85_2
  have e_hE_0_86_1 := funext hE_0_86_1; subst e_hE_0_86_1
  have e_hE_0_86_2 := funext hE_0_86_2; subst e_hE_0_86_2
  have e_hE_0_87_1 := funext hE_0_87_1; subst e_hE_0_87_1
  have e_hE_0_87_2 := funext hE_0_87_2; subst e_hE_0_87_2
  have e_hE_0_88_1 := funext hE_0_88_1; subst e_hE_0_88_1
  have e_hE_0_88_2 := funext hE_0_88_2; subst e_hE_0_88_2
  have e_hE_0_89_1 := funext hE_0_89_1; subst e_hE_0_89_1
  have e_hE_0_89_2 := funext hE_0_89_2; subst e_hE_0_89_2
  have e_hE_0_90_1 := funext hE_0_90_1; subst e_hE_0_90_1
  have e_hE_0_90_2 := funext hE_0_90_2; subst e_hE_0_90_2
  first
    | exact upc_start ‹PBK _ _ _ _ _ _ _ _ _ _› ‹UZN _ _› (Int.le_refl _) ‹UZG _ _›.1 (by omega) (by omega)
    | exact upc_goP1 (a := x8) (b := x10) (w := x17) (w2 := x20) (pl := x12) (o1 := x15) (o2 := x19) ‹UPC _ _ _ _ _ _ _ _ _ _ _ _ _ _› (by omega) (by omega) (by assumption) (by assumption) (by assumption) (by assumption) (by assumption) (by assumption) (by omega) (by assumption) (by assumption) (by assumption) (by assumption) (by assumption) (by assumption)
    | exact upc_goP2 (a := x8) (b := x10) (w := x20) (w2 := x23) (ya := x14) (yb := x15) (o1 := x18) (o2 := x22) ‹UPC _ _ _ _ _ _ _ _ _ _ _ _ _ _› (by omega) (by omega) (by assumption) (by assumption) (by assumption) (by assumption) (by assumption) (by assumption) (by assumption) (by omega) (by assumption) (by assumption) (by assumption) (by assumption) (by assumption) (by assumption)
    | exact upc_goM2 (a := x8) (b := x10) (w := x22) (w2 := x25) (pl := x12) (ya := x17) (yb := x18) (o1 := x20) (o2 := x24) ‹UPC _ _ _ _ _ _ _ _ _ _ _ _ _ _› (by omega) (by omega) (by assumption) (by assumption) (by assumption) (by assumption) (by assumption) (by assumption) (by omega) (by assumption) (by assumption) (by omega) (by assumption) (by assumption) (by assumption) (by assumption) (by assumption) (by assumption)
    | exact upc_tie3 (a := x8) (b := x10) (w := x24) (w2 := x29) (pl := x12) (ya := x14) (yb := x15) (ya2 := x17) (yb2 := x18) (q1 := x21) (q2 := x27) (r1 := x20) (r2 := x26) (o1 := x22) (o2 := x28) ‹UPC _ _ _ _ _ _ _ _ _ _ _ _ _ _› (by omega) (by omega) (by assumption) (by omega) (by assumption) (by assumption) (by assumption) (by assumption) (by assumption) (by omega) (by assumption) (by assumption) (by omega) (by assumption) (by assumption) (by omega) (by assumption) (by assumption) (by assumption) (by assumption) (by assumption) (by assumption) (by assumption) (by assumption) (by assumption) (by assumption)
  
set_option maxHeartbeats 4000000 in
theorem vc_Mo_up_8_1 (x5 : Int) (x6 : Int) (x22 : Int) (pointMany_0 : Int) (costMany_0 : Int) (costW_1 : Int → Int) (pointMany_1 : Int) (costMany_1 : Int) (costW_2 : Int → Int) (costPlain_2 : Int → Int) (costB_2 : Int → Int) (costA_2 : Int → Int) (costMany_2 : Int) (pointMany_2 : Int) (flow_2 : Int → Int) (spot_2 : Int → Int) (apartA_2 : Int → Int) (apartB_2 : Int → Int) (apart_2 : Int → Int) (apartMany_2 : Int) (apartMany_0 : Int) (apartMany_1 : Int) (spot_0 : Int → Int) (spot_1 : Int → Int) (costA_0 : Int → Int) (costA_1 : Int → Int) (costB_0 : Int → Int) (costB_1 : Int → Int) (costW_0 : Int → Int) (costPlain_0 : Int → Int) (costPlain_1 : Int → Int) (apartA_0 : Int → Int) (apartA_1 : Int → Int) (apartB_0 : Int → Int) (apartB_1 : Int → Int) (apart_0 : Int → Int) (apart_1 : Int → Int) (flow_0 : Int → Int) (flow_1 : Int → Int) (k5 : 0 ≤ x5 ∧ x5 ≤ 199) (k6 : 1 ≤ x6 ∧ x6 ≤ 200) (k22 : 1 ≤ x22 ∧ x22 ≤ 200) (d0 : x5 + 1 ≤ x22 ∧ x22 ≤ x5 + 1) (d1 : x6 + (-4294967296) ≤ x22 ∧ x22 ≤ x6 + 0) (d5 : x6 + (-4294967296) ≤ x5 ∧ x5 ≤ x6 + (-1)) (g28 : x6 = costMany_2) (fe_0_79_1 : pointMany_0 = pointMany_1) (fe_0_80_1 : costMany_0 = costMany_1) (fe_0_81_1 : apartMany_0 = apartMany_1) (fe_0_79_2 : pointMany_1 = pointMany_2) (fe_0_80_2 : costMany_1 = costMany_2) (fe_0_81_2 : apartMany_1 = apartMany_2) (hE_0_82_1 : ∀ j : Int, spot_0 j = spot_1 j) (hE_0_82_2 : ∀ j : Int, spot_1 j = spot_2 j) (hE_0_83_1 : ∀ j : Int, costA_0 j = costA_1 j) (hE_0_83_2 : ∀ j : Int, costA_1 j = costA_2 j) (hE_0_84_1 : ∀ j : Int, costB_0 j = costB_1 j) (hE_0_84_2 : ∀ j : Int, costB_1 j = costB_2 j) (hE_0_85_1 : ∀ j : Int, costW_0 j = costW_1 j) (hE_0_85_2 : ∀ j : Int, costW_1 j = costW_2 j) (hE_0_86_1 : ∀ j : Int, costPlain_0 j = costPlain_1 j) (hE_0_86_2 : ∀ j : Int, costPlain_1 j = costPlain_2 j) (hE_0_87_1 : ∀ j : Int, apartA_0 j = apartA_1 j) (hE_0_87_2 : ∀ j : Int, apartA_1 j = apartA_2 j) (hE_0_88_1 : ∀ j : Int, apartB_0 j = apartB_1 j) (hE_0_88_2 : ∀ j : Int, apartB_1 j = apartB_2 j) (hE_0_89_1 : ∀ j : Int, apart_0 j = apart_1 j) (hE_0_89_2 : ∀ j : Int, apart_1 j = apart_2 j) (hE_0_90_1 : ∀ j : Int, flow_0 j = flow_1 j) (hE_0_90_2 : ∀ j : Int, flow_1 j = flow_2 j) (kz_0_79 : 0 ≤ pointMany_0 ∧ pointMany_0 ≤ 76) (kz_0_80 : 0 ≤ costMany_0 ∧ costMany_0 ≤ 200) (kz_0_81 : 0 ≤ apartMany_0 ∧ apartMany_0 ≤ 200) : x22 ≤ costMany_0 := by
  subst fe_0_79_1
  subst fe_0_80_1
  subst fe_0_81_1
  subst fe_0_79_2
  subst fe_0_80_2
  subst fe_0_81_2
  have e_hE_0_82_1 := funext hE_0_82_1; subst e_hE_0_82_1
  have e_hE_0_82_2 := funext hE_0_82_2; subst e_hE_0_82_2
  have e_hE_0_83_1 := funext hE_0_83_1; subst e_hE_0_83_1
  have e_hE_0_83_2 := funext hE_0_83_2; subst e_hE_0_83_2
  have e_hE_0_84_1 := funext hE_0_84_1; subst e_hE_0_84_1
  have e_hE_0_84_2 := funext hE_0_84_2; subst e_hE_0_84_2
  have e_hE_0_85_1 := funext hE_0_85_1; subst e_hE_0_85_1
  have e_hE_0_85_2 := funext hE_0_85_2; subst e_hE_0_85_2
  have e_hE_0_86_1 := funext hE_0_86_1; subst e_hE_0_86_1
  have e_hE_0_86_2 := funext hE_0_86_2; subst e_hE_0_86_2
  have e_hE_0_87_1 := funext hE_0_87_1; subst e_hE_0_87_1
  have e_hE_0_87_2 := funext hE_0_87_2; subst e_hE_0_87_2
  have e_hE_0_88_1 := funext hE_0_88_1; subst e_hE_0_88_1
  have e_hE_0_88_2 := funext hE_0_88_2; subst e_hE_0_88_2
  have e_hE_0_89_1 := funext hE_0_89_1; subst e_hE_0_89_1
  have e_hE_0_89_2 := funext hE_0_89_2; subst e_hE_0_89_2
  have e_hE_0_90_1 := funext hE_0_90_1; subst e_hE_0_90_1
  have e_hE_0_90_2 := funext hE_0_90_2; subst e_hE_0_90_2
  omega
def o_Mo_up_8 : or_T := (73, 23, [(0, (2, 0, 0, [165])), (5, (0, 0, 199, [])), (6, (0, 1, 200, [])), (8, (0, 0, 75, [])), (10, (0, 0, 75, [])), (12, (0, 1, 1, [])), (14, (2, 0, 0, [230])), (15, (0, -14400, 14400, [])), (17, (0, 0, 72, [])), (18, (0, -14400, 14400, [])), (19, (0, -14400, 14400, [])), (20, (0, 0, 72, [])), (21, (0, -14400, 14400, [])), (22, (0, 1, 200, []))], [(6, [22, 5], [1]), (24, [0, 1], []), (100, [14, 10, 21], []), (1, [21, 19, 20], []), (10, [20, 16, 5], []), (9, [16, 1], [85]), (10, [19, 14, 10], []), (9, [14, 1], [93]), (100, [14, 8, 18], []), (2, [18, 15, 17], []), (10, [17, 16, 5], []), (10, [15, 14, 8], []), (8, [12], [1]), (10, [12, 11, 5], []), (9, [11, 1], [86]), (10, [10, 9, 5], []), (9, [9, 1], [84]), (10, [8, 7, 5], []), (9, [7, 1], [83]), (9, [6, 1], [80]), (20, [1, 5], [60, 3, 10, 413, 79, 80, 81, 90, 93, 82, 83, 84, 85, 86, 87, 88, 89])], [], [], [(20, [1, 22], [60, 3, 10, 413, 79, 80, 81, 90, 93, 82, 83, 84, 85, 86, 87, 88, 89]), (20, [22, 1], [50, 1, 0, 1080, 0, 2, 1, 0, 2, 1, 80])], [], [(22, 5, 1, 1), (22, 6, -4294967296, 0), (21, 20, -14400, 14400), (21, 19, 0, 72), (18, 15, -72, 0), (5, 6, -4294967296, -1)])
theorem oo_Mo_up_8 {kA : Nat → ClassId} : or_ok PRD kA GG o_Mo_up_8 := by
  refine or_mk fun A ta ws vs hD hth hl => ?_
  intro t0 r0 t5 k5 t6 k6 t8 k8 t10 k10 t12 k12 t14 r14 t15 k15 t17 k17 t18 k18 t19 k19 t20 k20 t21 k21 t22 k22 d0 d1 d2 d3 d4 d5 f0 f5 ta1 w1 le1 s1 f7 f8 f9 f10 f11 ta2 w2 le2 s2 f17 f18 f19 f20 f21 f22 f23 f24 f25 f26 f28 f32
  replace f0 := shm_4 f0
  replace f5 := shm_5 f5
  have s1 : (∀ b j, w_el ws b j = if b = v_ad (n_v vs 14) ∧ j = (v_iv (n_v vs 10)).toNat then v_iv (n_v vs 21) else w_el w1 b j) ∧ ∀ b k, w_fd ws b k = w_fd w1 b k := s1.2
  replace f7 := shm_12 f7
  replace f8 := shm_106 f8
  replace f9 := shm_553 f9
  replace f10 := shm_106 f10
  replace f11 := shm_1131 f11
  have s2 : (∀ b j, w_el w1 b j = if b = v_ad (n_v vs 14) ∧ j = (v_iv (n_v vs 8)).toNat then v_iv (n_v vs 18) else w_el w2 b j) ∧ ∀ b k, w_fd w1 b k = w_fd w2 b k := s2.2
  replace f17 := shm_14 f17
  replace f18 := shm_106 f18
  replace f19 := shm_106 f19
  replace f20 := shm_154 f20
  replace f21 := shm_106 f21
  replace f22 := shm_552 f22
  replace f23 := shm_106 f23
  replace f24 := shm_554 f24
  replace f25 := shm_106 f25
  replace f26 := shm_548 f26
  replace f28 := shm_547 f28
  replace f32 := shm_1129 f32
  have q1 : n_v vs 1 = n_v vs 0 := f5.symm
  simp only [q1] at f9 f11 f22 f24 f26 f28 f32
  have ar_0_82_1 : w_ar w1 (n_v vs 0) 82 = w_ar ws (n_v vs 0) 82 := congrArg v_ad (s1.2 _ _).symm
  have ar_0_82_2 : w_ar w2 (n_v vs 0) 82 = w_ar ws (n_v vs 0) 82 := by rw [← ar_0_82_1]; show v_ad (w_fd w2 _ _) = v_ad (w_fd w1 _ _); rw [s2.2]
  have cr_0_82 := fdq_225 hD hth r0
  have ar_0_83_1 : w_ar w1 (n_v vs 0) 83 = w_ar ws (n_v vs 0) 83 := congrArg v_ad (s1.2 _ _).symm
  have ar_0_83_2 : w_ar w2 (n_v vs 0) 83 = w_ar ws (n_v vs 0) 83 := by rw [← ar_0_83_1]; show v_ad (w_fd w2 _ _) = v_ad (w_fd w1 _ _); rw [s2.2]
  have cr_0_83 := fdq_125 hD hth r0
  have ar_0_84_1 : w_ar w1 (n_v vs 0) 84 = w_ar ws (n_v vs 0) 84 := congrArg v_ad (s1.2 _ _).symm
  have ar_0_84_2 : w_ar w2 (n_v vs 0) 84 = w_ar ws (n_v vs 0) 84 := by rw [← ar_0_84_1]; show v_ad (w_fd w2 _ _) = v_ad (w_fd w1 _ _); rw [s2.2]
  have cr_0_84 := fdq_126 hD hth r0
  have ar_0_85_1 : w_ar w1 (n_v vs 0) 85 = w_ar ws (n_v vs 0) 85 := congrArg v_ad (s1.2 _ _).symm
  have ar_0_85_2 : w_ar w2 (n_v vs 0) 85 = w_ar ws (n_v vs 0) 85 := by rw [← ar_0_85_1]; show v_ad (w_fd w2 _ _) = v_ad (w_fd w1 _ _); rw [s2.2]
  have cr_0_85 := fdq_127 hD hth r0
  have ar_0_86_1 : w_ar w1 (n_v vs 0) 86 = w_ar ws (n_v vs 0) 86 := congrArg v_ad (s1.2 _ _).symm
  have ar_0_86_2 : w_ar w2 (n_v vs 0) 86 = w_ar ws (n_v vs 0) 86 := by rw [← ar_0_86_1]; show v_ad (w_fd w2 _ _) = v_ad (w_fd w1 _ _); rw [s2.2]
  have cr_0_86 := fdq_128 hD hth r0
  have ar_0_87_1 : w_ar w1 (n_v vs 0) 87 = w_ar ws (n_v vs 0) 87 := congrArg v_ad (s1.2 _ _).symm
  have ar_0_87_2 : w_ar w2 (n_v vs 0) 87 = w_ar ws (n_v vs 0) 87 := by rw [← ar_0_87_1]; show v_ad (w_fd w2 _ _) = v_ad (w_fd w1 _ _); rw [s2.2]
  have cr_0_87 := fdq_118 hD hth r0
  have ar_0_88_1 : w_ar w1 (n_v vs 0) 88 = w_ar ws (n_v vs 0) 88 := congrArg v_ad (s1.2 _ _).symm
  have ar_0_88_2 : w_ar w2 (n_v vs 0) 88 = w_ar ws (n_v vs 0) 88 := by rw [← ar_0_88_1]; show v_ad (w_fd w2 _ _) = v_ad (w_fd w1 _ _); rw [s2.2]
  have cr_0_88 := fdq_119 hD hth r0
  have ar_0_89_1 : w_ar w1 (n_v vs 0) 89 = w_ar ws (n_v vs 0) 89 := congrArg v_ad (s1.2 _ _).symm
  have ar_0_89_2 : w_ar w2 (n_v vs 0) 89 = w_ar ws (n_v vs 0) 89 := by rw [← ar_0_89_1]; show v_ad (w_fd w2 _ _) = v_ad (w_fd w1 _ _); rw [s2.2]
  have cr_0_89 := fdq_120 hD hth r0
  have ar_0_90_1 : w_ar w1 (n_v vs 0) 90 = w_ar ws (n_v vs 0) 90 := congrArg v_ad (s1.2 _ _).symm
  have ar_0_90_2 : w_ar w2 (n_v vs 0) 90 = w_ar ws (n_v vs 0) 90 := by rw [← ar_0_90_1]; show v_ad (w_fd w2 _ _) = v_ad (w_fd w1 _ _); rw [s2.2]
  have cr_0_90 := fdq_226 hD hth r0
  have ar_0_93_1 : w_ar w1 (n_v vs 0) 93 = w_ar ws (n_v vs 0) 93 := congrArg v_ad (s1.2 _ _).symm
  have ar_0_93_2 : w_ar w2 (n_v vs 0) 93 = w_ar ws (n_v vs 0) 93 := by rw [← ar_0_93_1]; show v_ad (w_fd w2 _ _) = v_ad (w_fd w1 _ _); rw [s2.2]
  have ad_16 : v_ad (n_v vs 16) = w_ar ws (n_v vs 0) 85 := (congrArg v_ad f9).trans ar_0_85_1
  have ad_14 : v_ad (n_v vs 14) = w_ar ws (n_v vs 0) 93 := (congrArg v_ad f11).trans ar_0_93_1
  have ad_11 : v_ad (n_v vs 11) = w_ar ws (n_v vs 0) 86 := (congrArg v_ad f22).trans ar_0_86_2
  have ad_9 : v_ad (n_v vs 9) = w_ar ws (n_v vs 0) 84 := (congrArg v_ad f24).trans ar_0_84_2
  have ad_7 : v_ad (n_v vs 7) = w_ar ws (n_v vs 0) 83 := (congrArg v_ad f26).trans ar_0_83_2
  simp only [ad_16] at f8
  have h8 : v_iv (n_v vs 20) = w_ei w1 (w_ar ws (n_v vs 0) 85) (v_iv (n_v vs 5)) := f8
  simp only [ad_14] at f10
  have h10 : v_iv (n_v vs 19) = w_ei w1 (w_ar ws (n_v vs 0) 93) (v_iv (n_v vs 10)) := f10
  simp only [ad_16] at f18
  have h18 : v_iv (n_v vs 17) = w_ei w2 (w_ar ws (n_v vs 0) 85) (v_iv (n_v vs 5)) := f18
  simp only [ad_14] at f19
  have h19 : v_iv (n_v vs 15) = w_ei w2 (w_ar ws (n_v vs 0) 93) (v_iv (n_v vs 8)) := f19
  simp only [ad_11] at f21
  have h21 : v_iv (n_v vs 12) = w_ei w2 (w_ar ws (n_v vs 0) 86) (v_iv (n_v vs 5)) := f21
  simp only [ad_9] at f23
  have h23 : v_iv (n_v vs 10) = w_ei w2 (w_ar ws (n_v vs 0) 84) (v_iv (n_v vs 5)) := f23
  simp only [ad_7] at f25
  have h25 : v_iv (n_v vs 8) = w_ei w2 (w_ar ws (n_v vs 0) 83) (v_iv (n_v vs 5)) := f25
  have g28 : v_iv (n_v vs 6) = w_fi w2 (n_v vs 0) 80 := congrArg v_iv f28
  simp only [ar_0_82_2, ar_0_83_2, ar_0_84_2, ar_0_85_2, ar_0_86_2, ar_0_87_2, ar_0_88_2, ar_0_89_2, ar_0_90_2, ar_0_93_2] at f32
  have fe_0_79_1 : w_fi ws (n_v vs 0) 79 = w_fi w1 (n_v vs 0) 79 := congrArg v_iv (s1.2 _ _)
  have fe_0_80_1 : w_fi ws (n_v vs 0) 80 = w_fi w1 (n_v vs 0) 80 := congrArg v_iv (s1.2 _ _)
  have fe_0_81_1 : w_fi ws (n_v vs 0) 81 = w_fi w1 (n_v vs 0) 81 := congrArg v_iv (s1.2 _ _)
  have fe_0_79_2 : w_fi w1 (n_v vs 0) 79 = w_fi w2 (n_v vs 0) 79 := congrArg v_iv (s2.2 _ _)
  have fe_0_80_2 : w_fi w1 (n_v vs 0) 80 = w_fi w2 (n_v vs 0) 80 := congrArg v_iv (s2.2 _ _)
  have fe_0_81_2 : w_fi w1 (n_v vs 0) 81 = w_fi w2 (n_v vs 0) 81 := congrArg v_iv (s2.2 _ _)
  have hE_0_82_1 : ∀ j : Int, w_ei ws (w_ar ws (n_v vs 0) 82) j = w_ei w1 (w_ar ws (n_v vs 0) 82) j := el_kp s1.1 r14 cr_0_82 (by decide)
  have hE_0_82_2 : ∀ j : Int, w_ei w1 (w_ar ws (n_v vs 0) 82) j = w_ei w2 (w_ar ws (n_v vs 0) 82) j := el_kp s2.1 r14 cr_0_82 (by decide)
  have hE_0_83_1 : ∀ j : Int, w_ei ws (w_ar ws (n_v vs 0) 83) j = w_ei w1 (w_ar ws (n_v vs 0) 83) j := el_kp s1.1 r14 cr_0_83 (by decide)
  have hE_0_83_2 : ∀ j : Int, w_ei w1 (w_ar ws (n_v vs 0) 83) j = w_ei w2 (w_ar ws (n_v vs 0) 83) j := el_kp s2.1 r14 cr_0_83 (by decide)
  have hE_0_84_1 : ∀ j : Int, w_ei ws (w_ar ws (n_v vs 0) 84) j = w_ei w1 (w_ar ws (n_v vs 0) 84) j := el_kp s1.1 r14 cr_0_84 (by decide)
  have hE_0_84_2 : ∀ j : Int, w_ei w1 (w_ar ws (n_v vs 0) 84) j = w_ei w2 (w_ar ws (n_v vs 0) 84) j := el_kp s2.1 r14 cr_0_84 (by decide)
  have hE_0_85_1 : ∀ j : Int, w_ei ws (w_ar ws (n_v vs 0) 85) j = w_ei w1 (w_ar ws (n_v vs 0) 85) j := el_kp s1.1 r14 cr_0_85 (by decide)
  have hE_0_85_2 : ∀ j : Int, w_ei w1 (w_ar ws (n_v vs 0) 85) j = w_ei w2 (w_ar ws (n_v vs 0) 85) j := el_kp s2.1 r14 cr_0_85 (by decide)
  have hE_0_86_1 : ∀ j : Int, w_ei ws (w_ar ws (n_v vs 0) 86) j = w_ei w1 (w_ar ws (n_v vs 0) 86) j := el_kp s1.1 r14 cr_0_86 (by decide)
  have hE_0_86_2 : ∀ j : Int, w_ei w1 (w_ar ws (n_v vs 0) 86) j = w_ei w2 (w_ar ws (n_v vs 0) 86) j := el_kp s2.1 r14 cr_0_86 (by decide)
  have hE_0_87_1 : ∀ j : Int, w_ei ws (w_ar ws (n_v vs 0) 87) j = w_ei w1 (w_ar ws (n_v vs 0) 87) j := el_kp s1.1 r14 cr_0_87 (by decide)
  have hE_0_87_2 : ∀ j : Int, w_ei w1 (w_ar ws (n_v vs 0) 87) j = w_ei w2 (w_ar ws (n_v vs 0) 87) j := el_kp s2.1 r14 cr_0_87 (by decide)
  have hE_0_88_1 : ∀ j : Int, w_ei ws (w_ar ws (n_v vs 0) 88) j = w_ei w1 (w_ar ws (n_v vs 0) 88) j := el_kp s1.1 r14 cr_0_88 (by decide)
  have hE_0_88_2 : ∀ j : Int, w_ei w1 (w_ar ws (n_v vs 0) 88) j = w_ei w2 (w_ar ws (n_v vs 0) 88) j := el_kp s2.1 r14 cr_0_88 (by decide)
  have hE_0_89_1 : ∀ j : Int, w_ei ws (w_ar ws (n_v vs 0) 89) j = w_ei w1 (w_ar ws (n_v vs 0) 89) j := el_kp s1.1 r14 cr_0_89 (by decide)
  have hE_0_89_2 : ∀ j : Int, w_ei w1 (w_ar ws (n_v vs 0) 89) j = w_ei w2 (w_ar ws (n_v vs 0) 89) j := el_kp s2.1 r14 cr_0_89 (by decide)
  have hE_0_90_1 : ∀ j : Int, w_ei ws (w_ar ws (n_v vs 0) 90) j = w_ei w1 (w_ar ws (n_v vs 0) 90) j := el_kp s1.1 r14 cr_0_90 (by decide)
  have hE_0_90_2 : ∀ j : Int, w_ei w1 (w_ar ws (n_v vs 0) 90) j = w_ei w2 (w_ar ws (n_v vs 0) 90) j := el_kp s2.1 r14 cr_0_90 (by decide)
  have hE_0_93_1 : ∀ j : Int, 0 ≤ j → (j = v_iv (n_v vs 10) → w_ei ws (w_ar ws (n_v vs 0) 93) j = v_iv (n_v vs 21)) ∧ (j ≠ v_iv (n_v vs 10) → w_ei ws (w_ar ws (n_v vs 0) 93) j = w_ei w1 (w_ar ws (n_v vs 0) 93) j) := fun j hj => ⟨fun h => by unfold w_ei; rw [s1.1, if_pos ⟨ad_14.symm, by rw [h]⟩], fun h => by unfold w_ei; rw [s1.1, if_neg (fun e => h (by have := e.2; omega))]⟩
  have hE_0_93_2 : ∀ j : Int, 0 ≤ j → (j = v_iv (n_v vs 8) → w_ei w1 (w_ar ws (n_v vs 0) 93) j = v_iv (n_v vs 18)) ∧ (j ≠ v_iv (n_v vs 8) → w_ei w1 (w_ar ws (n_v vs 0) 93) j = w_ei w2 (w_ar ws (n_v vs 0) 93) j) := fun j hj => ⟨fun h => by unfold w_ei; rw [s2.1, if_pos ⟨ad_14.symm, by rw [h]⟩], fun h => by unfold w_ei; rw [s2.1, if_neg (fun e => h (by have := e.2; omega))]⟩
  have kz_0_79 := fdq_146 hD hth r0
  have kz_0_80 := fdq_130 hD hth r0
  have kz_0_81 := fdq_123 hD hth r0
  have nf0 : fc_1 PRD (20, [1, 22], [60, 3, 10, 413, 79, 80, 81, 90, 93, 82, 83, 84, 85, 86, 87, 88, 89]) ws (vs) := by
    refine ⟨nf_in hl rfl, sgq_1129 ?_⟩
    · show UPC (w_fi ws (n_v vs 1) 79) (w_fi ws (n_v vs 1) 80) (w_fi ws (n_v vs 1) 81) (w_ei ws (w_ar ws (n_v vs 1) 90)) (w_ei ws (w_ar ws (n_v vs 1) 93)) (w_ei ws (w_ar ws (n_v vs 1) 82)) (w_ei ws (w_ar ws (n_v vs 1) 83)) (w_ei ws (w_ar ws (n_v vs 1) 84)) (w_ei ws (w_ar ws (n_v vs 1) 85)) (w_ei ws (w_ar ws (n_v vs 1) 86)) (w_ei ws (w_ar ws (n_v vs 1) 87)) (w_ei ws (w_ar ws (n_v vs 1) 88)) (w_ei ws (w_ar ws (n_v vs 1) 89)) (v_iv (n_v vs 22))
      rw [q1]
      exact vc_Mo_up_8_0 (v_iv (n_v vs 5)) (v_iv (n_v vs 6)) (v_iv (n_v vs 8)) (v_iv (n_v vs 10)) (v_iv (n_v vs 12)) (v_iv (n_v vs 15)) (v_iv (n_v vs 17)) (v_iv (n_v vs 18)) (v_iv (n_v vs 19)) (v_iv (n_v vs 20)) (v_iv (n_v vs 21)) (v_iv (n_v vs 22)) (w_fi ws (n_v vs 0) 79) (w_fi ws (n_v vs 0) 80) (w_ei w1 (w_ar ws (n_v vs 0) 85)) (w_ei w1 (w_ar ws (n_v vs 0) 93)) (w_fi w1 (n_v vs 0) 79) (w_fi w1 (n_v vs 0) 80) (w_ei w2 (w_ar ws (n_v vs 0) 85)) (w_ei w2 (w_ar ws (n_v vs 0) 93)) (w_ei w2 (w_ar ws (n_v vs 0) 86)) (w_ei w2 (w_ar ws (n_v vs 0) 84)) (w_ei w2 (w_ar ws (n_v vs 0) 83)) (w_fi w2 (n_v vs 0) 80) (w_fi w2 (n_v vs 0) 79) (w_ei w2 (w_ar ws (n_v vs 0) 90)) (w_ei w2 (w_ar ws (n_v vs 0) 82)) (w_ei w2 (w_ar ws (n_v vs 0) 87)) (w_ei w2 (w_ar ws (n_v vs 0) 88)) (w_ei w2 (w_ar ws (n_v vs 0) 89)) (w_fi w2 (n_v vs 0) 81) (w_fi ws (n_v vs 0) 81) (w_fi w1 (n_v vs 0) 81) (w_ei ws (w_ar ws (n_v vs 0) 82)) (w_ei w1 (w_ar ws (n_v vs 0) 82)) (w_ei ws (w_ar ws (n_v vs 0) 83)) (w_ei w1 (w_ar ws (n_v vs 0) 83)) (w_ei ws (w_ar ws (n_v vs 0) 84)) (w_ei w1 (w_ar ws (n_v vs 0) 84)) (w_ei ws (w_ar ws (n_v vs 0) 85)) (w_ei ws (w_ar ws (n_v vs 0) 86)) (w_ei w1 (w_ar ws (n_v vs 0) 86)) (w_ei ws (w_ar ws (n_v vs 0) 87)) (w_ei w1 (w_ar ws (n_v vs 0) 87)) (w_ei ws (w_ar ws (n_v vs 0) 88)) (w_ei w1 (w_ar ws (n_v vs 0) 88)) (w_ei ws (w_ar ws (n_v vs 0) 89)) (w_ei w1 (w_ar ws (n_v vs 0) 89)) (w_ei ws (w_ar ws (n_v vs 0) 90)) (w_ei w1 (w_ar ws (n_v vs 0) 90)) (w_ei ws (w_ar ws (n_v vs 0) 93)) k5 k6 k8 k10 k12 k15 k17 k18 k19 k20 k21 k22 d0 d1 d5 f0 f7 h8 h10 f17 h18 h19 f20 h21 h23 h25 g28 f32 fe_0_79_1 fe_0_80_1 fe_0_81_1 fe_0_79_2 fe_0_80_2 fe_0_81_2 hE_0_82_1 hE_0_82_2 hE_0_83_1 hE_0_83_2 hE_0_84_1 hE_0_84_2 hE_0_85_1 hE_0_85_2 hE_0_86_1 hE_0_86_2 hE_0_87_1 hE_0_87_2 hE_0_88_1 hE_0_88_2 hE_0_89_1 hE_0_89_2 hE_0_90_1 hE_0_90_2 hE_0_93_1 hE_0_93_2 kz_0_79 kz_0_80 kz_0_81
  have nf1 : fc_1 PRD (20, [22, 1], [50, 1, 0, 1080, 0, 2, 1, 0, 2, 1, 80]) ws (vs) := by
    refine ⟨nf_in hl rfl, sgq_1130 ?_⟩
    · show v_iv (n_v vs 22) ≤ w_fi ws (n_v vs 1) 80
      rw [q1]
      exact vc_Mo_up_8_1 (v_iv (n_v vs 5)) (v_iv (n_v vs 6)) (v_iv (n_v vs 22)) (w_fi ws (n_v vs 0) 79) (w_fi ws (n_v vs 0) 80) (w_ei w1 (w_ar ws (n_v vs 0) 85)) (w_fi w1 (n_v vs 0) 79) (w_fi w1 (n_v vs 0) 80) (w_ei w2 (w_ar ws (n_v vs 0) 85)) (w_ei w2 (w_ar ws (n_v vs 0) 86)) (w_ei w2 (w_ar ws (n_v vs 0) 84)) (w_ei w2 (w_ar ws (n_v vs 0) 83)) (w_fi w2 (n_v vs 0) 80) (w_fi w2 (n_v vs 0) 79) (w_ei w2 (w_ar ws (n_v vs 0) 90)) (w_ei w2 (w_ar ws (n_v vs 0) 82)) (w_ei w2 (w_ar ws (n_v vs 0) 87)) (w_ei w2 (w_ar ws (n_v vs 0) 88)) (w_ei w2 (w_ar ws (n_v vs 0) 89)) (w_fi w2 (n_v vs 0) 81) (w_fi ws (n_v vs 0) 81) (w_fi w1 (n_v vs 0) 81) (w_ei ws (w_ar ws (n_v vs 0) 82)) (w_ei w1 (w_ar ws (n_v vs 0) 82)) (w_ei ws (w_ar ws (n_v vs 0) 83)) (w_ei w1 (w_ar ws (n_v vs 0) 83)) (w_ei ws (w_ar ws (n_v vs 0) 84)) (w_ei w1 (w_ar ws (n_v vs 0) 84)) (w_ei ws (w_ar ws (n_v vs 0) 85)) (w_ei ws (w_ar ws (n_v vs 0) 86)) (w_ei w1 (w_ar ws (n_v vs 0) 86)) (w_ei ws (w_ar ws (n_v vs 0) 87)) (w_ei w1 (w_ar ws (n_v vs 0) 87)) (w_ei ws (w_ar ws (n_v vs 0) 88)) (w_ei w1 (w_ar ws (n_v vs 0) 88)) (w_ei ws (w_ar ws (n_v vs 0) 89)) (w_ei w1 (w_ar ws (n_v vs 0) 89)) (w_ei ws (w_ar ws (n_v vs 0) 90)) (w_ei w1 (w_ar ws (n_v vs 0) 90)) k5 k6 k22 d0 d1 d5 g28 fe_0_79_1 fe_0_80_1 fe_0_81_1 fe_0_79_2 fe_0_80_2 fe_0_81_2 hE_0_82_1 hE_0_82_2 hE_0_83_1 hE_0_83_2 hE_0_84_1 hE_0_84_2 hE_0_85_1 hE_0_85_2 hE_0_86_1 hE_0_86_2 hE_0_87_1 hE_0_87_2 hE_0_88_1 hE_0_88_2 hE_0_89_1 hE_0_89_2 hE_0_90_1 hE_0_90_2 kz_0_79 kz_0_80 kz_0_81
  refine ⟨(fun _ h => (by cases h)), [], trivial, ?_, (fun _ h => (by cases h))⟩
  rw [List.append_nil]
  exact List.forall_mem_cons.mpr ⟨⟨show (20 : Nat) < 100 from by decide, nf0⟩, List.forall_mem_cons.mpr ⟨⟨show (20 : Nat) < 100 from by decide, nf1⟩, (fun _ h => (by cases h))⟩⟩
set_option maxHeartbeats 4000000 in
theorem vc_Mo_up_9_r0 (x2 : Int) (x5 : Int) (x6 : Int) (x8 : Int) (x10 : Int) (x20 : Int) (x21 : Int) (x22 : Int) (x24 : Int) (x25 : Int) (costW_0 : Int → Int) (flow_0 : Int → Int) (spot_0 : Int → Int) (costPlain_0 : Int → Int) (costB_0 : Int → Int) (costA_0 : Int → Int) (costMany_0 : Int) (pointMany_0 : Int) (goes_0 : Int → Int) (apartA_0 : Int → Int) (apartB_0 : Int → Int) (apart_0 : Int → Int) (apartMany_0 : Int) (k2 : 2 ≤ x2 ∧ x2 ≤ 78) (k5 : 0 ≤ x5 ∧ x5 ≤ 199) (k6 : 1 ≤ x6 ∧ x6 ≤ 200) (k8 : 0 ≤ x8 ∧ x8 ≤ 75) (k10 : 0 ≤ x10 ∧ x10 ≤ 75) (k20 : 0 ≤ x20 ∧ x20 ≤ 5850) (k21 : 0 ≤ x21 ∧ x21 ≤ 5925) (k22 : 0 ≤ x22 ∧ x22 ≤ 410000000) (k24 : 0 ≤ x24 ∧ x24 ≤ 72) (k25 : 0 ≤ x25 ∧ x25 ≤ 410000072) (d6 : x6 + (-4294967296) ≤ x5 ∧ x5 ≤ x6 + (-1)) (f0 : x25 = x22 + x24) (h1 : x24 = costW_0 (x5)) (h3 : x22 = flow_0 (x21)) (f4 : x21 = x20 + x10) (f5 : x20 = x2 * x8) (h17 : x10 = costB_0 (x5)) (h19 : x8 = costA_0 (x5)) (g22 : x6 = costMany_0) (f23 : x2 = (pointMany_0 + 2)) (f26 : UPC (pointMany_0) (costMany_0) (apartMany_0) (flow_0) (goes_0) (spot_0) (costA_0) (costB_0) (costW_0) (costPlain_0) (apartA_0) (apartB_0) (apart_0) (x5)) (kz_0_79 : 0 ≤ pointMany_0 ∧ pointMany_0 ≤ 76) (kz_0_80 : 0 ≤ costMany_0 ∧ costMany_0 ≤ 200) (kz_0_81 : 0 ≤ apartMany_0 ∧ apartMany_0 ≤ 200) : 0 ≤ x25 ∧ x25 ≤ 410000000 := by
  have h := upc_f1 (a := x8) (b := x10) ‹UPC _ _ _ _ _ _ _ _ _ _ _ _ _ _› (by omega) (by omega) (by omega) (by assumption) (by assumption) (by assumption) (by assumption) (by assumption) (by assumption)
  omega
def o_Mo_up_9 : or_T := (251, 26, [(0, (2, 0, 0, [165])), (1, (2, 0, 0, [165])), (2, (0, 2, 78, [])), (3, (0, 0, 76, [])), (4, (0, 1, 77, [])), (5, (0, 0, 199, [])), (6, (0, 1, 200, [])), (7, (2, 0, 0, [220])), (8, (0, 0, 75, [])), (9, (2, 0, 0, [221])), (10, (0, 0, 75, [])), (11, (2, 0, 0, [223])), (12, (0, 0, 0, [])), (13, (2, 0, 0, [219])), (14, (0, 0, 221100000, [])), (15, (0, 0, 221100000, [])), (17, (0, 0, 221100000, [])), (18, (0, 0, 221100000, [])), (19, (2, 0, 0, [227])), (20, (0, 0, 5850, [])), (21, (0, 0, 5925, [])), (22, (0, 0, 410000000, [])), (23, (2, 0, 0, [222])), (24, (0, 0, 72, [])), (25, (0, 0, 410000072, []))], [(1, [25, 22, 24], []), (10, [24, 23, 5], []), (9, [23, 1], [85]), (10, [22, 19, 21], []), (1, [21, 20, 10], []), (3, [20, 2, 8], []), (9, [19, 1], [90]), (7, [17, 18], [5]), (10, [18, 13, 10], []), (9, [13, 1], [82]), (10, [17, 13, 8], []), (7, [14, 15], [3]), (10, [15, 13, 10], []), (10, [14, 13, 8], []), (8, [12], [0]), (10, [12, 11, 5], []), (9, [11, 1], [86]), (10, [10, 9, 5], []), (9, [9, 1], [84]), (10, [8, 7, 5], []), (9, [7, 1], [83]), (7, [5, 6], [2]), (9, [6, 1], [80]), (20, [2, 1], [50, 1, 0, 1079, 1, 2, 1, 0, 4, 3, 2, 1, 79, 0, 2]), (20, [3, 1], [50, 1, 0, 1079, 1, 2, 1, 0, 2, 1, 79]), (20, [4, 1], [50, 1, 0, 1079, 1, 2, 1, 0, 4, 3, 2, 1, 79, 0, 1]), (20, [1, 5], [60, 3, 10, 413, 79, 80, 81, 90, 93, 82, 83, 84, 85, 86, 87, 88, 89]), (20, [5, 1], [50, 1, 0, 1080, 0, 2, 1, 0, 2, 1, 80]), (24, [0, 1], [])], [(25, (0, 0, 410000000, []))], [], [], [], [(25, 24, 0, 410000000), (25, 22, 0, 72), (21, 10, 0, 5850), (21, 20, 0, 75), (17, 18, -4294967296, 0), (14, 15, 0, 4294967296), (5, 6, -4294967296, -1), (2, 3, -4294967296, 2), (2, 4, -4294967296, 1), (3, 2, -4294967296, -2), (3, 4, -4294967296, -1), (4, 2, -4294967296, -1), (4, 3, -4294967296, 1)])
theorem oo_Mo_up_9 {kA : Nat → ClassId} : or_ok PRD kA GG o_Mo_up_9 := by
  refine or_mk fun A ta ws vs hD hth hl => ?_
  intro t0 r0 t1 r1 t2 k2 t3 k3 t4 k4 t5 k5 t6 k6 t7 r7 t8 k8 t9 r9 t10 k10 t11 r11 t12 k12 t13 r13 t14 k14 t15 k15 t17 k17 t18 k18 t19 r19 t20 k20 t21 k21 t22 k22 t23 r23 t24 k24 t25 k25 d0 d1 d2 d3 d4 d5 d6 d7 d8 d9 d10 d11 d12 f0 f1 f2 f3 f4 f5 f6 f7 f8 f9 f10 f11 f12 f13 f14 f15 f16 f17 f18 f19 f20 f21 f22 f23 f24 f25 f26 f27 f28
  replace f1 := shm_106 f1
  replace f2 := shm_553 f2
  replace f3 := shm_106 f3
  replace f6 := shm_934 f6
  replace f17 := shm_106 f17
  replace f18 := shm_554 f18
  replace f19 := shm_106 f19
  replace f20 := shm_548 f20
  replace f22 := shm_547 f22
  replace f23 := shm_914 f23
  replace f26 := shm_1129 f26
  replace f28 := shm_5 f28
  have q1 : n_v vs 1 = n_v vs 0 := f28.symm
  simp only [q1] at f2 f6 f18 f20 f22 f23 f26
  have ad_23 : v_ad (n_v vs 23) = w_ar ws (n_v vs 0) 85 := congrArg v_ad f2
  have ad_19 : v_ad (n_v vs 19) = w_ar ws (n_v vs 0) 90 := congrArg v_ad f6
  have ad_9 : v_ad (n_v vs 9) = w_ar ws (n_v vs 0) 84 := congrArg v_ad f18
  have ad_7 : v_ad (n_v vs 7) = w_ar ws (n_v vs 0) 83 := congrArg v_ad f20
  simp only [ad_23] at f1
  have h1 : v_iv (n_v vs 24) = w_ei ws (w_ar ws (n_v vs 0) 85) (v_iv (n_v vs 5)) := f1
  simp only [ad_19] at f3
  have h3 : v_iv (n_v vs 22) = w_ei ws (w_ar ws (n_v vs 0) 90) (v_iv (n_v vs 21)) := f3
  simp only [ad_9] at f17
  have h17 : v_iv (n_v vs 10) = w_ei ws (w_ar ws (n_v vs 0) 84) (v_iv (n_v vs 5)) := f17
  simp only [ad_7] at f19
  have h19 : v_iv (n_v vs 8) = w_ei ws (w_ar ws (n_v vs 0) 83) (v_iv (n_v vs 5)) := f19
  have g22 : v_iv (n_v vs 6) = w_fi ws (n_v vs 0) 80 := congrArg v_iv f22
  have kz_0_79 := fdq_146 hD hth r0
  have kz_0_80 := fdq_130 hD hth r0
  have kz_0_81 := fdq_123 hD hth r0
  have hrf0 : 0 ≤ v_iv (n_v vs 25) ∧ v_iv (n_v vs 25) ≤ 410000000 := vc_Mo_up_9_r0 (v_iv (n_v vs 2)) (v_iv (n_v vs 5)) (v_iv (n_v vs 6)) (v_iv (n_v vs 8)) (v_iv (n_v vs 10)) (v_iv (n_v vs 20)) (v_iv (n_v vs 21)) (v_iv (n_v vs 22)) (v_iv (n_v vs 24)) (v_iv (n_v vs 25)) (w_ei ws (w_ar ws (n_v vs 0) 85)) (w_ei ws (w_ar ws (n_v vs 0) 90)) (w_ei ws (w_ar ws (n_v vs 0) 82)) (w_ei ws (w_ar ws (n_v vs 0) 86)) (w_ei ws (w_ar ws (n_v vs 0) 84)) (w_ei ws (w_ar ws (n_v vs 0) 83)) (w_fi ws (n_v vs 0) 80) (w_fi ws (n_v vs 0) 79) (w_ei ws (w_ar ws (n_v vs 0) 93)) (w_ei ws (w_ar ws (n_v vs 0) 87)) (w_ei ws (w_ar ws (n_v vs 0) 88)) (w_ei ws (w_ar ws (n_v vs 0) 89)) (w_fi ws (n_v vs 0) 81) k2 k5 k6 k8 k10 k20 k21 k22 k24 k25 d6 (shm_12 f0) h1 h3 (shm_12 f4) (shm_38 f5) h17 h19 g22 f23 f26 kz_0_79 kz_0_80 kz_0_81
  have rf25 : tv_ok ta (0, 0, 410000000, []) (n_v vs 25) := tv_in t25 (by first | omega | grind) (by first | omega | grind)
  refine ⟨List.forall_mem_cons.mpr ⟨rf25, (fun _ h => (by cases h))⟩, [], trivial, ?_, (fun _ h => (by cases h))⟩
  rw [List.append_nil]
  exact (fun _ h => (by cases h))
set_option maxHeartbeats 4000000 in
theorem vc_Mo_up_10_r0 (x2 : Int) (x5 : Int) (x6 : Int) (x8 : Int) (x10 : Int) (x20 : Int) (x21 : Int) (x22 : Int) (x24 : Int) (x25 : Int) (x26 : Int) (x27 : Int) (x28 : Int) (x29 : Int) (x30 : Int) (costW_0 : Int → Int) (flow_0 : Int → Int) (pointMany_0 : Int) (costMany_0 : Int) (costW_1 : Int → Int) (flow_1 : Int → Int) (spot_1 : Int → Int) (costPlain_1 : Int → Int) (costB_1 : Int → Int) (costA_1 : Int → Int) (costMany_1 : Int) (pointMany_1 : Int) (goes_1 : Int → Int) (apartA_1 : Int → Int) (apartB_1 : Int → Int) (apart_1 : Int → Int) (apartMany_1 : Int) (apartMany_0 : Int) (spot_0 : Int → Int) (costA_0 : Int → Int) (costB_0 : Int → Int) (costPlain_0 : Int → Int) (apartA_0 : Int → Int) (apartB_0 : Int → Int) (apart_0 : Int → Int) (goes_0 : Int → Int) (k2 : 2 ≤ x2 ∧ x2 ≤ 78) (k5 : 0 ≤ x5 ∧ x5 ≤ 199) (k6 : 1 ≤ x6 ∧ x6 ≤ 200) (k8 : 0 ≤ x8 ∧ x8 ≤ 75) (k10 : 0 ≤ x10 ∧ x10 ≤ 75) (k20 : 0 ≤ x20 ∧ x20 ≤ 5850) (k21 : 0 ≤ x21 ∧ x21 ≤ 5925) (k22 : 0 ≤ x22 ∧ x22 ≤ 410000000) (k24 : 0 ≤ x24 ∧ x24 ≤ 72) (k25 : 0 ≤ x25 ∧ x25 ≤ 410000000) (k26 : 0 ≤ x26 ∧ x26 ≤ 5850) (k27 : 0 ≤ x27 ∧ x27 ≤ 5925) (k28 : 0 ≤ x28 ∧ x28 ≤ 410000000) (k29 : 0 ≤ x29 ∧ x29 ≤ 72) (k30 : 0 ≤ x30 ∧ x30 ≤ 410000072) (d0 : x29 + 0 ≤ x30 ∧ x30 ≤ x29 + 410000000) (d10 : x6 + (-4294967296) ≤ x5 ∧ x5 ≤ x6 + (-1)) (f0 : x30 = x28 + x29) (h1 : x29 = costW_0 (x5)) (h3 : x28 = flow_0 (x27)) (f4 : x27 = x26 + x8) (f5 : x26 = x2 * x10) (f13 : x25 = x22 + x24) (h14 : x24 = costW_1 (x5)) (h15 : x22 = flow_1 (x21)) (f16 : x21 = x20 + x10) (f17 : x20 = x2 * x8) (h28 : x10 = costB_1 (x5)) (h30 : x8 = costA_1 (x5)) (g33 : x6 = costMany_1) (f34 : x2 = (pointMany_1 + 2)) (f37 : UPC (pointMany_1) (costMany_1) (apartMany_1) (flow_1) (goes_1) (spot_1) (costA_1) (costB_1) (costW_1) (costPlain_1) (apartA_1) (apartB_1) (apart_1) (x5)) (fe_0_79_1 : pointMany_0 = pointMany_1) (fe_0_80_1 : costMany_0 = costMany_1) (fe_0_81_1 : apartMany_0 = apartMany_1) (hE_0_82_1 : ∀ j : Int, spot_0 j = spot_1 j) (hE_0_83_1 : ∀ j : Int, costA_0 j = costA_1 j) (hE_0_84_1 : ∀ j : Int, costB_0 j = costB_1 j) (hE_0_85_1 : ∀ j : Int, costW_0 j = costW_1 j) (hE_0_86_1 : ∀ j : Int, costPlain_0 j = costPlain_1 j) (hE_0_87_1 : ∀ j : Int, apartA_0 j = apartA_1 j) (hE_0_88_1 : ∀ j : Int, apartB_0 j = apartB_1 j) (hE_0_89_1 : ∀ j : Int, apart_0 j = apart_1 j) (hE_0_90_1 : ∀ j : Int, 0 ≤ j → (j = x21 → flow_0 j = x25) ∧ (j ≠ x21 → flow_0 j = flow_1 j)) (hE_0_93_1 : ∀ j : Int, goes_0 j = goes_1 j) (kz_0_79 : 0 ≤ pointMany_0 ∧ pointMany_0 ≤ 76) (kz_0_80 : 0 ≤ costMany_0 ∧ costMany_0 ≤ 200) (kz_0_81 : 0 ≤ apartMany_0 ∧ apartMany_0 ≤ 200) : 0 ≤ x30 ∧ x30 ≤ 410000000 := by
  subst fe_0_79_1
  subst fe_0_80_1
  subst fe_0_81_1
  have e_hE_0_82_1 := funext hE_0_82_1; subst e_hE_0_82_1
  have e_hE_0_83_1 := funext hE_0_83_1; subst e_hE_0_83_1
  have e_hE_0_84_1 := funext hE_0_84_1; subst e_hE_0_84_1
  have e_hE_0_85_1 := funext hE_0_85_1; subst e_hE_0_85_1
  have e_hE_0_86_1 := funext hE_0_86_1; subst e_hE_0_86_1
  have e_hE_0_87_1 := funext hE_0_87_1; subst e_hE_0_87_1
  have e_hE_0_88_1 := funext hE_0_88_1; subst e_hE_0_88_1
  have e_hE_0_89_1 := funext hE_0_89_1; subst e_hE_0_89_1
  have e_hE_0_93_1 := funext hE_0_93_1; subst e_hE_0_93_1
  have h := upc_f2 (a := x8) (b := x10) (w := x24) (w2 := x29) (q := x21) (r := x20) (o := x22) (r2 := x26) (q2 := x27) (o2 := x28) ‹UPC _ _ _ _ _ _ _ _ _ _ _ _ _ _› (by omega) (by omega) (by omega) (by assumption) (by assumption) (by assumption) (by assumption) (by assumption) (by assumption) (by assumption) (by assumption) (by assumption) (by assumption) (by assumption) (by assumption)
  omega
def o_Mo_up_10 : or_T := (273, 31, [(0, (2, 0, 0, [165])), (1, (2, 0, 0, [165])), (2, (0, 2, 78, [])), (3, (0, 0, 76, [])), (4, (0, 1, 77, [])), (5, (0, 0, 199, [])), (6, (0, 1, 200, [])), (7, (2, 0, 0, [220])), (8, (0, 0, 75, [])), (9, (2, 0, 0, [221])), (10, (0, 0, 75, [])), (11, (2, 0, 0, [223])), (12, (0, 0, 0, [])), (13, (2, 0, 0, [219])), (14, (0, 0, 221100000, [])), (15, (0, 0, 221100000, [])), (17, (0, 0, 221100000, [])), (18, (0, 0, 221100000, [])), (19, (2, 0, 0, [227])), (20, (0, 0, 5850, [])), (21, (0, 0, 5925, [])), (22, (0, 0, 410000000, [])), (23, (2, 0, 0, [222])), (24, (0, 0, 72, [])), (25, (0, 0, 410000000, [])), (26, (0, 0, 5850, [])), (27, (0, 0, 5925, [])), (28, (0, 0, 410000000, [])), (29, (0, 0, 72, [])), (30, (0, 0, 410000072, []))], [(1, [30, 28, 29], []), (10, [29, 23, 5], []), (9, [23, 1], [85]), (10, [28, 19, 27], []), (1, [27, 26, 8], []), (3, [26, 2, 10], []), (9, [19, 1], [90]), (20, [2, 1], [50, 1, 0, 1079, 1, 2, 1, 0, 4, 3, 2, 1, 79, 0, 2]), (20, [3, 1], [50, 1, 0, 1079, 1, 2, 1, 0, 2, 1, 79]), (20, [4, 1], [50, 1, 0, 1079, 1, 2, 1, 0, 4, 3, 2, 1, 79, 0, 1]), (20, [5, 1], [50, 1, 0, 1080, 0, 2, 1, 0, 2, 1, 80]), (24, [0, 1], []), (100, [19, 21, 25], []), (1, [25, 22, 24], []), (10, [24, 23, 5], []), (10, [22, 19, 21], []), (1, [21, 20, 10], []), (3, [20, 2, 8], []), (7, [17, 18], [5]), (10, [18, 13, 10], []), (9, [13, 1], [82]), (10, [17, 13, 8], []), (7, [14, 15], [3]), (10, [15, 13, 10], []), (10, [14, 13, 8], []), (8, [12], [0]), (10, [12, 11, 5], []), (9, [11, 1], [86]), (10, [10, 9, 5], []), (9, [9, 1], [84]), (10, [8, 7, 5], []), (9, [7, 1], [83]), (7, [5, 6], [2]), (9, [6, 1], [80]), (20, [2, 1], [50, 1, 0, 1079, 1, 2, 1, 0, 4, 3, 2, 1, 79, 0, 2]), (20, [3, 1], [50, 1, 0, 1079, 1, 2, 1, 0, 2, 1, 79]), (20, [4, 1], [50, 1, 0, 1079, 1, 2, 1, 0, 4, 3, 2, 1, 79, 0, 1]), (20, [1, 5], [60, 3, 10, 413, 79, 80, 81, 90, 93, 82, 83, 84, 85, 86, 87, 88, 89]), (20, [5, 1], [50, 1, 0, 1080, 0, 2, 1, 0, 2, 1, 80])], [(30, (0, 0, 410000000, []))], [], [], [], [(30, 29, 0, 410000000), (30, 28, 0, 72), (27, 8, 0, 5850), (27, 26, 0, 75), (25, 24, 0, 410000000), (25, 22, 0, 72), (21, 10, 0, 5850), (21, 20, 0, 75), (17, 18, -4294967296, 0), (14, 15, 0, 4294967296), (5, 6, -4294967296, -1), (2, 3, -4294967296, 2), (2, 4, -4294967296, 1), (3, 2, -4294967296, -2), (3, 4, -4294967296, -1), (4, 2, -4294967296, -1), (4, 3, -4294967296, 1)])
theorem oo_Mo_up_10 {kA : Nat → ClassId} : or_ok PRD kA GG o_Mo_up_10 := by
  refine or_mk fun A ta ws vs hD hth hl => ?_
  intro t0 r0 t1 r1 t2 k2 t3 k3 t4 k4 t5 k5 t6 k6 t7 r7 t8 k8 t9 r9 t10 k10 t11 r11 t12 k12 t13 r13 t14 k14 t15 k15 t17 k17 t18 k18 t19 r19 t20 k20 t21 k21 t22 k22 t23 r23 t24 k24 t25 k25 t26 k26 t27 k27 t28 k28 t29 k29 t30 k30 d0 d1 d2 d3 d4 d5 d6 d7 d8 d9 d10 d11 d12 d13 d14 d15 d16 f0 f1 f2 f3 f4 f5 f6 f7 f8 f9 f10 f11 ta1 w1 le1 s1 f13 f14 f15 f16 f17 f18 f19 f20 f21 f22 f23 f24 f25 f26 f27 f28 f29 f30 f31 f32 f33 f34 f35 f36 f37 f38
  replace f1 := shm_106 f1
  replace f2 := shm_553 f2
  replace f3 := shm_106 f3
  replace f6 := shm_934 f6
  replace f11 := shm_5 f11
  have s1 : (∀ b j, w_el ws b j = if b = v_ad (n_v vs 19) ∧ j = (v_iv (n_v vs 21)).toNat then v_iv (n_v vs 25) else w_el w1 b j) ∧ ∀ b k, w_fd ws b k = w_fd w1 b k := s1.2
  replace f14 := shm_106 f14
  replace f15 := shm_106 f15
  replace f28 := shm_106 f28
  replace f29 := shm_554 f29
  replace f30 := shm_106 f30
  replace f31 := shm_548 f31
  replace f33 := shm_547 f33
  replace f34 := shm_914 f34
  replace f37 := shm_1129 f37
  have q1 : n_v vs 1 = n_v vs 0 := f11.symm
  simp only [q1] at f2 f6 f29 f31 f33 f34 f37
  have ar_0_82_1 : w_ar w1 (n_v vs 0) 82 = w_ar ws (n_v vs 0) 82 := congrArg v_ad (s1.2 _ _).symm
  have cr_0_82 := fdq_225 hD hth r0
  have ar_0_83_1 : w_ar w1 (n_v vs 0) 83 = w_ar ws (n_v vs 0) 83 := congrArg v_ad (s1.2 _ _).symm
  have cr_0_83 := fdq_125 hD hth r0
  have ar_0_84_1 : w_ar w1 (n_v vs 0) 84 = w_ar ws (n_v vs 0) 84 := congrArg v_ad (s1.2 _ _).symm
  have cr_0_84 := fdq_126 hD hth r0
  have ar_0_85_1 : w_ar w1 (n_v vs 0) 85 = w_ar ws (n_v vs 0) 85 := congrArg v_ad (s1.2 _ _).symm
  have cr_0_85 := fdq_127 hD hth r0
  have ar_0_86_1 : w_ar w1 (n_v vs 0) 86 = w_ar ws (n_v vs 0) 86 := congrArg v_ad (s1.2 _ _).symm
  have cr_0_86 := fdq_128 hD hth r0
  have ar_0_87_1 : w_ar w1 (n_v vs 0) 87 = w_ar ws (n_v vs 0) 87 := congrArg v_ad (s1.2 _ _).symm
  have cr_0_87 := fdq_118 hD hth r0
  have ar_0_88_1 : w_ar w1 (n_v vs 0) 88 = w_ar ws (n_v vs 0) 88 := congrArg v_ad (s1.2 _ _).symm
  have cr_0_88 := fdq_119 hD hth r0
  have ar_0_89_1 : w_ar w1 (n_v vs 0) 89 = w_ar ws (n_v vs 0) 89 := congrArg v_ad (s1.2 _ _).symm
  have cr_0_89 := fdq_120 hD hth r0
  have ar_0_90_1 : w_ar w1 (n_v vs 0) 90 = w_ar ws (n_v vs 0) 90 := congrArg v_ad (s1.2 _ _).symm
  have ar_0_93_1 : w_ar w1 (n_v vs 0) 93 = w_ar ws (n_v vs 0) 93 := congrArg v_ad (s1.2 _ _).symm
  have cr_0_93 := fdq_268 hD hth r0
  have ad_23 : v_ad (n_v vs 23) = w_ar ws (n_v vs 0) 85 := congrArg v_ad f2
  have ad_19 : v_ad (n_v vs 19) = w_ar ws (n_v vs 0) 90 := congrArg v_ad f6
  have ad_9 : v_ad (n_v vs 9) = w_ar ws (n_v vs 0) 84 := (congrArg v_ad f29).trans ar_0_84_1
  have ad_7 : v_ad (n_v vs 7) = w_ar ws (n_v vs 0) 83 := (congrArg v_ad f31).trans ar_0_83_1
  simp only [ad_23] at f1
  have h1 : v_iv (n_v vs 29) = w_ei ws (w_ar ws (n_v vs 0) 85) (v_iv (n_v vs 5)) := f1
  simp only [ad_19] at f3
  have h3 : v_iv (n_v vs 28) = w_ei ws (w_ar ws (n_v vs 0) 90) (v_iv (n_v vs 27)) := f3
  simp only [ad_23] at f14
  have h14 : v_iv (n_v vs 24) = w_ei w1 (w_ar ws (n_v vs 0) 85) (v_iv (n_v vs 5)) := f14
  simp only [ad_19] at f15
  have h15 : v_iv (n_v vs 22) = w_ei w1 (w_ar ws (n_v vs 0) 90) (v_iv (n_v vs 21)) := f15
  simp only [ad_9] at f28
  have h28 : v_iv (n_v vs 10) = w_ei w1 (w_ar ws (n_v vs 0) 84) (v_iv (n_v vs 5)) := f28
  simp only [ad_7] at f30
  have h30 : v_iv (n_v vs 8) = w_ei w1 (w_ar ws (n_v vs 0) 83) (v_iv (n_v vs 5)) := f30
  have g33 : v_iv (n_v vs 6) = w_fi w1 (n_v vs 0) 80 := congrArg v_iv f33
  simp only [ar_0_82_1, ar_0_83_1, ar_0_84_1, ar_0_85_1, ar_0_86_1, ar_0_87_1, ar_0_88_1, ar_0_89_1, ar_0_90_1, ar_0_93_1] at f37
  have fe_0_79_1 : w_fi ws (n_v vs 0) 79 = w_fi w1 (n_v vs 0) 79 := congrArg v_iv (s1.2 _ _)
  have fe_0_80_1 : w_fi ws (n_v vs 0) 80 = w_fi w1 (n_v vs 0) 80 := congrArg v_iv (s1.2 _ _)
  have fe_0_81_1 : w_fi ws (n_v vs 0) 81 = w_fi w1 (n_v vs 0) 81 := congrArg v_iv (s1.2 _ _)
  have hE_0_82_1 : ∀ j : Int, w_ei ws (w_ar ws (n_v vs 0) 82) j = w_ei w1 (w_ar ws (n_v vs 0) 82) j := el_kp s1.1 r19 cr_0_82 (by decide)
  have hE_0_83_1 : ∀ j : Int, w_ei ws (w_ar ws (n_v vs 0) 83) j = w_ei w1 (w_ar ws (n_v vs 0) 83) j := el_kp s1.1 r19 cr_0_83 (by decide)
  have hE_0_84_1 : ∀ j : Int, w_ei ws (w_ar ws (n_v vs 0) 84) j = w_ei w1 (w_ar ws (n_v vs 0) 84) j := el_kp s1.1 r19 cr_0_84 (by decide)
  have hE_0_85_1 : ∀ j : Int, w_ei ws (w_ar ws (n_v vs 0) 85) j = w_ei w1 (w_ar ws (n_v vs 0) 85) j := el_kp s1.1 r19 cr_0_85 (by decide)
  have hE_0_86_1 : ∀ j : Int, w_ei ws (w_ar ws (n_v vs 0) 86) j = w_ei w1 (w_ar ws (n_v vs 0) 86) j := el_kp s1.1 r19 cr_0_86 (by decide)
  have hE_0_87_1 : ∀ j : Int, w_ei ws (w_ar ws (n_v vs 0) 87) j = w_ei w1 (w_ar ws (n_v vs 0) 87) j := el_kp s1.1 r19 cr_0_87 (by decide)
  have hE_0_88_1 : ∀ j : Int, w_ei ws (w_ar ws (n_v vs 0) 88) j = w_ei w1 (w_ar ws (n_v vs 0) 88) j := el_kp s1.1 r19 cr_0_88 (by decide)
  have hE_0_89_1 : ∀ j : Int, w_ei ws (w_ar ws (n_v vs 0) 89) j = w_ei w1 (w_ar ws (n_v vs 0) 89) j := el_kp s1.1 r19 cr_0_89 (by decide)
  have hE_0_90_1 : ∀ j : Int, 0 ≤ j → (j = v_iv (n_v vs 21) → w_ei ws (w_ar ws (n_v vs 0) 90) j = v_iv (n_v vs 25)) ∧ (j ≠ v_iv (n_v vs 21) → w_ei ws (w_ar ws (n_v vs 0) 90) j = w_ei w1 (w_ar ws (n_v vs 0) 90) j) := fun j hj => ⟨fun h => by unfold w_ei; rw [s1.1, if_pos ⟨ad_19.symm, by rw [h]⟩], fun h => by unfold w_ei; rw [s1.1, if_neg (fun e => h (by have := e.2; omega))]⟩
  have hE_0_93_1 : ∀ j : Int, w_ei ws (w_ar ws (n_v vs 0) 93) j = w_ei w1 (w_ar ws (n_v vs 0) 93) j := el_kp s1.1 r19 cr_0_93 (by decide)
  have kz_0_79 := fdq_146 hD hth r0
  have kz_0_80 := fdq_130 hD hth r0
  have kz_0_81 := fdq_123 hD hth r0
  have hrf0 : 0 ≤ v_iv (n_v vs 30) ∧ v_iv (n_v vs 30) ≤ 410000000 := vc_Mo_up_10_r0 (v_iv (n_v vs 2)) (v_iv (n_v vs 5)) (v_iv (n_v vs 6)) (v_iv (n_v vs 8)) (v_iv (n_v vs 10)) (v_iv (n_v vs 20)) (v_iv (n_v vs 21)) (v_iv (n_v vs 22)) (v_iv (n_v vs 24)) (v_iv (n_v vs 25)) (v_iv (n_v vs 26)) (v_iv (n_v vs 27)) (v_iv (n_v vs 28)) (v_iv (n_v vs 29)) (v_iv (n_v vs 30)) (w_ei ws (w_ar ws (n_v vs 0) 85)) (w_ei ws (w_ar ws (n_v vs 0) 90)) (w_fi ws (n_v vs 0) 79) (w_fi ws (n_v vs 0) 80) (w_ei w1 (w_ar ws (n_v vs 0) 85)) (w_ei w1 (w_ar ws (n_v vs 0) 90)) (w_ei w1 (w_ar ws (n_v vs 0) 82)) (w_ei w1 (w_ar ws (n_v vs 0) 86)) (w_ei w1 (w_ar ws (n_v vs 0) 84)) (w_ei w1 (w_ar ws (n_v vs 0) 83)) (w_fi w1 (n_v vs 0) 80) (w_fi w1 (n_v vs 0) 79) (w_ei w1 (w_ar ws (n_v vs 0) 93)) (w_ei w1 (w_ar ws (n_v vs 0) 87)) (w_ei w1 (w_ar ws (n_v vs 0) 88)) (w_ei w1 (w_ar ws (n_v vs 0) 89)) (w_fi w1 (n_v vs 0) 81) (w_fi ws (n_v vs 0) 81) (w_ei ws (w_ar ws (n_v vs 0) 82)) (w_ei ws (w_ar ws (n_v vs 0) 83)) (w_ei ws (w_ar ws (n_v vs 0) 84)) (w_ei ws (w_ar ws (n_v vs 0) 86)) (w_ei ws (w_ar ws (n_v vs 0) 87)) (w_ei ws (w_ar ws (n_v vs 0) 88)) (w_ei ws (w_ar ws (n_v vs 0) 89)) (w_ei ws (w_ar ws (n_v vs 0) 93)) k2 k5 k6 k8 k10 k20 k21 k22 k24 k25 k26 k27 k28 k29 k30 d0 d10 (shm_12 f0) h1 h3 (shm_12 f4) (shm_38 f5) (shm_12 f13) h14 h15 (shm_12 f16) (shm_38 f17) h28 h30 g33 f34 f37 fe_0_79_1 fe_0_80_1 fe_0_81_1 hE_0_82_1 hE_0_83_1 hE_0_84_1 hE_0_85_1 hE_0_86_1 hE_0_87_1 hE_0_88_1 hE_0_89_1 hE_0_90_1 hE_0_93_1 kz_0_79 kz_0_80 kz_0_81
  have rf30 : tv_ok ta (0, 0, 410000000, []) (n_v vs 30) := tv_in t30 (by first | omega | grind) (by first | omega | grind)
  refine ⟨List.forall_mem_cons.mpr ⟨rf30, (fun _ h => (by cases h))⟩, [], trivial, ?_, (fun _ h => (by cases h))⟩
  rw [List.append_nil]
  exact (fun _ h => (by cases h))
set_option maxHeartbeats 4000000 in
theorem vc_Mo_up_11_0 (x2 : Int) (x5 : Int) (x6 : Int) (x8 : Int) (x10 : Int) (x12 : Int) (x14 : Int) (x15 : Int) (x17 : Int) (x18 : Int) (x20 : Int) (x21 : Int) (x22 : Int) (x24 : Int) (x25 : Int) (x26 : Int) (x27 : Int) (x28 : Int) (x29 : Int) (x30 : Int) (x31 : Int) (pointMany_0 : Int) (costMany_0 : Int) (costW_1 : Int → Int) (flow_1 : Int → Int) (pointMany_1 : Int) (costMany_1 : Int) (costW_2 : Int → Int) (flow_2 : Int → Int) (spot_2 : Int → Int) (costPlain_2 : Int → Int) (costB_2 : Int → Int) (costA_2 : Int → Int) (costMany_2 : Int) (pointMany_2 : Int) (goes_2 : Int → Int) (apartA_2 : Int → Int) (apartB_2 : Int → Int) (apart_2 : Int → Int) (apartMany_2 : Int) (apartMany_0 : Int) (apartMany_1 : Int) (spot_0 : Int → Int) (spot_1 : Int → Int) (costA_0 : Int → Int) (costA_1 : Int → Int) (costB_0 : Int → Int) (costB_1 : Int → Int) (costW_0 : Int → Int) (costPlain_0 : Int → Int) (costPlain_1 : Int → Int) (apartA_0 : Int → Int) (apartA_1 : Int → Int) (apartB_0 : Int → Int) (apartB_1 : Int → Int) (apart_0 : Int → Int) (apart_1 : Int → Int) (flow_0 : Int → Int) (goes_0 : Int → Int) (goes_1 : Int → Int) (k2 : 2 ≤ x2 ∧ x2 ≤ 78) (k5 : 0 ≤ x5 ∧ x5 ≤ 199) (k6 : 1 ≤ x6 ∧ x6 ≤ 200) (k8 : 0 ≤ x8 ∧ x8 ≤ 75) (k10 : 0 ≤ x10 ∧ x10 ≤ 75) (k12 : 0 ≤ x12 ∧ x12 ≤ 0) (k14 : 0 ≤ x14 ∧ x14 ≤ 221100000) (k15 : 0 ≤ x15 ∧ x15 ≤ 221100000) (k17 : 0 ≤ x17 ∧ x17 ≤ 221100000) (k18 : 0 ≤ x18 ∧ x18 ≤ 221100000) (k20 : 0 ≤ x20 ∧ x20 ≤ 5850) (k21 : 0 ≤ x21 ∧ x21 ≤ 5925) (k22 : 0 ≤ x22 ∧ x22 ≤ 410000000) (k24 : 0 ≤ x24 ∧ x24 ≤ 72) (k25 : 0 ≤ x25 ∧ x25 ≤ 410000000) (k26 : 0 ≤ x26 ∧ x26 ≤ 5850) (k27 : 0 ≤ x27 ∧ x27 ≤ 5925) (k28 : 0 ≤ x28 ∧ x28 ≤ 410000000) (k29 : 0 ≤ x29 ∧ x29 ≤ 72) (k30 : 0 ≤ x30 ∧ x30 ≤ 410000000) (k31 : 1 ≤ x31 ∧ x31 ≤ 200) (d0 : x5 + 1 ≤ x31 ∧ x31 ≤ x5 + 1) (d1 : x6 + (-4294967296) ≤ x31 ∧ x31 ≤ x6 + 0) (d12 : x6 + (-4294967296) ≤ x5 ∧ x5 ≤ x6 + (-1)) (f0 : x31 = x5 + 1) (f7 : x30 = x28 + x29) (h8 : x29 = costW_1 (x5)) (h10 : x28 = flow_1 (x27)) (f11 : x27 = x26 + x8) (f12 : x26 = x2 * x10) (f19 : x25 = x22 + x24) (h20 : x24 = costW_2 (x5)) (h21 : x22 = flow_2 (x21)) (f22 : x21 = x20 + x10) (f23 : x20 = x2 * x8) (f24 : x17 ≤ x18) (h25 : x18 = spot_2 (x10)) (h27 : x17 = spot_2 (x8)) (f28 : x15 ≤ x14) (h29 : x15 = spot_2 (x10)) (h30 : x14 = spot_2 (x8)) (f31 : x12 = 0) (h32 : x12 = costPlain_2 (x5)) (h34 : x10 = costB_2 (x5)) (h36 : x8 = costA_2 (x5)) (g39 : x6 = costMany_2) (f40 : x2 = (pointMany_2 + 2)) (f43 : UPC (pointMany_2) (costMany_2) (apartMany_2) (flow_2) (goes_2) (spot_2) (costA_2) (costB_2) (costW_2) (costPlain_2) (apartA_2) (apartB_2) (apart_2) (x5)) (fe_0_79_1 : pointMany_0 = pointMany_1) (fe_0_80_1 : costMany_0 = costMany_1) (fe_0_81_1 : apartMany_0 = apartMany_1) (fe_0_79_2 : pointMany_1 = pointMany_2) (fe_0_80_2 : costMany_1 = costMany_2) (fe_0_81_2 : apartMany_1 = apartMany_2) (hE_0_82_1 : ∀ j : Int, spot_0 j = spot_1 j) (hE_0_82_2 : ∀ j : Int, spot_1 j = spot_2 j) (hE_0_83_1 : ∀ j : Int, costA_0 j = costA_1 j) (hE_0_83_2 : ∀ j : Int, costA_1 j = costA_2 j) (hE_0_84_1 : ∀ j : Int, costB_0 j = costB_1 j) (hE_0_84_2 : ∀ j : Int, costB_1 j = costB_2 j) (hE_0_85_1 : ∀ j : Int, costW_0 j = costW_1 j) (hE_0_85_2 : ∀ j : Int, costW_1 j = costW_2 j) (hE_0_86_1 : ∀ j : Int, costPlain_0 j = costPlain_1 j) (hE_0_86_2 : ∀ j : Int, costPlain_1 j = costPlain_2 j) (hE_0_87_1 : ∀ j : Int, apartA_0 j = apartA_1 j) (hE_0_87_2 : ∀ j : Int, apartA_1 j = apartA_2 j) (hE_0_88_1 : ∀ j : Int, apartB_0 j = apartB_1 j) (hE_0_88_2 : ∀ j : Int, apartB_1 j = apartB_2 j) (hE_0_89_1 : ∀ j : Int, apart_0 j = apart_1 j) (hE_0_89_2 : ∀ j : Int, apart_1 j = apart_2 j) (hE_0_90_1 : ∀ j : Int, 0 ≤ j → (j = x27 → flow_0 j = x30) ∧ (j ≠ x27 → flow_0 j = flow_1 j)) (hE_0_90_2 : ∀ j : Int, 0 ≤ j → (j = x21 → flow_1 j = x25) ∧ (j ≠ x21 → flow_1 j = flow_2 j)) (hE_0_93_1 : ∀ j : Int, goes_0 j = goes_1 j) (hE_0_93_2 : ∀ j : Int, goes_1 j = goes_2 j) (kz_0_79 : 0 ≤ pointMany_0 ∧ pointMany_0 ≤ 76) (kz_0_80 : 0 ≤ costMany_0 ∧ costMany_0 ≤ 200) (kz_0_81 : 0 ≤ apartMany_0 ∧ apartMany_0 ≤ 200) : UPC (pointMany_0) (costMany_0) (apartMany_0) (flow_0) (goes_0) (spot_0) (costA_0) (costB_0) (costW_0) (costPlain_0) (apartA_0) (apartB_0) (apart_0) (x31) := by
  subst fe_0_79_1
  subst fe_0_80_1
  subst fe_0_81_1
  subst fe_0_79_2
  subst fe_0_80_2
  subst fe_0_81_2
  have e_hE_0_82_1 := funext hE_0_82_1; subst e_hE_0_82_1
  have e_hE_0_82_2 := funext hE_0_82_2; subst e_hE_0_82_2
  have e_hE_0_83_1 := funext hE_0_83_1; subst e_hE_0_83_1
  have e_hE_0_83_2 := funext hE_0_83_2; subst e_hE_0_83_2
  have e_hE_0_84_1 := funext hE_0_84_1; subst e_hE_0_84_1
  have e_hE_0_84_2 := funext hE_0_84_2; subst e_hE_0_84_2
  have e_hE_0_85_1 := funext hE_0_85_1; subst e_hE_0_85_1
  have e_hE_0_85_2 := funext hE_0_85_2; subst e_hE_0_85_2
  have e_hE_0_86_1 := funext hE_0_86_1; subst e_hE_0_86_1
  have e_hE_0_86_2 := funext hE_0_86_2; subst e_hE_0_86_2
  have e_hE_0_87_1 := funext hE_0_87_1; subst e_hE_0_87_1
  have e_hE_0_87_2 := funext hE_0_87_2; subst e_hE_0_87_2
  have e_hE_0_88_1 := funext hE_0_88_1; subst e_hE_0_88_1
  have e_hE_0_88_2 := funext hE_0_88_2; subst e_hE_0_88_2
  have e_hE_0_89_1 := funext hE_0_89_1; subst e_hE_0_89_1
  have e_hE_0_89_2 := funext hE_0_89_2; subst e_hE_0_89_2
  have e_hE_0_93_1 := funext hE_0_93_1; subst e_hE_0_93_1
  have e_hE_0_93_2 := funext hE_0_93_2; subst e_hE_0_93_2
  first
    | exact upc_start ‹PBK _ _ _ _ _ _ _ _ _ _› ‹UZN _ _› (Int.le_refl _) ‹UZG _ _›.1 (by omega) (by omega)
    | exact upc_goP1 (a := x8) (b := x10) (w := x17) (w2 := x20) (pl := x12) (o1 := x15) (o2 := x19) ‹UPC _ _ _ _ _ _ _ _ _ _ _ _ _ _› (by omega) (by omega) (by assumption) (by assumption) (by assumption) (by assumption) (by assumption) (by assumption) (by omega) (by assumption) (by assumption) (by assumption) (by assumption) (by assumption) (by assumption)
    | exact upc_goP2 (a := x8) (b := x10) (w := x20) (w2 := x23) (ya := x14) (yb := x15) (o1 := x18) (o2 := x22) ‹UPC _ _ _ _ _ _ _ _ _ _ _ _ _ _› (by omega) (by omega) (by assumption) (by assumption) (by assumption) (by assumption) (by assumption) (by assumption) (by assumption) (by omega) (by assumption) (by assumption) (by assumption) (by assumption) (by assumption) (by assumption)
    | exact upc_goM2 (a := x8) (b := x10) (w := x22) (w2 := x25) (pl := x12) (ya := x17) (yb := x18) (o1 := x20) (o2 := x24) ‹UPC _ _ _ _ _ _ _ _ _ _ _ _ _ _› (by omega) (by omega) (by assumption) (by assumption) (by assumption) (by assumption) (by assumption) (by assumption) (by omega) (by assumption) (by assumption) (by omega) (by assumption) (by assumption) (by assumption) (by assumption) (by assumption) (by assumption)
    | exact upc_tie3 (a := x8) (b := x10) (w := x24) (w2 := x29) (pl := x12) (ya := x14) (yb := x15) (ya2 := x17) (yb2 := x18) (q1 := x21) (q2 := x27) (r1 := x20) (r2 := x26) (o1 := x22) (o2 := x28) ‹UPC _ _ _ _ _ _ _ _ _ _ _ _ _ _› (by omega) (by omega) (by assumption) (by omega) (by assumption) (by assumption) (by assumption) (by assumption) (by assumption) (by omega) (by assumption) (by assumption) (by omega) (by assumption) (by assumption) (by omega) (by assumption) (by assumption) (by assumption) (by assumption) (by assumption) (by assumption) (by assumption) (by assumption) (by assumption) (by assumption)
  
set_option maxHeartbeats 4000000 in
theorem vc_Mo_up_11_1 (x5 : Int) (x6 : Int) (x31 : Int) (pointMany_0 : Int) (costMany_0 : Int) (costW_1 : Int → Int) (pointMany_1 : Int) (costMany_1 : Int) (costW_2 : Int → Int) (spot_2 : Int → Int) (costPlain_2 : Int → Int) (costB_2 : Int → Int) (costA_2 : Int → Int) (costMany_2 : Int) (pointMany_2 : Int) (goes_2 : Int → Int) (apartA_2 : Int → Int) (apartB_2 : Int → Int) (apart_2 : Int → Int) (apartMany_2 : Int) (apartMany_0 : Int) (apartMany_1 : Int) (spot_0 : Int → Int) (spot_1 : Int → Int) (costA_0 : Int → Int) (costA_1 : Int → Int) (costB_0 : Int → Int) (costB_1 : Int → Int) (costW_0 : Int → Int) (costPlain_0 : Int → Int) (costPlain_1 : Int → Int) (apartA_0 : Int → Int) (apartA_1 : Int → Int) (apartB_0 : Int → Int) (apartB_1 : Int → Int) (apart_0 : Int → Int) (apart_1 : Int → Int) (goes_0 : Int → Int) (goes_1 : Int → Int) (k5 : 0 ≤ x5 ∧ x5 ≤ 199) (k6 : 1 ≤ x6 ∧ x6 ≤ 200) (k31 : 1 ≤ x31 ∧ x31 ≤ 200) (d0 : x5 + 1 ≤ x31 ∧ x31 ≤ x5 + 1) (d1 : x6 + (-4294967296) ≤ x31 ∧ x31 ≤ x6 + 0) (d12 : x6 + (-4294967296) ≤ x5 ∧ x5 ≤ x6 + (-1)) (g39 : x6 = costMany_2) (fe_0_79_1 : pointMany_0 = pointMany_1) (fe_0_80_1 : costMany_0 = costMany_1) (fe_0_81_1 : apartMany_0 = apartMany_1) (fe_0_79_2 : pointMany_1 = pointMany_2) (fe_0_80_2 : costMany_1 = costMany_2) (fe_0_81_2 : apartMany_1 = apartMany_2) (hE_0_82_1 : ∀ j : Int, spot_0 j = spot_1 j) (hE_0_82_2 : ∀ j : Int, spot_1 j = spot_2 j) (hE_0_83_1 : ∀ j : Int, costA_0 j = costA_1 j) (hE_0_83_2 : ∀ j : Int, costA_1 j = costA_2 j) (hE_0_84_1 : ∀ j : Int, costB_0 j = costB_1 j) (hE_0_84_2 : ∀ j : Int, costB_1 j = costB_2 j) (hE_0_85_1 : ∀ j : Int, costW_0 j = costW_1 j) (hE_0_85_2 : ∀ j : Int, costW_1 j = costW_2 j) (hE_0_86_1 : ∀ j : Int, costPlain_0 j = costPlain_1 j) (hE_0_86_2 : ∀ j : Int, costPlain_1 j = costPlain_2 j) (hE_0_87_1 : ∀ j : Int, apartA_0 j = apartA_1 j) (hE_0_87_2 : ∀ j : Int, apartA_1 j = apartA_2 j) (hE_0_88_1 : ∀ j : Int, apartB_0 j = apartB_1 j) (hE_0_88_2 : ∀ j : Int, apartB_1 j = apartB_2 j) (hE_0_89_1 : ∀ j : Int, apart_0 j = apart_1 j) (hE_0_89_2 : ∀ j : Int, apart_1 j = apart_2 j) (hE_0_93_1 : ∀ j : Int, goes_0 j = goes_1 j) (hE_0_93_2 : ∀ j : Int, goes_1 j = goes_2 j) (kz_0_79 : 0 ≤ pointMany_0 ∧ pointMany_0 ≤ 76) (kz_0_80 : 0 ≤ costMany_0 ∧ costMany_0 ≤ 200) (kz_0_81 : 0 ≤ apartMany_0 ∧ apartMany_0 ≤ 200) : x31 ≤ costMany_0 := by
  subst fe_0_79_1
  subst fe_0_80_1
  subst fe_0_81_1
  subst fe_0_79_2
  subst fe_0_80_2
  subst fe_0_81_2
  have e_hE_0_82_1 := funext hE_0_82_1; subst e_hE_0_82_1
  have e_hE_0_82_2 := funext hE_0_82_2; subst e_hE_0_82_2
  have e_hE_0_83_1 := funext hE_0_83_1; subst e_hE_0_83_1
  have e_hE_0_83_2 := funext hE_0_83_2; subst e_hE_0_83_2
  have e_hE_0_84_1 := funext hE_0_84_1; subst e_hE_0_84_1
  have e_hE_0_84_2 := funext hE_0_84_2; subst e_hE_0_84_2
  have e_hE_0_85_1 := funext hE_0_85_1; subst e_hE_0_85_1
  have e_hE_0_85_2 := funext hE_0_85_2; subst e_hE_0_85_2
  have e_hE_0_86_1 := funext hE_0_86_1; subst e_hE_0_86_1
  have e_hE_0_86_2 := funext hE_0_86_2; subst e_hE_0_86_2
  have e_hE_0_87_1 := funext hE_0_87_1; subst e_hE_0_87_1
  have e_hE_0_87_2 := funext hE_0_87_2; subst e_hE_0_87_2
  have e_hE_0_88_1 := funext hE_0_88_1; subst e_hE_0_88_1
  have e_hE_0_88_2 := funext hE_0_88_2; subst e_hE_0_88_2
  have e_hE_0_89_1 := funext hE_0_89_1; subst e_hE_0_89_1
  have e_hE_0_89_2 := funext hE_0_89_2; subst e_hE_0_89_2
  have e_hE_0_93_1 := funext hE_0_93_1; subst e_hE_0_93_1
  have e_hE_0_93_2 := funext hE_0_93_2; subst e_hE_0_93_2
  omega
def o_Mo_up_11 : or_T := (73, 32, [(0, (2, 0, 0, [165])), (2, (0, 2, 78, [])), (5, (0, 0, 199, [])), (6, (0, 1, 200, [])), (8, (0, 0, 75, [])), (10, (0, 0, 75, [])), (12, (0, 0, 0, [])), (14, (0, 0, 221100000, [])), (15, (0, 0, 221100000, [])), (17, (0, 0, 221100000, [])), (18, (0, 0, 221100000, [])), (19, (2, 0, 0, [227])), (20, (0, 0, 5850, [])), (21, (0, 0, 5925, [])), (22, (0, 0, 410000000, [])), (24, (0, 0, 72, [])), (25, (0, 0, 410000000, [])), (26, (0, 0, 5850, [])), (27, (0, 0, 5925, [])), (28, (0, 0, 410000000, [])), (29, (0, 0, 72, [])), (30, (0, 0, 410000000, [])), (31, (0, 1, 200, []))], [(6, [31, 5], [1]), (24, [0, 1], []), (100, [19, 27, 30], []), (1, [30, 28, 29], []), (10, [29, 23, 5], []), (9, [23, 1], [85]), (10, [28, 19, 27], []), (1, [27, 26, 8], []), (3, [26, 2, 10], []), (9, [19, 1], [90]), (100, [19, 21, 25], []), (1, [25, 22, 24], []), (10, [24, 23, 5], []), (10, [22, 19, 21], []), (1, [21, 20, 10], []), (3, [20, 2, 8], []), (7, [17, 18], [5]), (10, [18, 13, 10], []), (9, [13, 1], [82]), (10, [17, 13, 8], []), (7, [14, 15], [3]), (10, [15, 13, 10], []), (10, [14, 13, 8], []), (8, [12], [0]), (10, [12, 11, 5], []), (9, [11, 1], [86]), (10, [10, 9, 5], []), (9, [9, 1], [84]), (10, [8, 7, 5], []), (9, [7, 1], [83]), (9, [6, 1], [80]), (20, [2, 1], [50, 1, 0, 1079, 1, 2, 1, 0, 4, 3, 2, 1, 79, 0, 2]), (20, [1, 5], [60, 3, 10, 413, 79, 80, 81, 90, 93, 82, 83, 84, 85, 86, 87, 88, 89])], [], [], [(20, [1, 31], [60, 3, 10, 413, 79, 80, 81, 90, 93, 82, 83, 84, 85, 86, 87, 88, 89]), (20, [31, 1], [50, 1, 0, 1080, 0, 2, 1, 0, 2, 1, 80])], [], [(31, 5, 1, 1), (31, 6, -4294967296, 0), (30, 29, 0, 410000000), (30, 28, 0, 72), (27, 8, 0, 5850), (27, 26, 0, 75), (25, 24, 0, 410000000), (25, 22, 0, 72), (21, 10, 0, 5850), (21, 20, 0, 75), (5, 6, -4294967296, -1)])
theorem oo_Mo_up_11 {kA : Nat → ClassId} : or_ok PRD kA GG o_Mo_up_11 := by
  refine or_mk fun A ta ws vs hD hth hl => ?_
  intro t0 r0 t2 k2 t5 k5 t6 k6 t8 k8 t10 k10 t12 k12 t14 k14 t15 k15 t17 k17 t18 k18 t19 r19 t20 k20 t21 k21 t22 k22 t24 k24 t25 k25 t26 k26 t27 k27 t28 k28 t29 k29 t30 k30 t31 k31 d0 d1 d2 d3 d4 d5 d6 d7 d8 d9 d12 f0 f5 ta1 w1 le1 s1 f7 f8 f9 f10 f11 f12 f13 ta2 w2 le2 s2 f19 f20 f21 f22 f23 f24 f25 f26 f27 f28 f29 f30 f31 f32 f33 f34 f35 f36 f37 f39 f40 f43
  replace f0 := shm_4 f0
  replace f5 := shm_5 f5
  have s1 : (∀ b j, w_el ws b j = if b = v_ad (n_v vs 19) ∧ j = (v_iv (n_v vs 27)).toNat then v_iv (n_v vs 30) else w_el w1 b j) ∧ ∀ b k, w_fd ws b k = w_fd w1 b k := s1.2
  replace f7 := shm_12 f7
  replace f8 := shm_106 f8
  replace f9 := shm_553 f9
  replace f10 := shm_106 f10
  replace f11 := shm_12 f11
  replace f12 := shm_38 f12
  replace f13 := shm_934 f13
  have s2 : (∀ b j, w_el w1 b j = if b = v_ad (n_v vs 19) ∧ j = (v_iv (n_v vs 21)).toNat then v_iv (n_v vs 25) else w_el w2 b j) ∧ ∀ b k, w_fd w1 b k = w_fd w2 b k := s2.2
  replace f19 := shm_12 f19
  replace f20 := shm_106 f20
  replace f21 := shm_106 f21
  replace f22 := shm_12 f22
  replace f23 := shm_38 f23
  replace f24 := shm_24 f24
  replace f25 := shm_106 f25
  replace f26 := shm_1134 f26
  replace f27 := shm_106 f27
  replace f28 := shm_2 f28
  replace f29 := shm_106 f29
  replace f30 := shm_106 f30
  replace f31 := shm_210 f31
  replace f32 := shm_106 f32
  replace f33 := shm_552 f33
  replace f34 := shm_106 f34
  replace f35 := shm_554 f35
  replace f36 := shm_106 f36
  replace f37 := shm_548 f37
  replace f39 := shm_547 f39
  replace f40 := shm_914 f40
  replace f43 := shm_1129 f43
  have q1 : n_v vs 1 = n_v vs 0 := f5.symm
  simp only [q1] at f9 f13 f26 f33 f35 f37 f39 f40 f43
  have ar_0_82_1 : w_ar w1 (n_v vs 0) 82 = w_ar ws (n_v vs 0) 82 := congrArg v_ad (s1.2 _ _).symm
  have ar_0_82_2 : w_ar w2 (n_v vs 0) 82 = w_ar ws (n_v vs 0) 82 := by rw [← ar_0_82_1]; show v_ad (w_fd w2 _ _) = v_ad (w_fd w1 _ _); rw [s2.2]
  have cr_0_82 := fdq_225 hD hth r0
  have ar_0_83_1 : w_ar w1 (n_v vs 0) 83 = w_ar ws (n_v vs 0) 83 := congrArg v_ad (s1.2 _ _).symm
  have ar_0_83_2 : w_ar w2 (n_v vs 0) 83 = w_ar ws (n_v vs 0) 83 := by rw [← ar_0_83_1]; show v_ad (w_fd w2 _ _) = v_ad (w_fd w1 _ _); rw [s2.2]
  have cr_0_83 := fdq_125 hD hth r0
  have ar_0_84_1 : w_ar w1 (n_v vs 0) 84 = w_ar ws (n_v vs 0) 84 := congrArg v_ad (s1.2 _ _).symm
  have ar_0_84_2 : w_ar w2 (n_v vs 0) 84 = w_ar ws (n_v vs 0) 84 := by rw [← ar_0_84_1]; show v_ad (w_fd w2 _ _) = v_ad (w_fd w1 _ _); rw [s2.2]
  have cr_0_84 := fdq_126 hD hth r0
  have ar_0_85_1 : w_ar w1 (n_v vs 0) 85 = w_ar ws (n_v vs 0) 85 := congrArg v_ad (s1.2 _ _).symm
  have ar_0_85_2 : w_ar w2 (n_v vs 0) 85 = w_ar ws (n_v vs 0) 85 := by rw [← ar_0_85_1]; show v_ad (w_fd w2 _ _) = v_ad (w_fd w1 _ _); rw [s2.2]
  have cr_0_85 := fdq_127 hD hth r0
  have ar_0_86_1 : w_ar w1 (n_v vs 0) 86 = w_ar ws (n_v vs 0) 86 := congrArg v_ad (s1.2 _ _).symm
  have ar_0_86_2 : w_ar w2 (n_v vs 0) 86 = w_ar ws (n_v vs 0) 86 := by rw [← ar_0_86_1]; show v_ad (w_fd w2 _ _) = v_ad (w_fd w1 _ _); rw [s2.2]
  have cr_0_86 := fdq_128 hD hth r0
  have ar_0_87_1 : w_ar w1 (n_v vs 0) 87 = w_ar ws (n_v vs 0) 87 := congrArg v_ad (s1.2 _ _).symm
  have ar_0_87_2 : w_ar w2 (n_v vs 0) 87 = w_ar ws (n_v vs 0) 87 := by rw [← ar_0_87_1]; show v_ad (w_fd w2 _ _) = v_ad (w_fd w1 _ _); rw [s2.2]
  have cr_0_87 := fdq_118 hD hth r0
  have ar_0_88_1 : w_ar w1 (n_v vs 0) 88 = w_ar ws (n_v vs 0) 88 := congrArg v_ad (s1.2 _ _).symm
  have ar_0_88_2 : w_ar w2 (n_v vs 0) 88 = w_ar ws (n_v vs 0) 88 := by rw [← ar_0_88_1]; show v_ad (w_fd w2 _ _) = v_ad (w_fd w1 _ _); rw [s2.2]
  have cr_0_88 := fdq_119 hD hth r0
  have ar_0_89_1 : w_ar w1 (n_v vs 0) 89 = w_ar ws (n_v vs 0) 89 := congrArg v_ad (s1.2 _ _).symm
  have ar_0_89_2 : w_ar w2 (n_v vs 0) 89 = w_ar ws (n_v vs 0) 89 := by rw [← ar_0_89_1]; show v_ad (w_fd w2 _ _) = v_ad (w_fd w1 _ _); rw [s2.2]
  have cr_0_89 := fdq_120 hD hth r0
  have ar_0_90_1 : w_ar w1 (n_v vs 0) 90 = w_ar ws (n_v vs 0) 90 := congrArg v_ad (s1.2 _ _).symm
  have ar_0_90_2 : w_ar w2 (n_v vs 0) 90 = w_ar ws (n_v vs 0) 90 := by rw [← ar_0_90_1]; show v_ad (w_fd w2 _ _) = v_ad (w_fd w1 _ _); rw [s2.2]
  have ar_0_93_1 : w_ar w1 (n_v vs 0) 93 = w_ar ws (n_v vs 0) 93 := congrArg v_ad (s1.2 _ _).symm
  have ar_0_93_2 : w_ar w2 (n_v vs 0) 93 = w_ar ws (n_v vs 0) 93 := by rw [← ar_0_93_1]; show v_ad (w_fd w2 _ _) = v_ad (w_fd w1 _ _); rw [s2.2]
  have cr_0_93 := fdq_268 hD hth r0
  have ad_23 : v_ad (n_v vs 23) = w_ar ws (n_v vs 0) 85 := (congrArg v_ad f9).trans ar_0_85_1
  have ad_19 : v_ad (n_v vs 19) = w_ar ws (n_v vs 0) 90 := (congrArg v_ad f13).trans ar_0_90_1
  have ad_13 : v_ad (n_v vs 13) = w_ar ws (n_v vs 0) 82 := (congrArg v_ad f26).trans ar_0_82_2
  have ad_11 : v_ad (n_v vs 11) = w_ar ws (n_v vs 0) 86 := (congrArg v_ad f33).trans ar_0_86_2
  have ad_9 : v_ad (n_v vs 9) = w_ar ws (n_v vs 0) 84 := (congrArg v_ad f35).trans ar_0_84_2
  have ad_7 : v_ad (n_v vs 7) = w_ar ws (n_v vs 0) 83 := (congrArg v_ad f37).trans ar_0_83_2
  simp only [ad_23] at f8
  have h8 : v_iv (n_v vs 29) = w_ei w1 (w_ar ws (n_v vs 0) 85) (v_iv (n_v vs 5)) := f8
  simp only [ad_19] at f10
  have h10 : v_iv (n_v vs 28) = w_ei w1 (w_ar ws (n_v vs 0) 90) (v_iv (n_v vs 27)) := f10
  simp only [ad_23] at f20
  have h20 : v_iv (n_v vs 24) = w_ei w2 (w_ar ws (n_v vs 0) 85) (v_iv (n_v vs 5)) := f20
  simp only [ad_19] at f21
  have h21 : v_iv (n_v vs 22) = w_ei w2 (w_ar ws (n_v vs 0) 90) (v_iv (n_v vs 21)) := f21
  simp only [ad_13] at f25
  have h25 : v_iv (n_v vs 18) = w_ei w2 (w_ar ws (n_v vs 0) 82) (v_iv (n_v vs 10)) := f25
  simp only [ad_13] at f27
  have h27 : v_iv (n_v vs 17) = w_ei w2 (w_ar ws (n_v vs 0) 82) (v_iv (n_v vs 8)) := f27
  simp only [ad_13] at f29
  have h29 : v_iv (n_v vs 15) = w_ei w2 (w_ar ws (n_v vs 0) 82) (v_iv (n_v vs 10)) := f29
  simp only [ad_13] at f30
  have h30 : v_iv (n_v vs 14) = w_ei w2 (w_ar ws (n_v vs 0) 82) (v_iv (n_v vs 8)) := f30
  simp only [ad_11] at f32
  have h32 : v_iv (n_v vs 12) = w_ei w2 (w_ar ws (n_v vs 0) 86) (v_iv (n_v vs 5)) := f32
  simp only [ad_9] at f34
  have h34 : v_iv (n_v vs 10) = w_ei w2 (w_ar ws (n_v vs 0) 84) (v_iv (n_v vs 5)) := f34
  simp only [ad_7] at f36
  have h36 : v_iv (n_v vs 8) = w_ei w2 (w_ar ws (n_v vs 0) 83) (v_iv (n_v vs 5)) := f36
  have g39 : v_iv (n_v vs 6) = w_fi w2 (n_v vs 0) 80 := congrArg v_iv f39
  simp only [ar_0_82_2, ar_0_83_2, ar_0_84_2, ar_0_85_2, ar_0_86_2, ar_0_87_2, ar_0_88_2, ar_0_89_2, ar_0_90_2, ar_0_93_2] at f43
  have fe_0_79_1 : w_fi ws (n_v vs 0) 79 = w_fi w1 (n_v vs 0) 79 := congrArg v_iv (s1.2 _ _)
  have fe_0_80_1 : w_fi ws (n_v vs 0) 80 = w_fi w1 (n_v vs 0) 80 := congrArg v_iv (s1.2 _ _)
  have fe_0_81_1 : w_fi ws (n_v vs 0) 81 = w_fi w1 (n_v vs 0) 81 := congrArg v_iv (s1.2 _ _)
  have fe_0_79_2 : w_fi w1 (n_v vs 0) 79 = w_fi w2 (n_v vs 0) 79 := congrArg v_iv (s2.2 _ _)
  have fe_0_80_2 : w_fi w1 (n_v vs 0) 80 = w_fi w2 (n_v vs 0) 80 := congrArg v_iv (s2.2 _ _)
  have fe_0_81_2 : w_fi w1 (n_v vs 0) 81 = w_fi w2 (n_v vs 0) 81 := congrArg v_iv (s2.2 _ _)
  have hE_0_82_1 : ∀ j : Int, w_ei ws (w_ar ws (n_v vs 0) 82) j = w_ei w1 (w_ar ws (n_v vs 0) 82) j := el_kp s1.1 r19 cr_0_82 (by decide)
  have hE_0_82_2 : ∀ j : Int, w_ei w1 (w_ar ws (n_v vs 0) 82) j = w_ei w2 (w_ar ws (n_v vs 0) 82) j := el_kp s2.1 r19 cr_0_82 (by decide)
  have hE_0_83_1 : ∀ j : Int, w_ei ws (w_ar ws (n_v vs 0) 83) j = w_ei w1 (w_ar ws (n_v vs 0) 83) j := el_kp s1.1 r19 cr_0_83 (by decide)
  have hE_0_83_2 : ∀ j : Int, w_ei w1 (w_ar ws (n_v vs 0) 83) j = w_ei w2 (w_ar ws (n_v vs 0) 83) j := el_kp s2.1 r19 cr_0_83 (by decide)
  have hE_0_84_1 : ∀ j : Int, w_ei ws (w_ar ws (n_v vs 0) 84) j = w_ei w1 (w_ar ws (n_v vs 0) 84) j := el_kp s1.1 r19 cr_0_84 (by decide)
  have hE_0_84_2 : ∀ j : Int, w_ei w1 (w_ar ws (n_v vs 0) 84) j = w_ei w2 (w_ar ws (n_v vs 0) 84) j := el_kp s2.1 r19 cr_0_84 (by decide)
  have hE_0_85_1 : ∀ j : Int, w_ei ws (w_ar ws (n_v vs 0) 85) j = w_ei w1 (w_ar ws (n_v vs 0) 85) j := el_kp s1.1 r19 cr_0_85 (by decide)
  have hE_0_85_2 : ∀ j : Int, w_ei w1 (w_ar ws (n_v vs 0) 85) j = w_ei w2 (w_ar ws (n_v vs 0) 85) j := el_kp s2.1 r19 cr_0_85 (by decide)
  have hE_0_86_1 : ∀ j : Int, w_ei ws (w_ar ws (n_v vs 0) 86) j = w_ei w1 (w_ar ws (n_v vs 0) 86) j := el_kp s1.1 r19 cr_0_86 (by decide)
  have hE_0_86_2 : ∀ j : Int, w_ei w1 (w_ar ws (n_v vs 0) 86) j = w_ei w2 (w_ar ws (n_v vs 0) 86) j := el_kp s2.1 r19 cr_0_86 (by decide)
  have hE_0_87_1 : ∀ j : Int, w_ei ws (w_ar ws (n_v vs 0) 87) j = w_ei w1 (w_ar ws (n_v vs 0) 87) j := el_kp s1.1 r19 cr_0_87 (by decide)
  have hE_0_87_2 : ∀ j : Int, w_ei w1 (w_ar ws (n_v vs 0) 87) j = w_ei w2 (w_ar ws (n_v vs 0) 87) j := el_kp s2.1 r19 cr_0_87 (by decide)
  have hE_0_88_1 : ∀ j : Int, w_ei ws (w_ar ws (n_v vs 0) 88) j = w_ei w1 (w_ar ws (n_v vs 0) 88) j := el_kp s1.1 r19 cr_0_88 (by decide)
  have hE_0_88_2 : ∀ j : Int, w_ei w1 (w_ar ws (n_v vs 0) 88) j = w_ei w2 (w_ar ws (n_v vs 0) 88) j := el_kp s2.1 r19 cr_0_88 (by decide)
  have hE_0_89_1 : ∀ j : Int, w_ei ws (w_ar ws (n_v vs 0) 89) j = w_ei w1 (w_ar ws (n_v vs 0) 89) j := el_kp s1.1 r19 cr_0_89 (by decide)
  have hE_0_89_2 : ∀ j : Int, w_ei w1 (w_ar ws (n_v vs 0) 89) j = w_ei w2 (w_ar ws (n_v vs 0) 89) j := el_kp s2.1 r19 cr_0_89 (by decide)
  have hE_0_90_1 : ∀ j : Int, 0 ≤ j → (j = v_iv (n_v vs 27) → w_ei ws (w_ar ws (n_v vs 0) 90) j = v_iv (n_v vs 30)) ∧ (j ≠ v_iv (n_v vs 27) → w_ei ws (w_ar ws (n_v vs 0) 90) j = w_ei w1 (w_ar ws (n_v vs 0) 90) j) := fun j hj => ⟨fun h => by unfold w_ei; rw [s1.1, if_pos ⟨ad_19.symm, by rw [h]⟩], fun h => by unfold w_ei; rw [s1.1, if_neg (fun e => h (by have := e.2; omega))]⟩
  have hE_0_90_2 : ∀ j : Int, 0 ≤ j → (j = v_iv (n_v vs 21) → w_ei w1 (w_ar ws (n_v vs 0) 90) j = v_iv (n_v vs 25)) ∧ (j ≠ v_iv (n_v vs 21) → w_ei w1 (w_ar ws (n_v vs 0) 90) j = w_ei w2 (w_ar ws (n_v vs 0) 90) j) := fun j hj => ⟨fun h => by unfold w_ei; rw [s2.1, if_pos ⟨ad_19.symm, by rw [h]⟩], fun h => by unfold w_ei; rw [s2.1, if_neg (fun e => h (by have := e.2; omega))]⟩
  have hE_0_93_1 : ∀ j : Int, w_ei ws (w_ar ws (n_v vs 0) 93) j = w_ei w1 (w_ar ws (n_v vs 0) 93) j := el_kp s1.1 r19 cr_0_93 (by decide)
  have hE_0_93_2 : ∀ j : Int, w_ei w1 (w_ar ws (n_v vs 0) 93) j = w_ei w2 (w_ar ws (n_v vs 0) 93) j := el_kp s2.1 r19 cr_0_93 (by decide)
  have kz_0_79 := fdq_146 hD hth r0
  have kz_0_80 := fdq_130 hD hth r0
  have kz_0_81 := fdq_123 hD hth r0
  have nf0 : fc_1 PRD (20, [1, 31], [60, 3, 10, 413, 79, 80, 81, 90, 93, 82, 83, 84, 85, 86, 87, 88, 89]) ws (vs) := by
    refine ⟨nf_in hl rfl, sgq_1129 ?_⟩
    · show UPC (w_fi ws (n_v vs 1) 79) (w_fi ws (n_v vs 1) 80) (w_fi ws (n_v vs 1) 81) (w_ei ws (w_ar ws (n_v vs 1) 90)) (w_ei ws (w_ar ws (n_v vs 1) 93)) (w_ei ws (w_ar ws (n_v vs 1) 82)) (w_ei ws (w_ar ws (n_v vs 1) 83)) (w_ei ws (w_ar ws (n_v vs 1) 84)) (w_ei ws (w_ar ws (n_v vs 1) 85)) (w_ei ws (w_ar ws (n_v vs 1) 86)) (w_ei ws (w_ar ws (n_v vs 1) 87)) (w_ei ws (w_ar ws (n_v vs 1) 88)) (w_ei ws (w_ar ws (n_v vs 1) 89)) (v_iv (n_v vs 31))
      rw [q1]
      exact vc_Mo_up_11_0 (v_iv (n_v vs 2)) (v_iv (n_v vs 5)) (v_iv (n_v vs 6)) (v_iv (n_v vs 8)) (v_iv (n_v vs 10)) (v_iv (n_v vs 12)) (v_iv (n_v vs 14)) (v_iv (n_v vs 15)) (v_iv (n_v vs 17)) (v_iv (n_v vs 18)) (v_iv (n_v vs 20)) (v_iv (n_v vs 21)) (v_iv (n_v vs 22)) (v_iv (n_v vs 24)) (v_iv (n_v vs 25)) (v_iv (n_v vs 26)) (v_iv (n_v vs 27)) (v_iv (n_v vs 28)) (v_iv (n_v vs 29)) (v_iv (n_v vs 30)) (v_iv (n_v vs 31)) (w_fi ws (n_v vs 0) 79) (w_fi ws (n_v vs 0) 80) (w_ei w1 (w_ar ws (n_v vs 0) 85)) (w_ei w1 (w_ar ws (n_v vs 0) 90)) (w_fi w1 (n_v vs 0) 79) (w_fi w1 (n_v vs 0) 80) (w_ei w2 (w_ar ws (n_v vs 0) 85)) (w_ei w2 (w_ar ws (n_v vs 0) 90)) (w_ei w2 (w_ar ws (n_v vs 0) 82)) (w_ei w2 (w_ar ws (n_v vs 0) 86)) (w_ei w2 (w_ar ws (n_v vs 0) 84)) (w_ei w2 (w_ar ws (n_v vs 0) 83)) (w_fi w2 (n_v vs 0) 80) (w_fi w2 (n_v vs 0) 79) (w_ei w2 (w_ar ws (n_v vs 0) 93)) (w_ei w2 (w_ar ws (n_v vs 0) 87)) (w_ei w2 (w_ar ws (n_v vs 0) 88)) (w_ei w2 (w_ar ws (n_v vs 0) 89)) (w_fi w2 (n_v vs 0) 81) (w_fi ws (n_v vs 0) 81) (w_fi w1 (n_v vs 0) 81) (w_ei ws (w_ar ws (n_v vs 0) 82)) (w_ei w1 (w_ar ws (n_v vs 0) 82)) (w_ei ws (w_ar ws (n_v vs 0) 83)) (w_ei w1 (w_ar ws (n_v vs 0) 83)) (w_ei ws (w_ar ws (n_v vs 0) 84)) (w_ei w1 (w_ar ws (n_v vs 0) 84)) (w_ei ws (w_ar ws (n_v vs 0) 85)) (w_ei ws (w_ar ws (n_v vs 0) 86)) (w_ei w1 (w_ar ws (n_v vs 0) 86)) (w_ei ws (w_ar ws (n_v vs 0) 87)) (w_ei w1 (w_ar ws (n_v vs 0) 87)) (w_ei ws (w_ar ws (n_v vs 0) 88)) (w_ei w1 (w_ar ws (n_v vs 0) 88)) (w_ei ws (w_ar ws (n_v vs 0) 89)) (w_ei w1 (w_ar ws (n_v vs 0) 89)) (w_ei ws (w_ar ws (n_v vs 0) 90)) (w_ei ws (w_ar ws (n_v vs 0) 93)) (w_ei w1 (w_ar ws (n_v vs 0) 93)) k2 k5 k6 k8 k10 k12 k14 k15 k17 k18 k20 k21 k22 k24 k25 k26 k27 k28 k29 k30 k31 d0 d1 d12 f0 f7 h8 h10 f11 f12 f19 h20 h21 f22 f23 f24 h25 h27 f28 h29 h30 f31 h32 h34 h36 g39 f40 f43 fe_0_79_1 fe_0_80_1 fe_0_81_1 fe_0_79_2 fe_0_80_2 fe_0_81_2 hE_0_82_1 hE_0_82_2 hE_0_83_1 hE_0_83_2 hE_0_84_1 hE_0_84_2 hE_0_85_1 hE_0_85_2 hE_0_86_1 hE_0_86_2 hE_0_87_1 hE_0_87_2 hE_0_88_1 hE_0_88_2 hE_0_89_1 hE_0_89_2 hE_0_90_1 hE_0_90_2 hE_0_93_1 hE_0_93_2 kz_0_79 kz_0_80 kz_0_81
  have nf1 : fc_1 PRD (20, [31, 1], [50, 1, 0, 1080, 0, 2, 1, 0, 2, 1, 80]) ws (vs) := by
    refine ⟨nf_in hl rfl, sgq_1130 ?_⟩
    · show v_iv (n_v vs 31) ≤ w_fi ws (n_v vs 1) 80
      rw [q1]
      exact vc_Mo_up_11_1 (v_iv (n_v vs 5)) (v_iv (n_v vs 6)) (v_iv (n_v vs 31)) (w_fi ws (n_v vs 0) 79) (w_fi ws (n_v vs 0) 80) (w_ei w1 (w_ar ws (n_v vs 0) 85)) (w_fi w1 (n_v vs 0) 79) (w_fi w1 (n_v vs 0) 80) (w_ei w2 (w_ar ws (n_v vs 0) 85)) (w_ei w2 (w_ar ws (n_v vs 0) 82)) (w_ei w2 (w_ar ws (n_v vs 0) 86)) (w_ei w2 (w_ar ws (n_v vs 0) 84)) (w_ei w2 (w_ar ws (n_v vs 0) 83)) (w_fi w2 (n_v vs 0) 80) (w_fi w2 (n_v vs 0) 79) (w_ei w2 (w_ar ws (n_v vs 0) 93)) (w_ei w2 (w_ar ws (n_v vs 0) 87)) (w_ei w2 (w_ar ws (n_v vs 0) 88)) (w_ei w2 (w_ar ws (n_v vs 0) 89)) (w_fi w2 (n_v vs 0) 81) (w_fi ws (n_v vs 0) 81) (w_fi w1 (n_v vs 0) 81) (w_ei ws (w_ar ws (n_v vs 0) 82)) (w_ei w1 (w_ar ws (n_v vs 0) 82)) (w_ei ws (w_ar ws (n_v vs 0) 83)) (w_ei w1 (w_ar ws (n_v vs 0) 83)) (w_ei ws (w_ar ws (n_v vs 0) 84)) (w_ei w1 (w_ar ws (n_v vs 0) 84)) (w_ei ws (w_ar ws (n_v vs 0) 85)) (w_ei ws (w_ar ws (n_v vs 0) 86)) (w_ei w1 (w_ar ws (n_v vs 0) 86)) (w_ei ws (w_ar ws (n_v vs 0) 87)) (w_ei w1 (w_ar ws (n_v vs 0) 87)) (w_ei ws (w_ar ws (n_v vs 0) 88)) (w_ei w1 (w_ar ws (n_v vs 0) 88)) (w_ei ws (w_ar ws (n_v vs 0) 89)) (w_ei w1 (w_ar ws (n_v vs 0) 89)) (w_ei ws (w_ar ws (n_v vs 0) 93)) (w_ei w1 (w_ar ws (n_v vs 0) 93)) k5 k6 k31 d0 d1 d12 g39 fe_0_79_1 fe_0_80_1 fe_0_81_1 fe_0_79_2 fe_0_80_2 fe_0_81_2 hE_0_82_1 hE_0_82_2 hE_0_83_1 hE_0_83_2 hE_0_84_1 hE_0_84_2 hE_0_85_1 hE_0_85_2 hE_0_86_1 hE_0_86_2 hE_0_87_1 hE_0_87_2 hE_0_88_1 hE_0_88_2 hE_0_89_1 hE_0_89_2 hE_0_93_1 hE_0_93_2 kz_0_79 kz_0_80 kz_0_81
  refine ⟨(fun _ h => (by cases h)), [], trivial, ?_, (fun _ h => (by cases h))⟩
  rw [List.append_nil]
  exact List.forall_mem_cons.mpr ⟨⟨show (20 : Nat) < 100 from by decide, nf0⟩, List.forall_mem_cons.mpr ⟨⟨show (20 : Nat) < 100 from by decide, nf1⟩, (fun _ h => (by cases h))⟩⟩
set_option maxHeartbeats 4000000 in
theorem vc_Mo_up_12_r0 (x5 : Int) (x6 : Int) (x8 : Int) (x20 : Int) (x22 : Int) (x23 : Int) (costW_0 : Int → Int) (goes_0 : Int → Int) (spot_0 : Int → Int) (costPlain_0 : Int → Int) (costB_0 : Int → Int) (costA_0 : Int → Int) (costMany_0 : Int) (pointMany_0 : Int) (flow_0 : Int → Int) (apartA_0 : Int → Int) (apartB_0 : Int → Int) (apart_0 : Int → Int) (apartMany_0 : Int) (k5 : 0 ≤ x5 ∧ x5 ≤ 199) (k6 : 1 ≤ x6 ∧ x6 ≤ 200) (k8 : 0 ≤ x8 ∧ x8 ≤ 75) (k20 : (-14400) ≤ x20 ∧ x20 ≤ 14400) (k22 : 0 ≤ x22 ∧ x22 ≤ 72) (k23 : (-14400) ≤ x23 ∧ x23 ≤ 14472) (d0 : x22 + (-14400) ≤ x23 ∧ x23 ≤ x22 + 14400) (d1 : x20 + 0 ≤ x23 ∧ x23 ≤ x20 + 72) (d4 : x6 + (-4294967296) ≤ x5 ∧ x5 ≤ x6 + (-1)) (f0 : x23 = x20 + x22) (h1 : x22 = costW_0 (x5)) (h3 : x20 = goes_0 (x8)) (h17 : x8 = costA_0 (x5)) (g20 : x6 = costMany_0) (f24 : UPC (pointMany_0) (costMany_0) (apartMany_0) (flow_0) (goes_0) (spot_0) (costA_0) (costB_0) (costW_0) (costPlain_0) (apartA_0) (apartB_0) (apart_0) (x5)) (kz_0_79 : 0 ≤ pointMany_0 ∧ pointMany_0 ≤ 76) (kz_0_80 : 0 ≤ costMany_0 ∧ costMany_0 ≤ 200) (kz_0_81 : 0 ≤ apartMany_0 ∧ apartMany_0 ≤ 200) : (-14400) ≤ x23 ∧ x23 ≤ 14400 := by
  have h := upc_v1 (a := x8) ‹UPC _ _ _ _ _ _ _ _ _ _ _ _ _ _› (by omega) (by omega) (Or.inl (by assumption)) (by assumption) (by assumption)
  omega
def o_Mo_up_12 : or_T := (209, 24, [(0, (2, 0, 0, [165])), (1, (2, 0, 0, [165])), (2, (0, 2, 78, [])), (3, (0, 0, 76, [])), (4, (0, 1, 77, [])), (5, (0, 0, 199, [])), (6, (0, 1, 200, [])), (7, (2, 0, 0, [220])), (8, (0, 0, 75, [])), (9, (2, 0, 0, [221])), (10, (0, 0, 75, [])), (11, (2, 0, 0, [223])), (12, (0, 0, 0, [])), (13, (2, 0, 0, [219])), (14, (0, 0, 221100000, [])), (15, (0, 0, 221100000, [])), (17, (0, 1, 221100000, [])), (18, (0, 0, 221099999, [])), (19, (2, 0, 0, [230])), (20, (0, -14400, 14400, [])), (21, (2, 0, 0, [222])), (22, (0, 0, 72, [])), (23, (0, -14400, 14472, []))], [(1, [23, 20, 22], []), (10, [22, 21, 5], []), (9, [21, 1], [85]), (10, [20, 19, 8], []), (9, [19, 1], [93]), (7, [17, 18], [4]), (10, [18, 13, 10], []), (9, [13, 1], [82]), (10, [17, 13, 8], []), (7, [14, 15], [3]), (10, [15, 13, 10], []), (10, [14, 13, 8], []), (8, [12], [0]), (10, [12, 11, 5], []), (9, [11, 1], [86]), (10, [10, 9, 5], []), (9, [9, 1], [84]), (10, [8, 7, 5], []), (9, [7, 1], [83]), (7, [5, 6], [2]), (9, [6, 1], [80]), (20, [2, 1], [50, 1, 0, 1079, 1, 2, 1, 0, 4, 3, 2, 1, 79, 0, 2]), (20, [3, 1], [50, 1, 0, 1079, 1, 2, 1, 0, 2, 1, 79]), (20, [4, 1], [50, 1, 0, 1079, 1, 2, 1, 0, 4, 3, 2, 1, 79, 0, 1]), (20, [1, 5], [60, 3, 10, 413, 79, 80, 81, 90, 93, 82, 83, 84, 85, 86, 87, 88, 89]), (20, [5, 1], [50, 1, 0, 1080, 0, 2, 1, 0, 2, 1, 80]), (24, [0, 1], [])], [(23, (0, -14400, 14400, []))], [], [], [], [(23, 22, -14400, 14400), (23, 20, 0, 72), (17, 18, 1, 4294967296), (14, 15, 0, 4294967296), (5, 6, -4294967296, -1), (2, 3, -4294967296, 2), (2, 4, -4294967296, 1), (3, 2, -4294967296, -2), (3, 4, -4294967296, -1), (4, 2, -4294967296, -1), (4, 3, -4294967296, 1)])
theorem oo_Mo_up_12 {kA : Nat → ClassId} : or_ok PRD kA GG o_Mo_up_12 := by
  refine or_mk fun A ta ws vs hD hth hl => ?_
  intro t0 r0 t1 r1 t2 k2 t3 k3 t4 k4 t5 k5 t6 k6 t7 r7 t8 k8 t9 r9 t10 k10 t11 r11 t12 k12 t13 r13 t14 k14 t15 k15 t17 k17 t18 k18 t19 r19 t20 k20 t21 r21 t22 k22 t23 k23 d0 d1 d2 d3 d4 d5 d6 d7 d8 d9 d10 f0 f1 f2 f3 f4 f5 f6 f7 f8 f9 f10 f11 f12 f13 f14 f15 f16 f17 f18 f19 f20 f21 f22 f23 f24 f25 f26
  replace f1 := shm_106 f1
  replace f2 := shm_553 f2
  replace f3 := shm_106 f3
  replace f4 := shm_1131 f4
  replace f17 := shm_106 f17
  replace f18 := shm_548 f18
  replace f20 := shm_547 f20
  replace f24 := shm_1129 f24
  replace f26 := shm_5 f26
  have q1 : n_v vs 1 = n_v vs 0 := f26.symm
  simp only [q1] at f2 f4 f18 f20 f24
  have ad_21 : v_ad (n_v vs 21) = w_ar ws (n_v vs 0) 85 := congrArg v_ad f2
  have ad_19 : v_ad (n_v vs 19) = w_ar ws (n_v vs 0) 93 := congrArg v_ad f4
  have ad_7 : v_ad (n_v vs 7) = w_ar ws (n_v vs 0) 83 := congrArg v_ad f18
  simp only [ad_21] at f1
  have h1 : v_iv (n_v vs 22) = w_ei ws (w_ar ws (n_v vs 0) 85) (v_iv (n_v vs 5)) := f1
  simp only [ad_19] at f3
  have h3 : v_iv (n_v vs 20) = w_ei ws (w_ar ws (n_v vs 0) 93) (v_iv (n_v vs 8)) := f3
  simp only [ad_7] at f17
  have h17 : v_iv (n_v vs 8) = w_ei ws (w_ar ws (n_v vs 0) 83) (v_iv (n_v vs 5)) := f17
  have g20 : v_iv (n_v vs 6) = w_fi ws (n_v vs 0) 80 := congrArg v_iv f20
  have kz_0_79 := fdq_146 hD hth r0
  have kz_0_80 := fdq_130 hD hth r0
  have kz_0_81 := fdq_123 hD hth r0
  have hrf0 : (-14400) ≤ v_iv (n_v vs 23) ∧ v_iv (n_v vs 23) ≤ 14400 := vc_Mo_up_12_r0 (v_iv (n_v vs 5)) (v_iv (n_v vs 6)) (v_iv (n_v vs 8)) (v_iv (n_v vs 20)) (v_iv (n_v vs 22)) (v_iv (n_v vs 23)) (w_ei ws (w_ar ws (n_v vs 0) 85)) (w_ei ws (w_ar ws (n_v vs 0) 93)) (w_ei ws (w_ar ws (n_v vs 0) 82)) (w_ei ws (w_ar ws (n_v vs 0) 86)) (w_ei ws (w_ar ws (n_v vs 0) 84)) (w_ei ws (w_ar ws (n_v vs 0) 83)) (w_fi ws (n_v vs 0) 80) (w_fi ws (n_v vs 0) 79) (w_ei ws (w_ar ws (n_v vs 0) 90)) (w_ei ws (w_ar ws (n_v vs 0) 87)) (w_ei ws (w_ar ws (n_v vs 0) 88)) (w_ei ws (w_ar ws (n_v vs 0) 89)) (w_fi ws (n_v vs 0) 81) k5 k6 k8 k20 k22 k23 d0 d1 d4 (shm_12 f0) h1 h3 h17 g20 f24 kz_0_79 kz_0_80 kz_0_81
  have rf23 : tv_ok ta (0, -14400, 14400, []) (n_v vs 23) := tv_in t23 (by first | omega | grind) (by first | omega | grind)
  refine ⟨List.forall_mem_cons.mpr ⟨rf23, (fun _ h => (by cases h))⟩, [], trivial, ?_, (fun _ h => (by cases h))⟩
  rw [List.append_nil]
  exact (fun _ h => (by cases h))
set_option maxHeartbeats 4000000 in
theorem vc_Mo_up_13_r0 (x5 : Int) (x6 : Int) (x8 : Int) (x10 : Int) (x20 : Int) (x22 : Int) (x23 : Int) (x24 : Int) (x25 : Int) (x26 : Int) (costW_0 : Int → Int) (goes_0 : Int → Int) (pointMany_0 : Int) (costMany_0 : Int) (costW_1 : Int → Int) (goes_1 : Int → Int) (spot_1 : Int → Int) (costPlain_1 : Int → Int) (costB_1 : Int → Int) (costA_1 : Int → Int) (costMany_1 : Int) (pointMany_1 : Int) (flow_1 : Int → Int) (apartA_1 : Int → Int) (apartB_1 : Int → Int) (apart_1 : Int → Int) (apartMany_1 : Int) (apartMany_0 : Int) (spot_0 : Int → Int) (costA_0 : Int → Int) (costB_0 : Int → Int) (costPlain_0 : Int → Int) (apartA_0 : Int → Int) (apartB_0 : Int → Int) (apart_0 : Int → Int) (flow_0 : Int → Int) (k5 : 0 ≤ x5 ∧ x5 ≤ 199) (k6 : 1 ≤ x6 ∧ x6 ≤ 200) (k8 : 0 ≤ x8 ∧ x8 ≤ 75) (k10 : 0 ≤ x10 ∧ x10 ≤ 75) (k20 : (-14400) ≤ x20 ∧ x20 ≤ 14400) (k22 : 0 ≤ x22 ∧ x22 ≤ 72) (k23 : (-14400) ≤ x23 ∧ x23 ≤ 14400) (k24 : (-14400) ≤ x24 ∧ x24 ≤ 14400) (k25 : 0 ≤ x25 ∧ x25 ≤ 72) (k26 : (-14472) ≤ x26 ∧ x26 ≤ 14400) (d5 : x6 + (-4294967296) ≤ x5 ∧ x5 ≤ x6 + (-1)) (f0 : x26 = x24 - x25) (h1 : x25 = costW_0 (x5)) (h3 : x24 = goes_0 (x10)) (f11 : x23 = x20 + x22) (h12 : x22 = costW_1 (x5)) (h13 : x20 = goes_1 (x8)) (h24 : x10 = costB_1 (x5)) (h26 : x8 = costA_1 (x5)) (g29 : x6 = costMany_1) (f33 : UPC (pointMany_1) (costMany_1) (apartMany_1) (flow_1) (goes_1) (spot_1) (costA_1) (costB_1) (costW_1) (costPlain_1) (apartA_1) (apartB_1) (apart_1) (x5)) (fe_0_79_1 : pointMany_0 = pointMany_1) (fe_0_80_1 : costMany_0 = costMany_1) (fe_0_81_1 : apartMany_0 = apartMany_1) (hE_0_82_1 : ∀ j : Int, spot_0 j = spot_1 j) (hE_0_83_1 : ∀ j : Int, costA_0 j = costA_1 j) (hE_0_84_1 : ∀ j : Int, costB_0 j = costB_1 j) (hE_0_85_1 : ∀ j : Int, costW_0 j = costW_1 j) (hE_0_86_1 : ∀ j : Int, costPlain_0 j = costPlain_1 j) (hE_0_87_1 : ∀ j : Int, apartA_0 j = apartA_1 j) (hE_0_88_1 : ∀ j : Int, apartB_0 j = apartB_1 j) (hE_0_89_1 : ∀ j : Int, apart_0 j = apart_1 j) (hE_0_90_1 : ∀ j : Int, flow_0 j = flow_1 j) (hE_0_93_1 : ∀ j : Int, 0 ≤ j → (j = x8 → goes_0 j = x23) ∧ (j ≠ x8 → goes_0 j = goes_1 j)) (kz_0_79 : 0 ≤ pointMany_0 ∧ pointMany_0 ≤ 76) (kz_0_80 : 0 ≤ costMany_0 ∧ costMany_0 ≤ 200) (kz_0_81 : 0 ≤ apartMany_0 ∧ apartMany_0 ≤ 200) : (-14400) ≤ x26 ∧ x26 ≤ 14400 := by
  subst fe_0_79_1
  subst fe_0_80_1
  subst fe_0_81_1
  have e_hE_0_82_1 := funext hE_0_82_1; subst e_hE_0_82_1
  have e_hE_0_83_1 := funext hE_0_83_1; subst e_hE_0_83_1
  have e_hE_0_84_1 := funext hE_0_84_1; subst e_hE_0_84_1
  have e_hE_0_85_1 := funext hE_0_85_1; subst e_hE_0_85_1
  have e_hE_0_86_1 := funext hE_0_86_1; subst e_hE_0_86_1
  have e_hE_0_87_1 := funext hE_0_87_1; subst e_hE_0_87_1
  have e_hE_0_88_1 := funext hE_0_88_1; subst e_hE_0_88_1
  have e_hE_0_89_1 := funext hE_0_89_1; subst e_hE_0_89_1
  have e_hE_0_90_1 := funext hE_0_90_1; subst e_hE_0_90_1
  have h := upc_v2 (a := x8) (b := x10) (w := x22) (w2 := x25) (o := x20) (o2 := x24) (v1 := x23) (-1) ‹UPC _ _ _ _ _ _ _ _ _ _ _ _ _ _› (by omega) (by omega) (by assumption) (by assumption) (by assumption) (by assumption) (by assumption) (Or.inr rfl) (by omega) (by assumption) (by assumption)
  omega
def o_Mo_up_13 : or_T := (226, 27, [(0, (2, 0, 0, [165])), (1, (2, 0, 0, [165])), (2, (0, 2, 78, [])), (3, (0, 0, 76, [])), (4, (0, 1, 77, [])), (5, (0, 0, 199, [])), (6, (0, 1, 200, [])), (7, (2, 0, 0, [220])), (8, (0, 0, 75, [])), (9, (2, 0, 0, [221])), (10, (0, 0, 75, [])), (11, (2, 0, 0, [223])), (12, (0, 0, 0, [])), (13, (2, 0, 0, [219])), (14, (0, 0, 221100000, [])), (15, (0, 0, 221100000, [])), (17, (0, 1, 221100000, [])), (18, (0, 0, 221099999, [])), (19, (2, 0, 0, [230])), (20, (0, -14400, 14400, [])), (21, (2, 0, 0, [222])), (22, (0, 0, 72, [])), (23, (0, -14400, 14400, [])), (24, (0, -14400, 14400, [])), (25, (0, 0, 72, [])), (26, (0, -14472, 14400, []))], [(2, [26, 24, 25], []), (10, [25, 21, 5], []), (9, [21, 1], [85]), (10, [24, 19, 10], []), (9, [19, 1], [93]), (20, [2, 1], [50, 1, 0, 1079, 1, 2, 1, 0, 4, 3, 2, 1, 79, 0, 2]), (20, [3, 1], [50, 1, 0, 1079, 1, 2, 1, 0, 2, 1, 79]), (20, [4, 1], [50, 1, 0, 1079, 1, 2, 1, 0, 4, 3, 2, 1, 79, 0, 1]), (20, [5, 1], [50, 1, 0, 1080, 0, 2, 1, 0, 2, 1, 80]), (24, [0, 1], []), (100, [19, 8, 23], []), (1, [23, 20, 22], []), (10, [22, 21, 5], []), (10, [20, 19, 8], []), (7, [17, 18], [4]), (10, [18, 13, 10], []), (9, [13, 1], [82]), (10, [17, 13, 8], []), (7, [14, 15], [3]), (10, [15, 13, 10], []), (10, [14, 13, 8], []), (8, [12], [0]), (10, [12, 11, 5], []), (9, [11, 1], [86]), (10, [10, 9, 5], []), (9, [9, 1], [84]), (10, [8, 7, 5], []), (9, [7, 1], [83]), (7, [5, 6], [2]), (9, [6, 1], [80]), (20, [2, 1], [50, 1, 0, 1079, 1, 2, 1, 0, 4, 3, 2, 1, 79, 0, 2]), (20, [3, 1], [50, 1, 0, 1079, 1, 2, 1, 0, 2, 1, 79]), (20, [4, 1], [50, 1, 0, 1079, 1, 2, 1, 0, 4, 3, 2, 1, 79, 0, 1]), (20, [1, 5], [60, 3, 10, 413, 79, 80, 81, 90, 93, 82, 83, 84, 85, 86, 87, 88, 89]), (20, [5, 1], [50, 1, 0, 1080, 0, 2, 1, 0, 2, 1, 80])], [(26, (0, -14400, 14400, []))], [], [], [], [(26, 24, -72, 0), (23, 22, -14400, 14400), (23, 20, 0, 72), (17, 18, 1, 4294967296), (14, 15, 0, 4294967296), (5, 6, -4294967296, -1), (2, 3, -4294967296, 2), (2, 4, -4294967296, 1), (3, 2, -4294967296, -2), (3, 4, -4294967296, -1), (4, 2, -4294967296, -1), (4, 3, -4294967296, 1)])
theorem oo_Mo_up_13 {kA : Nat → ClassId} : or_ok PRD kA GG o_Mo_up_13 := by
  refine or_mk fun A ta ws vs hD hth hl => ?_
  intro t0 r0 t1 r1 t2 k2 t3 k3 t4 k4 t5 k5 t6 k6 t7 r7 t8 k8 t9 r9 t10 k10 t11 r11 t12 k12 t13 r13 t14 k14 t15 k15 t17 k17 t18 k18 t19 r19 t20 k20 t21 r21 t22 k22 t23 k23 t24 k24 t25 k25 t26 k26 d0 d1 d2 d3 d4 d5 d6 d7 d8 d9 d10 d11 f0 f1 f2 f3 f4 f5 f6 f7 f8 f9 ta1 w1 le1 s1 f11 f12 f13 f14 f15 f16 f17 f18 f19 f20 f21 f22 f23 f24 f25 f26 f27 f28 f29 f30 f31 f32 f33 f34
  replace f1 := shm_106 f1
  replace f2 := shm_553 f2
  replace f3 := shm_106 f3
  replace f4 := shm_1131 f4
  replace f9 := shm_5 f9
  have s1 : (∀ b j, w_el ws b j = if b = v_ad (n_v vs 19) ∧ j = (v_iv (n_v vs 8)).toNat then v_iv (n_v vs 23) else w_el w1 b j) ∧ ∀ b k, w_fd ws b k = w_fd w1 b k := s1.2
  replace f12 := shm_106 f12
  replace f13 := shm_106 f13
  replace f24 := shm_106 f24
  replace f25 := shm_554 f25
  replace f26 := shm_106 f26
  replace f27 := shm_548 f27
  replace f29 := shm_547 f29
  replace f33 := shm_1129 f33
  have q1 : n_v vs 1 = n_v vs 0 := f9.symm
  simp only [q1] at f2 f4 f25 f27 f29 f33
  have ar_0_82_1 : w_ar w1 (n_v vs 0) 82 = w_ar ws (n_v vs 0) 82 := congrArg v_ad (s1.2 _ _).symm
  have cr_0_82 := fdq_225 hD hth r0
  have ar_0_83_1 : w_ar w1 (n_v vs 0) 83 = w_ar ws (n_v vs 0) 83 := congrArg v_ad (s1.2 _ _).symm
  have cr_0_83 := fdq_125 hD hth r0
  have ar_0_84_1 : w_ar w1 (n_v vs 0) 84 = w_ar ws (n_v vs 0) 84 := congrArg v_ad (s1.2 _ _).symm
  have cr_0_84 := fdq_126 hD hth r0
  have ar_0_85_1 : w_ar w1 (n_v vs 0) 85 = w_ar ws (n_v vs 0) 85 := congrArg v_ad (s1.2 _ _).symm
  have cr_0_85 := fdq_127 hD hth r0
  have ar_0_86_1 : w_ar w1 (n_v vs 0) 86 = w_ar ws (n_v vs 0) 86 := congrArg v_ad (s1.2 _ _).symm
  have cr_0_86 := fdq_128 hD hth r0
  have ar_0_87_1 : w_ar w1 (n_v vs 0) 87 = w_ar ws (n_v vs 0) 87 := congrArg v_ad (s1.2 _ _).symm
  have cr_0_87 := fdq_118 hD hth r0
  have ar_0_88_1 : w_ar w1 (n_v vs 0) 88 = w_ar ws (n_v vs 0) 88 := congrArg v_ad (s1.2 _ _).symm
  have cr_0_88 := fdq_119 hD hth r0
  have ar_0_89_1 : w_ar w1 (n_v vs 0) 89 = w_ar ws (n_v vs 0) 89 := congrArg v_ad (s1.2 _ _).symm
  have cr_0_89 := fdq_120 hD hth r0
  have ar_0_90_1 : w_ar w1 (n_v vs 0) 90 = w_ar ws (n_v vs 0) 90 := congrArg v_ad (s1.2 _ _).symm
  have cr_0_90 := fdq_226 hD hth r0
  have ar_0_93_1 : w_ar w1 (n_v vs 0) 93 = w_ar ws (n_v vs 0) 93 := congrArg v_ad (s1.2 _ _).symm
  have ad_21 : v_ad (n_v vs 21) = w_ar ws (n_v vs 0) 85 := congrArg v_ad f2
  have ad_19 : v_ad (n_v vs 19) = w_ar ws (n_v vs 0) 93 := congrArg v_ad f4
  have ad_9 : v_ad (n_v vs 9) = w_ar ws (n_v vs 0) 84 := (congrArg v_ad f25).trans ar_0_84_1
  have ad_7 : v_ad (n_v vs 7) = w_ar ws (n_v vs 0) 83 := (congrArg v_ad f27).trans ar_0_83_1
  simp only [ad_21] at f1
  have h1 : v_iv (n_v vs 25) = w_ei ws (w_ar ws (n_v vs 0) 85) (v_iv (n_v vs 5)) := f1
  simp only [ad_19] at f3
  have h3 : v_iv (n_v vs 24) = w_ei ws (w_ar ws (n_v vs 0) 93) (v_iv (n_v vs 10)) := f3
  simp only [ad_21] at f12
  have h12 : v_iv (n_v vs 22) = w_ei w1 (w_ar ws (n_v vs 0) 85) (v_iv (n_v vs 5)) := f12
  simp only [ad_19] at f13
  have h13 : v_iv (n_v vs 20) = w_ei w1 (w_ar ws (n_v vs 0) 93) (v_iv (n_v vs 8)) := f13
  simp only [ad_9] at f24
  have h24 : v_iv (n_v vs 10) = w_ei w1 (w_ar ws (n_v vs 0) 84) (v_iv (n_v vs 5)) := f24
  simp only [ad_7] at f26
  have h26 : v_iv (n_v vs 8) = w_ei w1 (w_ar ws (n_v vs 0) 83) (v_iv (n_v vs 5)) := f26
  have g29 : v_iv (n_v vs 6) = w_fi w1 (n_v vs 0) 80 := congrArg v_iv f29
  simp only [ar_0_82_1, ar_0_83_1, ar_0_84_1, ar_0_85_1, ar_0_86_1, ar_0_87_1, ar_0_88_1, ar_0_89_1, ar_0_90_1, ar_0_93_1] at f33
  have fe_0_79_1 : w_fi ws (n_v vs 0) 79 = w_fi w1 (n_v vs 0) 79 := congrArg v_iv (s1.2 _ _)
  have fe_0_80_1 : w_fi ws (n_v vs 0) 80 = w_fi w1 (n_v vs 0) 80 := congrArg v_iv (s1.2 _ _)
  have fe_0_81_1 : w_fi ws (n_v vs 0) 81 = w_fi w1 (n_v vs 0) 81 := congrArg v_iv (s1.2 _ _)
  have hE_0_82_1 : ∀ j : Int, w_ei ws (w_ar ws (n_v vs 0) 82) j = w_ei w1 (w_ar ws (n_v vs 0) 82) j := el_kp s1.1 r19 cr_0_82 (by decide)
  have hE_0_83_1 : ∀ j : Int, w_ei ws (w_ar ws (n_v vs 0) 83) j = w_ei w1 (w_ar ws (n_v vs 0) 83) j := el_kp s1.1 r19 cr_0_83 (by decide)
  have hE_0_84_1 : ∀ j : Int, w_ei ws (w_ar ws (n_v vs 0) 84) j = w_ei w1 (w_ar ws (n_v vs 0) 84) j := el_kp s1.1 r19 cr_0_84 (by decide)
  have hE_0_85_1 : ∀ j : Int, w_ei ws (w_ar ws (n_v vs 0) 85) j = w_ei w1 (w_ar ws (n_v vs 0) 85) j := el_kp s1.1 r19 cr_0_85 (by decide)
  have hE_0_86_1 : ∀ j : Int, w_ei ws (w_ar ws (n_v vs 0) 86) j = w_ei w1 (w_ar ws (n_v vs 0) 86) j := el_kp s1.1 r19 cr_0_86 (by decide)
  have hE_0_87_1 : ∀ j : Int, w_ei ws (w_ar ws (n_v vs 0) 87) j = w_ei w1 (w_ar ws (n_v vs 0) 87) j := el_kp s1.1 r19 cr_0_87 (by decide)
  have hE_0_88_1 : ∀ j : Int, w_ei ws (w_ar ws (n_v vs 0) 88) j = w_ei w1 (w_ar ws (n_v vs 0) 88) j := el_kp s1.1 r19 cr_0_88 (by decide)
  have hE_0_89_1 : ∀ j : Int, w_ei ws (w_ar ws (n_v vs 0) 89) j = w_ei w1 (w_ar ws (n_v vs 0) 89) j := el_kp s1.1 r19 cr_0_89 (by decide)
  have hE_0_90_1 : ∀ j : Int, w_ei ws (w_ar ws (n_v vs 0) 90) j = w_ei w1 (w_ar ws (n_v vs 0) 90) j := el_kp s1.1 r19 cr_0_90 (by decide)
  have hE_0_93_1 : ∀ j : Int, 0 ≤ j → (j = v_iv (n_v vs 8) → w_ei ws (w_ar ws (n_v vs 0) 93) j = v_iv (n_v vs 23)) ∧ (j ≠ v_iv (n_v vs 8) → w_ei ws (w_ar ws (n_v vs 0) 93) j = w_ei w1 (w_ar ws (n_v vs 0) 93) j) := fun j hj => ⟨fun h => by unfold w_ei; rw [s1.1, if_pos ⟨ad_19.symm, by rw [h]⟩], fun h => by unfold w_ei; rw [s1.1, if_neg (fun e => h (by have := e.2; omega))]⟩
  have kz_0_79 := fdq_146 hD hth r0
  have kz_0_80 := fdq_130 hD hth r0
  have kz_0_81 := fdq_123 hD hth r0
  have hrf0 : (-14400) ≤ v_iv (n_v vs 26) ∧ v_iv (n_v vs 26) ≤ 14400 := vc_Mo_up_13_r0 (v_iv (n_v vs 5)) (v_iv (n_v vs 6)) (v_iv (n_v vs 8)) (v_iv (n_v vs 10)) (v_iv (n_v vs 20)) (v_iv (n_v vs 22)) (v_iv (n_v vs 23)) (v_iv (n_v vs 24)) (v_iv (n_v vs 25)) (v_iv (n_v vs 26)) (w_ei ws (w_ar ws (n_v vs 0) 85)) (w_ei ws (w_ar ws (n_v vs 0) 93)) (w_fi ws (n_v vs 0) 79) (w_fi ws (n_v vs 0) 80) (w_ei w1 (w_ar ws (n_v vs 0) 85)) (w_ei w1 (w_ar ws (n_v vs 0) 93)) (w_ei w1 (w_ar ws (n_v vs 0) 82)) (w_ei w1 (w_ar ws (n_v vs 0) 86)) (w_ei w1 (w_ar ws (n_v vs 0) 84)) (w_ei w1 (w_ar ws (n_v vs 0) 83)) (w_fi w1 (n_v vs 0) 80) (w_fi w1 (n_v vs 0) 79) (w_ei w1 (w_ar ws (n_v vs 0) 90)) (w_ei w1 (w_ar ws (n_v vs 0) 87)) (w_ei w1 (w_ar ws (n_v vs 0) 88)) (w_ei w1 (w_ar ws (n_v vs 0) 89)) (w_fi w1 (n_v vs 0) 81) (w_fi ws (n_v vs 0) 81) (w_ei ws (w_ar ws (n_v vs 0) 82)) (w_ei ws (w_ar ws (n_v vs 0) 83)) (w_ei ws (w_ar ws (n_v vs 0) 84)) (w_ei ws (w_ar ws (n_v vs 0) 86)) (w_ei ws (w_ar ws (n_v vs 0) 87)) (w_ei ws (w_ar ws (n_v vs 0) 88)) (w_ei ws (w_ar ws (n_v vs 0) 89)) (w_ei ws (w_ar ws (n_v vs 0) 90)) k5 k6 k8 k10 k20 k22 k23 k24 k25 k26 d5 (shm_14 f0) h1 h3 (shm_12 f11) h12 h13 h24 h26 g29 f33 fe_0_79_1 fe_0_80_1 fe_0_81_1 hE_0_82_1 hE_0_83_1 hE_0_84_1 hE_0_85_1 hE_0_86_1 hE_0_87_1 hE_0_88_1 hE_0_89_1 hE_0_90_1 hE_0_93_1 kz_0_79 kz_0_80 kz_0_81
  have rf26 : tv_ok ta (0, -14400, 14400, []) (n_v vs 26) := tv_in t26 (by first | omega | grind) (by first | omega | grind)
  refine ⟨List.forall_mem_cons.mpr ⟨rf26, (fun _ h => (by cases h))⟩, [], trivial, ?_, (fun _ h => (by cases h))⟩
  rw [List.append_nil]
  exact (fun _ h => (by cases h))
set_option maxHeartbeats 4000000 in
theorem vc_Mo_up_14_0 (x5 : Int) (x6 : Int) (x8 : Int) (x10 : Int) (x12 : Int) (x14 : Int) (x15 : Int) (x17 : Int) (x18 : Int) (x20 : Int) (x22 : Int) (x23 : Int) (x24 : Int) (x25 : Int) (x26 : Int) (x27 : Int) (pointMany_0 : Int) (costMany_0 : Int) (costW_1 : Int → Int) (goes_1 : Int → Int) (pointMany_1 : Int) (costMany_1 : Int) (costW_2 : Int → Int) (goes_2 : Int → Int) (spot_2 : Int → Int) (costPlain_2 : Int → Int) (costB_2 : Int → Int) (costA_2 : Int → Int) (costMany_2 : Int) (pointMany_2 : Int) (flow_2 : Int → Int) (apartA_2 : Int → Int) (apartB_2 : Int → Int) (apart_2 : Int → Int) (apartMany_2 : Int) (apartMany_0 : Int) (apartMany_1 : Int) (spot_0 : Int → Int) (spot_1 : Int → Int) (costA_0 : Int → Int) (costA_1 : Int → Int) (costB_0 : Int → Int) (costB_1 : Int → Int) (costW_0 : Int → Int) (costPlain_0 : Int → Int) (costPlain_1 : Int → Int) (apartA_0 : Int → Int) (apartA_1 : Int → Int) (apartB_0 : Int → Int) (apartB_1 : Int → Int) (apart_0 : Int → Int) (apart_1 : Int → Int) (flow_0 : Int → Int) (flow_1 : Int → Int) (goes_0 : Int → Int) (k5 : 0 ≤ x5 ∧ x5 ≤ 199) (k6 : 1 ≤ x6 ∧ x6 ≤ 200) (k8 : 0 ≤ x8 ∧ x8 ≤ 75) (k10 : 0 ≤ x10 ∧ x10 ≤ 75) (k12 : 0 ≤ x12 ∧ x12 ≤ 0) (k17 : 1 ≤ x17 ∧ x17 ≤ 221100000) (k18 : 0 ≤ x18 ∧ x18 ≤ 221099999) (k20 : (-14400) ≤ x20 ∧ x20 ≤ 14400) (k22 : 0 ≤ x22 ∧ x22 ≤ 72) (k23 : (-14400) ≤ x23 ∧ x23 ≤ 14400) (k24 : (-14400) ≤ x24 ∧ x24 ≤ 14400) (k25 : 0 ≤ x25 ∧ x25 ≤ 72) (k26 : (-14400) ≤ x26 ∧ x26 ≤ 14400) (k27 : 1 ≤ x27 ∧ x27 ≤ 200) (d0 : x5 + 1 ≤ x27 ∧ x27 ≤ x5 + 1) (d1 : x6 + (-4294967296) ≤ x27 ∧ x27 ≤ x6 + 0) (d7 : x6 + (-4294967296) ≤ x5 ∧ x5 ≤ x6 + (-1)) (f0 : x27 = x5 + 1) (f7 : x26 = x24 - x25) (h8 : x25 = costW_1 (x5)) (h10 : x24 = goes_1 (x10)) (f17 : x23 = x20 + x22) (h18 : x22 = costW_2 (x5)) (h19 : x20 = goes_2 (x8)) (f20 : x18 < x17) (h21 : x18 = spot_2 (x10)) (h23 : x17 = spot_2 (x8)) (f27 : x12 = 0) (h28 : x12 = costPlain_2 (x5)) (h30 : x10 = costB_2 (x5)) (h32 : x8 = costA_2 (x5)) (g35 : x6 = costMany_2) (f39 : UPC (pointMany_2) (costMany_2) (apartMany_2) (flow_2) (goes_2) (spot_2) (costA_2) (costB_2) (costW_2) (costPlain_2) (apartA_2) (apartB_2) (apart_2) (x5)) (fe_0_79_1 : pointMany_0 = pointMany_1) (fe_0_80_1 : costMany_0 = costMany_1) (fe_0_81_1 : apartMany_0 = apartMany_1) (fe_0_79_2 : pointMany_1 = pointMany_2) (fe_0_80_2 : costMany_1 = costMany_2) (fe_0_81_2 : apartMany_1 = apartMany_2) (hE_0_82_1 : ∀ j : Int, spot_0 j = spot_1 j) (hE_0_82_2 : ∀ j : Int, spot_1 j = spot_2 j) (hE_0_83_1 : ∀ j : Int, costA_0 j = costA_1 j) (hE_0_83_2 : ∀ j : Int, costA_1 j = costA_2 j) (hE_0_84_1 : ∀ j : Int, costB_0 j = costB_1 j) (hE_0_84_2 : ∀ j : Int, costB_1 j = costB_2 j) (hE_0_85_1 : ∀ j : Int, costW_0 j = costW_1 j) (hE_0_85_2 : ∀ j : Int, costW_1 j = costW_2 j) (hE_0_86_1 : ∀ j : Int, costPlain_0 j = costPlain_1 j) (hE_0_86_2 : ∀ j : Int, costPlain_1 j = costPlain_2 j) (hE_0_87_1 : ∀ j : Int, apartA_0 j = apartA_1 j) (hE_0_87_2 : ∀ j : Int, apartA_1 j = apartA_2 j) (hE_0_88_1 : ∀ j : Int, apartB_0 j = apartB_1 j) (hE_0_88_2 : ∀ j : Int, apartB_1 j = apartB_2 j) (hE_0_89_1 : ∀ j : Int, apart_0 j = apart_1 j) (hE_0_89_2 : ∀ j : Int, apart_1 j = apart_2 j) (hE_0_90_1 : ∀ j : Int, flow_0 j = flow_1 j) (hE_0_90_2 : ∀ j : Int, flow_1 j = flow_2 j) (hE_0_93_1 : ∀ j : Int, 0 ≤ j → (j = x10 → goes_0 j = x26) ∧ (j ≠ x10 → goes_0 j = goes_1 j)) (hE_0_93_2 : ∀ j : Int, 0 ≤ j → (j = x8 → goes_1 j = x23) ∧ (j ≠ x8 → goes_1 j = goes_2 j)) (kz_0_79 : 0 ≤ pointMany_0 ∧ pointMany_0 ≤ 76) (kz_0_80 : 0 ≤ costMany_0 ∧ costMany_0 ≤ 200) (kz_0_81 : 0 ≤ apartMany_0 ∧ apartMany_0 ≤ 200) : UPC (pointMany_0) (costMany_0) (apartMany_0) (flow_0) (goes_0) (spot_0) (costA_0) (costB_0) (costW_0) (costPlain_0) (apartA_0) (apartB_0) (apart_0) (x27) := by
  subst fe_0_79_1
  subst fe_0_80_1
  subst fe_0_81_1
  subst fe_0_79_2
  subst fe_0_80_2
  subst fe_0_81_2
  have e_hE_0_82_1 := funext hE_0_82_1; subst e_hE_0_82_1
  have e_hE_0_82_2 := funext hE_0_82_2; subst e_hE_0_82_2
  have e_hE_0_83_1 := funext hE_0_83_1; subst e_hE_0_83_1
  have e_hE_0_83_2 := funext hE_0_83_2; subst e_hE_0_83_2
  have e_hE_0_84_1 := funext hE_0_84_1; subst e_hE_0_84_1
  have e_hE_0_84_2 := funext hE_0_84_2; subst e_hE_0_84_2
  have e_hE_0_85_1 := funext hE_0_85_1; subst e_hE_0_85_1
  have e_hE_0_85_2 := funext hE_0_85_2; subst e_hE_0_85_2
  have e_hE_0_86_1 := funext hE_0_86_1; subst e_hE_0_86_1
  have e_hE_0_86_2 := funext hE_0_86_2; subst e_hE_0_86_2
  have e_hE_0_87_1 := funext hE_0_87_1; subst e_hE_0_87_1
  have e_hE_0_87_2 := funext hE_0_87_2; subst e_hE_0_87_2
  have e_hE_0_88_1 := funext hE_0_88_1; subst e_hE_0_88_1
  have e_hE_0_88_2 := funext hE_0_88_2; subst e_hE_0_88_2
  have e_hE_0_89_1 := funext hE_0_89_1; subst e_hE_0_89_1
  have e_hE_0_89_2 := funext hE_0_89_2; subst e_hE_0_89_2
  have e_hE_0_90_1 := funext hE_0_90_1; subst e_hE_0_90_1
  have e_hE_0_90_2 := funext hE_0_90_2; subst e_hE_0_90_2
  first
    | exact upc_start ‹PBK _ _ _ _ _ _ _ _ _ _› ‹UZN _ _› (Int.le_refl _) ‹UZG _ _›.1 (by omega) (by omega)
    | exact upc_goP1 (a := x8) (b := x10) (w := x17) (w2 := x20) (pl := x12) (o1 := x15) (o2 := x19) ‹UPC _ _ _ _ _ _ _ _ _ _ _ _ _ _› (by omega) (by omega) (by assumption) (by assumption) (by assumption) (by assumption) (by assumption) (by assumption) (by omega) (by assumption) (by assumption) (by assumption) (by assumption) (by assumption) (by assumption)
    | exact upc_goP2 (a := x8) (b := x10) (w := x20) (w2 := x23) (ya := x14) (yb := x15) (o1 := x18) (o2 := x22) ‹UPC _ _ _ _ _ _ _ _ _ _ _ _ _ _› (by omega) (by omega) (by assumption) (by assumption) (by assumption) (by assumption) (by assumption) (by assumption) (by assumption) (by omega) (by assumption) (by assumption) (by assumption) (by assumption) (by assumption) (by assumption)
    | exact upc_goM2 (a := x8) (b := x10) (w := x22) (w2 := x25) (pl := x12) (ya := x17) (yb := x18) (o1 := x20) (o2 := x24) ‹UPC _ _ _ _ _ _ _ _ _ _ _ _ _ _› (by omega) (by omega) (by assumption) (by assumption) (by assumption) (by assumption) (by assumption) (by assumption) (by omega) (by assumption) (by assumption) (by omega) (by assumption) (by assumption) (by assumption) (by assumption) (by assumption) (by assumption)
    | exact upc_tie3 (a := x8) (b := x10) (w := x24) (w2 := x29) (pl := x12) (ya := x14) (yb := x15) (ya2 := x17) (yb2 := x18) (q1 := x21) (q2 := x27) (r1 := x20) (r2 := x26) (o1 := x22) (o2 := x28) ‹UPC _ _ _ _ _ _ _ _ _ _ _ _ _ _› (by omega) (by omega) (by assumption) (by omega) (by assumption) (by assumption) (by assumption) (by assumption) (by assumption) (by omega) (by assumption) (by assumption) (by omega) (by assumption) (by assumption) (by omega) (by assumption) (by assumption) (by assumption) (by assumption) (by assumption) (by assumption) (by assumption) (by assumption) (by assumption) (by assumption)
  
set_option maxHeartbeats 4000000 in
theorem vc_Mo_up_14_1 (x5 : Int) (x6 : Int) (x27 : Int) (pointMany_0 : Int) (costMany_0 : Int) (costW_1 : Int → Int) (pointMany_1 : Int) (costMany_1 : Int) (costW_2 : Int → Int) (spot_2 : Int → Int) (costPlain_2 : Int → Int) (costB_2 : Int → Int) (costA_2 : Int → Int) (costMany_2 : Int) (pointMany_2 : Int) (flow_2 : Int → Int) (apartA_2 : Int → Int) (apartB_2 : Int → Int) (apart_2 : Int → Int) (apartMany_2 : Int) (apartMany_0 : Int) (apartMany_1 : Int) (spot_0 : Int → Int) (spot_1 : Int → Int) (costA_0 : Int → Int) (costA_1 : Int → Int) (costB_0 : Int → Int) (costB_1 : Int → Int) (costW_0 : Int → Int) (costPlain_0 : Int → Int) (costPlain_1 : Int → Int) (apartA_0 : Int → Int) (apartA_1 : Int → Int) (apartB_0 : Int → Int) (apartB_1 : Int → Int) (apart_0 : Int → Int) (apart_1 : Int → Int) (flow_0 : Int → Int) (flow_1 : Int → Int) (k5 : 0 ≤ x5 ∧ x5 ≤ 199) (k6 : 1 ≤ x6 ∧ x6 ≤ 200) (k27 : 1 ≤ x27 ∧ x27 ≤ 200) (d0 : x5 + 1 ≤ x27 ∧ x27 ≤ x5 + 1) (d1 : x6 + (-4294967296) ≤ x27 ∧ x27 ≤ x6 + 0) (d7 : x6 + (-4294967296) ≤ x5 ∧ x5 ≤ x6 + (-1)) (g35 : x6 = costMany_2) (fe_0_79_1 : pointMany_0 = pointMany_1) (fe_0_80_1 : costMany_0 = costMany_1) (fe_0_81_1 : apartMany_0 = apartMany_1) (fe_0_79_2 : pointMany_1 = pointMany_2) (fe_0_80_2 : costMany_1 = costMany_2) (fe_0_81_2 : apartMany_1 = apartMany_2) (hE_0_82_1 : ∀ j : Int, spot_0 j = spot_1 j) (hE_0_82_2 : ∀ j : Int, spot_1 j = spot_2 j) (hE_0_83_1 : ∀ j : Int, costA_0 j = costA_1 j) (hE_0_83_2 : ∀ j : Int, costA_1 j = costA_2 j) (hE_0_84_1 : ∀ j : Int, costB_0 j = costB_1 j) (hE_0_84_2 : ∀ j : Int, costB_1 j = costB_2 j) (hE_0_85_1 : ∀ j : Int, costW_0 j = costW_1 j) (hE_0_85_2 : ∀ j : Int, costW_1 j = costW_2 j) (hE_0_86_1 : ∀ j : Int, costPlain_0 j = costPlain_1 j) (hE_0_86_2 : ∀ j : Int, costPlain_1 j = costPlain_2 j) (hE_0_87_1 : ∀ j : Int, apartA_0 j = apartA_1 j) (hE_0_87_2 : ∀ j : Int, apartA_1 j = apartA_2 j) (hE_0_88_1 : ∀ j : Int, apartB_0 j = apartB_1 j) (hE_0_88_2 : ∀ j : Int, apartB_1 j = apartB_2 j) (hE_0_89_1 : ∀ j : Int, apart_0 j = apart_1 j) (hE_0_89_2 : ∀ j : Int, apart_1 j = apart_2 j) (hE_0_90_1 : ∀ j : Int, flow_0 j = flow_1 j) (hE_0_90_2 : ∀ j : Int, flow_1 j = flow_2 j) (kz_0_79 : 0 ≤ pointMany_0 ∧ pointMany_0 ≤ 76) (kz_0_80 : 0 ≤ costMany_0 ∧ costMany_0 ≤ 200) (kz_0_81 : 0 ≤ apartMany_0 ∧ apartMany_0 ≤ 200) : x27 ≤ costMany_0 := by
  subst fe_0_79_1
  subst fe_0_80_1
  subst fe_0_81_1
  subst fe_0_79_2
  subst fe_0_80_2
  subst fe_0_81_2
  have e_hE_0_82_1 := funext hE_0_82_1; subst e_hE_0_82_1
  have e_hE_0_82_2 := funext hE_0_82_2; subst e_hE_0_82_2
  have e_hE_0_83_1 := funext hE_0_83_1; subst e_hE_0_83_1
  have e_hE_0_83_2 := funext hE_0_83_2; subst e_hE_0_83_2
  have e_hE_0_84_1 := funext hE_0_84_1; subst e_hE_0_84_1
  have e_hE_0_84_2 := funext hE_0_84_2; subst e_hE_0_84_2
  have e_hE_0_85_1 := funext hE_0_85_1; subst e_hE_0_85_1
  have e_hE_0_85_2 := funext hE_0_85_2; subst e_hE_0_85_2
  have e_hE_0_86_1 := funext hE_0_86_1; subst e_hE_0_86_1
  have e_hE_0_86_2 := funext hE_0_86_2; subst e_hE_0_86_2
  have e_hE_0_87_1 := funext hE_0_87_1; subst e_hE_0_87_1
  have e_hE_0_87_2 := funext hE_0_87_2; subst e_hE_0_87_2
  have e_hE_0_88_1 := funext hE_0_88_1; subst e_hE_0_88_1
  have e_hE_0_88_2 := funext hE_0_88_2; subst e_hE_0_88_2
  have e_hE_0_89_1 := funext hE_0_89_1; subst e_hE_0_89_1
  have e_hE_0_89_2 := funext hE_0_89_2; subst e_hE_0_89_2
  have e_hE_0_90_1 := funext hE_0_90_1; subst e_hE_0_90_1
  have e_hE_0_90_2 := funext hE_0_90_2; subst e_hE_0_90_2
  omega
def o_Mo_up_14 : or_T := (73, 28, [(0, (2, 0, 0, [165])), (5, (0, 0, 199, [])), (6, (0, 1, 200, [])), (8, (0, 0, 75, [])), (10, (0, 0, 75, [])), (12, (0, 0, 0, [])), (17, (0, 1, 221100000, [])), (18, (0, 0, 221099999, [])), (19, (2, 0, 0, [230])), (20, (0, -14400, 14400, [])), (22, (0, 0, 72, [])), (23, (0, -14400, 14400, [])), (24, (0, -14400, 14400, [])), (25, (0, 0, 72, [])), (26, (0, -14400, 14400, [])), (27, (0, 1, 200, []))], [(6, [27, 5], [1]), (24, [0, 1], []), (100, [19, 10, 26], []), (2, [26, 24, 25], []), (10, [25, 21, 5], []), (9, [21, 1], [85]), (10, [24, 19, 10], []), (9, [19, 1], [93]), (100, [19, 8, 23], []), (1, [23, 20, 22], []), (10, [22, 21, 5], []), (10, [20, 19, 8], []), (7, [17, 18], [4]), (10, [18, 13, 10], []), (9, [13, 1], [82]), (10, [17, 13, 8], []), (8, [12], [0]), (10, [12, 11, 5], []), (9, [11, 1], [86]), (10, [10, 9, 5], []), (9, [9, 1], [84]), (10, [8, 7, 5], []), (9, [7, 1], [83]), (9, [6, 1], [80]), (20, [1, 5], [60, 3, 10, 413, 79, 80, 81, 90, 93, 82, 83, 84, 85, 86, 87, 88, 89])], [], [], [(20, [1, 27], [60, 3, 10, 413, 79, 80, 81, 90, 93, 82, 83, 84, 85, 86, 87, 88, 89]), (20, [27, 1], [50, 1, 0, 1080, 0, 2, 1, 0, 2, 1, 80])], [], [(27, 5, 1, 1), (27, 6, -4294967296, 0), (26, 24, -72, 0), (23, 22, -14400, 14400), (23, 20, 0, 72), (5, 6, -4294967296, -1)])
theorem oo_Mo_up_14 {kA : Nat → ClassId} : or_ok PRD kA GG o_Mo_up_14 := by
  refine or_mk fun A ta ws vs hD hth hl => ?_
  intro t0 r0 t5 k5 t6 k6 t8 k8 t10 k10 t12 k12 t17 k17 t18 k18 t19 r19 t20 k20 t22 k22 t23 k23 t24 k24 t25 k25 t26 k26 t27 k27 d0 d1 d2 d3 d4 d7 f0 f5 ta1 w1 le1 s1 f7 f8 f9 f10 f11 ta2 w2 le2 s2 f17 f18 f19 f20 f21 f22 f23 f27 f28 f29 f30 f31 f32 f33 f35 f39
  replace f0 := shm_4 f0
  replace f5 := shm_5 f5
  have s1 : (∀ b j, w_el ws b j = if b = v_ad (n_v vs 19) ∧ j = (v_iv (n_v vs 10)).toNat then v_iv (n_v vs 26) else w_el w1 b j) ∧ ∀ b k, w_fd ws b k = w_fd w1 b k := s1.2
  replace f7 := shm_14 f7
  replace f8 := shm_106 f8
  replace f9 := shm_553 f9
  replace f10 := shm_106 f10
  replace f11 := shm_1131 f11
  have s2 : (∀ b j, w_el w1 b j = if b = v_ad (n_v vs 19) ∧ j = (v_iv (n_v vs 8)).toNat then v_iv (n_v vs 23) else w_el w2 b j) ∧ ∀ b k, w_fd w1 b k = w_fd w2 b k := s2.2
  replace f17 := shm_12 f17
  replace f18 := shm_106 f18
  replace f19 := shm_106 f19
  replace f20 := shm_21 f20
  replace f21 := shm_106 f21
  replace f22 := shm_1134 f22
  replace f23 := shm_106 f23
  replace f27 := shm_210 f27
  replace f28 := shm_106 f28
  replace f29 := shm_552 f29
  replace f30 := shm_106 f30
  replace f31 := shm_554 f31
  replace f32 := shm_106 f32
  replace f33 := shm_548 f33
  replace f35 := shm_547 f35
  replace f39 := shm_1129 f39
  have q1 : n_v vs 1 = n_v vs 0 := f5.symm
  simp only [q1] at f9 f11 f22 f29 f31 f33 f35 f39
  have ar_0_82_1 : w_ar w1 (n_v vs 0) 82 = w_ar ws (n_v vs 0) 82 := congrArg v_ad (s1.2 _ _).symm
  have ar_0_82_2 : w_ar w2 (n_v vs 0) 82 = w_ar ws (n_v vs 0) 82 := by rw [← ar_0_82_1]; show v_ad (w_fd w2 _ _) = v_ad (w_fd w1 _ _); rw [s2.2]
  have cr_0_82 := fdq_225 hD hth r0
  have ar_0_83_1 : w_ar w1 (n_v vs 0) 83 = w_ar ws (n_v vs 0) 83 := congrArg v_ad (s1.2 _ _).symm
  have ar_0_83_2 : w_ar w2 (n_v vs 0) 83 = w_ar ws (n_v vs 0) 83 := by rw [← ar_0_83_1]; show v_ad (w_fd w2 _ _) = v_ad (w_fd w1 _ _); rw [s2.2]
  have cr_0_83 := fdq_125 hD hth r0
  have ar_0_84_1 : w_ar w1 (n_v vs 0) 84 = w_ar ws (n_v vs 0) 84 := congrArg v_ad (s1.2 _ _).symm
  have ar_0_84_2 : w_ar w2 (n_v vs 0) 84 = w_ar ws (n_v vs 0) 84 := by rw [← ar_0_84_1]; show v_ad (w_fd w2 _ _) = v_ad (w_fd w1 _ _); rw [s2.2]
  have cr_0_84 := fdq_126 hD hth r0
  have ar_0_85_1 : w_ar w1 (n_v vs 0) 85 = w_ar ws (n_v vs 0) 85 := congrArg v_ad (s1.2 _ _).symm
  have ar_0_85_2 : w_ar w2 (n_v vs 0) 85 = w_ar ws (n_v vs 0) 85 := by rw [← ar_0_85_1]; show v_ad (w_fd w2 _ _) = v_ad (w_fd w1 _ _); rw [s2.2]
  have cr_0_85 := fdq_127 hD hth r0
  have ar_0_86_1 : w_ar w1 (n_v vs 0) 86 = w_ar ws (n_v vs 0) 86 := congrArg v_ad (s1.2 _ _).symm
  have ar_0_86_2 : w_ar w2 (n_v vs 0) 86 = w_ar ws (n_v vs 0) 86 := by rw [← ar_0_86_1]; show v_ad (w_fd w2 _ _) = v_ad (w_fd w1 _ _); rw [s2.2]
  have cr_0_86 := fdq_128 hD hth r0
  have ar_0_87_1 : w_ar w1 (n_v vs 0) 87 = w_ar ws (n_v vs 0) 87 := congrArg v_ad (s1.2 _ _).symm
  have ar_0_87_2 : w_ar w2 (n_v vs 0) 87 = w_ar ws (n_v vs 0) 87 := by rw [← ar_0_87_1]; show v_ad (w_fd w2 _ _) = v_ad (w_fd w1 _ _); rw [s2.2]
  have cr_0_87 := fdq_118 hD hth r0
  have ar_0_88_1 : w_ar w1 (n_v vs 0) 88 = w_ar ws (n_v vs 0) 88 := congrArg v_ad (s1.2 _ _).symm
  have ar_0_88_2 : w_ar w2 (n_v vs 0) 88 = w_ar ws (n_v vs 0) 88 := by rw [← ar_0_88_1]; show v_ad (w_fd w2 _ _) = v_ad (w_fd w1 _ _); rw [s2.2]
  have cr_0_88 := fdq_119 hD hth r0
  have ar_0_89_1 : w_ar w1 (n_v vs 0) 89 = w_ar ws (n_v vs 0) 89 := congrArg v_ad (s1.2 _ _).symm
  have ar_0_89_2 : w_ar w2 (n_v vs 0) 89 = w_ar ws (n_v vs 0) 89 := by rw [← ar_0_89_1]; show v_ad (w_fd w2 _ _) = v_ad (w_fd w1 _ _); rw [s2.2]
  have cr_0_89 := fdq_120 hD hth r0
  have ar_0_90_1 : w_ar w1 (n_v vs 0) 90 = w_ar ws (n_v vs 0) 90 := congrArg v_ad (s1.2 _ _).symm
  have ar_0_90_2 : w_ar w2 (n_v vs 0) 90 = w_ar ws (n_v vs 0) 90 := by rw [← ar_0_90_1]; show v_ad (w_fd w2 _ _) = v_ad (w_fd w1 _ _); rw [s2.2]
  have cr_0_90 := fdq_226 hD hth r0
  have ar_0_93_1 : w_ar w1 (n_v vs 0) 93 = w_ar ws (n_v vs 0) 93 := congrArg v_ad (s1.2 _ _).symm
  have ar_0_93_2 : w_ar w2 (n_v vs 0) 93 = w_ar ws (n_v vs 0) 93 := by rw [← ar_0_93_1]; show v_ad (w_fd w2 _ _) = v_ad (w_fd w1 _ _); rw [s2.2]
  have ad_21 : v_ad (n_v vs 21) = w_ar ws (n_v vs 0) 85 := (congrArg v_ad f9).trans ar_0_85_1
  have ad_19 : v_ad (n_v vs 19) = w_ar ws (n_v vs 0) 93 := (congrArg v_ad f11).trans ar_0_93_1
  have ad_13 : v_ad (n_v vs 13) = w_ar ws (n_v vs 0) 82 := (congrArg v_ad f22).trans ar_0_82_2
  have ad_11 : v_ad (n_v vs 11) = w_ar ws (n_v vs 0) 86 := (congrArg v_ad f29).trans ar_0_86_2
  have ad_9 : v_ad (n_v vs 9) = w_ar ws (n_v vs 0) 84 := (congrArg v_ad f31).trans ar_0_84_2
  have ad_7 : v_ad (n_v vs 7) = w_ar ws (n_v vs 0) 83 := (congrArg v_ad f33).trans ar_0_83_2
  simp only [ad_21] at f8
  have h8 : v_iv (n_v vs 25) = w_ei w1 (w_ar ws (n_v vs 0) 85) (v_iv (n_v vs 5)) := f8
  simp only [ad_19] at f10
  have h10 : v_iv (n_v vs 24) = w_ei w1 (w_ar ws (n_v vs 0) 93) (v_iv (n_v vs 10)) := f10
  simp only [ad_21] at f18
  have h18 : v_iv (n_v vs 22) = w_ei w2 (w_ar ws (n_v vs 0) 85) (v_iv (n_v vs 5)) := f18
  simp only [ad_19] at f19
  have h19 : v_iv (n_v vs 20) = w_ei w2 (w_ar ws (n_v vs 0) 93) (v_iv (n_v vs 8)) := f19
  simp only [ad_13] at f21
  have h21 : v_iv (n_v vs 18) = w_ei w2 (w_ar ws (n_v vs 0) 82) (v_iv (n_v vs 10)) := f21
  simp only [ad_13] at f23
  have h23 : v_iv (n_v vs 17) = w_ei w2 (w_ar ws (n_v vs 0) 82) (v_iv (n_v vs 8)) := f23
  simp only [ad_11] at f28
  have h28 : v_iv (n_v vs 12) = w_ei w2 (w_ar ws (n_v vs 0) 86) (v_iv (n_v vs 5)) := f28
  simp only [ad_9] at f30
  have h30 : v_iv (n_v vs 10) = w_ei w2 (w_ar ws (n_v vs 0) 84) (v_iv (n_v vs 5)) := f30
  simp only [ad_7] at f32
  have h32 : v_iv (n_v vs 8) = w_ei w2 (w_ar ws (n_v vs 0) 83) (v_iv (n_v vs 5)) := f32
  have g35 : v_iv (n_v vs 6) = w_fi w2 (n_v vs 0) 80 := congrArg v_iv f35
  simp only [ar_0_82_2, ar_0_83_2, ar_0_84_2, ar_0_85_2, ar_0_86_2, ar_0_87_2, ar_0_88_2, ar_0_89_2, ar_0_90_2, ar_0_93_2] at f39
  have fe_0_79_1 : w_fi ws (n_v vs 0) 79 = w_fi w1 (n_v vs 0) 79 := congrArg v_iv (s1.2 _ _)
  have fe_0_80_1 : w_fi ws (n_v vs 0) 80 = w_fi w1 (n_v vs 0) 80 := congrArg v_iv (s1.2 _ _)
  have fe_0_81_1 : w_fi ws (n_v vs 0) 81 = w_fi w1 (n_v vs 0) 81 := congrArg v_iv (s1.2 _ _)
  have fe_0_79_2 : w_fi w1 (n_v vs 0) 79 = w_fi w2 (n_v vs 0) 79 := congrArg v_iv (s2.2 _ _)
  have fe_0_80_2 : w_fi w1 (n_v vs 0) 80 = w_fi w2 (n_v vs 0) 80 := congrArg v_iv (s2.2 _ _)
  have fe_0_81_2 : w_fi w1 (n_v vs 0) 81 = w_fi w2 (n_v vs 0) 81 := congrArg v_iv (s2.2 _ _)
  have hE_0_82_1 : ∀ j : Int, w_ei ws (w_ar ws (n_v vs 0) 82) j = w_ei w1 (w_ar ws (n_v vs 0) 82) j := el_kp s1.1 r19 cr_0_82 (by decide)
  have hE_0_82_2 : ∀ j : Int, w_ei w1 (w_ar ws (n_v vs 0) 82) j = w_ei w2 (w_ar ws (n_v vs 0) 82) j := el_kp s2.1 r19 cr_0_82 (by decide)
  have hE_0_83_1 : ∀ j : Int, w_ei ws (w_ar ws (n_v vs 0) 83) j = w_ei w1 (w_ar ws (n_v vs 0) 83) j := el_kp s1.1 r19 cr_0_83 (by decide)
  have hE_0_83_2 : ∀ j : Int, w_ei w1 (w_ar ws (n_v vs 0) 83) j = w_ei w2 (w_ar ws (n_v vs 0) 83) j := el_kp s2.1 r19 cr_0_83 (by decide)
  have hE_0_84_1 : ∀ j : Int, w_ei ws (w_ar ws (n_v vs 0) 84) j = w_ei w1 (w_ar ws (n_v vs 0) 84) j := el_kp s1.1 r19 cr_0_84 (by decide)
  have hE_0_84_2 : ∀ j : Int, w_ei w1 (w_ar ws (n_v vs 0) 84) j = w_ei w2 (w_ar ws (n_v vs 0) 84) j := el_kp s2.1 r19 cr_0_84 (by decide)
  have hE_0_85_1 : ∀ j : Int, w_ei ws (w_ar ws (n_v vs 0) 85) j = w_ei w1 (w_ar ws (n_v vs 0) 85) j := el_kp s1.1 r19 cr_0_85 (by decide)
  have hE_0_85_2 : ∀ j : Int, w_ei w1 (w_ar ws (n_v vs 0) 85) j = w_ei w2 (w_ar ws (n_v vs 0) 85) j := el_kp s2.1 r19 cr_0_85 (by decide)
  have hE_0_86_1 : ∀ j : Int, w_ei ws (w_ar ws (n_v vs 0) 86) j = w_ei w1 (w_ar ws (n_v vs 0) 86) j := el_kp s1.1 r19 cr_0_86 (by decide)
  have hE_0_86_2 : ∀ j : Int, w_ei w1 (w_ar ws (n_v vs 0) 86) j = w_ei w2 (w_ar ws (n_v vs 0) 86) j := el_kp s2.1 r19 cr_0_86 (by decide)
  have hE_0_87_1 : ∀ j : Int, w_ei ws (w_ar ws (n_v vs 0) 87) j = w_ei w1 (w_ar ws (n_v vs 0) 87) j := el_kp s1.1 r19 cr_0_87 (by decide)
  have hE_0_87_2 : ∀ j : Int, w_ei w1 (w_ar ws (n_v vs 0) 87) j = w_ei w2 (w_ar ws (n_v vs 0) 87) j := el_kp s2.1 r19 cr_0_87 (by decide)
  have hE_0_88_1 : ∀ j : Int, w_ei ws (w_ar ws (n_v vs 0) 88) j = w_ei w1 (w_ar ws (n_v vs 0) 88) j := el_kp s1.1 r19 cr_0_88 (by decide)
  have hE_0_88_2 : ∀ j : Int, w_ei w1 (w_ar ws (n_v vs 0) 88) j = w_ei w2 (w_ar ws (n_v vs 0) 88) j := el_kp s2.1 r19 cr_0_88 (by decide)
  have hE_0_89_1 : ∀ j : Int, w_ei ws (w_ar ws (n_v vs 0) 89) j = w_ei w1 (w_ar ws (n_v vs 0) 89) j := el_kp s1.1 r19 cr_0_89 (by decide)
  have hE_0_89_2 : ∀ j : Int, w_ei w1 (w_ar ws (n_v vs 0) 89) j = w_ei w2 (w_ar ws (n_v vs 0) 89) j := el_kp s2.1 r19 cr_0_89 (by decide)
  have hE_0_90_1 : ∀ j : Int, w_ei ws (w_ar ws (n_v vs 0) 90) j = w_ei w1 (w_ar ws (n_v vs 0) 90) j := el_kp s1.1 r19 cr_0_90 (by decide)
  have hE_0_90_2 : ∀ j : Int, w_ei w1 (w_ar ws (n_v vs 0) 90) j = w_ei w2 (w_ar ws (n_v vs 0) 90) j := el_kp s2.1 r19 cr_0_90 (by decide)
  have hE_0_93_1 : ∀ j : Int, 0 ≤ j → (j = v_iv (n_v vs 10) → w_ei ws (w_ar ws (n_v vs 0) 93) j = v_iv (n_v vs 26)) ∧ (j ≠ v_iv (n_v vs 10) → w_ei ws (w_ar ws (n_v vs 0) 93) j = w_ei w1 (w_ar ws (n_v vs 0) 93) j) := fun j hj => ⟨fun h => by unfold w_ei; rw [s1.1, if_pos ⟨ad_19.symm, by rw [h]⟩], fun h => by unfold w_ei; rw [s1.1, if_neg (fun e => h (by have := e.2; omega))]⟩
  have hE_0_93_2 : ∀ j : Int, 0 ≤ j → (j = v_iv (n_v vs 8) → w_ei w1 (w_ar ws (n_v vs 0) 93) j = v_iv (n_v vs 23)) ∧ (j ≠ v_iv (n_v vs 8) → w_ei w1 (w_ar ws (n_v vs 0) 93) j = w_ei w2 (w_ar ws (n_v vs 0) 93) j) := fun j hj => ⟨fun h => by unfold w_ei; rw [s2.1, if_pos ⟨ad_19.symm, by rw [h]⟩], fun h => by unfold w_ei; rw [s2.1, if_neg (fun e => h (by have := e.2; omega))]⟩
  have kz_0_79 := fdq_146 hD hth r0
  have kz_0_80 := fdq_130 hD hth r0
  have kz_0_81 := fdq_123 hD hth r0
  have nf0 : fc_1 PRD (20, [1, 27], [60, 3, 10, 413, 79, 80, 81, 90, 93, 82, 83, 84, 85, 86, 87, 88, 89]) ws (vs) := by
    refine ⟨nf_in hl rfl, sgq_1129 ?_⟩
    · show UPC (w_fi ws (n_v vs 1) 79) (w_fi ws (n_v vs 1) 80) (w_fi ws (n_v vs 1) 81) (w_ei ws (w_ar ws (n_v vs 1) 90)) (w_ei ws (w_ar ws (n_v vs 1) 93)) (w_ei ws (w_ar ws (n_v vs 1) 82)) (w_ei ws (w_ar ws (n_v vs 1) 83)) (w_ei ws (w_ar ws (n_v vs 1) 84)) (w_ei ws (w_ar ws (n_v vs 1) 85)) (w_ei ws (w_ar ws (n_v vs 1) 86)) (w_ei ws (w_ar ws (n_v vs 1) 87)) (w_ei ws (w_ar ws (n_v vs 1) 88)) (w_ei ws (w_ar ws (n_v vs 1) 89)) (v_iv (n_v vs 27))
      rw [q1]
      exact vc_Mo_up_14_0 (v_iv (n_v vs 5)) (v_iv (n_v vs 6)) (v_iv (n_v vs 8)) (v_iv (n_v vs 10)) (v_iv (n_v vs 12)) (v_iv (n_v vs 14)) (v_iv (n_v vs 15)) (v_iv (n_v vs 17)) (v_iv (n_v vs 18)) (v_iv (n_v vs 20)) (v_iv (n_v vs 22)) (v_iv (n_v vs 23)) (v_iv (n_v vs 24)) (v_iv (n_v vs 25)) (v_iv (n_v vs 26)) (v_iv (n_v vs 27)) (w_fi ws (n_v vs 0) 79) (w_fi ws (n_v vs 0) 80) (w_ei w1 (w_ar ws (n_v vs 0) 85)) (w_ei w1 (w_ar ws (n_v vs 0) 93)) (w_fi w1 (n_v vs 0) 79) (w_fi w1 (n_v vs 0) 80) (w_ei w2 (w_ar ws (n_v vs 0) 85)) (w_ei w2 (w_ar ws (n_v vs 0) 93)) (w_ei w2 (w_ar ws (n_v vs 0) 82)) (w_ei w2 (w_ar ws (n_v vs 0) 86)) (w_ei w2 (w_ar ws (n_v vs 0) 84)) (w_ei w2 (w_ar ws (n_v vs 0) 83)) (w_fi w2 (n_v vs 0) 80) (w_fi w2 (n_v vs 0) 79) (w_ei w2 (w_ar ws (n_v vs 0) 90)) (w_ei w2 (w_ar ws (n_v vs 0) 87)) (w_ei w2 (w_ar ws (n_v vs 0) 88)) (w_ei w2 (w_ar ws (n_v vs 0) 89)) (w_fi w2 (n_v vs 0) 81) (w_fi ws (n_v vs 0) 81) (w_fi w1 (n_v vs 0) 81) (w_ei ws (w_ar ws (n_v vs 0) 82)) (w_ei w1 (w_ar ws (n_v vs 0) 82)) (w_ei ws (w_ar ws (n_v vs 0) 83)) (w_ei w1 (w_ar ws (n_v vs 0) 83)) (w_ei ws (w_ar ws (n_v vs 0) 84)) (w_ei w1 (w_ar ws (n_v vs 0) 84)) (w_ei ws (w_ar ws (n_v vs 0) 85)) (w_ei ws (w_ar ws (n_v vs 0) 86)) (w_ei w1 (w_ar ws (n_v vs 0) 86)) (w_ei ws (w_ar ws (n_v vs 0) 87)) (w_ei w1 (w_ar ws (n_v vs 0) 87)) (w_ei ws (w_ar ws (n_v vs 0) 88)) (w_ei w1 (w_ar ws (n_v vs 0) 88)) (w_ei ws (w_ar ws (n_v vs 0) 89)) (w_ei w1 (w_ar ws (n_v vs 0) 89)) (w_ei ws (w_ar ws (n_v vs 0) 90)) (w_ei w1 (w_ar ws (n_v vs 0) 90)) (w_ei ws (w_ar ws (n_v vs 0) 93)) k5 k6 k8 k10 k12 k17 k18 k20 k22 k23 k24 k25 k26 k27 d0 d1 d7 f0 f7 h8 h10 f17 h18 h19 f20 h21 h23 f27 h28 h30 h32 g35 f39 fe_0_79_1 fe_0_80_1 fe_0_81_1 fe_0_79_2 fe_0_80_2 fe_0_81_2 hE_0_82_1 hE_0_82_2 hE_0_83_1 hE_0_83_2 hE_0_84_1 hE_0_84_2 hE_0_85_1 hE_0_85_2 hE_0_86_1 hE_0_86_2 hE_0_87_1 hE_0_87_2 hE_0_88_1 hE_0_88_2 hE_0_89_1 hE_0_89_2 hE_0_90_1 hE_0_90_2 hE_0_93_1 hE_0_93_2 kz_0_79 kz_0_80 kz_0_81
  have nf1 : fc_1 PRD (20, [27, 1], [50, 1, 0, 1080, 0, 2, 1, 0, 2, 1, 80]) ws (vs) := by
    refine ⟨nf_in hl rfl, sgq_1130 ?_⟩
    · show v_iv (n_v vs 27) ≤ w_fi ws (n_v vs 1) 80
      rw [q1]
      exact vc_Mo_up_14_1 (v_iv (n_v vs 5)) (v_iv (n_v vs 6)) (v_iv (n_v vs 27)) (w_fi ws (n_v vs 0) 79) (w_fi ws (n_v vs 0) 80) (w_ei w1 (w_ar ws (n_v vs 0) 85)) (w_fi w1 (n_v vs 0) 79) (w_fi w1 (n_v vs 0) 80) (w_ei w2 (w_ar ws (n_v vs 0) 85)) (w_ei w2 (w_ar ws (n_v vs 0) 82)) (w_ei w2 (w_ar ws (n_v vs 0) 86)) (w_ei w2 (w_ar ws (n_v vs 0) 84)) (w_ei w2 (w_ar ws (n_v vs 0) 83)) (w_fi w2 (n_v vs 0) 80) (w_fi w2 (n_v vs 0) 79) (w_ei w2 (w_ar ws (n_v vs 0) 90)) (w_ei w2 (w_ar ws (n_v vs 0) 87)) (w_ei w2 (w_ar ws (n_v vs 0) 88)) (w_ei w2 (w_ar ws (n_v vs 0) 89)) (w_fi w2 (n_v vs 0) 81) (w_fi ws (n_v vs 0) 81) (w_fi w1 (n_v vs 0) 81) (w_ei ws (w_ar ws (n_v vs 0) 82)) (w_ei w1 (w_ar ws (n_v vs 0) 82)) (w_ei ws (w_ar ws (n_v vs 0) 83)) (w_ei w1 (w_ar ws (n_v vs 0) 83)) (w_ei ws (w_ar ws (n_v vs 0) 84)) (w_ei w1 (w_ar ws (n_v vs 0) 84)) (w_ei ws (w_ar ws (n_v vs 0) 85)) (w_ei ws (w_ar ws (n_v vs 0) 86)) (w_ei w1 (w_ar ws (n_v vs 0) 86)) (w_ei ws (w_ar ws (n_v vs 0) 87)) (w_ei w1 (w_ar ws (n_v vs 0) 87)) (w_ei ws (w_ar ws (n_v vs 0) 88)) (w_ei w1 (w_ar ws (n_v vs 0) 88)) (w_ei ws (w_ar ws (n_v vs 0) 89)) (w_ei w1 (w_ar ws (n_v vs 0) 89)) (w_ei ws (w_ar ws (n_v vs 0) 90)) (w_ei w1 (w_ar ws (n_v vs 0) 90)) k5 k6 k27 d0 d1 d7 g35 fe_0_79_1 fe_0_80_1 fe_0_81_1 fe_0_79_2 fe_0_80_2 fe_0_81_2 hE_0_82_1 hE_0_82_2 hE_0_83_1 hE_0_83_2 hE_0_84_1 hE_0_84_2 hE_0_85_1 hE_0_85_2 hE_0_86_1 hE_0_86_2 hE_0_87_1 hE_0_87_2 hE_0_88_1 hE_0_88_2 hE_0_89_1 hE_0_89_2 hE_0_90_1 hE_0_90_2 kz_0_79 kz_0_80 kz_0_81
  refine ⟨(fun _ h => (by cases h)), [], trivial, ?_, (fun _ h => (by cases h))⟩
  rw [List.append_nil]
  exact List.forall_mem_cons.mpr ⟨⟨show (20 : Nat) < 100 from by decide, nf0⟩, List.forall_mem_cons.mpr ⟨⟨show (20 : Nat) < 100 from by decide, nf1⟩, (fun _ h => (by cases h))⟩⟩
set_option maxHeartbeats 4000000 in
theorem vc_Mo_up_15_r0 (x5 : Int) (x6 : Int) (x8 : Int) (x18 : Int) (x20 : Int) (x21 : Int) (costW_0 : Int → Int) (goes_0 : Int → Int) (spot_0 : Int → Int) (costPlain_0 : Int → Int) (costB_0 : Int → Int) (costA_0 : Int → Int) (costMany_0 : Int) (pointMany_0 : Int) (flow_0 : Int → Int) (apartA_0 : Int → Int) (apartB_0 : Int → Int) (apart_0 : Int → Int) (apartMany_0 : Int) (k5 : 0 ≤ x5 ∧ x5 ≤ 199) (k6 : 1 ≤ x6 ∧ x6 ≤ 200) (k8 : 0 ≤ x8 ∧ x8 ≤ 75) (k18 : (-14400) ≤ x18 ∧ x18 ≤ 14400) (k20 : 0 ≤ x20 ∧ x20 ≤ 72) (k21 : (-14472) ≤ x21 ∧ x21 ≤ 14400) (d0 : x18 + (-72) ≤ x21 ∧ x21 ≤ x18 + 0) (d2 : x6 + (-4294967296) ≤ x5 ∧ x5 ≤ x6 + (-1)) (f0 : x21 = x18 - x20) (h1 : x20 = costW_0 (x5)) (h3 : x18 = goes_0 (x8)) (h14 : x8 = costA_0 (x5)) (g17 : x6 = costMany_0) (f21 : UPC (pointMany_0) (costMany_0) (apartMany_0) (flow_0) (goes_0) (spot_0) (costA_0) (costB_0) (costW_0) (costPlain_0) (apartA_0) (apartB_0) (apart_0) (x5)) (kz_0_79 : 0 ≤ pointMany_0 ∧ pointMany_0 ≤ 76) (kz_0_80 : 0 ≤ costMany_0 ∧ costMany_0 ≤ 200) (kz_0_81 : 0 ≤ apartMany_0 ∧ apartMany_0 ≤ 200) : (-14400) ≤ x21 ∧ x21 ≤ 14400 := by
  have h := upc_v1 (a := x8) ‹UPC _ _ _ _ _ _ _ _ _ _ _ _ _ _› (by omega) (by omega) (Or.inl (by assumption)) (by assumption) (by assumption)
  omega
def o_Mo_up_15 : or_T := (155, 22, [(0, (2, 0, 0, [165])), (1, (2, 0, 0, [165])), (2, (0, 2, 78, [])), (3, (0, 0, 76, [])), (4, (0, 1, 77, [])), (5, (0, 0, 199, [])), (6, (0, 1, 200, [])), (7, (2, 0, 0, [220])), (8, (0, 0, 75, [])), (9, (2, 0, 0, [221])), (10, (0, 0, 75, [])), (11, (2, 0, 0, [223])), (12, (0, 0, 0, [])), (13, (2, 0, 0, [219])), (14, (0, 0, 221099999, [])), (15, (0, 1, 221100000, [])), (17, (2, 0, 0, [230])), (18, (0, -14400, 14400, [])), (19, (2, 0, 0, [222])), (20, (0, 0, 72, [])), (21, (0, -14472, 14400, []))], [(2, [21, 18, 20], []), (10, [20, 19, 5], []), (9, [19, 1], [85]), (10, [18, 17, 8], []), (9, [17, 1], [93]), (7, [14, 15], [2]), (10, [15, 13, 10], []), (9, [13, 1], [82]), (10, [14, 13, 8], []), (8, [12], [0]), (10, [12, 11, 5], []), (9, [11, 1], [86]), (10, [10, 9, 5], []), (9, [9, 1], [84]), (10, [8, 7, 5], []), (9, [7, 1], [83]), (7, [5, 6], [2]), (9, [6, 1], [80]), (20, [2, 1], [50, 1, 0, 1079, 1, 2, 1, 0, 4, 3, 2, 1, 79, 0, 2]), (20, [3, 1], [50, 1, 0, 1079, 1, 2, 1, 0, 2, 1, 79]), (20, [4, 1], [50, 1, 0, 1079, 1, 2, 1, 0, 4, 3, 2, 1, 79, 0, 1]), (20, [1, 5], [60, 3, 10, 413, 79, 80, 81, 90, 93, 82, 83, 84, 85, 86, 87, 88, 89]), (20, [5, 1], [50, 1, 0, 1080, 0, 2, 1, 0, 2, 1, 80]), (24, [0, 1], [])], [(21, (0, -14400, 14400, []))], [], [], [], [(21, 18, -72, 0), (14, 15, -4294967296, -1), (5, 6, -4294967296, -1), (2, 3, -4294967296, 2), (2, 4, -4294967296, 1), (3, 2, -4294967296, -2), (3, 4, -4294967296, -1), (4, 2, -4294967296, -1), (4, 3, -4294967296, 1)])
theorem oo_Mo_up_15 {kA : Nat → ClassId} : or_ok PRD kA GG o_Mo_up_15 := by
  refine or_mk fun A ta ws vs hD hth hl => ?_
  intro t0 r0 t1 r1 t2 k2 t3 k3 t4 k4 t5 k5 t6 k6 t7 r7 t8 k8 t9 r9 t10 k10 t11 r11 t12 k12 t13 r13 t14 k14 t15 k15 t17 r17 t18 k18 t19 r19 t20 k20 t21 k21 d0 d1 d2 d3 d4 d5 d6 d7 d8 f0 f1 f2 f3 f4 f5 f6 f7 f8 f9 f10 f11 f12 f13 f14 f15 f16 f17 f18 f19 f20 f21 f22 f23
  replace f1 := shm_106 f1
  replace f2 := shm_553 f2
  replace f3 := shm_106 f3
  replace f4 := shm_1131 f4
  replace f14 := shm_106 f14
  replace f15 := shm_548 f15
  replace f17 := shm_547 f17
  replace f21 := shm_1129 f21
  replace f23 := shm_5 f23
  have q1 : n_v vs 1 = n_v vs 0 := f23.symm
  simp only [q1] at f2 f4 f15 f17 f21
  have ad_19 : v_ad (n_v vs 19) = w_ar ws (n_v vs 0) 85 := congrArg v_ad f2
  have ad_17 : v_ad (n_v vs 17) = w_ar ws (n_v vs 0) 93 := congrArg v_ad f4
  have ad_7 : v_ad (n_v vs 7) = w_ar ws (n_v vs 0) 83 := congrArg v_ad f15
  simp only [ad_19] at f1
  have h1 : v_iv (n_v vs 20) = w_ei ws (w_ar ws (n_v vs 0) 85) (v_iv (n_v vs 5)) := f1
  simp only [ad_17] at f3
  have h3 : v_iv (n_v vs 18) = w_ei ws (w_ar ws (n_v vs 0) 93) (v_iv (n_v vs 8)) := f3
  simp only [ad_7] at f14
  have h14 : v_iv (n_v vs 8) = w_ei ws (w_ar ws (n_v vs 0) 83) (v_iv (n_v vs 5)) := f14
  have g17 : v_iv (n_v vs 6) = w_fi ws (n_v vs 0) 80 := congrArg v_iv f17
  have kz_0_79 := fdq_146 hD hth r0
  have kz_0_80 := fdq_130 hD hth r0
  have kz_0_81 := fdq_123 hD hth r0
  have hrf0 : (-14400) ≤ v_iv (n_v vs 21) ∧ v_iv (n_v vs 21) ≤ 14400 := vc_Mo_up_15_r0 (v_iv (n_v vs 5)) (v_iv (n_v vs 6)) (v_iv (n_v vs 8)) (v_iv (n_v vs 18)) (v_iv (n_v vs 20)) (v_iv (n_v vs 21)) (w_ei ws (w_ar ws (n_v vs 0) 85)) (w_ei ws (w_ar ws (n_v vs 0) 93)) (w_ei ws (w_ar ws (n_v vs 0) 82)) (w_ei ws (w_ar ws (n_v vs 0) 86)) (w_ei ws (w_ar ws (n_v vs 0) 84)) (w_ei ws (w_ar ws (n_v vs 0) 83)) (w_fi ws (n_v vs 0) 80) (w_fi ws (n_v vs 0) 79) (w_ei ws (w_ar ws (n_v vs 0) 90)) (w_ei ws (w_ar ws (n_v vs 0) 87)) (w_ei ws (w_ar ws (n_v vs 0) 88)) (w_ei ws (w_ar ws (n_v vs 0) 89)) (w_fi ws (n_v vs 0) 81) k5 k6 k8 k18 k20 k21 d0 d2 (shm_14 f0) h1 h3 h14 g17 f21 kz_0_79 kz_0_80 kz_0_81
  have rf21 : tv_ok ta (0, -14400, 14400, []) (n_v vs 21) := tv_in t21 (by first | omega | grind) (by first | omega | grind)
  refine ⟨List.forall_mem_cons.mpr ⟨rf21, (fun _ h => (by cases h))⟩, [], trivial, ?_, (fun _ h => (by cases h))⟩
  rw [List.append_nil]
  exact (fun _ h => (by cases h))
set_option maxHeartbeats 4000000 in
theorem vc_Mo_up_16_r0 (x5 : Int) (x6 : Int) (x8 : Int) (x10 : Int) (x15 : Int) (x18 : Int) (x20 : Int) (x21 : Int) (x22 : Int) (x23 : Int) (x24 : Int) (costW_0 : Int → Int) (goes_0 : Int → Int) (pointMany_0 : Int) (costMany_0 : Int) (costW_1 : Int → Int) (goes_1 : Int → Int) (spot_1 : Int → Int) (costPlain_1 : Int → Int) (costB_1 : Int → Int) (costA_1 : Int → Int) (costMany_1 : Int) (pointMany_1 : Int) (flow_1 : Int → Int) (apartA_1 : Int → Int) (apartB_1 : Int → Int) (apart_1 : Int → Int) (apartMany_1 : Int) (apartMany_0 : Int) (spot_0 : Int → Int) (costA_0 : Int → Int) (costB_0 : Int → Int) (costPlain_0 : Int → Int) (apartA_0 : Int → Int) (apartB_0 : Int → Int) (apart_0 : Int → Int) (flow_0 : Int → Int) (k5 : 0 ≤ x5 ∧ x5 ≤ 199) (k6 : 1 ≤ x6 ∧ x6 ≤ 200) (k8 : 0 ≤ x8 ∧ x8 ≤ 75) (k10 : 0 ≤ x10 ∧ x10 ≤ 75) (k18 : (-14400) ≤ x18 ∧ x18 ≤ 14400) (k20 : 0 ≤ x20 ∧ x20 ≤ 72) (k21 : (-14400) ≤ x21 ∧ x21 ≤ 14400) (k22 : (-14400) ≤ x22 ∧ x22 ≤ 14400) (k23 : 0 ≤ x23 ∧ x23 ≤ 72) (k24 : (-14400) ≤ x24 ∧ x24 ≤ 14472) (d4 : x6 + (-4294967296) ≤ x5 ∧ x5 ≤ x6 + (-1)) (f0 : x24 = x22 + x23) (h1 : x23 = costW_0 (x5)) (h3 : x22 = goes_0 (x10)) (f11 : x21 = x18 - x20) (h12 : x20 = costW_1 (x5)) (h13 : x18 = goes_1 (x8)) (h21 : x10 = costB_1 (x5)) (h23 : x8 = costA_1 (x5)) (g26 : x6 = costMany_1) (f30 : UPC (pointMany_1) (costMany_1) (apartMany_1) (flow_1) (goes_1) (spot_1) (costA_1) (costB_1) (costW_1) (costPlain_1) (apartA_1) (apartB_1) (apart_1) (x5)) (fe_0_79_1 : pointMany_0 = pointMany_1) (fe_0_80_1 : costMany_0 = costMany_1) (fe_0_81_1 : apartMany_0 = apartMany_1) (hE_0_82_1 : ∀ j : Int, spot_0 j = spot_1 j) (hE_0_83_1 : ∀ j : Int, costA_0 j = costA_1 j) (hE_0_84_1 : ∀ j : Int, costB_0 j = costB_1 j) (hE_0_85_1 : ∀ j : Int, costW_0 j = costW_1 j) (hE_0_86_1 : ∀ j : Int, costPlain_0 j = costPlain_1 j) (hE_0_87_1 : ∀ j : Int, apartA_0 j = apartA_1 j) (hE_0_88_1 : ∀ j : Int, apartB_0 j = apartB_1 j) (hE_0_89_1 : ∀ j : Int, apart_0 j = apart_1 j) (hE_0_90_1 : ∀ j : Int, flow_0 j = flow_1 j) (hE_0_93_1 : ∀ j : Int, 0 ≤ j → (j = x8 → goes_0 j = x21) ∧ (j ≠ x8 → goes_0 j = goes_1 j)) (kz_0_79 : 0 ≤ pointMany_0 ∧ pointMany_0 ≤ 76) (kz_0_80 : 0 ≤ costMany_0 ∧ costMany_0 ≤ 200) (kz_0_81 : 0 ≤ apartMany_0 ∧ apartMany_0 ≤ 200) : (-14400) ≤ x24 ∧ x24 ≤ 14400 := by
  subst fe_0_79_1
  subst fe_0_80_1
  subst fe_0_81_1
  have e_hE_0_82_1 := funext hE_0_82_1; subst e_hE_0_82_1
  have e_hE_0_83_1 := funext hE_0_83_1; subst e_hE_0_83_1
  have e_hE_0_84_1 := funext hE_0_84_1; subst e_hE_0_84_1
  have e_hE_0_85_1 := funext hE_0_85_1; subst e_hE_0_85_1
  have e_hE_0_86_1 := funext hE_0_86_1; subst e_hE_0_86_1
  have e_hE_0_87_1 := funext hE_0_87_1; subst e_hE_0_87_1
  have e_hE_0_88_1 := funext hE_0_88_1; subst e_hE_0_88_1
  have e_hE_0_89_1 := funext hE_0_89_1; subst e_hE_0_89_1
  have e_hE_0_90_1 := funext hE_0_90_1; subst e_hE_0_90_1
  first
    | (have h := upc_v2 (a := x8) (b := x10) (w := x17) (w2 := x20) (o := x15) (o2 := x19) (v1 := x18) 1 ‹UPC _ _ _ _ _ _ _ _ _ _ _ _ _ _› (by omega) (by omega) (by assumption) (by assumption) (by assumption) (by assumption) (by assumption) (Or.inl rfl) (by omega) (by assumption) (by assumption); omega)
    | (have h := upc_v2 (a := x8) (b := x10) (w := x20) (w2 := x23) (o := x18) (o2 := x22) (v1 := x21) 1 ‹UPC _ _ _ _ _ _ _ _ _ _ _ _ _ _› (by omega) (by omega) (by assumption) (by assumption) (by assumption) (by assumption) (by assumption) (Or.inl rfl) (by omega) (by assumption) (by assumption); omega)
def o_Mo_up_16 : or_T := (172, 25, [(0, (2, 0, 0, [165])), (1, (2, 0, 0, [165])), (2, (0, 2, 78, [])), (3, (0, 0, 76, [])), (4, (0, 1, 77, [])), (5, (0, 0, 199, [])), (6, (0, 1, 200, [])), (7, (2, 0, 0, [220])), (8, (0, 0, 75, [])), (9, (2, 0, 0, [221])), (10, (0, 0, 75, [])), (11, (2, 0, 0, [223])), (12, (0, 0, 0, [])), (13, (2, 0, 0, [219])), (14, (0, 0, 221099999, [])), (15, (0, 1, 221100000, [])), (17, (2, 0, 0, [230])), (18, (0, -14400, 14400, [])), (19, (2, 0, 0, [222])), (20, (0, 0, 72, [])), (21, (0, -14400, 14400, [])), (22, (0, -14400, 14400, [])), (23, (0, 0, 72, [])), (24, (0, -14400, 14472, []))], [(1, [24, 22, 23], []), (10, [23, 19, 5], []), (9, [19, 1], [85]), (10, [22, 17, 10], []), (9, [17, 1], [93]), (20, [2, 1], [50, 1, 0, 1079, 1, 2, 1, 0, 4, 3, 2, 1, 79, 0, 2]), (20, [3, 1], [50, 1, 0, 1079, 1, 2, 1, 0, 2, 1, 79]), (20, [4, 1], [50, 1, 0, 1079, 1, 2, 1, 0, 4, 3, 2, 1, 79, 0, 1]), (20, [5, 1], [50, 1, 0, 1080, 0, 2, 1, 0, 2, 1, 80]), (24, [0, 1], []), (100, [17, 8, 21], []), (2, [21, 18, 20], []), (10, [20, 19, 5], []), (10, [18, 17, 8], []), (7, [14, 15], [2]), (10, [15, 13, 10], []), (9, [13, 1], [82]), (10, [14, 13, 8], []), (8, [12], [0]), (10, [12, 11, 5], []), (9, [11, 1], [86]), (10, [10, 9, 5], []), (9, [9, 1], [84]), (10, [8, 7, 5], []), (9, [7, 1], [83]), (7, [5, 6], [2]), (9, [6, 1], [80]), (20, [2, 1], [50, 1, 0, 1079, 1, 2, 1, 0, 4, 3, 2, 1, 79, 0, 2]), (20, [3, 1], [50, 1, 0, 1079, 1, 2, 1, 0, 2, 1, 79]), (20, [4, 1], [50, 1, 0, 1079, 1, 2, 1, 0, 4, 3, 2, 1, 79, 0, 1]), (20, [1, 5], [60, 3, 10, 413, 79, 80, 81, 90, 93, 82, 83, 84, 85, 86, 87, 88, 89]), (20, [5, 1], [50, 1, 0, 1080, 0, 2, 1, 0, 2, 1, 80])], [(24, (0, -14400, 14400, []))], [], [], [], [(24, 23, -14400, 14400), (24, 22, 0, 72), (21, 18, -72, 0), (14, 15, -4294967296, -1), (5, 6, -4294967296, -1), (2, 3, -4294967296, 2), (2, 4, -4294967296, 1), (3, 2, -4294967296, -2), (3, 4, -4294967296, -1), (4, 2, -4294967296, -1), (4, 3, -4294967296, 1)])
theorem oo_Mo_up_16 {kA : Nat → ClassId} : or_ok PRD kA GG o_Mo_up_16 := by
  refine or_mk fun A ta ws vs hD hth hl => ?_
  intro t0 r0 t1 r1 t2 k2 t3 k3 t4 k4 t5 k5 t6 k6 t7 r7 t8 k8 t9 r9 t10 k10 t11 r11 t12 k12 t13 r13 t14 k14 t15 k15 t17 r17 t18 k18 t19 r19 t20 k20 t21 k21 t22 k22 t23 k23 t24 k24 d0 d1 d2 d3 d4 d5 d6 d7 d8 d9 d10 f0 f1 f2 f3 f4 f5 f6 f7 f8 f9 ta1 w1 le1 s1 f11 f12 f13 f14 f15 f16 f17 f18 f19 f20 f21 f22 f23 f24 f25 f26 f27 f28 f29 f30 f31
  replace f1 := shm_106 f1
  replace f2 := shm_553 f2
  replace f3 := shm_106 f3
  replace f4 := shm_1131 f4
  replace f9 := shm_5 f9
  have s1 : (∀ b j, w_el ws b j = if b = v_ad (n_v vs 17) ∧ j = (v_iv (n_v vs 8)).toNat then v_iv (n_v vs 21) else w_el w1 b j) ∧ ∀ b k, w_fd ws b k = w_fd w1 b k := s1.2
  replace f12 := shm_106 f12
  replace f13 := shm_106 f13
  replace f21 := shm_106 f21
  replace f22 := shm_554 f22
  replace f23 := shm_106 f23
  replace f24 := shm_548 f24
  replace f26 := shm_547 f26
  replace f30 := shm_1129 f30
  have q1 : n_v vs 1 = n_v vs 0 := f9.symm
  simp only [q1] at f2 f4 f22 f24 f26 f30
  have ar_0_82_1 : w_ar w1 (n_v vs 0) 82 = w_ar ws (n_v vs 0) 82 := congrArg v_ad (s1.2 _ _).symm
  have cr_0_82 := fdq_225 hD hth r0
  have ar_0_83_1 : w_ar w1 (n_v vs 0) 83 = w_ar ws (n_v vs 0) 83 := congrArg v_ad (s1.2 _ _).symm
  have cr_0_83 := fdq_125 hD hth r0
  have ar_0_84_1 : w_ar w1 (n_v vs 0) 84 = w_ar ws (n_v vs 0) 84 := congrArg v_ad (s1.2 _ _).symm
  have cr_0_84 := fdq_126 hD hth r0
  have ar_0_85_1 : w_ar w1 (n_v vs 0) 85 = w_ar ws (n_v vs 0) 85 := congrArg v_ad (s1.2 _ _).symm
  have cr_0_85 := fdq_127 hD hth r0
  have ar_0_86_1 : w_ar w1 (n_v vs 0) 86 = w_ar ws (n_v vs 0) 86 := congrArg v_ad (s1.2 _ _).symm
  have cr_0_86 := fdq_128 hD hth r0
  have ar_0_87_1 : w_ar w1 (n_v vs 0) 87 = w_ar ws (n_v vs 0) 87 := congrArg v_ad (s1.2 _ _).symm
  have cr_0_87 := fdq_118 hD hth r0
  have ar_0_88_1 : w_ar w1 (n_v vs 0) 88 = w_ar ws (n_v vs 0) 88 := congrArg v_ad (s1.2 _ _).symm
  have cr_0_88 := fdq_119 hD hth r0
  have ar_0_89_1 : w_ar w1 (n_v vs 0) 89 = w_ar ws (n_v vs 0) 89 := congrArg v_ad (s1.2 _ _).symm
  have cr_0_89 := fdq_120 hD hth r0
  have ar_0_90_1 : w_ar w1 (n_v vs 0) 90 = w_ar ws (n_v vs 0) 90 := congrArg v_ad (s1.2 _ _).symm
  have cr_0_90 := fdq_226 hD hth r0
  have ar_0_93_1 : w_ar w1 (n_v vs 0) 93 = w_ar ws (n_v vs 0) 93 := congrArg v_ad (s1.2 _ _).symm
  have ad_19 : v_ad (n_v vs 19) = w_ar ws (n_v vs 0) 85 := congrArg v_ad f2
  have ad_17 : v_ad (n_v vs 17) = w_ar ws (n_v vs 0) 93 := congrArg v_ad f4
  have ad_9 : v_ad (n_v vs 9) = w_ar ws (n_v vs 0) 84 := (congrArg v_ad f22).trans ar_0_84_1
  have ad_7 : v_ad (n_v vs 7) = w_ar ws (n_v vs 0) 83 := (congrArg v_ad f24).trans ar_0_83_1
  simp only [ad_19] at f1
  have h1 : v_iv (n_v vs 23) = w_ei ws (w_ar ws (n_v vs 0) 85) (v_iv (n_v vs 5)) := f1
  simp only [ad_17] at f3
  have h3 : v_iv (n_v vs 22) = w_ei ws (w_ar ws (n_v vs 0) 93) (v_iv (n_v vs 10)) := f3
  simp only [ad_19] at f12
  have h12 : v_iv (n_v vs 20) = w_ei w1 (w_ar ws (n_v vs 0) 85) (v_iv (n_v vs 5)) := f12
  simp only [ad_17] at f13
  have h13 : v_iv (n_v vs 18) = w_ei w1 (w_ar ws (n_v vs 0) 93) (v_iv (n_v vs 8)) := f13
  simp only [ad_9] at f21
  have h21 : v_iv (n_v vs 10) = w_ei w1 (w_ar ws (n_v vs 0) 84) (v_iv (n_v vs 5)) := f21
  simp only [ad_7] at f23
  have h23 : v_iv (n_v vs 8) = w_ei w1 (w_ar ws (n_v vs 0) 83) (v_iv (n_v vs 5)) := f23
  have g26 : v_iv (n_v vs 6) = w_fi w1 (n_v vs 0) 80 := congrArg v_iv f26
  simp only [ar_0_82_1, ar_0_83_1, ar_0_84_1, ar_0_85_1, ar_0_86_1, ar_0_87_1, ar_0_88_1, ar_0_89_1, ar_0_90_1, ar_0_93_1] at f30
  have fe_0_79_1 : w_fi ws (n_v vs 0) 79 = w_fi w1 (n_v vs 0) 79 := congrArg v_iv (s1.2 _ _)
  have fe_0_80_1 : w_fi ws (n_v vs 0) 80 = w_fi w1 (n_v vs 0) 80 := congrArg v_iv (s1.2 _ _)
  have fe_0_81_1 : w_fi ws (n_v vs 0) 81 = w_fi w1 (n_v vs 0) 81 := congrArg v_iv (s1.2 _ _)
  have hE_0_82_1 : ∀ j : Int, w_ei ws (w_ar ws (n_v vs 0) 82) j = w_ei w1 (w_ar ws (n_v vs 0) 82) j := el_kp s1.1 r17 cr_0_82 (by decide)
  have hE_0_83_1 : ∀ j : Int, w_ei ws (w_ar ws (n_v vs 0) 83) j = w_ei w1 (w_ar ws (n_v vs 0) 83) j := el_kp s1.1 r17 cr_0_83 (by decide)
  have hE_0_84_1 : ∀ j : Int, w_ei ws (w_ar ws (n_v vs 0) 84) j = w_ei w1 (w_ar ws (n_v vs 0) 84) j := el_kp s1.1 r17 cr_0_84 (by decide)
  have hE_0_85_1 : ∀ j : Int, w_ei ws (w_ar ws (n_v vs 0) 85) j = w_ei w1 (w_ar ws (n_v vs 0) 85) j := el_kp s1.1 r17 cr_0_85 (by decide)
  have hE_0_86_1 : ∀ j : Int, w_ei ws (w_ar ws (n_v vs 0) 86) j = w_ei w1 (w_ar ws (n_v vs 0) 86) j := el_kp s1.1 r17 cr_0_86 (by decide)
  have hE_0_87_1 : ∀ j : Int, w_ei ws (w_ar ws (n_v vs 0) 87) j = w_ei w1 (w_ar ws (n_v vs 0) 87) j := el_kp s1.1 r17 cr_0_87 (by decide)
  have hE_0_88_1 : ∀ j : Int, w_ei ws (w_ar ws (n_v vs 0) 88) j = w_ei w1 (w_ar ws (n_v vs 0) 88) j := el_kp s1.1 r17 cr_0_88 (by decide)
  have hE_0_89_1 : ∀ j : Int, w_ei ws (w_ar ws (n_v vs 0) 89) j = w_ei w1 (w_ar ws (n_v vs 0) 89) j := el_kp s1.1 r17 cr_0_89 (by decide)
  have hE_0_90_1 : ∀ j : Int, w_ei ws (w_ar ws (n_v vs 0) 90) j = w_ei w1 (w_ar ws (n_v vs 0) 90) j := el_kp s1.1 r17 cr_0_90 (by decide)
  have hE_0_93_1 : ∀ j : Int, 0 ≤ j → (j = v_iv (n_v vs 8) → w_ei ws (w_ar ws (n_v vs 0) 93) j = v_iv (n_v vs 21)) ∧ (j ≠ v_iv (n_v vs 8) → w_ei ws (w_ar ws (n_v vs 0) 93) j = w_ei w1 (w_ar ws (n_v vs 0) 93) j) := fun j hj => ⟨fun h => by unfold w_ei; rw [s1.1, if_pos ⟨ad_17.symm, by rw [h]⟩], fun h => by unfold w_ei; rw [s1.1, if_neg (fun e => h (by have := e.2; omega))]⟩
  have kz_0_79 := fdq_146 hD hth r0
  have kz_0_80 := fdq_130 hD hth r0
  have kz_0_81 := fdq_123 hD hth r0
  have hrf0 : (-14400) ≤ v_iv (n_v vs 24) ∧ v_iv (n_v vs 24) ≤ 14400 := vc_Mo_up_16_r0 (v_iv (n_v vs 5)) (v_iv (n_v vs 6)) (v_iv (n_v vs 8)) (v_iv (n_v vs 10)) (v_iv (n_v vs 15)) (v_iv (n_v vs 18)) (v_iv (n_v vs 20)) (v_iv (n_v vs 21)) (v_iv (n_v vs 22)) (v_iv (n_v vs 23)) (v_iv (n_v vs 24)) (w_ei ws (w_ar ws (n_v vs 0) 85)) (w_ei ws (w_ar ws (n_v vs 0) 93)) (w_fi ws (n_v vs 0) 79) (w_fi ws (n_v vs 0) 80) (w_ei w1 (w_ar ws (n_v vs 0) 85)) (w_ei w1 (w_ar ws (n_v vs 0) 93)) (w_ei w1 (w_ar ws (n_v vs 0) 82)) (w_ei w1 (w_ar ws (n_v vs 0) 86)) (w_ei w1 (w_ar ws (n_v vs 0) 84)) (w_ei w1 (w_ar ws (n_v vs 0) 83)) (w_fi w1 (n_v vs 0) 80) (w_fi w1 (n_v vs 0) 79) (w_ei w1 (w_ar ws (n_v vs 0) 90)) (w_ei w1 (w_ar ws (n_v vs 0) 87)) (w_ei w1 (w_ar ws (n_v vs 0) 88)) (w_ei w1 (w_ar ws (n_v vs 0) 89)) (w_fi w1 (n_v vs 0) 81) (w_fi ws (n_v vs 0) 81) (w_ei ws (w_ar ws (n_v vs 0) 82)) (w_ei ws (w_ar ws (n_v vs 0) 83)) (w_ei ws (w_ar ws (n_v vs 0) 84)) (w_ei ws (w_ar ws (n_v vs 0) 86)) (w_ei ws (w_ar ws (n_v vs 0) 87)) (w_ei ws (w_ar ws (n_v vs 0) 88)) (w_ei ws (w_ar ws (n_v vs 0) 89)) (w_ei ws (w_ar ws (n_v vs 0) 90)) k5 k6 k8 k10 k18 k20 k21 k22 k23 k24 d4 (shm_12 f0) h1 h3 (shm_14 f11) h12 h13 h21 h23 g26 f30 fe_0_79_1 fe_0_80_1 fe_0_81_1 hE_0_82_1 hE_0_83_1 hE_0_84_1 hE_0_85_1 hE_0_86_1 hE_0_87_1 hE_0_88_1 hE_0_89_1 hE_0_90_1 hE_0_93_1 kz_0_79 kz_0_80 kz_0_81
  have rf24 : tv_ok ta (0, -14400, 14400, []) (n_v vs 24) := tv_in t24 (by first | omega | grind) (by first | omega | grind)
  refine ⟨List.forall_mem_cons.mpr ⟨rf24, (fun _ h => (by cases h))⟩, [], trivial, ?_, (fun _ h => (by cases h))⟩
  rw [List.append_nil]
  exact (fun _ h => (by cases h))

set_option maxHeartbeats 4000000 in
theorem vc_Mo_up_17_0 (x5 : Int) (x6 : Int) (x8 : Int) (x10 : Int) (x12 : Int) (x14 : Int) (x15 : Int) (x18 : Int) (x20 : Int) (x21 : Int) (x22 : Int) (x23 : Int) (x24 : Int) (x25 : Int) (pointMany_0 : Int) (costMany_0 : Int) (costW_1 : Int → Int) (goes_1 : Int → Int) (pointMany_1 : Int) (costMany_1 : Int) (costW_2 : Int → Int) (goes_2 : Int → Int) (spot_2 : Int → Int) (costPlain_2 : Int → Int) (costB_2 : Int → Int) (costA_2 : Int → Int) (costMany_2 : Int) (pointMany_2 : Int) (flow_2 : Int → Int) (apartA_2 : Int → Int) (apartB_2 : Int → Int) (apart_2 : Int → Int) (apartMany_2 : Int) (apartMany_0 : Int) (apartMany_1 : Int) (spot_0 : Int → Int) (spot_1 : Int → Int) (costA_0 : Int → Int) (costA_1 : Int → Int) (costB_0 : Int → Int) (costB_1 : Int → Int) (costW_0 : Int → Int) (costPlain_0 : Int → Int) (costPlain_1 : Int → Int) (apartA_0 : Int → Int) (apartA_1 : Int → Int) (apartB_0 : Int → Int) (apartB_1 : Int → Int) (apart_0 : Int → Int) (apart_1 : Int → Int) (flow_0 : Int → Int) (flow_1 : Int → Int) (goes_0 : Int → Int) (k5 : 0 ≤ x5 ∧ x5 ≤ 199) (k6 : 1 ≤ x6 ∧ x6 ≤ 200) (k8 : 0 ≤ x8 ∧ x8 ≤ 75) (k10 : 0 ≤ x10 ∧ x10 ≤ 75) (k14 : 0 ≤ x14 ∧ x14 ≤ 221099999) (k15 : 1 ≤ x15 ∧ x15 ≤ 221100000) (k18 : (-14400) ≤ x18 ∧ x18 ≤ 14400) (k20 : 0 ≤ x20 ∧ x20 ≤ 72) (k21 : (-14400) ≤ x21 ∧ x21 ≤ 14400) (k22 : (-14400) ≤ x22 ∧ x22 ≤ 14400) (k23 : 0 ≤ x23 ∧ x23 ≤ 72) (k24 : (-14400) ≤ x24 ∧ x24 ≤ 14400) (k25 : 1 ≤ x25 ∧ x25 ≤ 200) (d0 : x5 + 1 ≤ x25 ∧ x25 ≤ x5 + 1) (d1 : x6 + (-4294967296) ≤ x25 ∧ x25 ≤ x6 + 0) (d6 : x6 + (-4294967296) ≤ x5 ∧ x5 ≤ x6 + (-1)) (f0 : x25 = x5 + 1) (f7 : x24 = x22 + x23) (h8 : x23 = costW_1 (x5)) (h10 : x22 = goes_1 (x10)) (f17 : x21 = x18 - x20) (h18 : x20 = costW_2 (x5)) (h19 : x18 = goes_2 (x8)) (f20 : x14 < x15) (h21 : x15 = spot_2 (x10)) (h23 : x14 = spot_2 (x8)) (h27 : x10 = costB_2 (x5)) (h29 : x8 = costA_2 (x5)) (g32 : x6 = costMany_2) (f36 : UPC (pointMany_2) (costMany_2) (apartMany_2) (flow_2) (goes_2) (spot_2) (costA_2) (costB_2) (costW_2) (costPlain_2) (apartA_2) (apartB_2) (apart_2) (x5)) (fe_0_79_1 : pointMany_0 = pointMany_1) (fe_0_80_1 : costMany_0 = costMany_1) (fe_0_81_1 : apartMany_0 = apartMany_1) (fe_0_79_2 : pointMany_1 = pointMany_2) (fe_0_80_2 : costMany_1 = costMany_2) (fe_0_81_2 : apartMany_1 = apartMany_2) (hE_0_82_1 : ∀ j : Int, spot_0 j = spot_1 j) (hE_0_82_2 : ∀ j : Int, spot_1 j = spot_2 j) (hE_0_83_1 : ∀ j : Int, costA_0 j = costA_1 j) (hE_0_83_2 : ∀ j : Int, costA_1 j = costA_2 j) (hE_0_84_1 : ∀ j : Int, costB_0 j = costB_1 j) (hE_0_84_2 : ∀ j : Int, costB_1 j = costB_2 j) (hE_0_85_1 : ∀ j : Int, costW_0 j = costW_1 j) (hE_0_85_2 : ∀ j : Int, costW_1 j = costW_2 j) (hE_0_86_1 : ∀ j : Int, costPlain_0 j = costPlain_1 j) (hE_0_86_2 : ∀ j : Int, costPlain_1 j = costPlain_2 j) (hE_0_87_1 : ∀ j : Int, apartA_0 j = apartA_1 j) (hE_0_87_2 : ∀ j : Int, apartA_1 j = apartA_2 j) (hE_0_88_1 : ∀ j : Int, apartB_0 j = apartB_1 j) (hE_0_88_2 : ∀ j : Int, apartB_1 j = apartB_2 j) (hE_0_89_1 : ∀ j : Int, apart_0 j = apart_1 j) (hE_0_89_2 : ∀ j : Int, apart_1 j = apart_2 j) (hE_0_90_1 : ∀ j : Int, flow_0 j = flow_1 j) (hE_0_90_2 : ∀ j : Int, flow_1 j = flow_2 j) (hE_0_93_1 : ∀ j : Int, 0 ≤ j → (j = x10 → goes_0 j = x24) ∧ (j ≠ x10 → goes_0 j = goes_1 j)) (hE_0_93_2 : ∀ j : Int, 0 ≤ j → (j = x8 → goes_1 j = x21) ∧ (j ≠ x8 → goes_1 j = goes_2 j)) (kz_0_79 : 0 ≤ pointMany_0 ∧ pointMany_0 ≤ 76) (kz_0_80 : 0 ≤ costMany_0 ∧ costMany_0 ≤ 200) (kz_0_81 : 0 ≤ apartMany_0 ∧ apartMany_0 ≤ 200) : UPC (pointMany_0) (costMany_0) (apartMany_0) (flow_0) (goes_0) (spot_0) (costA_0) (costB_0) (costW_0) (costPlain_0) (apartA_0) (apartB_0) (apart_0) (x25) := by
  subst fe_0_79_1
  subst fe_0_80_1
  subst fe_0_81_1
  subst fe_0_79_2
  subst fe_0_80_2
  subst fe_0_81_2
  have e_hE_0_82_1 := funext hE_0_82_1; subst e_hE_0_82_1
  have e_hE_0_82_2 := funext hE_0_82_2; subst e_hE_0_82_2
  have e_hE_0_83_1 := funext hE_0_83_1; subst e_hE_0_83_1
  have e_hE_0_83_2 := funext hE_0_83_2; subst e_hE_0_83_2
  have e_hE_0_84_1 := funext hE_0_84_1; subst e_hE_0_84_1
  have e_hE_0_84_2 := funext hE_0_84_2; subst e_hE_0_84_2
  have e_hE_0_85_1 := funext hE_0_85_1; subst e_hE_0_85_1
  have e_hE_0_85_2 := funext hE_0_85_2; subst e_hE_0_85_2
  have e_hE_0_86_1 := funext hE_0_86_1; subst e_hE_0_86_1
  have e_hE_0_86_2 := funext hE_0_86_2; subst e_hE_0_86_2
  have e_hE_0_87_1 := funext hE_0_87_1; subst e_hE_0_87_1
  have e_hE_0_87_2 := funext hE_0_87_2; subst e_hE_0_87_2
  have e_hE_0_88_1 := funext hE_0_88_1; subst e_hE_0_88_1
  have e_hE_0_88_2 := funext hE_0_88_2; subst e_hE_0_88_2
  have e_hE_0_89_1 := funext hE_0_89_1; subst e_hE_0_89_1
  have e_hE_0_89_2 := funext hE_0_89_2; subst e_hE_0_89_2
  have e_hE_0_90_1 := funext hE_0_90_1; subst e_hE_0_90_1
  have e_hE_0_90_2 := funext hE_0_90_2; subst e_hE_0_90_2
  first
    | exact upc_start ‹PBK _ _ _ _ _ _ _ _ _ _› ‹UZN _ _› (Int.le_refl _) ‹UZG _ _›.1 (by omega) (by omega)
    | exact upc_goP1 (a := x8) (b := x10) (w := x17) (w2 := x20) (pl := x12) (o1 := x15) (o2 := x19) ‹UPC _ _ _ _ _ _ _ _ _ _ _ _ _ _› (by omega) (by omega) (by assumption) (by assumption) (by assumption) (by assumption) (by assumption) (by assumption) (by omega) (by assumption) (by assumption) (by assumption) (by assumption) (by assumption) (by assumption)
    | exact upc_goP2 (a := x8) (b := x10) (w := x20) (w2 := x23) (ya := x14) (yb := x15) (o1 := x18) (o2 := x22) ‹UPC _ _ _ _ _ _ _ _ _ _ _ _ _ _› (by omega) (by omega) (by assumption) (by assumption) (by assumption) (by assumption) (by assumption) (by assumption) (by assumption) (by omega) (by assumption) (by assumption) (by assumption) (by assumption) (by assumption) (by assumption)
    | exact upc_goM2 (a := x8) (b := x10) (w := x22) (w2 := x25) (pl := x12) (ya := x17) (yb := x18) (o1 := x20) (o2 := x24) ‹UPC _ _ _ _ _ _ _ _ _ _ _ _ _ _› (by omega) (by omega) (by assumption) (by assumption) (by assumption) (by assumption) (by assumption) (by assumption) (by omega) (by assumption) (by assumption) (by omega) (by assumption) (by assumption) (by assumption) (by assumption) (by assumption) (by assumption)
    | exact upc_tie3 (a := x8) (b := x10) (w := x24) (w2 := x29) (pl := x12) (ya := x14) (yb := x15) (ya2 := x17) (yb2 := x18) (q1 := x21) (q2 := x27) (r1 := x20) (r2 := x26) (o1 := x22) (o2 := x28) ‹UPC _ _ _ _ _ _ _ _ _ _ _ _ _ _› (by omega) (by omega) (by assumption) (by omega) (by assumption) (by assumption) (by assumption) (by assumption) (by assumption) (by omega) (by assumption) (by assumption) (by omega) (by assumption) (by assumption) (by omega) (by assumption) (by assumption) (by assumption) (by assumption) (by assumption) (by assumption) (by assumption) (by assumption) (by assumption) (by assumption)
  
set_option maxHeartbeats 4000000 in
theorem vc_Mo_up_17_1 (x5 : Int) (x6 : Int) (x25 : Int) (pointMany_0 : Int) (costMany_0 : Int) (costW_1 : Int → Int) (pointMany_1 : Int) (costMany_1 : Int) (costW_2 : Int → Int) (spot_2 : Int → Int) (costPlain_2 : Int → Int) (costB_2 : Int → Int) (costA_2 : Int → Int) (costMany_2 : Int) (pointMany_2 : Int) (flow_2 : Int → Int) (apartA_2 : Int → Int) (apartB_2 : Int → Int) (apart_2 : Int → Int) (apartMany_2 : Int) (apartMany_0 : Int) (apartMany_1 : Int) (spot_0 : Int → Int) (spot_1 : Int → Int) (costA_0 : Int → Int) (costA_1 : Int → Int) (costB_0 : Int → Int) (costB_1 : Int → Int) (costW_0 : Int → Int) (costPlain_0 : Int → Int) (costPlain_1 : Int → Int) (apartA_0 : Int → Int) (apartA_1 : Int → Int) (apartB_0 : Int → Int) (apartB_1 : Int → Int) (apart_0 : Int → Int) (apart_1 : Int → Int) (flow_0 : Int → Int) (flow_1 : Int → Int) (k5 : 0 ≤ x5 ∧ x5 ≤ 199) (k6 : 1 ≤ x6 ∧ x6 ≤ 200) (k25 : 1 ≤ x25 ∧ x25 ≤ 200) (d0 : x5 + 1 ≤ x25 ∧ x25 ≤ x5 + 1) (d1 : x6 + (-4294967296) ≤ x25 ∧ x25 ≤ x6 + 0) (d6 : x6 + (-4294967296) ≤ x5 ∧ x5 ≤ x6 + (-1)) (g32 : x6 = costMany_2) (fe_0_79_1 : pointMany_0 = pointMany_1) (fe_0_80_1 : costMany_0 = costMany_1) (fe_0_81_1 : apartMany_0 = apartMany_1) (fe_0_79_2 : pointMany_1 = pointMany_2) (fe_0_80_2 : costMany_1 = costMany_2) (fe_0_81_2 : apartMany_1 = apartMany_2) (hE_0_82_1 : ∀ j : Int, spot_0 j = spot_1 j) (hE_0_82_2 : ∀ j : Int, spot_1 j = spot_2 j) (hE_0_83_1 : ∀ j : Int, costA_0 j = costA_1 j) (hE_0_83_2 : ∀ j : Int, costA_1 j = costA_2 j) (hE_0_84_1 : ∀ j : Int, costB_0 j = costB_1 j) (hE_0_84_2 : ∀ j : Int, costB_1 j = costB_2 j) (hE_0_85_1 : ∀ j : Int, costW_0 j = costW_1 j) (hE_0_85_2 : ∀ j : Int, costW_1 j = costW_2 j) (hE_0_86_1 : ∀ j : Int, costPlain_0 j = costPlain_1 j) (hE_0_86_2 : ∀ j : Int, costPlain_1 j = costPlain_2 j) (hE_0_87_1 : ∀ j : Int, apartA_0 j = apartA_1 j) (hE_0_87_2 : ∀ j : Int, apartA_1 j = apartA_2 j) (hE_0_88_1 : ∀ j : Int, apartB_0 j = apartB_1 j) (hE_0_88_2 : ∀ j : Int, apartB_1 j = apartB_2 j) (hE_0_89_1 : ∀ j : Int, apart_0 j = apart_1 j) (hE_0_89_2 : ∀ j : Int, apart_1 j = apart_2 j) (hE_0_90_1 : ∀ j : Int, flow_0 j = flow_1 j) (hE_0_90_2 : ∀ j : Int, flow_1 j = flow_2 j) (kz_0_79 : 0 ≤ pointMany_0 ∧ pointMany_0 ≤ 76) (kz_0_80 : 0 ≤ costMany_0 ∧ costMany_0 ≤ 200) (kz_0_81 : 0 ≤ apartMany_0 ∧ apartMany_0 ≤ 200) : x25 ≤ costMany_0 := by
  subst fe_0_79_1
  subst fe_0_80_1
  subst fe_0_81_1
  subst fe_0_79_2
  subst fe_0_80_2
  subst fe_0_81_2
  have e_hE_0_82_1 := funext hE_0_82_1; subst e_hE_0_82_1
  have e_hE_0_82_2 := funext hE_0_82_2; subst e_hE_0_82_2
  have e_hE_0_83_1 := funext hE_0_83_1; subst e_hE_0_83_1
  have e_hE_0_83_2 := funext hE_0_83_2; subst e_hE_0_83_2
  have e_hE_0_84_1 := funext hE_0_84_1; subst e_hE_0_84_1
  have e_hE_0_84_2 := funext hE_0_84_2; subst e_hE_0_84_2
  have e_hE_0_85_1 := funext hE_0_85_1; subst e_hE_0_85_1
  have e_hE_0_85_2 := funext hE_0_85_2; subst e_hE_0_85_2
  have e_hE_0_86_1 := funext hE_0_86_1; subst e_hE_0_86_1
  have e_hE_0_86_2 := funext hE_0_86_2; subst e_hE_0_86_2
  have e_hE_0_87_1 := funext hE_0_87_1; subst e_hE_0_87_1
  have e_hE_0_87_2 := funext hE_0_87_2; subst e_hE_0_87_2
  have e_hE_0_88_1 := funext hE_0_88_1; subst e_hE_0_88_1
  have e_hE_0_88_2 := funext hE_0_88_2; subst e_hE_0_88_2
  have e_hE_0_89_1 := funext hE_0_89_1; subst e_hE_0_89_1
  have e_hE_0_89_2 := funext hE_0_89_2; subst e_hE_0_89_2
  have e_hE_0_90_1 := funext hE_0_90_1; subst e_hE_0_90_1
  have e_hE_0_90_2 := funext hE_0_90_2; subst e_hE_0_90_2
  omega
